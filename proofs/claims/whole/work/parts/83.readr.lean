/-! the reference: no own word; words, numbers, the draft's words -/
/-- the reference's draft is K -/
def RD (c : Nat → Nat → Nat → Int32) (l : Nat → Nat → Int64) (K : Ct) : Prop :=
  (c 68 0 0 = iv (nW K) ∧ ∀ w, w < nW K → c 70 0 w = iv (knd K w) ∧ l 69 w = jv (e27 (spK K w))) ∧
  (c 68 0 1 = iv (nL K) ∧ ∀ i, i < nL K → ∀ k, k < 3 → c 72 0 (3 * i + k) = iv (slotE (lnK K i) k)) ∧
  (c 68 0 2 = iv (nF K) ∧ ∀ f, f < nF K → c 73 0 (3 * f) = iv (fcK K f).1 ∧ c 73 0 (3 * f + 1) = iv (fcK K f).2.1 ∧ c 73 0 (3 * f + 2) = iv (fcK K f).2.2) ∧
  (c 68 0 3 = iv (nB K) ∧ ∀ b, b < nB K → l 71 b = jv (e27 (bnK K b).1) ∧ c 74 0 (7 * b) = iv (bnK K b).2.1 ∧ c 74 0 (7 * b + 1) = iv (bnK K b).2.2.1 ∧ c 74 0 (7 * b + 2) = iv (sayK K b).length ∧ ∀ k, k < (sayK K b).length → c 74 0 (7 * b + 3 + k) = iv ((sayK K b).getD k 0 : Nat)) ∧
  (c 68 0 4 = iv (nC K) ∧ ∀ i, i < nC K → c 75 0 (9 * i) = iv (csK K i).length ∧ ∀ k, k < (csK K i).length → c 75 0 (9 * i + 1 + k) = iv ((csK K i).getD k 0 : Nat)) ∧
  (c 76 0 0 = iv (kAc K) ∧ c 76 0 1 = iv (kDe K))
section
variable {c : Nat → Nat → Nat → Int32} {l : Nat → Nat → Int64} {x y : Nat} {tp : Nat → Nat} {n : Nat} {z : Tz} {s : Ts} {K : Ct}
theorem e154o (h : RL c tp n s) {o : Nat} (ho : o < 17) (d : Nat) : E (d + 2) 154 [vr 48 0, vr (51 + o) 0] (c, l, x, y) = some (some (vi (iv (if lixT tp n 0 s = some o then 1 else 0))), c, l, x, y) := by
  have hm : ∀ o, o < 17 → ∃ W, (51 + o, W) ∈ chs ∧ (WL 0)[o]? = some W := by
    intro o ho
    rcases (show o = 0 ∨ o = 1 ∨ o = 2 ∨ o = 3 ∨ o = 4 ∨ o = 5 ∨ o = 6 ∨ o = 7 ∨ o = 8 ∨ o = 9 ∨ o = 10 ∨ o = 11 ∨ o = 12 ∨ o = 13 ∨ o = 14 ∨ o = 15 ∨ o = 16 by omega) with rfl | rfl | rfl | rfl | rfl | rfl | rfl | rfl | rfl | rfl | rfl | rfl | rfl | rfl | rfl | rfl | rfl
    · exact ⟨_, by decide, rfl⟩
    · exact ⟨_, by decide, rfl⟩
    · exact ⟨_, by decide, rfl⟩
    · exact ⟨_, by decide, rfl⟩
    · exact ⟨_, by decide, rfl⟩
    · exact ⟨_, by decide, rfl⟩
    · exact ⟨_, by decide, rfl⟩
    · exact ⟨_, by decide, rfl⟩
    · exact ⟨_, by decide, rfl⟩
    · exact ⟨_, by decide, rfl⟩
    · exact ⟨_, by decide, rfl⟩
    · exact ⟨_, by decide, rfl⟩
    · exact ⟨_, by decide, rfl⟩
    · exact ⟨_, by decide, rfl⟩
    · exact ⟨_, by decide, rfl⟩
    · exact ⟨_, by decide, rfl⟩
    · exact ⟨_, by decide, rfl⟩
  obtain ⟨W, h1, h2⟩ := hm o ho
  have h3 := e154s (l := l) (x := x) (y := y) h h1 d
  have h4 := her_lix (tp := tp) (n := n) (s := s) (t := 0) (by decide) h2
  rw [h3]
  cases hb : herB tp n s W with
  | true => rw [if_pos rfl, if_pos (h4.mp hb)]
  | false => rw [if_neg Bool.false_ne_true, if_neg (fun q => by rw [h4.mpr q] at hb; cases hb)]

theorem e160 (h : RL c tp n s) (d : Nat) : E (d + 3) 160 [vr 48 0] (c, l, x, y) = some (some (vi (iv (if (lixT tp n 0 s).isSome then 1 else 0))), c, l, x, y) := by
  have a0 : E (d + 2) 154 [vr 48 0, vr 51 0] (c, l, x, y) = some (some (vi (iv (if lixT tp n 0 s = some 0 then 1 else 0))), c, l, x, y) := e154o h (o := 0) (by decide) d
  have a1 : E (d + 2) 154 [vr 48 0, vr 52 0] (c, l, x, y) = some (some (vi (iv (if lixT tp n 0 s = some 1 then 1 else 0))), c, l, x, y) := e154o h (o := 1) (by decide) d
  have a2 : E (d + 2) 154 [vr 48 0, vr 53 0] (c, l, x, y) = some (some (vi (iv (if lixT tp n 0 s = some 2 then 1 else 0))), c, l, x, y) := e154o h (o := 2) (by decide) d
  have a3 : E (d + 2) 154 [vr 48 0, vr 54 0] (c, l, x, y) = some (some (vi (iv (if lixT tp n 0 s = some 3 then 1 else 0))), c, l, x, y) := e154o h (o := 3) (by decide) d
  have a4 : E (d + 2) 154 [vr 48 0, vr 55 0] (c, l, x, y) = some (some (vi (iv (if lixT tp n 0 s = some 4 then 1 else 0))), c, l, x, y) := e154o h (o := 4) (by decide) d
  have a5 : E (d + 2) 154 [vr 48 0, vr 56 0] (c, l, x, y) = some (some (vi (iv (if lixT tp n 0 s = some 5 then 1 else 0))), c, l, x, y) := e154o h (o := 5) (by decide) d
  have a6 : E (d + 2) 154 [vr 48 0, vr 57 0] (c, l, x, y) = some (some (vi (iv (if lixT tp n 0 s = some 6 then 1 else 0))), c, l, x, y) := e154o h (o := 6) (by decide) d
  have a7 : E (d + 2) 154 [vr 48 0, vr 58 0] (c, l, x, y) = some (some (vi (iv (if lixT tp n 0 s = some 7 then 1 else 0))), c, l, x, y) := e154o h (o := 7) (by decide) d
  have a8 : E (d + 2) 154 [vr 48 0, vr 59 0] (c, l, x, y) = some (some (vi (iv (if lixT tp n 0 s = some 8 then 1 else 0))), c, l, x, y) := e154o h (o := 8) (by decide) d
  have a9 : E (d + 2) 154 [vr 48 0, vr 60 0] (c, l, x, y) = some (some (vi (iv (if lixT tp n 0 s = some 9 then 1 else 0))), c, l, x, y) := e154o h (o := 9) (by decide) d
  have a10 : E (d + 2) 154 [vr 48 0, vr 61 0] (c, l, x, y) = some (some (vi (iv (if lixT tp n 0 s = some 10 then 1 else 0))), c, l, x, y) := e154o h (o := 10) (by decide) d
  have a11 : E (d + 2) 154 [vr 48 0, vr 62 0] (c, l, x, y) = some (some (vi (iv (if lixT tp n 0 s = some 11 then 1 else 0))), c, l, x, y) := e154o h (o := 11) (by decide) d
  have a12 : E (d + 2) 154 [vr 48 0, vr 63 0] (c, l, x, y) = some (some (vi (iv (if lixT tp n 0 s = some 12 then 1 else 0))), c, l, x, y) := e154o h (o := 12) (by decide) d
  have a13 : E (d + 2) 154 [vr 48 0, vr 64 0] (c, l, x, y) = some (some (vi (iv (if lixT tp n 0 s = some 13 then 1 else 0))), c, l, x, y) := e154o h (o := 13) (by decide) d
  have a14 : E (d + 2) 154 [vr 48 0, vr 65 0] (c, l, x, y) = some (some (vi (iv (if lixT tp n 0 s = some 14 then 1 else 0))), c, l, x, y) := e154o h (o := 14) (by decide) d
  have a15 : E (d + 2) 154 [vr 48 0, vr 66 0] (c, l, x, y) = some (some (vi (iv (if lixT tp n 0 s = some 15 then 1 else 0))), c, l, x, y) := e154o h (o := 15) (by decide) d
  have a16 : E (d + 2) 154 [vr 48 0, vr 67 0] (c, l, x, y) = some (some (vi (iv (if lixT tp n 0 s = some 16 then 1 else 0))), c, l, x, y) := e154o h (o := 16) (by decide) d
  have r69 : X (d + 3) 160 69 [some (vr 48 0), none] [vi 1] (c, l, x, y) = some (some (vi (iv 1)), c, l, x, y) := by
    rw [q_160_69, if_neg (by decide)]
    rfl
  have r33 : X (d + 3) 160 33 [some (vr 48 0), none] [vi 1] (c, l, x, y) = some (some (vi (iv 1)), c, l, x, y) := by
    rw [q_160_33, if_neg (by decide)]
    exact r69
  have b1 : ¬ (1 : Int32) = 0 := by decide
  cases hl : lixT tp n 0 s with
  | none =>
    rw [hl] at a0 a1 a2 a3 a4 a5 a6 a7 a8 a9 a10 a11 a12 a13 a14 a15 a16
    have s69 : X (d + 3) 160 69 [some (vr 48 0), none] [vi 0] (c, l, x, y) = some (some (vi (iv 0)), c, l, x, y) := by
      rw [q_160_69, if_pos rfl]
      rw [a12]
      simp only [am_bi_v]
      rw [if_neg (show ¬ (none : Option Nat) = some 12 by simp), if_pos (show iv 0 = 0 from rfl)]
      rw [a13]
      simp only [am_bi_v]
      rw [if_neg (show ¬ (none : Option Nat) = some 13 by simp), if_pos (show iv 0 = 0 from rfl)]
      rw [a14]
      simp only [am_bi_v]
      rw [if_neg (show ¬ (none : Option Nat) = some 14 by simp), if_pos (show iv 0 = 0 from rfl)]
      rw [a15]
      simp only [am_bi_v]
      rw [if_neg (show ¬ (none : Option Nat) = some 15 by simp), if_pos (show iv 0 = 0 from rfl)]
      rw [a16]
      simp only [am_bi_v]
      rw [if_neg (show ¬ (none : Option Nat) = some 16 by simp), if_pos (show iv 0 = 0 from rfl)]
      rfl
    have s33 : X (d + 3) 160 33 [some (vr 48 0), none] [vi 0] (c, l, x, y) = some (some (vi (iv 0)), c, l, x, y) := by
      rw [q_160_33, if_pos rfl]
      rw [a6]
      simp only [am_bi_v]
      rw [if_neg (show ¬ (none : Option Nat) = some 6 by simp), if_pos (show iv 0 = 0 from rfl)]
      rw [a7]
      simp only [am_bi_v]
      rw [if_neg (show ¬ (none : Option Nat) = some 7 by simp), if_pos (show iv 0 = 0 from rfl)]
      rw [a8]
      simp only [am_bi_v]
      rw [if_neg (show ¬ (none : Option Nat) = some 8 by simp), if_pos (show iv 0 = 0 from rfl)]
      rw [a9]
      simp only [am_bi_v]
      rw [if_neg (show ¬ (none : Option Nat) = some 9 by simp), if_pos (show iv 0 = 0 from rfl)]
      rw [a10]
      simp only [am_bi_v]
      rw [if_neg (show ¬ (none : Option Nat) = some 10 by simp), if_pos (show iv 0 = 0 from rfl)]
      rw [a11]
      simp only [am_bi_v]
      rw [if_neg (show ¬ (none : Option Nat) = some 11 by simp), if_pos (show iv 0 = 0 from rfl)]
      exact s69
    rw [q_160]
    rw [a0]
    simp only [am_bi_v]
    rw [if_neg (show ¬ (none : Option Nat) = some 0 by simp), if_pos (show iv 0 = 0 from rfl)]
    rw [a1]
    simp only [am_bi_v]
    rw [if_neg (show ¬ (none : Option Nat) = some 1 by simp), if_pos (show iv 0 = 0 from rfl)]
    rw [a2]
    simp only [am_bi_v]
    rw [if_neg (show ¬ (none : Option Nat) = some 2 by simp), if_pos (show iv 0 = 0 from rfl)]
    rw [a3]
    simp only [am_bi_v]
    rw [if_neg (show ¬ (none : Option Nat) = some 3 by simp), if_pos (show iv 0 = 0 from rfl)]
    rw [a4]
    simp only [am_bi_v]
    rw [if_neg (show ¬ (none : Option Nat) = some 4 by simp), if_pos (show iv 0 = 0 from rfl)]
    rw [a5]
    simp only [am_bi_v]
    rw [if_neg (show ¬ (none : Option Nat) = some 5 by simp), if_pos (show iv 0 = 0 from rfl)]
    exact s33
  | some o =>
    have ho : o < 17 := by
      unfold lixT at hl
      split at hl
      · have := (List.getElem?_eq_some_iff.mp (lixW_some hl)).1
        have h17 : (WL 0).length = 17 := rfl
        omega
      · cases hl
    rw [hl] at a0 a1 a2 a3 a4 a5 a6 a7 a8 a9 a10 a11 a12 a13 a14 a15 a16
    rw [q_160]
    rcases (show o = 0 ∨ o = 1 ∨ o = 2 ∨ o = 3 ∨ o = 4 ∨ o = 5 ∨ o = 6 ∨ o = 7 ∨ o = 8 ∨ o = 9 ∨ o = 10 ∨ o = 11 ∨ o = 12 ∨ o = 13 ∨ o = 14 ∨ o = 15 ∨ o = 16 by omega) with rfl | rfl | rfl | rfl | rfl | rfl | rfl | rfl | rfl | rfl | rfl | rfl | rfl | rfl | rfl | rfl | rfl
    · rw [a0]
      simp only [am_bi_v]
      rw [if_pos trivial, if_neg (show ¬ iv 1 = 0 by decide)]
      exact r33
    · rw [a0]
      simp only [am_bi_v]
      rw [if_neg (show ¬ some 1 = some 0 by decide), if_pos (show iv 0 = 0 from rfl)]
      rw [a1]
      simp only [am_bi_v]
      rw [if_pos trivial, if_neg (show ¬ iv 1 = 0 by decide)]
      exact r33
    · rw [a0]
      simp only [am_bi_v]
      rw [if_neg (show ¬ some 2 = some 0 by decide), if_pos (show iv 0 = 0 from rfl)]
      rw [a1]
      simp only [am_bi_v]
      rw [if_neg (show ¬ some 2 = some 1 by decide), if_pos (show iv 0 = 0 from rfl)]
      rw [a2]
      simp only [am_bi_v]
      rw [if_pos trivial, if_neg (show ¬ iv 1 = 0 by decide)]
      exact r33
    · rw [a0]
      simp only [am_bi_v]
      rw [if_neg (show ¬ some 3 = some 0 by decide), if_pos (show iv 0 = 0 from rfl)]
      rw [a1]
      simp only [am_bi_v]
      rw [if_neg (show ¬ some 3 = some 1 by decide), if_pos (show iv 0 = 0 from rfl)]
      rw [a2]
      simp only [am_bi_v]
      rw [if_neg (show ¬ some 3 = some 2 by decide), if_pos (show iv 0 = 0 from rfl)]
      rw [a3]
      simp only [am_bi_v]
      rw [if_pos trivial, if_neg (show ¬ iv 1 = 0 by decide)]
      exact r33
    · rw [a0]
      simp only [am_bi_v]
      rw [if_neg (show ¬ some 4 = some 0 by decide), if_pos (show iv 0 = 0 from rfl)]
      rw [a1]
      simp only [am_bi_v]
      rw [if_neg (show ¬ some 4 = some 1 by decide), if_pos (show iv 0 = 0 from rfl)]
      rw [a2]
      simp only [am_bi_v]
      rw [if_neg (show ¬ some 4 = some 2 by decide), if_pos (show iv 0 = 0 from rfl)]
      rw [a3]
      simp only [am_bi_v]
      rw [if_neg (show ¬ some 4 = some 3 by decide), if_pos (show iv 0 = 0 from rfl)]
      rw [a4]
      simp only [am_bi_v]
      rw [if_pos trivial, if_neg (show ¬ iv 1 = 0 by decide)]
      exact r33
    · rw [a0]
      simp only [am_bi_v]
      rw [if_neg (show ¬ some 5 = some 0 by decide), if_pos (show iv 0 = 0 from rfl)]
      rw [a1]
      simp only [am_bi_v]
      rw [if_neg (show ¬ some 5 = some 1 by decide), if_pos (show iv 0 = 0 from rfl)]
      rw [a2]
      simp only [am_bi_v]
      rw [if_neg (show ¬ some 5 = some 2 by decide), if_pos (show iv 0 = 0 from rfl)]
      rw [a3]
      simp only [am_bi_v]
      rw [if_neg (show ¬ some 5 = some 3 by decide), if_pos (show iv 0 = 0 from rfl)]
      rw [a4]
      simp only [am_bi_v]
      rw [if_neg (show ¬ some 5 = some 4 by decide), if_pos (show iv 0 = 0 from rfl)]
      rw [a5]
      simp only [am_bi_v]
      rw [if_pos trivial, if_neg (show ¬ iv 1 = 0 by decide)]
      exact r33
    · rw [a0]
      simp only [am_bi_v]
      rw [if_neg (show ¬ some 6 = some 0 by decide), if_pos (show iv 0 = 0 from rfl)]
      rw [a1]
      simp only [am_bi_v]
      rw [if_neg (show ¬ some 6 = some 1 by decide), if_pos (show iv 0 = 0 from rfl)]
      rw [a2]
      simp only [am_bi_v]
      rw [if_neg (show ¬ some 6 = some 2 by decide), if_pos (show iv 0 = 0 from rfl)]
      rw [a3]
      simp only [am_bi_v]
      rw [if_neg (show ¬ some 6 = some 3 by decide), if_pos (show iv 0 = 0 from rfl)]
      rw [a4]
      simp only [am_bi_v]
      rw [if_neg (show ¬ some 6 = some 4 by decide), if_pos (show iv 0 = 0 from rfl)]
      rw [a5]
      simp only [am_bi_v]
      rw [if_neg (show ¬ some 6 = some 5 by decide), if_pos (show iv 0 = 0 from rfl)]
      rw [q_160_33, if_pos rfl]
      rw [a6]
      simp only [am_bi_v]
      rw [if_pos trivial, if_neg (show ¬ iv 1 = 0 by decide)]
      exact r69
    · rw [a0]
      simp only [am_bi_v]
      rw [if_neg (show ¬ some 7 = some 0 by decide), if_pos (show iv 0 = 0 from rfl)]
      rw [a1]
      simp only [am_bi_v]
      rw [if_neg (show ¬ some 7 = some 1 by decide), if_pos (show iv 0 = 0 from rfl)]
      rw [a2]
      simp only [am_bi_v]
      rw [if_neg (show ¬ some 7 = some 2 by decide), if_pos (show iv 0 = 0 from rfl)]
      rw [a3]
      simp only [am_bi_v]
      rw [if_neg (show ¬ some 7 = some 3 by decide), if_pos (show iv 0 = 0 from rfl)]
      rw [a4]
      simp only [am_bi_v]
      rw [if_neg (show ¬ some 7 = some 4 by decide), if_pos (show iv 0 = 0 from rfl)]
      rw [a5]
      simp only [am_bi_v]
      rw [if_neg (show ¬ some 7 = some 5 by decide), if_pos (show iv 0 = 0 from rfl)]
      rw [q_160_33, if_pos rfl]
      rw [a6]
      simp only [am_bi_v]
      rw [if_neg (show ¬ some 7 = some 6 by decide), if_pos (show iv 0 = 0 from rfl)]
      rw [a7]
      simp only [am_bi_v]
      rw [if_pos trivial, if_neg (show ¬ iv 1 = 0 by decide)]
      exact r69
    · rw [a0]
      simp only [am_bi_v]
      rw [if_neg (show ¬ some 8 = some 0 by decide), if_pos (show iv 0 = 0 from rfl)]
      rw [a1]
      simp only [am_bi_v]
      rw [if_neg (show ¬ some 8 = some 1 by decide), if_pos (show iv 0 = 0 from rfl)]
      rw [a2]
      simp only [am_bi_v]
      rw [if_neg (show ¬ some 8 = some 2 by decide), if_pos (show iv 0 = 0 from rfl)]
      rw [a3]
      simp only [am_bi_v]
      rw [if_neg (show ¬ some 8 = some 3 by decide), if_pos (show iv 0 = 0 from rfl)]
      rw [a4]
      simp only [am_bi_v]
      rw [if_neg (show ¬ some 8 = some 4 by decide), if_pos (show iv 0 = 0 from rfl)]
      rw [a5]
      simp only [am_bi_v]
      rw [if_neg (show ¬ some 8 = some 5 by decide), if_pos (show iv 0 = 0 from rfl)]
      rw [q_160_33, if_pos rfl]
      rw [a6]
      simp only [am_bi_v]
      rw [if_neg (show ¬ some 8 = some 6 by decide), if_pos (show iv 0 = 0 from rfl)]
      rw [a7]
      simp only [am_bi_v]
      rw [if_neg (show ¬ some 8 = some 7 by decide), if_pos (show iv 0 = 0 from rfl)]
      rw [a8]
      simp only [am_bi_v]
      rw [if_pos trivial, if_neg (show ¬ iv 1 = 0 by decide)]
      exact r69
    · rw [a0]
      simp only [am_bi_v]
      rw [if_neg (show ¬ some 9 = some 0 by decide), if_pos (show iv 0 = 0 from rfl)]
      rw [a1]
      simp only [am_bi_v]
      rw [if_neg (show ¬ some 9 = some 1 by decide), if_pos (show iv 0 = 0 from rfl)]
      rw [a2]
      simp only [am_bi_v]
      rw [if_neg (show ¬ some 9 = some 2 by decide), if_pos (show iv 0 = 0 from rfl)]
      rw [a3]
      simp only [am_bi_v]
      rw [if_neg (show ¬ some 9 = some 3 by decide), if_pos (show iv 0 = 0 from rfl)]
      rw [a4]
      simp only [am_bi_v]
      rw [if_neg (show ¬ some 9 = some 4 by decide), if_pos (show iv 0 = 0 from rfl)]
      rw [a5]
      simp only [am_bi_v]
      rw [if_neg (show ¬ some 9 = some 5 by decide), if_pos (show iv 0 = 0 from rfl)]
      rw [q_160_33, if_pos rfl]
      rw [a6]
      simp only [am_bi_v]
      rw [if_neg (show ¬ some 9 = some 6 by decide), if_pos (show iv 0 = 0 from rfl)]
      rw [a7]
      simp only [am_bi_v]
      rw [if_neg (show ¬ some 9 = some 7 by decide), if_pos (show iv 0 = 0 from rfl)]
      rw [a8]
      simp only [am_bi_v]
      rw [if_neg (show ¬ some 9 = some 8 by decide), if_pos (show iv 0 = 0 from rfl)]
      rw [a9]
      simp only [am_bi_v]
      rw [if_pos trivial, if_neg (show ¬ iv 1 = 0 by decide)]
      exact r69
    · rw [a0]
      simp only [am_bi_v]
      rw [if_neg (show ¬ some 10 = some 0 by decide), if_pos (show iv 0 = 0 from rfl)]
      rw [a1]
      simp only [am_bi_v]
      rw [if_neg (show ¬ some 10 = some 1 by decide), if_pos (show iv 0 = 0 from rfl)]
      rw [a2]
      simp only [am_bi_v]
      rw [if_neg (show ¬ some 10 = some 2 by decide), if_pos (show iv 0 = 0 from rfl)]
      rw [a3]
      simp only [am_bi_v]
      rw [if_neg (show ¬ some 10 = some 3 by decide), if_pos (show iv 0 = 0 from rfl)]
      rw [a4]
      simp only [am_bi_v]
      rw [if_neg (show ¬ some 10 = some 4 by decide), if_pos (show iv 0 = 0 from rfl)]
      rw [a5]
      simp only [am_bi_v]
      rw [if_neg (show ¬ some 10 = some 5 by decide), if_pos (show iv 0 = 0 from rfl)]
      rw [q_160_33, if_pos rfl]
      rw [a6]
      simp only [am_bi_v]
      rw [if_neg (show ¬ some 10 = some 6 by decide), if_pos (show iv 0 = 0 from rfl)]
      rw [a7]
      simp only [am_bi_v]
      rw [if_neg (show ¬ some 10 = some 7 by decide), if_pos (show iv 0 = 0 from rfl)]
      rw [a8]
      simp only [am_bi_v]
      rw [if_neg (show ¬ some 10 = some 8 by decide), if_pos (show iv 0 = 0 from rfl)]
      rw [a9]
      simp only [am_bi_v]
      rw [if_neg (show ¬ some 10 = some 9 by decide), if_pos (show iv 0 = 0 from rfl)]
      rw [a10]
      simp only [am_bi_v]
      rw [if_pos trivial, if_neg (show ¬ iv 1 = 0 by decide)]
      exact r69
    · rw [a0]
      simp only [am_bi_v]
      rw [if_neg (show ¬ some 11 = some 0 by decide), if_pos (show iv 0 = 0 from rfl)]
      rw [a1]
      simp only [am_bi_v]
      rw [if_neg (show ¬ some 11 = some 1 by decide), if_pos (show iv 0 = 0 from rfl)]
      rw [a2]
      simp only [am_bi_v]
      rw [if_neg (show ¬ some 11 = some 2 by decide), if_pos (show iv 0 = 0 from rfl)]
      rw [a3]
      simp only [am_bi_v]
      rw [if_neg (show ¬ some 11 = some 3 by decide), if_pos (show iv 0 = 0 from rfl)]
      rw [a4]
      simp only [am_bi_v]
      rw [if_neg (show ¬ some 11 = some 4 by decide), if_pos (show iv 0 = 0 from rfl)]
      rw [a5]
      simp only [am_bi_v]
      rw [if_neg (show ¬ some 11 = some 5 by decide), if_pos (show iv 0 = 0 from rfl)]
      rw [q_160_33, if_pos rfl]
      rw [a6]
      simp only [am_bi_v]
      rw [if_neg (show ¬ some 11 = some 6 by decide), if_pos (show iv 0 = 0 from rfl)]
      rw [a7]
      simp only [am_bi_v]
      rw [if_neg (show ¬ some 11 = some 7 by decide), if_pos (show iv 0 = 0 from rfl)]
      rw [a8]
      simp only [am_bi_v]
      rw [if_neg (show ¬ some 11 = some 8 by decide), if_pos (show iv 0 = 0 from rfl)]
      rw [a9]
      simp only [am_bi_v]
      rw [if_neg (show ¬ some 11 = some 9 by decide), if_pos (show iv 0 = 0 from rfl)]
      rw [a10]
      simp only [am_bi_v]
      rw [if_neg (show ¬ some 11 = some 10 by decide), if_pos (show iv 0 = 0 from rfl)]
      rw [a11]
      simp only [am_bi_v]
      rw [if_pos trivial, if_neg (show ¬ iv 1 = 0 by decide)]
      exact r69
    · rw [a0]
      simp only [am_bi_v]
      rw [if_neg (show ¬ some 12 = some 0 by decide), if_pos (show iv 0 = 0 from rfl)]
      rw [a1]
      simp only [am_bi_v]
      rw [if_neg (show ¬ some 12 = some 1 by decide), if_pos (show iv 0 = 0 from rfl)]
      rw [a2]
      simp only [am_bi_v]
      rw [if_neg (show ¬ some 12 = some 2 by decide), if_pos (show iv 0 = 0 from rfl)]
      rw [a3]
      simp only [am_bi_v]
      rw [if_neg (show ¬ some 12 = some 3 by decide), if_pos (show iv 0 = 0 from rfl)]
      rw [a4]
      simp only [am_bi_v]
      rw [if_neg (show ¬ some 12 = some 4 by decide), if_pos (show iv 0 = 0 from rfl)]
      rw [a5]
      simp only [am_bi_v]
      rw [if_neg (show ¬ some 12 = some 5 by decide), if_pos (show iv 0 = 0 from rfl)]
      rw [q_160_33, if_pos rfl]
      rw [a6]
      simp only [am_bi_v]
      rw [if_neg (show ¬ some 12 = some 6 by decide), if_pos (show iv 0 = 0 from rfl)]
      rw [a7]
      simp only [am_bi_v]
      rw [if_neg (show ¬ some 12 = some 7 by decide), if_pos (show iv 0 = 0 from rfl)]
      rw [a8]
      simp only [am_bi_v]
      rw [if_neg (show ¬ some 12 = some 8 by decide), if_pos (show iv 0 = 0 from rfl)]
      rw [a9]
      simp only [am_bi_v]
      rw [if_neg (show ¬ some 12 = some 9 by decide), if_pos (show iv 0 = 0 from rfl)]
      rw [a10]
      simp only [am_bi_v]
      rw [if_neg (show ¬ some 12 = some 10 by decide), if_pos (show iv 0 = 0 from rfl)]
      rw [a11]
      simp only [am_bi_v]
      rw [if_neg (show ¬ some 12 = some 11 by decide), if_pos (show iv 0 = 0 from rfl)]
      rw [q_160_69, if_pos rfl]
      rw [a12]
      simp only [am_bi_v]
      rw [if_pos trivial, if_neg (show ¬ iv 1 = 0 by decide)]
      rfl
    · rw [a0]
      simp only [am_bi_v]
      rw [if_neg (show ¬ some 13 = some 0 by decide), if_pos (show iv 0 = 0 from rfl)]
      rw [a1]
      simp only [am_bi_v]
      rw [if_neg (show ¬ some 13 = some 1 by decide), if_pos (show iv 0 = 0 from rfl)]
      rw [a2]
      simp only [am_bi_v]
      rw [if_neg (show ¬ some 13 = some 2 by decide), if_pos (show iv 0 = 0 from rfl)]
      rw [a3]
      simp only [am_bi_v]
      rw [if_neg (show ¬ some 13 = some 3 by decide), if_pos (show iv 0 = 0 from rfl)]
      rw [a4]
      simp only [am_bi_v]
      rw [if_neg (show ¬ some 13 = some 4 by decide), if_pos (show iv 0 = 0 from rfl)]
      rw [a5]
      simp only [am_bi_v]
      rw [if_neg (show ¬ some 13 = some 5 by decide), if_pos (show iv 0 = 0 from rfl)]
      rw [q_160_33, if_pos rfl]
      rw [a6]
      simp only [am_bi_v]
      rw [if_neg (show ¬ some 13 = some 6 by decide), if_pos (show iv 0 = 0 from rfl)]
      rw [a7]
      simp only [am_bi_v]
      rw [if_neg (show ¬ some 13 = some 7 by decide), if_pos (show iv 0 = 0 from rfl)]
      rw [a8]
      simp only [am_bi_v]
      rw [if_neg (show ¬ some 13 = some 8 by decide), if_pos (show iv 0 = 0 from rfl)]
      rw [a9]
      simp only [am_bi_v]
      rw [if_neg (show ¬ some 13 = some 9 by decide), if_pos (show iv 0 = 0 from rfl)]
      rw [a10]
      simp only [am_bi_v]
      rw [if_neg (show ¬ some 13 = some 10 by decide), if_pos (show iv 0 = 0 from rfl)]
      rw [a11]
      simp only [am_bi_v]
      rw [if_neg (show ¬ some 13 = some 11 by decide), if_pos (show iv 0 = 0 from rfl)]
      rw [q_160_69, if_pos rfl]
      rw [a12]
      simp only [am_bi_v]
      rw [if_neg (show ¬ some 13 = some 12 by decide), if_pos (show iv 0 = 0 from rfl)]
      rw [a13]
      simp only [am_bi_v]
      rw [if_pos trivial, if_neg (show ¬ iv 1 = 0 by decide)]
      rfl
    · rw [a0]
      simp only [am_bi_v]
      rw [if_neg (show ¬ some 14 = some 0 by decide), if_pos (show iv 0 = 0 from rfl)]
      rw [a1]
      simp only [am_bi_v]
      rw [if_neg (show ¬ some 14 = some 1 by decide), if_pos (show iv 0 = 0 from rfl)]
      rw [a2]
      simp only [am_bi_v]
      rw [if_neg (show ¬ some 14 = some 2 by decide), if_pos (show iv 0 = 0 from rfl)]
      rw [a3]
      simp only [am_bi_v]
      rw [if_neg (show ¬ some 14 = some 3 by decide), if_pos (show iv 0 = 0 from rfl)]
      rw [a4]
      simp only [am_bi_v]
      rw [if_neg (show ¬ some 14 = some 4 by decide), if_pos (show iv 0 = 0 from rfl)]
      rw [a5]
      simp only [am_bi_v]
      rw [if_neg (show ¬ some 14 = some 5 by decide), if_pos (show iv 0 = 0 from rfl)]
      rw [q_160_33, if_pos rfl]
      rw [a6]
      simp only [am_bi_v]
      rw [if_neg (show ¬ some 14 = some 6 by decide), if_pos (show iv 0 = 0 from rfl)]
      rw [a7]
      simp only [am_bi_v]
      rw [if_neg (show ¬ some 14 = some 7 by decide), if_pos (show iv 0 = 0 from rfl)]
      rw [a8]
      simp only [am_bi_v]
      rw [if_neg (show ¬ some 14 = some 8 by decide), if_pos (show iv 0 = 0 from rfl)]
      rw [a9]
      simp only [am_bi_v]
      rw [if_neg (show ¬ some 14 = some 9 by decide), if_pos (show iv 0 = 0 from rfl)]
      rw [a10]
      simp only [am_bi_v]
      rw [if_neg (show ¬ some 14 = some 10 by decide), if_pos (show iv 0 = 0 from rfl)]
      rw [a11]
      simp only [am_bi_v]
      rw [if_neg (show ¬ some 14 = some 11 by decide), if_pos (show iv 0 = 0 from rfl)]
      rw [q_160_69, if_pos rfl]
      rw [a12]
      simp only [am_bi_v]
      rw [if_neg (show ¬ some 14 = some 12 by decide), if_pos (show iv 0 = 0 from rfl)]
      rw [a13]
      simp only [am_bi_v]
      rw [if_neg (show ¬ some 14 = some 13 by decide), if_pos (show iv 0 = 0 from rfl)]
      rw [a14]
      simp only [am_bi_v]
      rw [if_pos trivial, if_neg (show ¬ iv 1 = 0 by decide)]
      rfl
    · rw [a0]
      simp only [am_bi_v]
      rw [if_neg (show ¬ some 15 = some 0 by decide), if_pos (show iv 0 = 0 from rfl)]
      rw [a1]
      simp only [am_bi_v]
      rw [if_neg (show ¬ some 15 = some 1 by decide), if_pos (show iv 0 = 0 from rfl)]
      rw [a2]
      simp only [am_bi_v]
      rw [if_neg (show ¬ some 15 = some 2 by decide), if_pos (show iv 0 = 0 from rfl)]
      rw [a3]
      simp only [am_bi_v]
      rw [if_neg (show ¬ some 15 = some 3 by decide), if_pos (show iv 0 = 0 from rfl)]
      rw [a4]
      simp only [am_bi_v]
      rw [if_neg (show ¬ some 15 = some 4 by decide), if_pos (show iv 0 = 0 from rfl)]
      rw [a5]
      simp only [am_bi_v]
      rw [if_neg (show ¬ some 15 = some 5 by decide), if_pos (show iv 0 = 0 from rfl)]
      rw [q_160_33, if_pos rfl]
      rw [a6]
      simp only [am_bi_v]
      rw [if_neg (show ¬ some 15 = some 6 by decide), if_pos (show iv 0 = 0 from rfl)]
      rw [a7]
      simp only [am_bi_v]
      rw [if_neg (show ¬ some 15 = some 7 by decide), if_pos (show iv 0 = 0 from rfl)]
      rw [a8]
      simp only [am_bi_v]
      rw [if_neg (show ¬ some 15 = some 8 by decide), if_pos (show iv 0 = 0 from rfl)]
      rw [a9]
      simp only [am_bi_v]
      rw [if_neg (show ¬ some 15 = some 9 by decide), if_pos (show iv 0 = 0 from rfl)]
      rw [a10]
      simp only [am_bi_v]
      rw [if_neg (show ¬ some 15 = some 10 by decide), if_pos (show iv 0 = 0 from rfl)]
      rw [a11]
      simp only [am_bi_v]
      rw [if_neg (show ¬ some 15 = some 11 by decide), if_pos (show iv 0 = 0 from rfl)]
      rw [q_160_69, if_pos rfl]
      rw [a12]
      simp only [am_bi_v]
      rw [if_neg (show ¬ some 15 = some 12 by decide), if_pos (show iv 0 = 0 from rfl)]
      rw [a13]
      simp only [am_bi_v]
      rw [if_neg (show ¬ some 15 = some 13 by decide), if_pos (show iv 0 = 0 from rfl)]
      rw [a14]
      simp only [am_bi_v]
      rw [if_neg (show ¬ some 15 = some 14 by decide), if_pos (show iv 0 = 0 from rfl)]
      rw [a15]
      simp only [am_bi_v]
      rw [if_pos trivial, if_neg (show ¬ iv 1 = 0 by decide)]
      rfl
    · rw [a0]
      simp only [am_bi_v]
      rw [if_neg (show ¬ some 16 = some 0 by decide), if_pos (show iv 0 = 0 from rfl)]
      rw [a1]
      simp only [am_bi_v]
      rw [if_neg (show ¬ some 16 = some 1 by decide), if_pos (show iv 0 = 0 from rfl)]
      rw [a2]
      simp only [am_bi_v]
      rw [if_neg (show ¬ some 16 = some 2 by decide), if_pos (show iv 0 = 0 from rfl)]
      rw [a3]
      simp only [am_bi_v]
      rw [if_neg (show ¬ some 16 = some 3 by decide), if_pos (show iv 0 = 0 from rfl)]
      rw [a4]
      simp only [am_bi_v]
      rw [if_neg (show ¬ some 16 = some 4 by decide), if_pos (show iv 0 = 0 from rfl)]
      rw [a5]
      simp only [am_bi_v]
      rw [if_neg (show ¬ some 16 = some 5 by decide), if_pos (show iv 0 = 0 from rfl)]
      rw [q_160_33, if_pos rfl]
      rw [a6]
      simp only [am_bi_v]
      rw [if_neg (show ¬ some 16 = some 6 by decide), if_pos (show iv 0 = 0 from rfl)]
      rw [a7]
      simp only [am_bi_v]
      rw [if_neg (show ¬ some 16 = some 7 by decide), if_pos (show iv 0 = 0 from rfl)]
      rw [a8]
      simp only [am_bi_v]
      rw [if_neg (show ¬ some 16 = some 8 by decide), if_pos (show iv 0 = 0 from rfl)]
      rw [a9]
      simp only [am_bi_v]
      rw [if_neg (show ¬ some 16 = some 9 by decide), if_pos (show iv 0 = 0 from rfl)]
      rw [a10]
      simp only [am_bi_v]
      rw [if_neg (show ¬ some 16 = some 10 by decide), if_pos (show iv 0 = 0 from rfl)]
      rw [a11]
      simp only [am_bi_v]
      rw [if_neg (show ¬ some 16 = some 11 by decide), if_pos (show iv 0 = 0 from rfl)]
      rw [q_160_69, if_pos rfl]
      rw [a12]
      simp only [am_bi_v]
      rw [if_neg (show ¬ some 16 = some 12 by decide), if_pos (show iv 0 = 0 from rfl)]
      rw [a13]
      simp only [am_bi_v]
      rw [if_neg (show ¬ some 16 = some 13 by decide), if_pos (show iv 0 = 0 from rfl)]
      rw [a14]
      simp only [am_bi_v]
      rw [if_neg (show ¬ some 16 = some 14 by decide), if_pos (show iv 0 = 0 from rfl)]
      rw [a15]
      simp only [am_bi_v]
      rw [if_neg (show ¬ some 16 = some 15 by decide), if_pos (show iv 0 = 0 from rfl)]
      rw [a16]
      simp only [am_bi_v]
      rw [if_pos trivial, if_neg (show ¬ iv 1 = 0 by decide)]
      rfl

theorem RZ_any {f : Nat × Nat} {s' : Ts} (h : RZ c tp n (s, some f)) : RZ c tp n (s', some f) := h
theorem RZ_flt (h : RZ c tp n z) : (c 48 0 5 = iv 0) = (z.2 = none) := by
  apply propext
  cases hz : z.2 with
  | none =>
    rw [tz_eta z hz] at h
    exact ⟨fun _ => rfl, fun _ => h.2.2.2.1.1⟩
  | some f =>
    rw [tz_eta z hz] at h
    exact ⟨fun q => absurd q (RZ_bad h), fun q => by cases q⟩
theorem e27_inj : ∀ (s t : List Nat), (∀ a ∈ s, 1 ≤ a ∧ a ≤ 26) → (∀ a ∈ t, 1 ≤ a ∧ a ≤ 26) → e27 s = e27 t → s = t := by
  have key : ∀ (m : Nat) (s t : List Nat), s.length ≤ m → (∀ a ∈ s, 1 ≤ a ∧ a ≤ 26) → (∀ a ∈ t, 1 ≤ a ∧ a ≤ 26) → e27 s = e27 t → s = t := by
    intro m
    induction m with
    | zero =>
      intro s t hm hs ht h
      have := List.eq_nil_of_length_eq_zero (show s.length = 0 by omega)
      subst this
      cases t with
      | nil => rfl
      | cons a t =>
        have := e27_pos ht (by simp)
        have h0 : e27 [] = 0 := rfl
        omega
    | succ m ih =>
      intro s t hm hs ht h
      rcases List.eq_nil_or_concat s with rfl | ⟨s', a, rfl⟩
      · cases t with
        | nil => rfl
        | cons b t =>
          have := e27_pos ht (by simp)
          have h0 : e27 [] = 0 := rfl
          omega
      · rcases List.eq_nil_or_concat t with rfl | ⟨t', b, rfl⟩
        · have := e27_pos hs (by simp)
          have h0 : e27 [] = 0 := rfl
          omega
        · rw [List.concat_eq_append, List.concat_eq_append, e27_snoc, e27_snoc] at h
          have ha := hs a (by simp)
          have hb := ht b (by simp)
          have e : a = b := by omega
          have := ih s' t' (by rw [List.concat_eq_append, List.length_append] at hm; simp at hm; omega) (fun v hv => hs v (by simp [hv])) (fun v hv => ht v (by simp [hv])) (by omega)
          rw [this, e]
  exact fun s t => key s.length s t (Nat.le_refl _)
theorem e27_eq {s t : List Nat} (hs : isSp s) (ht : isSp t) : (lg_cmp (jv (e27 s)) (jv (e27 t)) = iv 0) = (s = t) := by
  have h1 := e27_lt6 hs
  have h2 := e27_lt6 ht
  rw [jv_cmp (by omega) (by omega)]
  apply propext
  constructor
  · intro h
    apply e27_inj s t hs.2.2 ht.2.2
    rw [iv_eq (by split <;> (try split) <;> omega) (by omega)] at h
    split at h
    · omega
    · split at h <;> omega
  · intro h
    rw [h, if_neg (by omega), if_pos rfl]
theorem e161 (hd : RD c l K) (hK : VK K) {s : List Nat} (hs : isSp s) (d : Nat) : E (d + 1) 161 [vr 48 0, vl (jv (e27 s))] (c, l, x, y) = some (some (vi (iv (oi (fndW K s)))), c, l, x, y) := by
  have hn := hK.1.1
  rw [q_161]
  have key := lp_find (fun i : Nat => X (d + 1) 161 2 [some (vr 48 0), some (vl (jv (e27 s))), none, some (vi (iv (i : Nat)))] [] (c, l, x, y)) (nW K) (fun w => spK K w == s) (fun w => some (some (vi (iv (w : Nat))), c, l, x, y)) (some (some (vi (iv (-1))), c, l, x, y)) (by
    intro i hi
    have hcell := (hd.1.2 i hi).2
    have hsp := (hK.1.2 i hi).1
    rw [q_161_2]
    simp (disch := omega) only [iv_add, iv_sub, iv_mul, iv_neg, iv_lt, iv_le, iv_eq, iv_nat, iv_L, iv_L2, am_bi_v, am_bv_v, am_bl_v, if_pos, if_neg, Int.toNat_natCast, Int.toNat_add, Int.toNat_mul, Int.reduceToNat, hd.1.1, hcell]
    simp only [e27_eq hsp hs]
    by_cases e : spK K i = s
    · rw [if_pos e, if_pos (beq_iff_eq.mpr e)]
    · rw [if_neg e, if_neg (by rw [beq_iff_eq]; exact e), show (i : Int) + 1 = ((i + 1 : Nat) : Int) by omega]) (by
    rw [q_161_2]
    simp (disch := omega) only [iv_add, iv_sub, iv_mul, iv_neg, iv_lt, iv_le, iv_eq, iv_nat, iv_L, iv_L2, am_bi_v, am_bv_v, am_bl_v, if_pos, if_neg, Int.toNat_natCast, Int.toNat_add, Int.toNat_mul, Int.reduceToNat, hd.1.1]
    all_goals rfl)
  refine key.trans ?_
  unfold fndW
  cases (List.range (nW K)).find? (fun w => spK K w == s) <;> rfl
theorem e161a (hd : RD c l K) (hK : VK K) (v : Int64) (d : Nat) : ∃ r : Int32, E (d + 1) 161 [vr 48 0, vl v] (c, l, x, y) = some (some (vi r), c, l, x, y) := by
  have hn := hK.1.1
  have key : ∀ (m i : Nat), i + m = nW K → ∃ r : Int32, X (d + 1) 161 2 [some (vr 48 0), some (vl v), none, some (vi (iv (i : Nat)))] [] (c, l, x, y) = some (some (vi r), c, l, x, y) := by
    intro m
    induction m with
    | zero =>
      intro i hi
      refine ⟨iv (-1), ?_⟩
      rw [q_161_2]
      simp (disch := omega) only [iv_add, iv_sub, iv_mul, iv_neg, iv_lt, iv_le, iv_eq, iv_nat, iv_L, iv_L2, am_bi_v, am_bv_v, am_bl_v, if_pos, if_neg, Int.toNat_natCast, Int.toNat_add, Int.toNat_mul, Int.reduceToNat, hd.1.1]
      all_goals rfl
    | succ m ih =>
      intro i hi
      rw [q_161_2]
      simp (disch := omega) only [iv_add, iv_sub, iv_mul, iv_neg, iv_lt, iv_le, iv_eq, iv_nat, iv_L, iv_L2, am_bi_v, am_bv_v, am_bl_v, if_pos, if_neg, Int.toNat_natCast, Int.toNat_add, Int.toNat_mul, Int.reduceToNat, hd.1.1]
      split
      · exact ⟨_, rfl⟩
      · exact ih (i + 1) (by omega)
  obtain ⟨r, hr⟩ := key (nW K) 0 (by omega)
  exact ⟨r, by rw [q_161]; exact hr⟩
theorem e162 (hd : RD c l K) (hK : VK K) {s : List Nat} (hs : isSp s) (d : Nat) : E (d + 1) 162 [vr 48 0, vl (jv (e27 s))] (c, l, x, y) = some (some (vi (iv (if (List.range (nB K)).any (fun b => (bnK K b).1 == s) then 1 else 0))), c, l, x, y) := by
  have hn := hK.2.2.2.1.1
  rw [q_162]
  have key := lp_any (fun i : Nat => X (d + 1) 162 2 [some (vr 48 0), some (vl (jv (e27 s))), none, some (vi (iv (i : Nat)))] [] (c, l, x, y)) (nB K) (fun b => (bnK K b).1 == s) (some (some (vi (iv 1)), c, l, x, y)) (some (some (vi (iv 0)), c, l, x, y)) (by
    intro i hi
    have hcell := (hd.2.2.2.1.2 i hi).1
    have hsp := (hK.2.2.2.1.2 i hi).1
    rw [q_162_2]
    simp (disch := omega) only [iv_add, iv_sub, iv_mul, iv_neg, iv_lt, iv_le, iv_eq, iv_nat, iv_L, iv_L2, am_bi_v, am_bv_v, am_bl_v, if_pos, if_neg, Int.toNat_natCast, Int.toNat_add, Int.toNat_mul, Int.reduceToNat, hd.2.2.2.1.1, hcell]
    simp only [e27_eq hsp hs]
    by_cases e : (bnK K i).1 = s
    · rw [if_pos e, if_pos (beq_iff_eq.mpr e)]
    · rw [if_neg e, if_neg (by rw [beq_iff_eq]; exact e), show (i : Int) + 1 = ((i + 1 : Nat) : Int) by omega]) (by
    rw [q_162_2]
    simp (disch := omega) only [iv_add, iv_sub, iv_mul, iv_neg, iv_lt, iv_le, iv_eq, iv_nat, iv_L, iv_L2, am_bi_v, am_bv_v, am_bl_v, if_pos, if_neg, Int.toNat_natCast, Int.toNat_add, Int.toNat_mul, Int.reduceToNat, hd.2.2.2.1.1])
  refine key.trans ?_
  cases (List.range (nB K)).any (fun b => (bnK K b).1 == s) <;> rfl
theorem RD_FR {c2 : Nat → Nat → Nat → Int32} (h : FR c c2) (g : RD c l K) : RD c2 l K := by
  unfold RD at g ⊢
  rw [h.1 68 (by omega), h.1 70 (by omega), h.1 72 (by omega), h.1 73 (by omega), h.1 74 (by omega), h.1 75 (by omega), h.1 76 (by omega)]
  exact g
/-- a word is spelt -/
theorem e159 (h : RZ c tp n z) (d : Nat) : ∃ (c2 : Nat → Nat → Nat → Int32) (v : Int64), E (d + 4) 159 [vr 48 0] (c, l, x, y) = some (some (vl v), c2, l, x, y) ∧ FR c c2 ∧ match (spZ tp n z).1 with
    | some s => v = jv (e27 s) ∧ RZ c2 tp n (avZ tp n z) ∧ c2 48 0 27 = iv (z.1.1 : Nat)
    | none => RZ c2 tp n (spZ tp n z).2 := by
  cases hz : z.2 with
  | some f =>
    rw [spZ_f (by rw [hz]; rfl)]
    refine ⟨c, 0, ?_, FR.refl c, h⟩
    rw [tz_eta z hz] at h
    rw [q_159, if_neg (RZ_bad h)]
  | none =>
    rw [tz_eta z hz] at h ⊢
    generalize z.1 = s at h ⊢
    have h4 := h.2.2.2.1
    have hb := bt_bd (n := n) h.2.1.2 s.1
    have h97 := sgn97_iff (tp := tp) (n := n) (s := s)
    obtain ⟨c1, g1, g2, g3⟩ := e150 (l := l) (x := x) (y := y) h (d + 2)
    have hen := ended_iff g2
    have h5 := g2.2.2.2.2.1
    rw [h5] at hen
    obtain ⟨hn0, ht0⟩ := h.2.1
    have hle : s.1 ≤ n := by obtain ⟨_, _, q, _⟩ := g2.2.2.2.2.2; exact q
    have hfail : ∀ (q : Nat), q ≤ 1600 → ∃ c2 : Nat → Nat → Nat → Int32, E (d + 3) 152 [vr 48 0, vi 1, vi (iv (q : Nat))] (c1, l, x, y) = some (none, c2, l, x, y) ∧ RZ c2 tp n (flZ 1 q (s, none)) ∧ FR c1 c2 := fun q hq => e152 (l := l) (x := x) (y := y) (RL_RZ g2) (k := 1) (p := q) (by omega) hq (d + 2)
    unfold spZ
    dsimp only
    rw [if_neg (show ¬ (none : Option (Nat × Nat)).isSome = true by decide), q_159, h4.1, if_pos (by rfl), g1]
    simp only [am_bi_v]
    rw [e155 hb]
    simp only [am_bi_v, hen, h5]
    by_cases hL : 97 ≤ btT tp n s.1 ∧ btT tp n s.1 ≤ 122
    · rw [if_pos hL, if_neg (show ¬ iv 1 = 0 by decide)]
      cases hg : s.2 with
      | true =>
        have hns : sgnT tp n s ≠ 97 := fun q => by rw [(h97.mp q).2] at hg; cases hg
        rw [if_pos rfl, if_pos (Or.inl hns)]
        obtain ⟨c2, k1, k2, k3⟩ := hfail s.1 (by omega)
        rw [k1]
        exact ⟨c2, 0, rfl, g3.tr k3, k2⟩
      | false =>
        have hs97 := h97.mpr ⟨hL, hg⟩
        have hs1 := sgn_97 hs97
        have hln := lenT_le (tp := tp) hle
        rw [if_neg Bool.false_ne_true, e160 g2]
        simp only [am_bi_v]
        by_cases ho : (lixT tp n 0 s).isSome = true
        · rw [if_pos ho, if_neg (show ¬ iv 1 = 0 by decide), if_pos (Or.inr ho), h5]
          obtain ⟨c2, k1, k2, k3⟩ := hfail s.1 (by omega)
          rw [k1]
          exact ⟨c2, 0, rfl, g3.tr k3, k2⟩
        · rw [if_neg ho, if_pos (show iv 0 = 0 from rfl), if_neg (show ¬ (sgnT tp n s ≠ 97 ∨ (lixT tp n 0 s).isSome = true) from fun q => q.elim (fun q => q hs97) ho), h5]
          have hlen : lenT tp n s.1 = runN tp 97 (n - s.1) s.1 := by unfold lenT; rw [if_pos hs1.1, if_pos (Or.inl hs1.2.1), hs1.2.1]
          -- the letters
          have key : ∀ (m j : Nat) (c3 : Nat → Nat → Nat → Int32), s.1 + j + m = n → j + runN tp 97 m (s.1 + j) = lenT tp n s.1 → j ≤ 6 → RT c3 tp n → CH c3 → (c3 48 0 5 = iv 0 ∧ c3 48 0 6 = iv (-1)) → c3 48 0 2 = iv ((s.1 + j : Nat) : Int) → c3 48 0 27 = iv (s.1 : Nat) → ∃ (c4 : Nat → Nat → Nat → Int32) (v : Int64), X (d + 4) 159 30 [some (vr 48 0), some (vl (jv (e27 ((letT tp n s.1).take j) : Nat))), none] [] (c3, l, x, y) = some (some (vl v), c4, l, x, y) ∧ FR c3 c4 ∧ (if 6 < lenT tp n s.1 then RZ c4 tp n (s, some (1, s.1 + 6)) else v = jv (e27 (letT tp n s.1)) ∧ RZ c4 tp n (nxtT tp n s, none) ∧ c4 48 0 27 = iv (s.1 : Nat)) := by
            intro m
            have hend : ∀ (j : Nat) (c3 : Nat → Nat → Nat → Int32), j = lenT tp n s.1 → j ≤ 6 → RT c3 tp n → CH c3 → (c3 48 0 5 = iv 0 ∧ c3 48 0 6 = iv (-1)) → c3 48 0 2 = iv ((s.1 + j : Nat) : Int) → c3 48 0 27 = iv (s.1 : Nat) → ∃ (c4 : Nat → Nat → Nat → Int32) (v : Int64), (some (some (vl (jv (e27 ((letT tp n s.1).take j) : Nat))), am_ui c3 48 0 4 (c3 48 0 2), l, x, y) : Option mr) = some (some (vl v), c4, l, x, y) ∧ FR c3 c4 ∧ (if 6 < lenT tp n s.1 then RZ c4 tp n (s, some (1, s.1 + 6)) else v = jv (e27 (letT tp n s.1)) ∧ RZ c4 tp n (nxtT tp n s, none) ∧ c4 48 0 27 = iv (s.1 : Nat)) := by
              intro j c3 hj hj6 hT hH hf h2 h27
              have hll : (letT tp n s.1).length = lenT tp n s.1 := by unfold letT; rw [List.length_map, runT_len]
              have hF : FR c3 (am_ui c3 48 0 4 (iv ((s.1 + j : Nat) : Int))) := FR.ui _ _ (by omega)
              rw [h2]
              refine ⟨_, _, rfl, hF, ?_⟩
              rw [if_neg (by omega)]
              refine ⟨by rw [List.take_of_length_le (by omega)], ⟨FR_RT hF hT, h.2.1, FR_CH hF hH, ⟨by rw [ui_ne _ _ _ _ (by omega)]; exact hf.1, by rw [ui_ne _ _ _ _ (by omega)]; exact hf.2⟩, s.1 + j, ((s.1 + j : Nat) : Int), ?_, ui_self _ _ _ _, by omega, by omega, ?_, ?_⟩, ?_⟩
              · rw [ui_ne _ _ _ _ (by omega)]; exact h2
              · rw [hj]; rfl
              · rw [hj]
                unfold nxtT nxtQ
                dsimp only
                rw [decide_eq_true (Or.inl hs97), Bool.true_and, decide_eq_true_eq]
                omega
              · rw [ui_ne _ _ _ _ (by omega)]; exact h27
            induction m with
            | zero =>
              intro j c3 hj hr hj6 hT hH hf h2 h27
              have hr : j = lenT tp n s.1 := hr
              obtain ⟨c4, v, a1, a2⟩ := hend j c3 hr hj6 hT hH hf h2 h27
              refine ⟨c4, v, ?_, a2⟩
              rw [q_159_30]
              rw [if_neg (by rw [h2, hT.1, iv_lt (by omega) (by omega)]; omega)]
              exact a1
            | succ m ih =>
              intro j c3 hj hr hj6 hT hH hf h2 h27
              have hcell := hT.2 (s.1 + j) (by omega)
              have hbb := ht0 (s.1 + j)
              have hcl := clB_97 (tp (s.1 + j))
              unfold runN at hr
              rw [q_159_30]
              simp only [h2, hT.1, h27]
              simp (disch := omega) only [iv_L, iv_lt, iv_nat, if_pos, if_neg, Int.toNat_natCast, hcell]
              rw [e155 (by omega)]
              simp only [am_bi_v, h2, h27, iv_sub]
              by_cases e1 : clB (tp (s.1 + j)) = 97
              · rw [if_pos e1] at hr
                rw [if_pos (show 97 ≤ (tp (s.1 + j) : Int) ∧ (tp (s.1 + j) : Int) ≤ 122 by omega), if_neg (show ¬ iv 1 = iv 0 by decide)]
                by_cases e6 : j = 6
                · rw [if_pos (show iv (((s.1 + j : Nat) : Int) - (s.1 : Nat)) = iv 6 by congr 1; omega)]
                  have hZ : RZ c3 tp n ((s.1 + j, true), none) → True := fun _ => trivial
                  have hfl : ∃ c4 : Nat → Nat → Nat → Int32, E (d + 3) 152 [vr 48 0, vi (iv 1), vi (iv ((s.1 + j : Nat) : Int))] (c3, l, x, y) = some (none, c4, l, x, y) ∧ RZ c4 tp n (s, some (1, s.1 + 6)) ∧ FR c3 c4 := by
                    have hF : FR c3 (am_ui (am_ui c3 48 0 5 (iv 1)) 48 0 6 (iv ((s.1 + j : Nat) : Int))) := (FR.ui _ _ (by omega)).tr (FR.ui _ _ (by omega))
                    refine ⟨_, by rw [q_152, hf.1, if_pos (by rfl)], ⟨FR_RT hF hT, h.2.1, FR_CH hF hH, ⟨?_, ?_⟩, (by decide : 1 ≤ 1 ∧ 1 ≤ 5), by show s.1 + 6 ≤ 1600; omega⟩, hF⟩
                    · rw [ui_ne _ _ _ _ (by omega), ui_self]; rfl
                    · rw [ui_self, e6]
                  obtain ⟨c4, k1, k2, k3⟩ := hfl
                  rw [k1]
                  refine ⟨c4, 0, rfl, k3, ?_⟩
                  rw [if_pos (by omega)]
                  exact k2
                · rw [if_neg (show ¬ iv (((s.1 + j : Nat) : Int) - (s.1 : Nat)) = iv 6 by rw [iv_eq (by omega) (by omega)]; omega)]
                  simp (disch := omega) only [iv_add, iv_lt, iv_nat, if_neg, Int.toNat_natCast, hcell]
                  have hsn : (letT tp n s.1).take (j + 1) = (letT tp n s.1).take j ++ [tp (s.1 + j) - 96] := by
                    have hjl : j < lenT tp n s.1 := by omega
                    rw [take_succ_getD (by unfold letT; rw [List.length_map, runT_len]; exact hjl)]
                    congr 2
                    unfold letT
                    rw [List.getD_eq_getElem?_getD, List.getElem?_map, runT_at hjl]
                    rfl
                  have hF : FR c3 (am_ui c3 48 0 2 (iv (((s.1 + j : Nat) : Int) + 1))) := FR.ui _ _ (by omega)
                  obtain ⟨c4, v, a1, a2, a3⟩ := ih (j + 1) (am_ui c3 48 0 2 (iv (((s.1 + j : Nat) : Int) + 1))) (by omega) (by rw [show s.1 + (j + 1) = s.1 + j + 1 by omega]; omega) (by omega) (FR_RT hF hT) (FR_CH hF hH) ⟨by rw [ui_ne _ _ _ _ (by omega)]; exact hf.1, by rw [ui_ne _ _ _ _ (by omega)]; exact hf.2⟩ (by rw [ui_self]; congr 1) (by rw [ui_ne _ _ _ _ (by omega)]; exact h27)
                  refine ⟨c4, v, ?_, hF.tr a2, a3⟩
                  rw [hsn, e27_snoc] at a1
                  rw [jv_of (by omega), show (27 : Int64) = jv 27 from rfl, show (97 : Int64) = jv 97 from rfl, show (1 : Int64) = jv 1 from rfl, jv_mul, jv_add, jv_sub, jv_add, show 27 * ((e27 ((letT tp n s.1).take j) : Nat) : Int) + (tp (s.1 + j) : Int) - 97 + 1 = ((27 * e27 ((letT tp n s.1).take j) + (tp (s.1 + j) - 96) : Nat) : Int) by omega]
                  exact a1
              · rw [if_neg e1] at hr
                rw [if_neg (show ¬ (97 ≤ (tp (s.1 + j) : Int) ∧ (tp (s.1 + j) : Int) ≤ 122) by omega), if_pos (show iv 0 = iv 0 from rfl)]
                obtain ⟨c4, v, a1, a2⟩ := hend j c3 (by omega) hj6 hT hH hf h2 h27
                rw [h2] at a1
                exact ⟨c4, v, a1, a2⟩
          have hF : FR c1 (am_ui c1 48 0 27 (iv (s.1 : Nat))) := FR.ui _ _ (by omega)
          obtain ⟨c4, v, a1, a2, a3⟩ := key (n - s.1) 0 (am_ui c1 48 0 27 (iv (s.1 : Nat))) (by omega) (by rw [hlen, Nat.zero_add, Nat.add_zero]) (by omega) (FR_RT hF g2.1) (FR_CH hF g2.2.2.1) ⟨by rw [ui_ne _ _ _ _ (by omega)]; exact g2.2.2.2.1.1, by rw [ui_ne _ _ _ _ (by omega)]; exact g2.2.2.2.1.2⟩ (by rw [ui_ne _ _ _ _ (by omega)]; exact h5) (ui_self _ _ _ _)
          refine ⟨c4, v, a1, (g3.tr hF).tr a2, ?_⟩
          by_cases h6 : 6 < lenT tp n s.1
          · rw [if_pos h6] at a3 ⊢
            exact a3
          · rw [if_neg h6] at a3 ⊢
            exact a3
    · have hns : sgnT tp n s ≠ 97 := fun q => hL (h97.mp q).1
      rw [if_neg hL, if_pos (show iv 0 = 0 from rfl), if_pos (Or.inl hns)]
      obtain ⟨c2, k1, k2, k3⟩ := hfail s.1 (by omega)
      rw [k1]
      exact ⟨c2, 0, rfl, g3.tr k3, k2⟩
end
