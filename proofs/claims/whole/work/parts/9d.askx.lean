/-! the class's ask: answers of sums -/
section
variable {c : Nat → Nat → Nat → Int32} {l : Nat → Nat → Int64} {x y : Nat} {v : Nat → Int}
theorem e76 {m o : Nat} (hm : m ≤ 8) (ho : 3 ≤ o ∧ o ≤ 5) (hv : ∀ i, -1000000 ≤ v i ∧ v i ≤ 1000000) (hc : ∀ i, i < m → c 45 0 i = iv (v i)) (d : Nat) : E (d + 1) 76 [vr 44 0, vi (iv (o : Nat)), vi (iv (m : Nat))] (c, l, x, y) = some (some (vl (jv (ansW o m v))), c, l, x, y) := by
  have key : ∀ (k i : Nat) (a b : Int), i + k = m → (i = 0 → m ≠ 0 → a = v 0 ∧ b = v 0) → (i ≠ 0 ∨ m = 0 → a = moW v i ∧ b = leW v i) → X (d + 1) 76 15 [some (vr 44 0), some (vi (iv (o : Nat))), some (vi (iv (m : Nat))), some (vl (jv (toW v i))), none, some (vi (iv a)), some (vi (iv b)), some (vi (iv (i : Nat)))] [] (c, l, x, y) = some (some (vl (jv (ansW o m v))), c, l, x, y) := by
    intro k
    induction k with
    | zero =>
      intro i a b hi h0 h1
      have hi : i = m := by omega
      subst hi
      have hab : a = moW v i ∧ b = leW v i := h1 (by omega)
      have b1 := moW_bd hv i
      have b2 := leW_bd hv i
      rw [q_76_15, if_neg (by rw [iv_lt (by omega) (by omega)]; omega), hab.1, hab.2]
      unfold ansW
      rcases (show o = 3 ∨ o = 4 ∨ o = 5 by omega) with rfl | rfl | rfl
      · rw [if_pos (show iv ((3 : Nat) : Int) = 3 from rfl), if_neg (by decide), if_neg (by decide), if_neg (by decide), if_pos rfl]
      · rw [if_neg (show ¬ iv ((4 : Nat) : Int) = 3 by decide), if_pos (show iv ((4 : Nat) : Int) = 4 from rfl), jv_of (by omega), if_neg (by decide), if_neg (by decide), if_neg (by decide), if_neg (by decide), if_pos rfl]
      · rw [if_neg (show ¬ iv ((5 : Nat) : Int) = 3 by decide), if_neg (show ¬ iv ((5 : Nat) : Int) = 4 by decide), jv_of (by omega), if_neg (by decide), if_neg (by decide), if_neg (by decide), if_neg (by decide), if_neg (by decide)]
    | succ k ih =>
      intro i a b hi h0 h1
      have hcell := hc i (by omega)
      have hvi := hv i
      have hv0 := hv 0
      have b1 := moW_bd hv i
      have b2 := leW_bd hv i
      have ha : (-1000000 ≤ a ∧ a ≤ 1000000) ∧ -1000000 ≤ b ∧ b ≤ 1000000 := by
        by_cases e : i = 0
        · obtain ⟨h2, h3⟩ := h0 e (by omega)
          omega
        · obtain ⟨h2, h3⟩ := h1 (Or.inl e)
          omega
      have hi1 : iv (i : Nat) + 1 = iv ((i + 1 : Nat) : Int) := by
        show iv (i : Nat) + iv 1 = _
        rw [iv_add]
        rfl
      have hlt : iv (i : Nat) < iv (m : Nat) := by rw [iv_lt (by omega) (by omega)]; omega
      have hlo : ¬ (iv (i : Nat) < 0 ∨ 8 ≤ (iv (i : Nat)).toNatClampNeg) := by
        have h0 : (iv (i : Nat) < 0) = ((i : Int) < 0) := iv_lt (b := 0) (by omega) (by omega)
        rw [h0, iv_nat (by omega)]
        omega
      have e1 : (iv a < iv (v i)) = (a < v i) := iv_lt (by omega) (by omega)
      have e2 : (iv (v i) < iv b) = (v i < b) := iv_lt (by omega) (by omega)
      have hmx : (if iv a < iv (v i) then iv (v i) else iv a) = iv (if a < v i then v i else a) := by
        simp only [e1]
        split <;> rfl
      have hmn : (if iv (v i) < iv b then iv (v i) else iv b) = iv (if v i < b then v i else b) := by
        simp only [e2]
        split <;> rfl
      have f3 : toW v (i + 1) = toW v i + v i := rfl
      have f1 : moW v (i + 1) = if i = 0 then v 0 else if moW v i < v i then v i else moW v i := rfl
      have f2 : leW v (i + 1) = if i = 0 then v 0 else if v i < leW v i then v i else leW v i := rfl
      have hg := ih (i + 1) (if a < v i then v i else a) (if v i < b then v i else b) (by omega) (fun q => absurd q (by omega)) (fun _ => by
        rw [f1, f2]
        by_cases e : i = 0
        · obtain ⟨h2, h3⟩ := h0 e (by omega)
          subst e
          rw [h2, h3, if_pos rfl, if_pos rfl, if_neg (by omega)]
          exact ⟨rfl, rfl⟩
        · obtain ⟨h2, h3⟩ := h1 (Or.inl e)
          rw [if_neg e, if_neg e, h2, h3]
          exact ⟨rfl, rfl⟩)
      rw [← hg, q_76_15, if_pos hlt, if_neg hlo, if_neg hlo, if_neg hlo, iv_nat (by omega), Int.toNat_natCast, hcell, hi1, hmx, hmn, jv_of (by omega), jv_add, ← f3]
  rw [q_76]
  by_cases e : m = 0
  · rw [if_pos (by rw [e]; rfl)]
    exact key m 0 0 0 (by omega) (fun _ h => absurd e h) (fun _ => ⟨rfl, rfl⟩)
  · have hc0 := hc 0 (by omega)
    rw [if_neg (by show ¬ iv (m : Nat) = iv 0; rw [iv_eq (by omega) (by omega)]; omega), hc0]
    exact key m 0 (v 0) (v 0) (by omega) (fun _ _ => ⟨rfl, rfl⟩) (fun h => absurd h (by omega))
end
