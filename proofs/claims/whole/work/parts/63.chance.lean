/-! by chance: ways to say, counted -/
def sumN : Nat → (Nat → Nat) → Nat
  | 0, _ => 0
  | n + 1, f => sumN n f + f n
/-- of the lists that take a number below each bound, how many are such -/
def cntC : List Nat → (List Nat → Bool) → Nat
  | [], p => if p [] then 1 else 0
  | a :: cs, p => sumN a (fun k => cntC cs (fun t => p (k :: t)))
def prodN : List Nat → Nat
  | [] => 1
  | a :: cs => a * prodN cs
def dgs : List Nat → Nat → List Nat
  | [], _ => []
  | a :: cs, w => w % a :: dgs cs (w / a)
/-- how much each witness has to say -/
def cts (K : Ct) : List Nat := (List.range (nB K)).map (fun b => (sayK K b).length)
/-- the row that comes of it when each witness from seat i says his k-th -/
def rowF (K : Ct) : Nat → List Nat → List Nat
  | _, [] => []
  | i, k :: t => (sayK K i).getD k 0 :: rowF K (i + 1) t
/-- the same with witness a away -/
def rowA (K : Ct) (a : Nat) : Nat → List Nat → List Nat
  | _, [] => []
  | i, k :: t => if i = a then rowA K a (i + 1) t else (sayK K i).getD k 0 :: rowA K a (i + 1) t
def waysS (K : Ct) (F r : Nat) : Nat := cntC (cts K) (fun t => rul K F (rowF K 0 t) == r)
def saysS (K : Ct) (F r b k : Nat) : Nat := cntC (cts K) (fun t => rul K F (rowF K 0 t) == r && t.getD b 0 == k)
def hangS (K : Ct) (F r b : Nat) : Nat := cntC (cts K) (fun t => rul K F (rowF K 0 t) == r && rul K F (rowA K b 0 t) != r)
def oddS (K : Ct) (F : Nat) (z : Int) : Int := if 0 ≤ z ∧ z ≤ 2 then ((1000 * waysS K F z.toNat / prodN (cts K) : Nat) : Int) else -1
def partS (K : Ct) (F : Nat) (z b k : Int) : Int := if (0 ≤ z ∧ z ≤ 2) ∧ (0 ≤ b ∧ b < nB K) ∧ 0 ≤ k ∧ k < (sayK K b.toNat).length then ((1000 * saysS K F z.toNat b.toNat k.toNat / waysS K F z.toNat : Nat) : Int) else -1
def innS (K : Ct) (F : Nat) (z b : Int) : Int := if (0 ≤ z ∧ z ≤ 2) ∧ 0 ≤ b ∧ b < nB K then (hangS K F z.toNat b.toNat : Int) else -1
section
variable {K : Ct} {F : Nat}
theorem sumN_congr {n : Nat} {f g : Nat → Nat} (h : ∀ k, k < n → f k = g k) : sumN n f = sumN n g := by
  induction n with
  | zero => rfl
  | succ n ih => unfold sumN; rw [ih (fun k hk => h k (by omega)), h n (by omega)]
theorem sumN_add (n : Nat) (f g : Nat → Nat) : sumN n (fun k => f k + g k) = sumN n f + sumN n g := by
  induction n with
  | zero => rfl
  | succ n ih => unfold sumN; dsimp only; rw [ih]; omega
theorem sumN_zero (n : Nat) : sumN n (fun _ => 0) = 0 := by
  induction n with
  | zero => rfl
  | succ n ih => unfold sumN; dsimp only; rw [ih]
theorem sumN_const (n v : Nat) : sumN n (fun _ => v) = n * v := by
  induction n with
  | zero => rw [Nat.zero_mul]; rfl
  | succ n ih => unfold sumN; rw [ih, Nat.succ_mul]
theorem sumN_mul (n v : Nat) (f : Nat → Nat) : sumN n (fun k => f k * v) = sumN n f * v := by
  induction n with
  | zero => rw [show sumN 0 f = 0 from rfl, Nat.zero_mul]; rfl
  | succ n ih => unfold sumN; rw [ih, Nat.add_mul]
theorem cntC_congr : ∀ (cs : List Nat) {p q : List Nat → Bool}, (∀ t, p t = q t) → cntC cs p = cntC cs q
  | [], p, q, h => by unfold cntC; rw [h]
  | a :: cs, p, q, h => sumN_congr (fun k _ => cntC_congr cs (fun t => h (k :: t)))
theorem cntC_false : ∀ (cs : List Nat) {p : List Nat → Bool}, (∀ t, p t = false) → cntC cs p = 0
  | [], p, h => by unfold cntC; rw [h]; rfl
  | a :: cs, p, h => by
    unfold cntC
    rw [sumN_congr (g := fun _ => 0) (fun k _ => cntC_false cs (fun t => h (k :: t))), sumN_zero]
theorem cntC_true : ∀ (cs : List Nat), cntC cs (fun _ => true) = prodN cs
  | [] => rfl
  | a :: cs => by
    unfold cntC prodN
    rw [sumN_congr (g := fun _ => prodN cs) (fun k _ => cntC_true cs), sumN_const]
theorem cntC_le : ∀ (cs : List Nat) (p : List Nat → Bool), cntC cs p ≤ prodN cs
  | [], p => by unfold cntC prodN; split <;> omega
  | a :: cs, p => by
    unfold cntC prodN
    have : ∀ n, sumN n (fun k => cntC cs (fun t => p (k :: t))) ≤ n * prodN cs := by
      intro n
      induction n with
      | zero => rw [Nat.zero_mul]; exact Nat.le_refl _
      | succ n ih =>
        unfold sumN
        have := cntC_le cs (fun t => p (n :: t))
        dsimp only; rw [Nat.succ_mul]; omega
    exact this a
theorem cntC_nil (p : List Nat → Bool) : cntC [] p = (p []).toNat := by
  unfold cntC
  cases p [] <;> rfl
/-- whatever is one of three -/
theorem cntC_three : ∀ (cs : List Nat) (q : List Nat → Bool) (f : List Nat → Nat), (∀ t, f t < 3) → cntC cs (fun t => f t == 0 && q t) + cntC cs (fun t => f t == 1 && q t) + cntC cs (fun t => f t == 2 && q t) = cntC cs q
  | [], q, f, h => by
    have := h []
    rw [cntC_nil, cntC_nil, cntC_nil, cntC_nil]
    rcases (show f [] = 0 ∨ f [] = 1 ∨ f [] = 2 by omega) with e | e | e <;> rw [e] <;> cases q [] <;> rfl
  | a :: cs, q, f, h => by
    unfold cntC
    rw [← sumN_add, ← sumN_add]
    exact sumN_congr (fun k _ => cntC_three cs (fun t => q (k :: t)) (fun t => f (k :: t)) (fun t => h (k :: t)))
theorem sumN_one (n k v : Nat) (h : k < n) : sumN n (fun j => if j = k then v else 0) = v := by
  induction n with
  | zero => omega
  | succ n ih =>
    unfold sumN
    dsimp only
    by_cases e : k = n
    · subst e
      rw [if_pos rfl, sumN_congr (g := fun _ => 0) (fun j hj => if_neg (by omega)), sumN_zero, Nat.zero_add]
    · rw [ih (by omega), if_neg (fun q => e q.symm), Nat.add_zero]
/-- one of them fixed -/
theorem cntC_fix : ∀ (cs : List Nat) (b k : Nat), b < cs.length → k < cs.getD b 0 → cntC cs (fun t => t.getD b 0 == k) * cs.getD b 0 = prodN cs
  | [], b, k, h, _ => absurd h (Nat.not_lt_zero b)
  | a :: cs, 0, k, _, hk => by
    unfold cntC prodN
    have hk2 : k < a := hk
    rw [sumN_congr (g := fun j => if j = k then prodN cs else 0), sumN_one _ _ _ hk2]
    · show prodN cs * a = _
      rw [Nat.mul_comm]
    · intro j hj
      by_cases e : j = k
      · rw [if_pos e, ← cntC_true]
        exact cntC_congr cs (fun t => by show (j == k) = true; simp [e])
      · rw [if_neg e]
        exact cntC_false cs (fun t => by show (j == k) = false; simp [e])
  | a :: cs, b + 1, k, h, hk => by
    have hb : b < cs.length := by rw [List.length_cons] at h; omega
    unfold cntC prodN
    rw [← sumN_mul]
    exact (sumN_congr (g := fun _ => prodN cs) (fun j _ => cntC_fix cs b k hb hk)).trans (sumN_const _ _)
theorem block (a P : Nat) (f : Nat → Bool) (ha : 0 < a) : (List.range (a * P)).countP f = sumN a (fun k => (List.range P).countP (fun q => f (a * q + k))) := by
  induction P with
  | zero =>
    rw [Nat.mul_zero]
    exact (sumN_zero a).symm
  | succ P ih =>
    have step : ∀ j, (List.range (a * P + j)).countP f = (List.range (a * P)).countP f + sumN j (fun k => if f (a * P + k) then 1 else 0) := by
      intro j
      induction j with
      | zero => rfl
      | succ j ih =>
        rw [← Nat.add_assoc, countP_succ, ih]
        show _ = _ + (sumN j (fun k => if f (a * P + k) then 1 else 0) + (if f (a * P + j) then 1 else 0))
        omega
    rw [Nat.mul_succ, step, ih, ← sumN_add]
    exact sumN_congr (fun k _ => (countP_succ _ P).symm)
/-- counted one by one, or seat by seat -/
theorem cntC_dgs : ∀ (cs : List Nat) (p : List Nat → Bool), (∀ a ∈ cs, 0 < a) → (List.range (prodN cs)).countP (fun w => p (dgs cs w)) = cntC cs p
  | [], p, _ => by
    show (List.range 1).countP _ = _
    unfold cntC
    rw [show List.range 1 = [0] from rfl, List.countP_cons, List.countP_nil, Nat.zero_add]
    rfl
  | a :: cs, p, h => by
    have ha := h a List.mem_cons_self
    unfold prodN cntC
    rw [block _ _ _ ha]
    refine sumN_congr (fun k hk => ?_)
    rw [← cntC_dgs cs (fun t => p (k :: t)) (fun b hb => h b (List.mem_cons_of_mem _ hb))]
    apply List.countP_congr
    intro q _
    show p ((a * q + k) % a :: dgs cs ((a * q + k) / a)) = true ↔ _
    rw [Nat.mul_add_mod, Nat.mod_eq_of_lt hk, Nat.mul_add_div ha, Nat.div_eq_of_lt hk, Nat.add_zero]
theorem cts_len (K : Ct) : (cts K).length = nB K := by unfold cts; rw [List.length_map, List.length_range]
theorem cts_at {b : Nat} (hb : b < nB K) : (cts K).getD b 0 = (sayK K b).length := by
  unfold cts
  rw [List.getD_eq_getElem?_getD, List.getElem?_map, List.getElem?_range hb]
  rfl
theorem cts_drop {i : Nat} (hi : i < nB K) : (cts K).drop i = (sayK K i).length :: (cts K).drop (i + 1) := by
  rw [drop_getD (by rw [cts_len]; exact hi), cts_at hi]
theorem cts_pos (hK : VK K) : ∀ a ∈ cts K, 0 < a ∧ a ≤ 4 := by
  intro a ha
  obtain ⟨b, hb, rfl⟩ := List.mem_map.mp ha
  have := hK.2.2.2.1.2 b (List.mem_range.mp hb)
  omega
theorem prod_bd : ∀ (cs : List Nat), (∀ a ∈ cs, 0 < a ∧ a ≤ 4) → 0 < prodN cs ∧ prodN cs ≤ 4 ^ cs.length
  | [], _ => ⟨by decide, by decide⟩
  | a :: cs, h => by
    have h1 := prod_bd cs (fun b hb => h b (List.mem_cons_of_mem _ hb))
    have h2 := h a List.mem_cons_self
    unfold prodN
    rw [List.length_cons, Nat.pow_succ, Nat.mul_comm (4 ^ _) 4]
    exact ⟨Nat.mul_pos h2.1 h1.1, Nat.mul_le_mul h2.2 h1.2⟩
theorem prod_cts (hK : VK K) : 0 < prodN (cts K) ∧ prodN (cts K) ≤ 16384 := by
  have h := prod_bd (cts K) (cts_pos hK)
  rw [cts_len] at h
  have h2 : 4 ^ nB K ≤ 4 ^ 7 := Nat.pow_le_pow_right (by decide) hK.2.2.2.1.1
  exact ⟨h.1, Nat.le_trans h.2 h2⟩
theorem ways_three (K : Ct) (F : Nat) : waysS K F 0 + waysS K F 1 + waysS K F 2 = prodN (cts K) := by
  have h := cntC_three (cts K) (fun _ => true) (fun t => rul K F (rowF K 0 t)) (fun t => rul_lt K F _)
  rw [cntC_true] at h
  simp only [Bool.and_true] at h
  exact h
theorem says_three {b k : Nat} (hb : b < nB K) (hk : k < (sayK K b).length) : (saysS K F 0 b k + saysS K F 1 b k + saysS K F 2 b k) * (sayK K b).length = prodN (cts K) := by
  have h := cntC_three (cts K) (fun t => t.getD b 0 == k) (fun t => rul K F (rowF K 0 t)) (fun t => rul_lt K F _)
  have h2 := cntC_fix (cts K) b k (by rw [cts_len]; exact hb) (by rw [cts_at hb]; exact hk)
  rw [cts_at hb, ← h] at h2
  exact h2
/-- a row that made no sense makes none -/
theorem rul_dead {pw ws : List Nat} (h : hearA K F pw = none) : rul K F (pw ++ ws) = 0 := by
  unfold rul hearA
  rw [List.foldl_append]
  unfold hearA at h
  rw [h, fold_none]
  rfl
end
