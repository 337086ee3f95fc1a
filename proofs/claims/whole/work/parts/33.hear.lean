/-! the class's Judge: words heard, rows, lines -/
section
variable {c : Nat → Nat → Nat → Int32} {l : Nat → Nat → Int64} {x y : Nat} {K : Ct} {F : Nat}
theorem e42 (h : JR c x K F) {s : Sj} (hs : WS K s) {w : Nat} (hw : w < nW K) (hk : knd K w ≤ 1) (d : Nat) : E (d + 1) 42 [vr 20 0, vi (iv (encS K s)), vi (iv w), vi (iv (knd K w))] (c, l, x, y) = some (some (vi (iv (encO K (if begL K F (patW K (s.2.2.2 ++ [w])) then some (s.1, s.2.1, s.2.2.1, s.2.2.2 ++ [w]) else none)))), c, l, x, y) := by
  have h1 := enc_bd h.2.1 hs
  have h2 := WS_bd h.2.1 hs
  have hw2 := h.2.1.1.1
  have hp := patW_len s.2.2.2 (fun w q => (hs.2.1 w q).2)
  have e1 : (iv (encS K s) >>> iv 15) &&& iv 15 = iv (patW K s.2.2.2) := by
    rw [iv_shr (by omega) (by omega)]
    show iv ((encS K s : Nat) / 32768) &&& iv 15 = _
    rw [iv_m15 (by omega)]; congr 1; unfold encS; omega
  rw [q_42, patW_snoc]
  simp only [iv_L]
  rw [e1]
  simp (disch := omega) only [iv_add, iv_sub, iv_mul, iv_neg, iv_lt, iv_le, iv_eq, iv_nat, iv_L, iv_L2, am_bi_v, am_bv_v, am_bl_v, if_pos, if_neg]
  by_cases hl : 2 * patW K s.2.2.2 + knd K w < 16
  · rw [if_pos (by omega)]
    rw [show (2 * ((patW K s.2.2.2 : Nat) : Int) + (knd K w : Nat)).toNat = 2 * patW K s.2.2.2 + knd K w by omega, (h.2.2.2.2 _ hl).2 (by omega)]
    cases hb : begL K F (2 * patW K s.2.2.2 + knd K w) with
    | false => rw [if_pos (by simp)]; rfl
    | true =>
      rw [if_neg (by rw [if_pos rfl, iv_eq] <;> omega), if_pos rfl]
      have e2 : ∀ (z : Nat) (n : Nat), z < 3 → n = encS K s + (2 * patW K s.2.2.2 + knd K w - patW K s.2.2.2) * 32768 + w * 32 ^ z → X (d + 1) 42 33 [none, some (vi (iv (encS K s))), some (vi (iv w)), none, some (vi (iv (patW K s.2.2.2))), some (vi (iv (2 * (patW K s.2.2.2 : Nat) + (knd K w : Nat)))), none] [vi (iv (z : Nat))] (c, l, x, y) = some (some (vi (iv n)), c, l, x, y) := by
        intro z n hz hn
        rw [q_42_33]
        simp only [iv_L, iv_L2]
        rw [iv_mul, iv_m31 (by omega), iv_sub, iv_shl (by omega) (by omega), iv_shl (by omega) (by omega), iv_add, iv_add]
        congr 4
        apply congrArg iv
        rcases (show z = 0 ∨ z = 1 ∨ z = 2 by omega) with rfl | rfl | rfl
        · show (encS K s : Int) + (2 * (patW K s.2.2.2 : Nat) + (knd K w : Nat) - (patW K s.2.2.2 : Nat)) * 32768 + w * 1 = n
          omega
        · show (encS K s : Int) + (2 * (patW K s.2.2.2 : Nat) + (knd K w : Nat) - (patW K s.2.2.2 : Nat)) * 32768 + w * 32 = n
          omega
        · show (encS K s : Int) + (2 * (patW K s.2.2.2 : Nat) + (knd K w : Nat) - (patW K s.2.2.2 : Nat)) * 32768 + w * 1024 = n
          omega
      have e3 : ∀ n : Nat, n = encS K (s.1, s.2.1, s.2.2.1, s.2.2.2 ++ [w]) → encO K (some (s.1, s.2.1, s.2.2.1, s.2.2.2 ++ [w])) = (n : Int) := fun n hn => by rw [hn]; rfl
      rcases s with ⟨dn, bi, tu, cur⟩
      dsimp only at *
      match cur, hs, hp, h1, h2, e1, hl, hb, e2, e3 with
      | [], hs, hp, h1, h2, e1, hl, hb, e2, e3 =>
        rw [if_pos (by show ((patW K [] : Nat) : Int) < 2; rw [patW_nil]; decide), e3 _ rfl]
        refine e2 0 _ (by decide) ?_
        unfold encS
        simp only [patW_nil, List.nil_append, patW_snoc, List.getD_cons_zero, List.getD_cons_succ, List.getD_nil]
        rw [show patW K [w] = 2 * 1 + knd K w from patW_snoc K [] w]
        omega
      | [a], hs, hp, h1, h2, e1, hl, hb, e2, e3 =>
        rw [List.length_singleton] at hp
        rw [if_neg (by omega), if_pos (by omega), e3 _ rfl]
        refine e2 1 _ (by decide) ?_
        unfold encS
        simp only [patW_snoc]
        simp only [List.singleton_append, List.getD_cons_zero, List.getD_cons_succ, List.getD_nil]
        omega
      | [a, b], hs, hp, h1, h2, e1, hl, hb, e2, e3 =>
        have hp : 4 ≤ patW K [a, b] := hp.1
        rw [if_neg (by omega), if_neg (by omega), e3 _ rfl]
        refine e2 2 _ (by decide) ?_
        unfold encS
        simp only [patW_snoc]
        simp only [List.cons_append, List.nil_append, List.getD_cons_zero, List.getD_cons_succ, List.getD_nil]
        omega
      | a :: b :: e :: ws, hs, hp, h1, h2, e1, hl, hb, e2, e3 =>
        exfalso
        have h5 : 2 ^ 3 ≤ 2 ^ (a :: b :: e :: ws).length := Nat.pow_le_pow_right (by decide) (by simp)
        omega
  · rw [if_neg (by omega)]
    have hb : begL K F (2 * patW K s.2.2.2 + knd K w) = false := by
      cases hq : begL K F (2 * patW K s.2.2.2 + knd K w) with
      | false => rfl
      | true => exact absurd (begL_lt h.2.1 hq) hl
    rw [hb]
    rfl
theorem xor_turn : ∀ t : Nat, t < 2 → ∀ m : Nat, m < 8 → ∀ b : Nat, b < 5 → iv ((32768 + 524288 * t + 1048576 * m + 8388608 * b : Nat)) ^^^ iv 524288 = iv ((32768 + 524288 * (1 - t) + 1048576 * m + 8388608 * b : Nat)) := by decide
theorem or_bind : ∀ m : Nat, m < 8 → ∀ b : Nat, b < 5 → (iv 32768 ||| (iv m <<< iv 20)) ||| (iv b <<< iv 23) = iv ((32768 + 1048576 * m + 8388608 * b : Nat)) := by decide
theorem fin_bits {s : Sj} {cs : List Cs} (k : Nat) : encO K ((some cs).map (fun cs => (cs, k, 0, []))) = (32768 + 1048576 * bitsC K cs + 8388608 * k : Nat) := by
  show ((encS K (cs, k, 0, []) : Nat) : Int) = _
  unfold encS
  simp only [List.getD_nil, patW_nil]
  all_goals omega
theorem e40 (h : JR c x K F) {o : Option Sj} (ho : WO K o) {w : Nat} (hw : w < nW K) (d : Nat) : E (d + 4) 40 [vr 20 0, vi (iv (encO K o)), vi (iv w)] (c, l, x, y) = some (some (vi (iv (encO K (hearO K F o w)))), c, l, x, y) := by
  have hw2 := h.2.1.1.1
  have hk := (h.2.1.1.2 w hw).2
  cases o with
  | none =>
    rw [q_40]
    simp (disch := omega) only [encO, iv_add, iv_sub, iv_mul, iv_neg, iv_lt, iv_le, iv_eq, iv_nat, iv_L, iv_L2, am_bi_v, am_bv_v, am_bl_v, if_pos, if_neg]
    rfl
  | some s =>
    have hs := ho s rfl
    have h1 := enc_bd h.2.1 hs
    have h2 := WS_bd h.2.1 hs
    rw [q_40]
    simp (disch := omega) only [encO, iv_add, iv_sub, iv_mul, iv_neg, iv_lt, iv_le, iv_eq, iv_nat, iv_L, iv_L2, am_bi_v, am_bv_v, am_bl_v, if_pos, if_neg, Int.toNat_natCast, (h.1.1.2 w hw).1]
    show _ = some (some (vi (iv (encO K (hearS K F s w)))), c, l, x, y)
    unfold hearS
    by_cases k5 : knd K w = 5
    · rw [if_pos (by omega), if_pos k5]; rfl
    rw [if_neg (by omega), if_neg k5]
    by_cases k2 : knd K w = 2
    · rw [if_pos (by omega), if_pos k2, e41 _ (by omega), enc_pat h.2.1 hs]
      simp (disch := omega) only [iv_add, iv_sub, iv_mul, iv_neg, iv_lt, iv_le, iv_eq, iv_nat, iv_L, iv_L2, am_bi_v, am_bv_v, am_bl_v, if_pos, if_neg]
      have hp := patW_len s.2.2.2 (fun w q => (hs.2.1 w q).2)
      rcases s with ⟨dn, bi, tu, cur⟩
      dsimp only at *
      cases cur with
      | nil =>
        rw [if_pos (by rw [patW_nil]; rfl), if_pos rfl]
        show _ = some (some (vi (iv ((encS K (dn, bi, tu + 1, []) : Nat)))), c, l, x, y)
        have e1 : encS K (dn, bi, tu, []) = 32768 + 524288 * (tu % 2) + 1048576 * bitsC K dn + 8388608 * bi := by
          unfold encS; simp only [List.getD_nil, patW_nil]; all_goals omega
        have e2 : encS K (dn, bi, tu + 1, []) = 32768 + 524288 * (1 - tu % 2) + 1048576 * bitsC K dn + 8388608 * bi := by
          unfold encS; simp only [List.getD_nil, patW_nil]; all_goals omega
        rw [e1, e2, xor_turn _ (by omega) _ (by omega) _ (by omega)]
      | cons a ws =>
        have h5 : 2 ^ 1 ≤ 2 ^ (a :: ws).length := Nat.pow_le_pow_right (by decide) (by simp)
        rw [if_neg (by omega), if_neg (by simp)]
        rfl
    rw [if_neg (by omega), if_neg k2]
    by_cases k01 : knd K w = 0 ∨ knd K w = 1
    · rw [if_pos k01]
      have key := e42 (l := l) (y := y) h hs hw (by omega) (d + 2)
      rcases k01 with k0 | k1
      · rw [if_pos (by omega), key]; rfl
      · rw [if_neg (by omega), if_pos (by omega), key]; rfl
    rw [if_neg (by omega), if_neg (by omega), if_neg k01, e43 h hs]
    simp only [am_bi_v]
    cases hf : finS K F s with
    | none => rfl
    | some cs =>
      have hb : bitsC K cs < 8 := nb_lt (allSo K 0 cs) (allSo K 1 cs) (allSo K 2 cs)
      rw [if_neg (by show ¬ iv ((bitsC K cs : Nat) : Int) = iv (-1); rw [iv_eq] <;> omega), fin_bits (s := s)]
      rw [show iv (bitsO K (some cs)) = iv ((bitsC K cs : Nat) : Int) from rfl, or_bind _ hb _ (by omega)]
end
