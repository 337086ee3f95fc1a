/-! the class: words and numbers of the tape, words of the draft -/
def e5p (s : List Nat) (i : Nat) : Nat := (List.range i).foldl (fun v i => 32 * v + s.getD i 0) 0
def numP (R : List Nat) (i : Nat) : Nat := (R.take i).foldl (fun v b => 10 * v + (b - 48)) 0
section
variable {c : Nat → Nat → Nat → Int32} {l : Nat → Nat → Int64} {x y : Nat} {tp : Nat → Nat} {n : Nat} {z : Tz} {K : Ct}
theorem e5p_succ (s : List Nat) (i : Nat) : e5p s (i + 1) = 32 * e5p s i + s.getD i 0 := by
  unfold e5p
  rw [List.range_succ, List.foldl_append]
  rfl
theorem e5p_lt {s : List Nat} (h : ∀ i, s.getD i 0 < 32) : ∀ i, e5p s i < 32 ^ i
  | 0 => by show 0 < 1; omega
  | i + 1 => by
    have := e5p_lt h i
    have h1 := h i
    rw [e5p_succ, Nat.pow_succ]
    omega
theorem or5 {v a : Nat} (hv : v < 33554432) (ha : a < 32) : (iv (v : Int) <<< iv 5) ||| iv (a : Int) = iv ((32 * v + a : Nat) : Int) := by
  rw [iv_shl (by omega) (by omega)]
  have e : ((2 ^ (5 : Int).toNat : Nat) : Int) = 32 := rfl
  rw [e, iv_or (by omega) (by omega)]
  have h1 : ((v : Int) * 32).toNat = 2 ^ 5 * v := by
    have : (2 : Nat) ^ 5 = 32 := rfl
    omega
  rw [h1, Int.toNat_natCast, ← Nat.two_pow_add_eq_or_of_lt (i := 5) ha v]
theorem sp_getD {s : List Nat} (h : isSp s) (i : Nat) : s.getD i 0 < 32 := by
  by_cases hi : i < s.length
  · have := h.2.2 _ (getD_mem hi); omega
  · rw [List.getD_eq_getElem?_getD, List.getElem?_eq_none (by omega)]; decide
theorem e96 (h : CZ c tp n z) (hn : n ≤ 1600) (ht : ∀ i, tp i < 256) (d : Nat) : ∃ c2 : Nat → Nat → Nat → Int32, E (d + 2) 96 [vr 1 0] (c, l, x, y) = some (some (vi (iv (match (spZ tp n z).1 with
    | some s => (e5 s : Int)
    | none => 0))), c2, l, x, y) ∧ CZ c2 tp n (spZ tp n z).2 ∧ FZ c c2 := by
  have hs := sgn_bd (n := n) ht z.1
  have hp := h.2.1
  have hln := lenT_le (tp := tp) hp
  have hf := flt_iff h
  have h94 := e94 (l := l) (x := x) (y := y) h hn ht (t := 0) (by decide) d
  have hfail : ∀ q : Nat, q ≤ 1600 → ∃ c2 : Nat → Nat → Nat → Int32, E (d + 1) 95 [vr 1 0, vi (iv 1), vi (iv (q : Nat))] (c, l, x, y) = some (none, c2, l, x, y) ∧ CZ c2 tp n (flZ 1 q z) ∧ FZ c c2 := fun q hq => e95 (l := l) (x := x) (y := y) h (k := 1) (p := q) (by omega) hq d
  unfold spZ
  rw [q_96]
  simp only [iv_L, iv_L2, hf, h.2.2.1.2.2, h.2.2.1.1]
  have h97 : (iv (sgnT tp n z.1) = iv 97) = (sgnT tp n z.1 = 97) := iv_eq (by omega) (by omega)
  simp only [h97]
  by_cases h1 : z.2 = none
  · rw [if_pos h1, if_neg (show ¬ z.2.isSome = true by rw [h1]; decide)]
    by_cases h2 : sgnT tp n z.1 = 97
    · rw [if_pos h2, h94]
      simp only [am_bi_v]
      cases ho : lixT tp n 0 z.1 with
      | some o =>
        have hlt : o < 18 := by
          unfold lixT at ho
          rw [if_pos h2] at ho
          exact lixW_lt ho
        rw [if_neg (show ¬ iv (oi (some o)) = -iv 1 by show ¬ iv (o : Int) = -iv 1; rw [iv_neg, iv_eq (by omega) (by omega)]; omega), if_pos (show sgnT tp n z.1 ≠ 97 ∨ (some o).isSome = true from Or.inr rfl)]
        obtain ⟨c2, g1, g2, g3⟩ := hfail z.1.1 (by omega)
        refine ⟨c2, ?_, g2, g3⟩
        rw [h.2.2.1.1, g1]
        rfl
      | none =>
        rw [if_pos (show iv (oi none) = -iv 1 from rfl), if_neg (show ¬ (sgnT tp n z.1 ≠ 97 ∨ (none : Option Nat).isSome = true) by rw [h2]; simp), h.2.2.1.2.1]
        simp (disch := omega) only [iv_lt]
        by_cases h6 : 6 < lenT tp n z.1.1
        · rw [if_pos (by omega), if_pos h6]
          obtain ⟨c2, g1, g2, g3⟩ := hfail (z.1.1 + 6) (by omega)
          refine ⟨c2, ?_, g2, g3⟩
          rw [h.2.2.1.1, iv_add, show (z.1.1 : Int) + 6 = ((z.1.1 + 6 : Nat) : Int) by omega, g1]
          rfl
        · rw [if_neg (by omega), if_neg h6]
          have hsp := letT_ok h2 h6
          have hg := sp_getD hsp
          refine ⟨c, ?_, h, FZ.refl c⟩
          have key : ∀ (m i : Nat), i + m = 6 → X (d + 2) 96 38 [some (vr 1 0), some (vi (iv (e5p (letT tp n z.1.1) i : Nat))), some (vi (iv (i : Nat)))] [] (c, l, x, y) = some (some (vi (iv (e5 (letT tp n z.1.1) : Nat))), c, l, x, y) := by
            intro m
            induction m with
            | zero =>
              intro i hi
              have : i = 6 := by omega
              subst this
              rw [q_96_38]
              simp (disch := omega) only [iv_add, iv_sub, iv_mul, iv_neg, iv_lt, iv_le, iv_eq, iv_nat, iv_L, iv_L2, am_bi_v, am_bv_v, am_bl_v, if_pos, if_neg, Int.toNat_natCast, Int.toNat_add, Int.toNat_mul, Int.reduceToNat]
              rfl
            | succ m ih =>
              intro i hi
              have hlt := e5p_lt hg i
              have hb : e5p (letT tp n z.1.1) i < 33554432 := Nat.lt_of_lt_of_le hlt (Nat.pow_le_pow_right (by decide) (show i ≤ 5 by omega) : 32 ^ i ≤ 32 ^ 5)
              rw [q_96_38, h.2.2.1.2.1, h.2.2.1.1]
              simp (disch := omega) only [iv_L, iv_add, iv_lt, if_pos, if_neg]
              have hlen : (letT tp n z.1.1).length = lenT tp n z.1.1 := by unfold letT; rw [List.length_map, runT_len]
              have hnx : X (d + 2) 96 38 [some (vr 1 0), some (vi (iv ((32 * e5p (letT tp n z.1.1) i + (letT tp n z.1.1).getD i 0 : Nat) : Int))), some (vi (iv ((i : Int) + 1)))] [] (c, l, x, y) = some (some (vi (iv (e5 (letT tp n z.1.1) : Nat))), c, l, x, y) := by
                have := ih (i + 1) (by omega)
                rw [e5p_succ] at this
                exact this
              by_cases hil : i < lenT tp n z.1.1
              · have hch := runT_let h2 _ (List.mem_of_getElem? (runT_at (tp := tp) (n := n) hil))
                have hcell := h.1.2 (z.1.1 + i) (by omega)
                have hsb : sb (tp (z.1.1 + i)) = (tp (z.1.1 + i) : Int) := by unfold sb; rw [if_pos (by omega)]
                rw [hsb] at hcell
                have hgd : (letT tp n z.1.1).getD i 0 = tp (z.1.1 + i) - 96 := by
                  unfold letT
                  rw [List.getD_eq_getElem?_getD, List.getElem?_map, runT_at hil]
                  rfl
                rw [if_pos (by omega)]
                simp (disch := omega) only [iv_add, iv_sub, iv_mul, iv_neg, iv_lt, iv_le, iv_eq, iv_nat, iv_L, iv_L2, am_bi_v, am_bv_v, am_bl_v, if_pos, if_neg, Int.toNat_natCast, Int.toNat_add, Int.toNat_mul, Int.reduceToNat]
                rw [hcell]
                simp only [iv_L2, iv_sub, iv_add]
                rw [show ((tp (z.1.1 + i) : Int) - 97 + 1) = ((tp (z.1.1 + i) - 96 : Nat) : Int) by omega, or5 hb (by omega)]
                rw [hgd] at hnx
                exact hnx
              · have hgd : (letT tp n z.1.1).getD i 0 = 0 := by rw [List.getD_eq_getElem?_getD, List.getElem?_eq_none (by omega)]; rfl
                rw [if_neg (by omega), show iv 0 = iv ((0 : Nat) : Int) from rfl, or5 hb (by omega)]
                rw [hgd] at hnx
                exact hnx
          exact key 6 0 (by omega)
    · rw [if_neg h2, if_pos (Or.inl h2)]
      obtain ⟨c2, g1, g2, g3⟩ := hfail z.1.1 (by omega)
      refine ⟨c2, ?_, g2, g3⟩
      rw [g1]
      rfl
  · have h1' : z.2.isSome = true := by
      cases q : z.2 with
      | none => exact absurd q h1
      | some f => rfl
    rw [if_neg h1, if_pos h1']
    exact ⟨c, rfl, h, FZ.refl c⟩
theorem numP_lt {R : List Nat} (h : ∀ b ∈ R, 48 ≤ b ∧ b ≤ 57) : ∀ i, i ≤ R.length → numP R i < 10 ^ i
  | 0, _ => by show 0 < 1; omega
  | i + 1, hi => by
    have h1 := numP_lt h i (by omega)
    have h2 := h _ (getD_mem (show i < R.length by omega))
    have e : numP R (i + 1) = 10 * numP R i + (R.getD i 0 - 48) := by
      unfold numP
      rw [take_succ_getD (by omega), List.foldl_append]
      rfl
    rw [e, Nat.pow_succ]
    omega
theorem e97 (h : CZ c tp n z) (hn : n ≤ 1600) (ht : ∀ i, tp i < 256) {most : Nat} (hm : most < 10000) (d : Nat) : ∃ c2 : Nat → Nat → Nat → Int32, E (d + 3) 97 [vr 1 0, vi (iv (most : Nat))] (c, l, x, y) = some (some (vi (iv (oi (tnZ tp n most z).1))), c2, l, x, y) ∧ CZ c2 tp n (tnZ tp n most z).2 ∧ FZ c c2 := by
  have hs := sgn_bd (n := n) ht z.1
  have hp := h.2.1
  have hln := lenT_le (tp := tp) hp
  have hf := flt_iff h
  have hfail : ∀ k q : Nat, 1 ≤ k ∧ k ≤ 5 → q ≤ 1600 → ∃ c2 : Nat → Nat → Nat → Int32, E (d + 2) 95 [vr 1 0, vi (iv (k : Nat)), vi (iv (q : Nat))] (c, l, x, y) = some (none, c2, l, x, y) ∧ CZ c2 tp n (flZ k q z) ∧ FZ c c2 := fun k q hk hq => e95 (l := l) (x := x) (y := y) h (k := k) (p := q) hk hq (d + 1)
  unfold tnZ
  rw [q_97]
  simp only [iv_L, iv_L2, hf, h.2.2.1.2.2, h.2.2.1.1]
  have h48 : (iv (sgnT tp n z.1) = iv 48) = (sgnT tp n z.1 = 48) := iv_eq (by omega) (by omega)
  simp only [h48]
  by_cases h1 : z.2 = none
  · rw [if_pos h1, if_neg (show ¬ z.2.isSome = true by rw [h1]; decide)]
    by_cases h2 : sgnT tp n z.1 = 48
    · rw [if_pos h2, if_neg (show ¬ sgnT tp n z.1 ≠ 48 from fun q => q h2), h.2.2.1.2.1]
      simp (disch := omega) only [iv_lt]
      by_cases h4 : 4 < lenT tp n z.1.1
      · rw [if_pos (by omega), if_pos h4]
        obtain ⟨c2, g1, g2, g3⟩ := hfail 1 (z.1.1 + 4) (by omega) (by omega)
        refine ⟨c2, ?_, g2, g3⟩
        have g1 : E (d + 2) 95 [vr 1 0, vi (iv 1), vi (iv ((z.1.1 + 4 : Nat) : Int))] (c, l, x, y) = _ := g1
        rw [iv_add, show (z.1.1 : Int) + 4 = ((z.1.1 + 4 : Nat) : Int) by omega, g1]
        rfl
      · rw [if_neg (by omega), if_neg h4]
        have hdig := runT_dig h2
        have hlen := runT_len (tp := tp) (n := n) z.1.1
        have hval : valT tp n z.1.1 = numP (runT tp n z.1.1) (lenT tp n z.1.1) := by
          unfold valT numP
          rw [List.take_of_length_le (by omega)]
        have hbd : ∀ i, i ≤ lenT tp n z.1.1 → numP (runT tp n z.1.1) i < 10000 := fun i hi => Nat.lt_of_lt_of_le (numP_lt hdig i (by omega)) (Nat.pow_le_pow_right (by decide) (show i ≤ 4 by omega) : 10 ^ i ≤ 10 ^ 4)
        have key : ∀ (m i : Nat), i + m = lenT tp n z.1.1 → ∃ c2 : Nat → Nat → Nat → Int32, X (d + 3) 97 33 [some (vr 1 0), some (vi (iv (most : Nat))), some (vi (iv (numP (runT tp n z.1.1) i : Nat))), some (vi (iv (i : Nat)))] [] (c, l, x, y) = some (some (vi (iv (oi (if most < valT tp n z.1.1 then (none, flZ 2 z.1.1 z) else (some (valT tp n z.1.1), avZ tp n z) : Option Nat × Tz).1))), c2, l, x, y) ∧ CZ c2 tp n (if most < valT tp n z.1.1 then (none, flZ 2 z.1.1 z) else (some (valT tp n z.1.1), avZ tp n z) : Option Nat × Tz).2 ∧ FZ c c2 := by
          intro m
          induction m with
          | zero =>
            intro i hi
            have hi : i = lenT tp n z.1.1 := by omega
            subst hi
            have hb := hbd _ (Nat.le_refl _)
            rw [← hval] at hb ⊢
            rw [q_97_33, h.2.2.1.2.1, h.2.2.1.1]
            simp (disch := omega) only [iv_L, iv_lt, if_neg]
            by_cases hv : most < valT tp n z.1.1
            · rw [if_pos (by omega), if_pos hv]
              obtain ⟨c2, g1, g2, g3⟩ := hfail 2 z.1.1 (by omega) (by omega)
              have g1 : E (d + 2) 95 [vr 1 0, vi (iv 2), vi (iv (z.1.1 : Nat))] (c, l, x, y) = _ := g1
              refine ⟨c2, ?_, g2, g3⟩
              rw [g1]
              rfl
            · rw [if_neg (by omega), if_neg hv]
              obtain ⟨c2, g1, g2, g3⟩ := e92 (l := l) (x := x) (y := y) h hn ht d
              refine ⟨c2, ?_, g2, g3⟩
              rw [g1]
              rfl
          | succ m ih =>
            intro i hi
            have hil : i < lenT tp n z.1.1 := by omega
            have hb := hbd i (by omega)
            have hch := hdig _ (List.mem_of_getElem? (runT_at (tp := tp) (n := n) hil))
            have hcell := h.1.2 (z.1.1 + i) (by omega)
            have hsb : sb (tp (z.1.1 + i)) = (tp (z.1.1 + i) : Int) := by unfold sb; rw [if_pos (by omega)]
            rw [hsb] at hcell
            have e : numP (runT tp n z.1.1) (i + 1) = 10 * numP (runT tp n z.1.1) i + (tp (z.1.1 + i) - 48) := by
              unfold numP
              rw [take_succ_getD (by omega), List.foldl_append, List.getD_eq_getElem?_getD, runT_at hil]
              rfl
            have ih1 := ih (i + 1) (by omega)
            rw [e] at ih1
            rw [q_97_33, h.2.2.1.2.1, h.2.2.1.1]
            simp (disch := omega) only [iv_add, iv_sub, iv_mul, iv_neg, iv_lt, iv_le, iv_eq, iv_nat, iv_L, iv_L2, am_bi_v, am_bv_v, am_bl_v, if_pos, if_neg, Int.toNat_natCast, Int.toNat_add, Int.toNat_mul, Int.reduceToNat]
            rw [hcell]
            simp only [iv_add, iv_sub]
            rw [show (10 * ((numP (runT tp n z.1.1) i : Nat) : Int) + (tp (z.1.1 + i) : Int) - 48) = ((10 * numP (runT tp n z.1.1) i + (tp (z.1.1 + i) - 48) : Nat) : Int) by omega]
            exact ih1
        exact key (lenT tp n z.1.1) 0 (by omega)
    · rw [if_neg h2, if_pos (show sgnT tp n z.1 ≠ 48 from h2)]
      obtain ⟨c2, g1, g2, g3⟩ := hfail 1 z.1.1 (by omega) (by omega)
      have g1 : E (d + 2) 95 [vr 1 0, vi (iv 1), vi (iv (z.1.1 : Nat))] (c, l, x, y) = _ := g1
      refine ⟨c2, ?_, g2, g3⟩
      rw [g1]
      rfl
  · have h1' : z.2.isSome = true := by
      cases q : z.2 with
      | none => exact absurd q h1
      | some f => rfl
    rw [if_neg h1, if_pos h1']
    exact ⟨c, rfl, h, FZ.refl c⟩
/-! words of the draft -/
theorem e5_inj {s t : List Nat} (hs : isSp s) (ht : isSp t) (h : e5 s = e5 t) : s = t := by
  have hg : ∀ k, k < 6 → s.getD k 0 = t.getD k 0 := fun k hk => by rw [← e5_at hs k hk, ← e5_at ht k hk, h]
  have hle : ∀ {s t : List Nat}, isSp s → isSp t → (∀ k, k < 6 → s.getD k 0 = t.getD k 0) → s.length ≤ t.length := by
    intro s t hs ht hg
    apply Classical.byContradiction
    intro hn
    have h1 := hg t.length (by have := hs.2.1; omega)
    have h2 := hs.2.2 _ (getD_mem (show t.length < s.length by omega))
    have h3 : t.getD t.length 0 = 0 := by rw [List.getD_eq_getElem?_getD, List.getElem?_eq_none (Nat.le_refl _)]; rfl
    omega
  have hl : s.length = t.length := Nat.le_antisymm (hle hs ht hg) (hle ht hs (fun k hk => (hg k hk).symm))
  apply List.ext_getElem hl
  intro i h1 h2
  have := hg i (by have := hs.2.1; omega)
  rw [List.getD_eq_getElem?_getD, List.getD_eq_getElem?_getD, List.getElem?_eq_getElem h1, List.getElem?_eq_getElem h2] at this
  exact this
theorem e5_eq {s t : List Nat} (hs : isSp s) (ht : isSp t) : (iv (e5 s : Nat) = iv (e5 t : Nat)) = (s = t) := by
  have h1 := e5_lt hs
  have h2 := e5_lt ht
  rw [iv_eq (by omega) (by omega)]
  apply propext
  constructor
  · intro h; exact e5_inj hs ht (by omega)
  · intro h; rw [h]
theorem e14 (h : CR c y K) (hK : VK K) {s : List Nat} (hs : isSp s) (d : Nat) : E (d + 1) 14 [vr 4 y, vi (iv (e5 s : Nat))] (c, l, x, y) = some (some (vi (iv (oi (fndW K s)))), c, l, x, y) := by
  have hn := hK.1.1
  rw [q_14]
  have key := lp_find (fun i : Nat => X (d + 1) 14 2 [some (vr 4 y), some (vi (iv (e5 s : Nat))), some (vi (iv (i : Nat)))] [] (c, l, x, y)) (nW K) (fun w => spK K w == s) (fun w => some (some (vi (iv (w : Nat))), c, l, x, y)) (some (some (vi (iv (-1))), c, l, x, y)) (by
    intro i hi
    have hcell := (h.1.2 i hi).2
    have hsp := (hK.1.2 i hi).1
    rw [q_14_2]
    simp (disch := omega) only [iv_add, iv_sub, iv_mul, iv_neg, iv_lt, iv_le, iv_eq, iv_nat, iv_L, iv_L2, am_bi_v, am_bv_v, am_bl_v, if_pos, if_neg, Int.toNat_natCast, Int.toNat_add, Int.toNat_mul, Int.reduceToNat, h.1.1, hcell]
    simp only [e5_eq hsp hs]
    by_cases e : spK K i = s
    · rw [if_pos e, if_pos (beq_iff_eq.mpr e)]
    · rw [if_neg e, if_neg (by rw [beq_iff_eq]; exact e), show (i : Int) + 1 = ((i + 1 : Nat) : Int) by omega]) (by
    rw [q_14_2]
    simp (disch := omega) only [iv_add, iv_sub, iv_mul, iv_neg, iv_lt, iv_le, iv_eq, iv_nat, iv_L, iv_L2, am_bi_v, am_bv_v, am_bl_v, if_pos, if_neg, Int.toNat_natCast, Int.toNat_add, Int.toNat_mul, Int.reduceToNat, h.1.1]
    all_goals rfl)
  refine key.trans ?_
  unfold fndW
  cases (List.range (nW K)).find? (fun w => spK K w == s) <;> rfl
theorem e13 (h : CR c y K) (hK : VK K) {s : List Nat} (hs : isSp s) (d : Nat) : E (d + 2) 13 [vr 4 y, vi (iv (e5 s : Nat))] (c, l, x, y) = some (some (vi (iv (if givB K s then 1 else 0))), c, l, x, y) := by
  have hn := hK.2.2.2.1.1
  rw [q_13]
  have key := lp_any (fun i : Nat => X (d + 2) 13 2 [some (vr 4 y), some (vi (iv (e5 s : Nat))), some (vi (iv (i : Nat)))] [] (c, l, x, y)) (nB K) (fun b => (bnK K b).1 == s) (some (some (vi (iv 1)), c, l, x, y)) (some (some (vi (iv (if (fndW K s).isSome then 1 else 0))), c, l, x, y)) (by
    intro i hi
    have hcell := (h.2.2.2.1.2 i hi).2.1
    have hsp := (hK.2.2.2.1.2 i hi).1
    rw [q_13_2]
    simp (disch := omega) only [iv_add, iv_sub, iv_mul, iv_neg, iv_lt, iv_le, iv_eq, iv_nat, iv_L, iv_L2, am_bi_v, am_bv_v, am_bl_v, if_pos, if_neg, Int.toNat_natCast, Int.toNat_add, Int.toNat_mul, Int.reduceToNat, h.2.2.2.1.1, hcell]
    simp only [e5_eq hsp hs]
    by_cases e : (bnK K i).1 = s
    · rw [if_pos e, if_pos (beq_iff_eq.mpr e)]
    · rw [if_neg e, if_neg (by rw [beq_iff_eq]; exact e), show (i : Int) + 1 = ((i + 1 : Nat) : Int) by omega]) (by
    rw [q_13_2, e14 h hK hs]
    simp (disch := omega) only [iv_add, iv_sub, iv_mul, iv_neg, iv_lt, iv_le, iv_eq, iv_nat, iv_L, iv_L2, am_bi_v, am_bv_v, am_bl_v, if_pos, if_neg, Int.toNat_natCast, Int.toNat_add, Int.toNat_mul, Int.reduceToNat, h.2.2.2.1.1]
    cases hf : fndW K s with
    | none => rw [if_pos (show iv (oi none) = iv (-1) from rfl)]; rfl
    | some w =>
      have hw := (fndW_some hf).1
      have h20 := hK.1.1
      rw [if_neg (show ¬ iv (oi (some w)) = iv (-1) by show ¬ iv (w : Int) = iv (-1); rw [iv_eq (by omega) (by omega)]; omega)]
      rfl)
  refine key.trans ?_
  unfold givB
  cases (List.range (nB K)).any (fun b => (bnK K b).1 == s) with
  | true => rfl
  | false => rfl
/-- room for one more: the first word is passed -/
theorem k27 (h : CZ c tp n z) (hn : n ≤ 1600) (ht : ∀ i, tp i < 256) {a m : Nat} (ha : a < 1000) (hm : m < 1000) (d : Nat) : ∃ c2 : Nat → Nat → Nat → Int32, E (d + 3) 27 [vr 3 0, vi (iv (a : Nat)), vi (iv (m : Nat))] (c, l, x, y) = some (some (vi (iv (if m ≤ a then 0 else 1))), c2, l, x, y) ∧ CZ c2 tp n (if m ≤ a then flZ 5 z.1.1 z else avZ tp n z) ∧ FZ c c2 := by
  have hp := h.2.1
  rw [q_27]
  simp (disch := omega) only [iv_lt]
  by_cases e : m ≤ a
  · rw [if_neg (by omega), if_pos e, if_pos e]
    obtain ⟨c2, g1, g2, g3⟩ := e95 (l := l) (x := x) (y := y) h (k := 5) (p := z.1.1) (by omega) (by omega) (d + 1)
    have g1 : E (d + 2) 95 [vr 1 0, vi (iv 5), vi (iv (z.1.1 : Nat))] (c, l, x, y) = _ := g1
    refine ⟨c2, ?_, g2, g3⟩
    rw [h.2.2.1.1, show (5 : Int32) = iv 5 from rfl, g1]
    rfl
  · rw [if_pos (by omega), if_neg e, if_neg e]
    obtain ⟨c2, g1, g2, g3⟩ := e92 (l := l) (x := x) (y := y) h hn ht d
    refine ⟨c2, ?_, g2, g3⟩
    rw [g1]
    rfl
theorem CR_FZ {c2 : Nat → Nat → Nat → Int32} {q : Nat} (h : FZ c c2) (g : CR c q K) : CR c2 q K := CR_fr g (fun k h1 h2 => h.1 k (by omega))
theorem e33 (h : CZ c tp n z) (hn : n ≤ 1600) (ht : ∀ i, tp i < 256) {own : Nat} (ho : own < 100) (d : Nat) : ∃ c2 : Nat → Nat → Nat → Int32, E (d + 3) 33 [vr 3 0, vi (iv (own : Nat))] (c, l, x, y) = some (none, c2, l, x, y) ∧ CZ c2 tp n (toZ tp n own z) ∧ FZ c c2 := by
  have hp := h.2.1
  have hf := flt_iff h
  have h94 := e94 (l := l) (x := x) (y := y) h hn ht (t := 0) (by decide) (d + 1)
  unfold toZ
  rw [q_33]
  simp only [iv_L, hf]
  by_cases h1 : z.2 = none
  · rw [if_pos h1, if_neg (show ¬ z.2.isSome = true by rw [h1]; decide), h94]
    simp only [am_bi_v]
    have hoi : (iv (oi (lixT tp n 0 z.1)) = iv (own : Nat)) = (lixT tp n 0 z.1 = some own) := by
      cases q : lixT tp n 0 z.1 with
      | none =>
        rw [show oi none = -1 from rfl, iv_eq (by omega) (by omega)]
        apply propext
        constructor
        · intro q; omega
        · intro q; cases q
      | some o =>
        have hlt : o < 18 := by
          unfold lixT at q
          split at q
          · exact lixW_lt q
          · cases q
        rw [show oi (some o) = (o : Int) from rfl, iv_eq (by omega) (by omega), Option.some_inj]
        apply propext
        omega
    simp only [hoi]
    by_cases h2 : lixT tp n 0 z.1 = some own
    · rw [if_pos h2, if_pos h2]
      obtain ⟨c2, g1, g2, g3⟩ := e92 (l := l) (x := x) (y := y) h hn ht d
      refine ⟨c2, ?_, g2, g3⟩
      rw [g1]
      rfl
    · rw [if_neg h2, if_neg h2, h.2.2.1.1]
      obtain ⟨c2, g1, g2, g3⟩ := e95 (l := l) (x := x) (y := y) h (k := 1) (p := z.1.1) (by omega) (by omega) (d + 1)
      have g1 : E (d + 2) 95 [vr 1 0, vi (iv 1), vi (iv (z.1.1 : Nat))] (c, l, x, y) = _ := g1
      refine ⟨c2, ?_, g2, g3⟩
      rw [g1]
      rfl
  · have h1' : z.2.isSome = true := by
      cases q : z.2 with
      | none => exact absurd q h1
      | some f => rfl
    rw [if_neg h1, if_pos h1']
    exact ⟨c, rfl, h, FZ.refl c⟩
theorem e28 (h : CZ c tp n z) (hn : n ≤ 1600) (ht : ∀ i, tp i < 256) (hC : CR c y K) (hK : VK K) (d : Nat) : ∃ (c2 : Nat → Nat → Nat → Int32) (v : Int32), E (d + 3) 28 [vr 3 0] (c, l, x, y) = some (some (vi v), c2, l, x, y) ∧ CZ c2 tp n (nsZ tp n K z).2 ∧ FZ c c2 ∧ ∀ s, (nsZ tp n K z).1 = some s → v = iv (e5 s : Nat) := by
  obtain ⟨c1, g1, g2, g3⟩ := e96 (l := l) (x := x) (y := y) h hn ht d
  have hf1 := flt_iff g2
  rw [nsZ_eq, q_28, g1]
  simp only [am_bi_v, iv_L, hf1]
  cases hs : (spZ tp n z).1 with
  | none =>
    have hn2 := spZ_none hs
    have hne : ¬ (spZ tp n z).2.2 = none := fun q => by rw [q] at hn2; cases hn2
    rw [if_neg hne, if_neg hne]
    exact ⟨c1, _, rfl, g2, g3, fun s q => by cases q⟩
  | some s =>
    have h0 := spZ_some hs
    rw [h0.2.1] at g2 ⊢
    have hp := g2.2.1
    rw [if_pos h0.2.2.1]
    dsimp only
    have h13 := e13 (l := l) (x := x) (y := y) (CR_FZ g3 hC) hK h0.1 d
    rw [h13]
    simp only [am_bi_v]
    cases hg : givB K s with
    | true =>
      rw [if_neg (by decide), if_pos rfl, g2.2.2.1.1]
      obtain ⟨c2, k1, k2, k3⟩ := e95 (l := l) (x := x) (y := y) g2 (k := 3) (p := z.1.1) (by omega) (by omega) (d + 1)
      have k1 : E (d + 2) 95 [vr 1 0, vi (iv 3), vi (iv (z.1.1 : Nat))] (c1, l, x, y) = _ := k1
      have hf2 := flt_iff k2
      rw [k1]
      simp only [am_bv_v, hf2]
      rw [if_neg (flZ_ns _ _ _)]
      exact ⟨c2, _, rfl, k2, g3.tr k3, fun s q => by cases q⟩
    | false =>
      rw [if_pos (show iv (if false = true then 1 else 0) = iv 0 from rfl)]
      have hf3 := flt_iff g2
      simp only [hf3]
      rw [if_pos h0.2.2.1, if_neg Bool.false_ne_true]
      obtain ⟨c2, k1, k2, k3⟩ := e92 (l := l) (x := x) (y := y) g2 hn ht d
      rw [k1]
      simp only [am_bv_v]
      exact ⟨c2, _, rfl, k2, g3.tr k3, fun s' q => by cases q; rfl⟩
theorem e31 (h : CZ c tp n z) (hn : n ≤ 1600) (ht : ∀ i, tp i < 256) (hC : CR c y K) (hK : VK K) {kd : Int} (hkd : -1 ≤ kd ∧ kd < 100) (d : Nat) : ∃ c2 : Nat → Nat → Nat → Int32, E (d + 3) 31 [vr 3 0, vi (iv kd)] (c, l, x, y) = some (some (vi (iv (oi (twZ tp n K kd z).1))), c2, l, x, y) ∧ CZ c2 tp n (twZ tp n K kd z).2 ∧ FZ c c2 := by
  obtain ⟨c1, g1, g2, g3⟩ := e96 (l := l) (x := x) (y := y) h hn ht d
  have hf1 := flt_iff g2
  rw [twZ_eq, q_31, g1]
  simp only [am_bi_v, iv_L, hf1]
  cases hs : (spZ tp n z).1 with
  | none =>
    have hn2 := spZ_none hs
    have hne : ¬ (spZ tp n z).2.2 = none := fun q => by rw [q] at hn2; cases hn2
    rw [if_neg hne]
    exact ⟨c1, rfl, g2, g3⟩
  | some s =>
    have h0 := spZ_some hs
    rw [h0.2.1] at g2 ⊢
    have hp := g2.2.1
    rw [if_pos h0.2.2.1]
    dsimp only
    have h14 := e14 (l := l) (x := x) (y := y) (CR_FZ g3 hC) hK h0.1 (d + 1)
    rw [h14]
    simp only [am_bi_v]
    obtain ⟨c2, k1, k2, k3⟩ := e95 (l := l) (x := x) (y := y) g2 (k := 3) (p := z.1.1) (by omega) (by omega) (d + 1)
    have k1 : E (d + 2) 95 [vr 1 0, vi (iv 3), vi (iv (z.1.1 : Nat))] (c1, l, x, y) = _ := k1
    obtain ⟨c3, j1, j2, j3⟩ := e92 (l := l) (x := x) (y := y) g2 hn ht d
    cases hfw : fndW K s with
    | none =>
      rw [if_pos (show iv (oi none) = -iv 1 from rfl), g2.2.2.1.1, k1]
      exact ⟨c2, rfl, k2, g3.tr k3⟩
    | some w =>
      have hw := (fndW_some hfw).1
      have h20 := hK.1.1
      have h5 := (hK.1.2 w hw).2
      have hcell := ((CR_FZ g3 hC).1.2 w hw).1
      rw [if_neg (show ¬ iv (oi (some w)) = -iv 1 by show ¬ iv (w : Int) = -iv 1; rw [iv_neg, iv_eq (by omega) (by omega)]; omega)]
      dsimp only
      by_cases e1 : kd = -1
      · rw [if_pos (by rw [e1]; rfl), if_pos (Or.inl e1), j1]
        exact ⟨c3, rfl, j2, g3.tr j3⟩
      · rw [if_neg (by rw [iv_neg, iv_eq (by omega) (by omega)]; omega)]
        show ∃ c2_1 : Nat → Nat → Nat → Int32, (if iv (w : Int) < iv 0 ∨ 20 ≤ (iv (w : Int)).toNatClampNeg then none else if c1 6 y (iv (w : Int)).toNatClampNeg = iv kd then _ else _) = _ ∧ _
        simp (disch := omega) only [iv_lt, iv_nat, if_neg, Int.toNat_natCast, hcell]
        by_cases e2 : (knd K w : Int) = kd
        · rw [if_pos (by rw [e2]), if_pos (Or.inr e2), j1]
          exact ⟨c3, rfl, j2, g3.tr j3⟩
        · rw [if_neg (by rw [iv_eq (by omega) (by omega)]; exact e2), if_neg (by omega), g2.2.2.1.1, k1]
          exact ⟨c2, rfl, k2, g3.tr k3⟩
end
