/-! the class: ways to say, counted and kept -/
/-- what is kept of the ways, where it is kept, is right -/
def ChC (c : Nat → Nat → Nat → Int32) (K : Ct) (F : Nat) : Prop :=
  (c 36 0 6 ≠ 0 → ∀ r, r = 1 ∨ r = 2 → c 37 0 r = iv (waysS K F r) ∧ ∀ s k, s < nB K → k < 4 → c 39 r (4 * s + k) = iv (saysS K F r s k)) ∧
  (∀ b, b < nB K → c 43 0 b ≠ 0 → ∀ r, r < 3 → c 41 r b = iv (hangS K F r b))
/-- counters as they stand -/
def GC (c : Nat → Nat → Nat → Int32) (n : Nat) (A : Nat → Nat) (B : Nat → Nat → Nat → Nat) : Prop := ∀ r, r = 1 ∨ r = 2 → c 37 0 r = iv (A r : Nat) ∧ ∀ s k, s < n → k < 4 → c 39 r (4 * s + k) = iv (B r s k : Nat)
/-- only counters change -/
def CW (c c2 : Nat → Nat → Nat → Int32) : Prop := ∀ k, k ≠ 37 → k ≠ 39 → k ≠ 42 → c2 k = c k
section
variable {c : Nat → Nat → Nat → Int32} {l : Nat → Nat → Int64} {x y : Nat} {K : Ct} {F : Nat} {row : List (Nat × Nat)} {tp : Nat → Nat} {n : Nat} {fa fp : Int} {rf : Nat → Int32} {sd : Int} {oc : List Nat}
theorem CW.tr {c1 c2 c3 : Nat → Nat → Nat → Int32} (h : CW c1 c2) (g : CW c2 c3) : CW c1 c3 := fun k h1 h2 h3 => (g k h1 h2 h3).trans (h k h1 h2 h3)
theorem CW.refl (c : Nat → Nat → Nat → Int32) : CW c c := fun _ _ _ _ => rfl
theorem CW_JR {c2 : Nat → Nat → Nat → Int32} (h : CW c c2) (g : JR c x K F) : JR c2 x K F := JR_fr g (fun k _ _ => h k (by omega) (by omega) (by omega))
theorem e4 (h : JR c x K F) {p : List Nat} (hp : p.length = nB K) (hp4 : ∀ k ∈ p, k < 4) (hc : ∀ j, j < nB K → c 42 0 j = iv (p.getD j 0 : Nat)) {A : Nat → Nat} {B : Nat → Nat → Nat → Nat} (hG : GC c (nB K) A B) {r0 : Nat} (hr0 : r0 < 3) (d : Nat) : ∃ c2 : Nat → Nat → Nat → Int32, E (d + 1) 4 [vr 36 0, vi (iv r0)] (c, l, x, y) = some (none, c2, l, x, y) ∧ CW c c2 ∧ c2 42 = c 42 ∧ GC c2 (nB K) (fun r => A r + (r0 == r).toNat) (fun r s k => B r s k + (r0 == r && p.getD s 0 == k).toNat) := by
  have hn := h.2.1.2.2.2.1.1
  have key : ∀ (m s0 : Nat) (c : Nat → Nat → Nat → Int32), s0 + m = nB K → (r0 = 1 ∨ r0 = 2) → JR c x K F → (∀ j, j < nB K → c 42 0 j = iv (p.getD j 0 : Nat)) → (∀ r, r = 1 ∨ r = 2 → ∀ s k, s < nB K → k < 4 → c 39 r (4 * s + k) = iv ((B r s k + (if s < s0 then (r0 == r && p.getD s 0 == k).toNat else 0) : Nat) : Int)) → ∃ c2 : Nat → Nat → Nat → Int32, X (d + 1) 4 13 [some (vr 36 0), some (vi (iv r0)), some (vi (iv (s0 : Nat)))] [] (c, l, x, y) = some (none, c2, l, x, y) ∧ (∀ k, k ≠ 39 → c2 k = c k) ∧ ∀ r, r = 1 ∨ r = 2 → ∀ s k, s < nB K → k < 4 → c2 39 r (4 * s + k) = iv ((B r s k + (r0 == r && p.getD s 0 == k).toNat : Nat) : Int) := by
    intro m
    induction m with
    | zero =>
      intro s0 c hs hr hJ h42 hB
      refine ⟨c, ?_, fun _ _ => rfl, ?_⟩
      · rw [q_4_13]
        simp (disch := omega) only [iv_add, iv_sub, iv_mul, iv_neg, iv_lt, iv_le, iv_eq, iv_nat, iv_L, iv_L2, am_bi_v, am_bv_v, am_bl_v, if_pos, if_neg, Int.toNat_natCast, Int.toNat_add, Int.toNat_mul, Int.reduceToNat, hJ.1.2.2.2.1.1]
      · intro r hr s k hs2 hk
        rw [hB r hr s k hs2 hk, if_pos (by omega)]
    | succ m ih =>
      intro s0 c hs hr hJ h42 hB
      have hk4 := hp4 _ (getD_mem (show s0 < p.length by omega))
      obtain ⟨c2, g1, g2, g3⟩ := ih (s0 + 1) (am_ui c 39 r0 (4 * s0 + p.getD s0 0) (iv ((B r0 s0 (p.getD s0 0) : Nat) + 1))) (by omega) hr (JR_fr hJ (fun k _ _ => ui_nk _ _ _ _ (by omega))) (fun j hj => by rw [ui_nk _ _ _ _ (by omega)]; exact h42 j hj) (by
        intro r hr2 s k hs2 hk
        by_cases e : r = r0 ∧ s = s0 ∧ k = p.getD s0 0
        · obtain ⟨rfl, rfl, rfl⟩ := e
          rw [ui_self, if_pos (by omega), show (r == r && p.getD s 0 == p.getD s 0) = true by simp]
          rfl
        · rw [ui_ne _ _ _ _ (by omega), hB r hr2 s k hs2 hk]
          by_cases e2 : s = s0
          · subst e2
            rw [if_neg (by omega), if_pos (by omega), show (r0 == r && p.getD s 0 == k) = false by
              simp only [Bool.and_eq_false_iff, beq_eq_false_iff_ne]
              omega]
            rfl
          · by_cases e3 : s < s0
            · rw [if_pos e3, if_pos (by omega)]
            · rw [if_neg e3, if_neg (by omega)])
      refine ⟨c2, ?_, fun k hk => (g2 k hk).trans (ui_nk _ _ _ _ hk), g3⟩
      have hcell := hB r0 hr s0 (p.getD s0 0) (by omega) hk4
      rw [if_neg (by omega), Nat.add_zero] at hcell
      rw [q_4_13]
      simp (disch := omega) only [iv_add, iv_sub, iv_mul, iv_neg, iv_lt, iv_le, iv_eq, iv_nat, iv_L, iv_L2, am_bi_v, am_bv_v, am_bl_v, if_pos, if_neg, Int.toNat_natCast, Int.toNat_add, Int.toNat_mul, Int.reduceToNat, hJ.1.2.2.2.1.1, h42 s0 (show s0 < nB K by omega)]
      rw [hcell, show ((s0 : Int) + 1) = ((s0 + 1 : Nat) : Int) by omega]
      simp only [iv_add]
      exact g1
  rw [q_4]
  by_cases e0 : r0 = 0
  · subst e0
    refine ⟨c, rfl, CW.refl c, rfl, ?_⟩
    intro r hr
    have h1 := hG r hr
    have hz : ((0 : Nat) == r) = false := by simp only [beq_eq_false_iff_ne]; omega
    refine ⟨?_, fun s k hs hk => ?_⟩
    · show c 37 0 r = iv ((A r + ((0 : Nat) == r).toNat : Nat) : Int)
      rw [hz]; exact h1.1
    · show c 39 r (4 * s + k) = iv ((B r s k + ((0 : Nat) == r && p.getD s 0 == k).toNat : Nat) : Int)
      rw [hz]; exact h1.2 s k hs hk
  · have hr : r0 = 1 ∨ r0 = 2 := by omega
    obtain ⟨c2, g1, g2, g3⟩ := key (nB K) 0 (am_ui c 37 0 r0 (iv ((A r0 : Nat) + 1))) (Nat.zero_add _) hr (JR_fr h (fun k _ _ => ui_nk _ _ _ _ (by omega))) (fun j hj => by rw [ui_nk _ _ _ _ (by omega)]; exact hc j hj) (by
      intro r hr2 s k hs hk
      rw [ui_nk _ _ _ _ (by omega), if_neg (Nat.not_lt_zero s)]
      exact (hG r hr2).2 s k hs hk)
    refine ⟨c2, ?_, fun k h1 h2 h3 => (g2 k h2).trans (ui_nk _ _ _ _ h1), (g2 42 (by omega)).trans (ui_nk _ _ _ _ (by omega)), ?_⟩
    · have h1 := (hG r0 hr).1
      simp (disch := omega) only [iv_add, iv_sub, iv_mul, iv_neg, iv_lt, iv_le, iv_eq, iv_nat, iv_L, iv_L2, am_bi_v, am_bv_v, am_bl_v, if_pos, if_neg, Int.toNat_natCast, Int.toNat_add, Int.toNat_mul, Int.reduceToNat, h1]
      exact g1
    · intro r hr2
      refine ⟨?_, g3 r hr2⟩
      rw [g2 37 (by omega)]
      show _ = iv ((A r + (r0 == r).toNat : Nat) : Int)
      by_cases e : r = r0
      · subst e; rw [ui_self, beq_self_eq_true]; rfl
      · rw [ui_ne _ _ _ _ (by omega), show (r0 == r) = false by simp only [beq_eq_false_iff_ne]; omega]
        exact (hG r hr2).1
theorem enc_ne (hK : VK K) {o : Option Sj} (ho : WO K o) (h : o ≠ none) : iv (encO K o) ≠ (-1 : Int32) := by
  have hb := encO_bd hK ho
  cases o with
  | none => exact absurd rfl h
  | some s =>
    have h0 : 0 ≤ encO K (some s) := Int.natCast_nonneg _
    rw [show (-1 : Int32) = iv (-1) from rfl]
    intro q
    rw [iv_eq (by omega) (by omega)] at q
    omega
/-- one after the other -/
theorem e3 : ∀ (m i f : Nat) (p pw : List Nat) (A : Nat → Nat) (B : Nat → Nat → Nat → Nat) (c : Nat → Nat → Nat → Int32), i + m = nB K → m + 6 ≤ f → p.length = i → (∀ k ∈ p, k < 4) → (∀ w ∈ pw, w < nW K) → JR c x K F → (∀ j, j < i → c 42 0 j = iv (p.getD j 0 : Nat)) → GC c (nB K) A B → ∃ c2 : Nat → Nat → Nat → Int32, E f 3 [vr 36 0, vi (iv (i : Nat)), vi (iv (encO K (hearA K F pw)))] (c, l, x, y) = some (none, c2, l, x, y) ∧ CW c c2 ∧ (∀ j, j < i → c2 42 0 j = c 42 0 j) ∧ GC c2 (nB K) (fun r => A r + cntC ((cts K).drop i) (fun t => rul K F (pw ++ rowF K i t) == r)) (fun r s k => B r s k + cntC ((cts K).drop i) (fun t => rul K F (pw ++ rowF K i t) == r && (p ++ t).getD s 0 == k)) := by
  intro m
  induction m with
  | zero =>
    intro i f p pw A B c hi hf hp hp4 hpw hJ h42 hG
    have hn := hJ.2.1.2.2.2.1.1
    have hWO := WO_hearA (F := F) hJ.2.1 pw hpw
    have hdr : (cts K).drop i = [] := List.drop_of_length_le (by rw [cts_len]; omega)
    obtain ⟨g, rfl⟩ : ∃ g, f = g + 5 := ⟨f - 5, by omega⟩
    have hrl := rul_lt K F pw
    have hgoal : ∀ c2 : Nat → Nat → Nat → Int32, GC c2 (nB K) (fun r => A r + (rul K F pw == r).toNat) (fun r s k => B r s k + (rul K F pw == r && p.getD s 0 == k).toNat) → GC c2 (nB K) (fun r => A r + cntC ((cts K).drop i) (fun t => rul K F (pw ++ rowF K i t) == r)) (fun r s k => B r s k + cntC ((cts K).drop i) (fun t => rul K F (pw ++ rowF K i t) == r && (p ++ t).getD s 0 == k)) := by
      intro c2 h
      rw [hdr]
      intro r hr
      refine ⟨?_, fun s k hs hk => ?_⟩
      · rw [(h r hr).1]
        show _ = iv ((A r + cntC [] _ : Nat) : Int)
        rw [cntC_nil, show rowF K i [] = [] from rfl, List.append_nil]
      · rw [(h r hr).2 s k hs hk]
        show _ = iv ((B r s k + cntC [] _ : Nat) : Int)
        rw [cntC_nil, show rowF K i [] = [] from rfl, List.append_nil, List.append_nil]
    cases ho : hearA K F pw with
    | none =>
      refine ⟨c, ?_, CW.refl c, fun _ _ => rfl, hgoal c ?_⟩
      · rw [q_3]; rfl
      · have hz : rul K F pw = 0 := by
          have := rul_dead (ws := []) ho
          rw [List.append_nil] at this; exact this
        intro r hr
        have hb : ((0 : Nat) == r) = false := by simp only [beq_eq_false_iff_ne]; omega
        refine ⟨?_, fun s k hs hk => ?_⟩
        · show _ = iv ((A r + (rul K F pw == r).toNat : Nat) : Int)
          rw [hz, hb]; exact (hG r hr).1
        · show _ = iv ((B r s k + (rul K F pw == r && _).toNat : Nat) : Int)
          rw [hz, hb]; exact (hG r hr).2 s k hs hk
    | some s =>
      obtain ⟨c2, k1, k2, k3, k4⟩ := e4 (l := l) (y := y) hJ (by omega) hp4 (fun j hj => h42 j (by omega)) hG hrl (g + 3)
      refine ⟨c2, ?_, k2, fun j _ => by rw [k3], hgoal c2 k4⟩
      rw [← ho]
      rw [q_3, e50 hJ hWO]
      have hne : encO K (hearA K F pw) ≠ -1 := by rw [ho]; show ((encS K s : Nat) : Int) ≠ -1; omega
      have hlt : iv (encO K (hearA K F pw)) ≠ (-1 : Int32) := enc_ne hJ.2.1 hWO (by rw [ho]; simp)
      rw [if_neg hlt]
      simp (disch := omega) only [iv_add, iv_sub, iv_mul, iv_neg, iv_lt, iv_le, iv_eq, iv_nat, iv_L, iv_L2, am_bi_v, am_bv_v, am_bl_v, if_pos, if_neg, Int.toNat_natCast, Int.toNat_add, Int.toNat_mul, Int.reduceToNat, hJ.1.2.2.2.1.1]
      show am_bv (E (g + 4) 4 [vr 36 0, vi (iv (rul K F pw : Nat))] (c, l, x, y)) _ = _
      rw [k1]
      rfl
  | succ m ih =>
    intro i f p pw A B c hi hf hp hp4 hpw hJ h42 hG
    have hn := hJ.2.1.2.2.2.1.1
    have hib : i < nB K := by omega
    have hv := hJ.2.1.2.2.2.1.2 i hib
    have hdr := cts_drop hib
    obtain ⟨g, rfl⟩ : ∃ g, f = g + 1 := ⟨f - 1, by omega⟩
    obtain ⟨g4, hg4⟩ : ∃ g4, g = g4 + 4 := ⟨g - 4, by omega⟩
    have hWO := WO_hearA (F := F) hJ.2.1 pw hpw
    have loop : ∀ (j k : Nat) (c : Nat → Nat → Nat → Int32), k + j = (sayK K i).length → JR c x K F → (∀ j, j < i → c 42 0 j = iv (p.getD j 0 : Nat)) → GC c (nB K) (fun r => A r + sumN k (fun k => cntC ((cts K).drop (i + 1)) (fun t => rul K F (pw ++ rowF K i (k :: t)) == r))) (fun r s q => B r s q + sumN k (fun k => cntC ((cts K).drop (i + 1)) (fun t => rul K F (pw ++ rowF K i (k :: t)) == r && (p ++ k :: t).getD s 0 == q))) → ∃ c2 : Nat → Nat → Nat → Int32, X (g + 1) 3 26 [some (vr 36 0), some (vi (iv (i : Nat))), some (vi (iv (encO K (hearA K F pw)))), some (vr 18 (i + x * 7)), some (vi (iv (k : Nat)))] [] (c, l, x, y) = some (none, c2, l, x, y) ∧ CW c c2 ∧ (∀ j, j < i → c2 42 0 j = c 42 0 j) ∧ GC c2 (nB K) (fun r => A r + sumN (sayK K i).length (fun k => cntC ((cts K).drop (i + 1)) (fun t => rul K F (pw ++ rowF K i (k :: t)) == r))) (fun r s q => B r s q + sumN (sayK K i).length (fun k => cntC ((cts K).drop (i + 1)) (fun t => rul K F (pw ++ rowF K i (k :: t)) == r && (p ++ k :: t).getD s 0 == q))) := by
      intro j
      induction j with
      | zero =>
        intro k c hk hJ h42 hG
        rw [show k = (sayK K i).length by omega] at hG ⊢
        refine ⟨c, ?_, CW.refl c, fun _ _ => rfl, hG⟩
        rw [q_3_26]
        simp (disch := omega) only [iv_add, iv_sub, iv_mul, iv_neg, iv_lt, iv_le, iv_eq, iv_nat, iv_L, iv_L2, am_bi_v, am_bv_v, am_bl_v, if_pos, if_neg, Int.toNat_natCast, Int.toNat_add, Int.toNat_mul, Int.reduceToNat, (hJ.1.2.2.2.1.2 i hib).1]
      | succ j ihj =>
        intro k c hk hJ h42 hG
        have hw := say_lt hJ.2.1 hib _ (getD_mem (show k < (sayK K i).length by omega))
        have hJ2 : JR (am_ui c 42 0 i (iv k)) x K F := JR_fr hJ (fun q _ _ => ui_nk _ _ _ _ (by omega))
        have h40 := e40 (l := l) (y := y) hJ2 hWO hw g4
        rw [← hg4, ← hearA_snoc] at h40
        obtain ⟨c2, k1, k2, k3, k4⟩ := ih (i + 1) g (p ++ [k]) (pw ++ [(sayK K i).getD k 0]) (fun r => A r + sumN k (fun k => cntC ((cts K).drop (i + 1)) (fun t => rul K F (pw ++ rowF K i (k :: t)) == r))) (fun r s q => B r s q + sumN k (fun k => cntC ((cts K).drop (i + 1)) (fun t => rul K F (pw ++ rowF K i (k :: t)) == r && (p ++ k :: t).getD s 0 == q))) (am_ui c 42 0 i (iv k)) (by omega) (by omega) (by rw [List.length_append, List.length_singleton, hp]) (by
          intro q hq
          rcases List.mem_append.mp hq with h | h
          · exact hp4 q h
          · rw [List.mem_singleton.mp h]; omega) (by
          intro q hq
          rcases List.mem_append.mp hq with h | h
          · exact hpw q h
          · rw [List.mem_singleton.mp h]; exact hw) hJ2 (by
          intro j hj
          by_cases e : j = i
          · subst e; rw [ui_self, ← hp, getD_app_new]
          · rw [ui_ne _ _ _ _ (by omega), getD_app_old (by omega)]; exact h42 j (by omega)) (by
          intro r hr
          refine ⟨?_, fun s q hs hq => ?_⟩
          · rw [ui_nk _ _ _ _ (by omega)]; exact (hG r hr).1
          · rw [ui_nk _ _ _ _ (by omega)]; exact (hG r hr).2 s q hs hq)
        have hCW : CW c c2 := fun q h1 h2 h3 => (k2 q h1 h2 h3).trans (ui_nk _ _ _ _ h3)
        have h42b : ∀ j, j < i → c2 42 0 j = c 42 0 j := fun j hj => by rw [k3 j (by omega), ui_ne _ _ _ _ (by omega)]
        obtain ⟨c3, j1, j2, j3, j4⟩ := ihj (k + 1) c2 (by omega) (CW_JR hCW hJ) (fun j hj => by rw [h42b j hj]; exact h42 j hj) (by
          intro r hr
          refine ⟨?_, fun s q hs hq => ?_⟩
          · rw [(k4 r hr).1]
            show iv ((A r + sumN k _ + _ : Nat) : Int) = iv ((A r + (sumN k _ + _) : Nat) : Int)
            rw [Nat.add_assoc]
            congr 4
            exact cntC_congr _ (fun t => by rw [List.append_assoc]; rfl)
          · rw [(k4 r hr).2 s q hs hq]
            show iv ((B r s q + sumN k _ + _ : Nat) : Int) = iv ((B r s q + (sumN k _ + _) : Nat) : Int)
            rw [Nat.add_assoc]
            congr 4
            exact cntC_congr _ (fun t => by rw [List.append_assoc, List.append_assoc]; rfl))
        refine ⟨c3, ?_, hCW.tr j2, fun j hj => by rw [j3 j hj, h42b j hj], j4⟩
        rw [q_3_26]
        simp (disch := omega) only [iv_add, iv_sub, iv_mul, iv_neg, iv_lt, iv_le, iv_eq, iv_nat, iv_L, iv_L2, am_bi_v, am_bv_v, am_bl_v, if_pos, if_neg, Int.toNat_natCast, Int.toNat_add, Int.toNat_mul, Int.reduceToNat, (hJ.1.2.2.2.1.2 i hib).1, (hJ.1.2.2.2.1.2 i hib).2.2.2.2 k (show k < (sayK K i).length by omega)]
        rw [h40]
        simp only [am_bi_v]
        rw [show ((i : Int) + 1) = ((i + 1 : Nat) : Int) by omega, k1]
        simp only [am_bv_v]
        exact j1
    rw [q_3]
    by_cases ho : hearA K F pw = none
    · refine ⟨c, ?_, CW.refl c, fun _ _ => rfl, ?_⟩
      · rw [ho]; rfl
      · intro r hr
        have hb : ((0 : Nat) == r) = false := by simp only [beq_eq_false_iff_ne]; omega
        refine ⟨?_, fun s k hs hk => ?_⟩
        · show _ = iv ((A r + cntC _ _ : Nat) : Int)
          rw [cntC_false _ (fun t => by rw [rul_dead ho, hb])]; exact (hG r hr).1
        · show _ = iv ((B r s k + cntC _ _ : Nat) : Int)
          rw [cntC_false _ (fun t => by rw [rul_dead ho, hb]; rfl)]; exact (hG r hr).2 s k hs hk
    · obtain ⟨c2, g1, g2, g3, g4⟩ := loop (sayK K i).length 0 c (Nat.zero_add _) hJ h42 hG
      refine ⟨c2, ?_, g2, g3, ?_⟩
      · rw [if_neg (enc_ne hJ.2.1 hWO ho)]
        simp (disch := omega) only [iv_add, iv_sub, iv_mul, iv_neg, iv_lt, iv_le, iv_eq, iv_nat, iv_L, iv_L2, am_bi_v, am_bv_v, am_bl_v, if_pos, if_neg, Int.toNat_natCast, Int.toNat_add, Int.toNat_mul, Int.reduceToNat, hJ.1.2.2.2.1.1]
        exact g1
      · rw [hdr]
        exact g4
end
