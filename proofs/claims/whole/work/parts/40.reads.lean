/-! the reference reads what is tried -/
/-- what is tried -/
def TR (c : Nat → Nat → Nat → Int32) (ws : List Nat) : Prop := c 48 0 44 = iv ws.length ∧ RowAt c 79 0 ws
def CB (n : Nat) (cl : Cs) : Prop := (0 ≤ cl.1 ∧ cl.1 < 32) ∧ (0 ≤ cl.2.1 ∧ cl.2.1 < 32) ∧ (-1 ≤ cl.2.2.1 ∧ cl.2.2.1 < 32) ∧ cl.2.2.2.1 ≤ n ∧ cl.2.2.2.2.1 < 6 ∧ cl.2.2.2.2.2 < 5
def BI (cs : List Cs) : Prop := ∀ k, k < cs.length → if k = 0 then (clN cs k).2.2.2.2.2 = 0 else ((clN cs k).2.2.2.2.2 = 3 ∨ (clN cs k).2.2.2.2.2 = 4)
def HI (K : Ct) (n : Nat) (s : Sj) : Prop := WS K s ∧ (∀ cl ∈ s.1, CB n cl) ∧ s.2.2.1 ≤ n ∧ s.1.length + s.2.2.2.length ≤ n ∧ BI s.1
section
variable {c : Nat → Nat → Nat → Int32} {l : Nat → Nat → Int64} {x y : Nat} {K : Ct} {F : Nat}
theorem CB_mono {n m : Nat} {cl : Cs} (h : CB n cl) (hm : n ≤ m) : CB m cl := ⟨h.1, h.2.1, h.2.2.1, by have := h.2.2.2.1; omega, h.2.2.2.2⟩
theorem BI_snoc {cs : List Cs} {cl : Cs} (h : BI cs) (hb : if cs = [] then cl.2.2.2.2.2 = 0 else (cl.2.2.2.2.2 = 3 ∨ cl.2.2.2.2.2 = 4)) : BI (cs ++ [cl]) := by
  intro k hk
  rw [List.length_append, List.length_singleton] at hk
  by_cases e : k = cs.length
  · subst e
    rw [clN_new]
    by_cases e2 : cs = []
    · subst e2
      rw [if_pos rfl] at hb
      rw [if_pos (show ([] : List Cs).length = 0 from rfl)]; exact hb
    · rw [if_neg e2] at hb
      rw [if_neg (by rw [List.length_eq_zero_iff]; exact e2)]; exact hb
  · rw [clN_old _ (by omega)]
    exact h k (by omega)
theorem fin_HI (hK : VK K) {n : Nat} {s : Sj} {cs : List Cs} (h : HI K n s) (hf : finS K F s = some cs) : (∀ cl ∈ cs, CB n cl) ∧ cs.length ≤ n ∧ cs ≠ [] ∧ BI cs := by
  unfold finS at hf
  cases hg : fitL K F (patW K s.2.2.2) with
  | none => rw [hg] at hf; cases hf
  | some i =>
    rw [hg] at hf
    cases hf
    obtain ⟨hi, -, -⟩ := fitL_some hg
    have hp := fitL_lt hK hg
    have hn := hK.2.1.1
    have b0 := slotAt_bd hK h.1 (lnK K i) 0
    have b1 := slotAt_bd hK h.1 (lnK K i) 1
    have b2 := slotAt_bd hK h.1 (lnK K i) 2
    have hsl := hK.2.1.2 i hi
    have n0 : ∀ sl ∈ slotLists, sl.idxOf? 0 ≠ none ∧ sl.idxOf? 1 ≠ none := by decide
    have m0 : 0 ≤ slotAt (lnK K i) 0 s.2.2.2 := by
      unfold slotAt
      cases hq : (lnK K i).idxOf? 0 with
      | none => exact absurd hq (n0 _ hsl).1
      | some k => exact Int.natCast_nonneg _
    have m1 : 0 ≤ slotAt (lnK K i) 1 s.2.2.2 := by
      unfold slotAt
      cases hq : (lnK K i).idxOf? 1 with
      | none => exact absurd hq (n0 _ hsl).2
      | some k => exact Int.natCast_nonneg _
    have hcur : s.2.2.2 ≠ [] := by
      intro q
      rw [q, patW_nil] at hp
      omega
    have hlen : 1 ≤ s.2.2.2.length := List.length_pos_iff.mpr hcur
    have hws := h.1.2.2
    refine ⟨?_, ?_, by simp, BI_snoc h.2.2.2.2 ?_⟩
    · intro cl hcl
      rcases List.mem_append.mp hcl with q | q
      · exact h.2.1 cl q
      · rw [List.mem_singleton.mp q]
        exact ⟨⟨m0, b0.2⟩, ⟨m1, b1.2⟩, b2, h.2.2.1, by show i < 6; omega, by show s.2.1 < 5; omega⟩
    · rw [List.length_append, List.length_singleton]
      have := h.2.2.2.1
      omega
    · show if s.1 = [] then s.2.1 = 0 else _
      by_cases e : s.1 = []
      · rw [if_pos e]
        rcases hws with q | q
        · exact q.2
        · exact absurd e q.1
      · rw [if_neg e]
        rcases hws with q | q
        · exact absurd q.1 e
        · exact q.2
theorem hear_HI (hK : VK K) {n : Nat} {s t : Sj} {w : Nat} (hw : w < nW K) (h : HI K n s) (ht : hearS K F s w = some t) : HI K (n + 1) t := by
  have hws := WS_hear hK hw h.1 ht
  unfold hearS at ht
  split at ht
  · cases ht
    exact ⟨hws, fun cl q => CB_mono (h.2.1 cl q) (Nat.le_succ _), Nat.le_succ_of_le h.2.2.1, Nat.le_succ_of_le h.2.2.2.1, h.2.2.2.2⟩
  split at ht
  · split at ht
    · rename_i hc
      cases ht
      have h3 := h.2.2.1
      have h4 := h.2.2.2.1
      exact ⟨hws, fun cl q => CB_mono (h.2.1 cl q) (Nat.le_succ _), by show s.2.2.1 + 1 ≤ n + 1; omega, by show s.1.length + 0 ≤ n + 1; omega, h.2.2.2.2⟩
    · cases ht
  split at ht
  · split at ht
    · cases ht
      have h3 := h.2.2.1
      have h4 := h.2.2.2.1
      exact ⟨hws, fun cl q => CB_mono (h.2.1 cl q) (Nat.le_succ _), by show s.2.2.1 ≤ n + 1; omega, by show s.1.length + (s.2.2.2 ++ [w]).length ≤ n + 1; rw [List.length_append, List.length_singleton]; omega, h.2.2.2.2⟩
    · cases ht
  · cases hf : finS K F s with
    | none => rw [hf] at ht; cases ht
    | some cs =>
      rw [hf] at ht
      cases ht
      obtain ⟨g1, g2, g3, g4⟩ := fin_HI hK h hf
      exact ⟨hws, fun cl q => CB_mono (g1 cl q) (Nat.le_succ _), Nat.zero_le _, by show cs.length + 0 ≤ n + 1; omega, g4⟩
theorem fold_HI (hK : VK K) : ∀ (ws : List Nat) (n : Nat) (s : Sj) (t : Sj), (∀ w ∈ ws, w < nW K) → HI K n s → ws.foldl (hearO K F) (some s) = some t → HI K (n + ws.length) t
  | [], n, s, t, _, h, ht => by cases ht; exact h
  | w :: ws, n, s, t, hw, h, ht => by
    rw [List.foldl_cons] at ht
    change ws.foldl (hearO K F) (hearS K F s w) = some t at ht
    cases hs : hearS K F s w with
    | none => rw [hs, fold_none] at ht; cases ht
    | some s2 =>
      rw [hs] at ht
      have := fold_HI hK ws (n + 1) s2 t (fun v hv => hw v (List.mem_cons_of_mem _ hv)) (hear_HI hK (hw w List.mem_cons_self) h hs) ht
      rw [List.length_cons, show n + (ws.length + 1) = n + 1 + ws.length by omega]
      exact this
theorem HI_start (K : Ct) : HI K 0 startS := ⟨WS_start K, fun cl q => (by cases q), Nat.le_refl _, Nat.le_refl _, fun k hk => absurd hk (Nat.not_lt_zero _)⟩
theorem mean_HI (hK : VK K) {ws : List Nat} (hw : ∀ w ∈ ws, w < nW K) {cs : List Cs} (h : meanO K F (hearA K F ws) = some cs) : (∀ cl ∈ cs, CB ws.length cl) ∧ cs.length ≤ ws.length ∧ cs ≠ [] ∧ BI cs := by
  cases hs : hearA K F ws with
  | none => rw [hs] at h; cases h
  | some t =>
    rw [hs] at h
    have := fold_HI hK ws 0 startS t hw (HI_start K) hs
    rw [Nat.zero_add] at this
    exact fin_HI hK this h
theorem plP_append : ∀ (a b : List Nat) (i : Nat), plP K (a ++ b) i = plP K a i ++ plP K b (i + a.length)
  | [], b, i => rfl
  | w :: a, b, i => by
    have ih := plP_append a b (i + 1)
    rw [List.cons_append, plP, plP, ih, List.length_cons, show i + 1 + a.length = i + (a.length + 1) by omega]
    split <;> rfl
theorem plP_len : ∀ (a : List Nat) (i : Nat), (plP K a i).length ≤ a.length
  | [], _ => Nat.le_refl _
  | w :: a, i => by
    have ih := plP_len a (i + 1)
    rw [plP]
    split
    · rw [List.length_cons]; omega
    · rw [List.length_cons, List.length_cons]; omega
theorem plP_mem : ∀ (a : List Nat) (i : Nat), ∀ w ∈ (plP K a i).map (·.1), w ∈ a ∧ knd K w ≠ 5
  | [], _, w, h => by cases h
  | v :: a, i, w, h => by
    rw [plP] at h
    split at h
    · have := plP_mem a (i + 1) w h
      exact ⟨List.mem_cons_of_mem _ this.1, this.2⟩
    · rename_i k5
      rw [List.map_cons] at h
      rcases List.mem_cons.mp h with q | q
      · rw [q]; exact ⟨List.mem_cons_self, k5⟩
      · have := plP_mem a (i + 1) w q
        exact ⟨List.mem_cons_of_mem _ this.1, this.2⟩
theorem plP_pos : ∀ (a : List Nat) (i : Nat), ∀ p ∈ (plP K a i).map (·.2), p < i + a.length
  | [], _, p, h => by cases h
  | v :: a, i, p, h => by
    rw [plP] at h
    rw [List.length_cons]
    split at h
    · have := plP_pos a (i + 1) p h; omega
    · rw [List.map_cons] at h
      rcases List.mem_cons.mp h with q | q
      · rw [q]; show i < _; omega
      · have := plP_pos a (i + 1) p q; omega
theorem take_succ_getD {ws : List Nat} {i : Nat} (h : i < ws.length) : ws.take (i + 1) = ws.take i ++ [ws.getD i 0] := by
  rw [List.take_succ_eq_append_getElem h, List.getD_eq_getElem?_getD, List.getElem?_eq_getElem h]
  rfl
theorem getD_app_old {a : List Nat} {v k : Nat} (h : k < a.length) : (a ++ [v]).getD k 0 = a.getD k 0 := by
  rw [List.getD_eq_getElem?_getD, List.getD_eq_getElem?_getD, List.getElem?_append_left h]
theorem getD_app_new (a : List Nat) (v : Nat) : (a ++ [v]).getD a.length 0 = v := by
  rw [List.getD_eq_getElem?_getD]
  simp
/-- the words that count are laid -/
theorem e204_5 {ws : List Nat} (hw : ∀ w ∈ ws, w < nW K) (hl : ws.length ≤ 16) (d : Nat) : ∀ (n i : Nat) (c : Nat → Nat → Nat → Int32), i + n = ws.length → RR c l K F → TR c ws → PlAt c (plP K (ws.take i) 0) → ∃ c2 : Nat → Nat → Nat → Int32, X (d + 2) 204 5 [some (vr 48 0), some (vi (iv (i : Nat))), none, none] [] (c, l, x, y) = X (d + 2) 204 51 [some (vr 48 0), some (vi (iv 0)), some (vi (iv 0)), none] [] (c2, l, x, y) ∧ Sx c c2 ∧ TR c2 ws ∧ PlAt c2 (plP K ws 0) ∧ c2 48 0 50 = iv 0 ∧ c2 48 0 48 = iv (-1) := by
  intro n
  induction n with
  | zero =>
    intro i c hi hR hT hP
    rw [List.take_of_length_le (by omega)] at hP
    refine ⟨am_ui (am_ui c 48 0 50 (iv 0)) 48 0 48 (iv (-1)), ?_, (Sx.ui _ _ _ _ (by omega)).tr (Sx.ui _ _ _ _ (by omega)), ?_, ?_, ?_, ?_⟩
    · rw [q_204_5, hT.1]
      simp (disch := omega) only [iv_add, iv_sub, iv_mul, iv_neg, iv_lt, iv_le, iv_eq, iv_nat, iv_L, iv_L2, am_bi_v, am_bv_v, am_bl_v, if_pos, if_neg, Int.toNat_natCast, Int.toNat_add, Int.toNat_mul, Int.reduceToNat]
    · refine ⟨?_, fun k hk => ?_⟩
      · rw [ui_ne _ _ _ _ (by omega), ui_ne _ _ _ _ (by omega)]; exact hT.1
      · rw [ui_nk _ _ _ _ (by decide), ui_nk _ _ _ _ (by decide)]; exact hT.2 k hk
    · exact PlAt_fr hP (by rw [ui_ne _ _ _ _ (by omega), ui_ne _ _ _ _ (by omega)]) (by rw [ui_nk _ _ _ _ (by decide), ui_nk _ _ _ _ (by decide)]) (by rw [ui_nk _ _ _ _ (by decide), ui_nk _ _ _ _ (by decide)])
    · rw [ui_ne _ _ _ _ (by omega), ui_self]
    · rw [ui_self]
  | succ n ih =>
    intro i c hi hR hT hP
    have hil : i < ws.length := by omega
    have hm := hw _ (getD_mem hil)
    have hk := (hR.2.1.1.2 _ hm).2
    have hplen := plP_len (K := K) (ws.take i) 0
    have htl : (ws.take i).length = i := by rw [List.length_take]; omega
    have happ : plP K (ws.take (i + 1)) 0 = plP K (ws.take i) 0 ++ (if knd K (ws.getD i 0) = 5 then [] else [(ws.getD i 0, i)]) := by
      rw [take_succ_getD hil, plP_append, htl, Nat.zero_add]
      rw [plP]
      rfl
    rw [q_204_5, hT.1]
    simp (disch := omega) only [iv_add, iv_sub, iv_mul, iv_neg, iv_lt, iv_le, iv_eq, iv_nat, iv_L, iv_L2, am_bi_v, am_bv_v, am_bl_v, if_pos, if_neg, Int.toNat_natCast, Int.toNat_add, Int.toNat_mul, Int.reduceToNat, hT.2 i hil, e184 hR hm, hP.1]
    rw [show ((i : Int) + 1) = ((i + 1 : Nat) : Int) by omega]
    by_cases k5 : knd K (ws.getD i 0) = 5
    · rw [if_pos (by omega)]
      rw [if_pos k5, List.append_nil] at happ
      exact ih (i + 1) c (by omega) hR hT (by rw [happ]; exact hP)
    · rw [if_neg (by omega)]
      rw [if_neg k5] at happ
      obtain ⟨c2, g1, g2, g3⟩ := ih (i + 1) (am_ui (am_ui (am_ui c 80 0 (plP K (ws.take i) 0).length (iv (ws.getD i 0 : Nat))) 81 0 (plP K (ws.take i) 0).length (iv i)) 48 0 47 (iv (((plP K (ws.take i) 0).length : Int) + 1))) (by omega) (Sx_RR (((Sx.ui _ _ _ _ (by omega)).tr (Sx.ui _ _ _ _ (by omega))).tr (Sx.ui _ _ _ _ (by omega))) hR) ⟨by rw [ui_ne _ _ _ _ (by omega), ui_ne _ _ _ _ (by omega), ui_ne _ _ _ _ (by omega)]; exact hT.1, fun k hk => by rw [ui_nk _ _ _ _ (by decide), ui_nk _ _ _ _ (by decide), ui_nk _ _ _ _ (by decide)]; exact hT.2 k hk⟩ (by
        rw [happ]
        refine ⟨?_, fun k hk => ?_⟩
        · rw [ui_self, List.length_append]; rfl
        · rw [List.length_append, List.length_singleton] at hk
          rw [List.map_append, List.map_append]
          have l1 : ((plP K (ws.take i) 0).map (·.1)).length = (plP K (ws.take i) 0).length := List.length_map ..
          have l2 : ((plP K (ws.take i) 0).map (·.2)).length = (plP K (ws.take i) 0).length := List.length_map ..
          simp only [List.map_cons, List.map_nil]
          constructor
          · rw [ui_ne _ _ _ _ (by omega), ui_ne _ _ _ _ (by omega)]
            by_cases e : k = (plP K (ws.take i) 0).length
            · subst e
              rw [ui_self]
              have := getD_app_new ((plP K (ws.take i) 0).map (·.1)) (ws.getD i 0)
              rw [l1] at this
              rw [this]
            · rw [ui_ne _ _ _ _ (by omega), getD_app_old (by omega)]
              exact (hP.2 k (by omega)).1
          · rw [ui_ne _ _ _ _ (by omega)]
            by_cases e : k = (plP K (ws.take i) 0).length
            · subst e
              rw [ui_self]
              have := getD_app_new ((plP K (ws.take i) 0).map (·.2)) i
              rw [l2] at this
              rw [this]
            · rw [ui_ne _ _ _ _ (by omega), ui_ne _ _ _ _ (by omega), getD_app_old (by omega)]
              exact (hP.2 k (by omega)).2)
      exact ⟨c2, g1, (((Sx.ui _ _ _ _ (by omega)).tr (Sx.ui _ _ _ _ (by omega))).tr (Sx.ui _ _ _ _ (by omega))).tr g2, g3⟩
end
