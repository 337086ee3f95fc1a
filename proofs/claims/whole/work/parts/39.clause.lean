/-! the reference: a clause from a place on -/
def clN (cs : List Cs) (k : Nat) : Cs := cs.getD k (0, 0, 0, 0, 0, 0)
/-- the clauses that the reference has laid -/
def ClsAt (c : Nat → Nat → Nat → Int32) (cs : List Cs) : Prop := c 48 0 50 = iv cs.length ∧ ∀ k, k < cs.length → c 82 0 (6 * k) = iv (clN cs k).1 ∧ c 82 0 (6 * k + 1) = iv (clN cs k).2.1 ∧ c 82 0 (6 * k + 2) = iv (clN cs k).2.2.1 ∧ c 82 0 (6 * k + 3) = iv (clN cs k).2.2.2.1 ∧ c 82 0 (6 * k + 4) = iv (clN cs k).2.2.2.2.1 ∧ c 82 0 (6 * k + 5) = iv (clN cs k).2.2.2.2.2
def R205 (K : Ct) (l : Nat → Nat → Int64) (x y p b : Nat) (dn : List Cs) (c : Nat → Nat → Nat → Int32) (o : Option (Nat × List Nat × Nat × List Nat)) (res : Option mr) : Prop := match o with
  | none => ∃ c2 : Nat → Nat → Nat → Int32, res = some (some (vi (iv (-1))), c2, l, x, y) ∧ ∀ k, k ≠ 83 → c2 k = c k
  | some (i, cur, t, _) => ∃ c2 : Nat → Nat → Nat → Int32, res = some (some (vi (iv ((p + t + cur.length : Nat) : Int))), c2, l, x, y) ∧ (∀ k, k ≠ 83 → k ≠ 82 → k ≠ 48 → c2 k = c k) ∧ (∀ i s, s ≠ 50 → c2 48 i s = c 48 i s) ∧ ClsAt c2 (dn ++ [mkCl K i cur t b])
section
variable {c : Nat → Nat → Nat → Int32} {l : Nat → Nat → Int64} {x y : Nat} {K : Ct} {F : Nat}
theorem ClsAt_fr {c2 : Nat → Nat → Nat → Int32} {cs : List Cs} (h : ClsAt c cs) (h0 : c2 48 0 50 = c 48 0 50) (h1 : c2 82 = c 82) : ClsAt c2 cs := by
  unfold ClsAt at h ⊢
  rw [h0, h1]
  exact h
theorem clN_old {cs : List Cs} {k : Nat} (cl : Cs) (h : k < cs.length) : clN (cs ++ [cl]) k = clN cs k := by
  unfold clN
  rw [List.getD_eq_getElem?_getD, List.getD_eq_getElem?_getD, List.getElem?_append_left h]
theorem clN_new (cs : List Cs) (cl : Cs) : clN (cs ++ [cl]) cs.length = cl := by
  unfold clN
  rw [List.getD_eq_getElem?_getD]
  simp
theorem clE_len : ∀ (r cur : List Nat) (t i : Nat) (cur2 : List Nat) (t2 : Nat) (rest : List Nat), clE K F cur t r = some (i, cur2, t2, rest) → t ≤ t2 ∧ cur.length ≤ cur2.length ∧ r.length = (t2 - t) + (cur2.length - cur.length) + rest.length ∧ rest = r.drop ((t2 - t) + (cur2.length - cur.length))
  | [], cur, t, i, cur2, t2, rest, h => by
    unfold clE at h
    cases hf : fitL K F (patW K cur) with
    | none => rw [hf] at h; cases h
    | some j => rw [hf] at h; cases h; exact ⟨Nat.le_refl _, Nat.le_refl _, by simp, by simp⟩
  | w :: r, cur, t, i, cur2, t2, rest, h => by
    unfold clE at h
    split at h
    · split at h
      · obtain ⟨h1, h2, h3, h4⟩ := clE_len r cur (t + 1) i cur2 t2 rest h
        refine ⟨by omega, h2, by rw [List.length_cons]; omega, ?_⟩
        rw [h4, show t2 - t + (cur2.length - cur.length) = (t2 - (t + 1) + (cur2.length - cur.length)) + 1 by omega]
        rfl
      · cases h
    split at h
    · obtain ⟨h1, h2, h3, h4⟩ := clE_len r (cur ++ [w]) t i cur2 t2 rest h
      rw [List.length_append, List.length_singleton] at h2 h3 h4
      refine ⟨h1, by omega, by rw [List.length_cons]; omega, ?_⟩
      rw [h4, show t2 - t + (cur2.length - cur.length) = (t2 - t + (cur2.length - (cur.length + 1))) + 1 by omega]
      rfl
    · cases hf : fitL K F (patW K cur) with
      | none => rw [hf] at h; cases h
      | some j => rw [hf] at h; cases h; exact ⟨Nat.le_refl _, Nat.le_refl _, by simp, by simp⟩
theorem slotAt_pre {sl r : List Nat} {a : Nat} (h : ∀ k, sl.idxOf? a = some k → k < (runW K r).length) : slotAt sl a r = slotAt sl a (runW K r) := by
  unfold slotAt
  cases hk : sl.idxOf? a with
  | none => rfl
  | some k =>
    have h1 := h k hk
    obtain ⟨q, hq⟩ := List.takeWhile_prefix (l := r) (fun w => decide (knd K w ≤ 1))
    have : r.getD k 0 = (runW K r).getD k 0 := by
      rw [List.getD_eq_getElem?_getD, List.getD_eq_getElem?_getD]
      conv => lhs; rw [← hq]
      rw [List.getElem?_append_left (show k < (r.takeWhile (fun w => decide (knd K w ≤ 1))).length from h1)]
      rfl
    simp only [this]
/-- the row of a clause is laid -/
theorem e205_46 {p b t i to : Nat} {cur : List Nat} {dn : List Cs} (hC : ClsAt c dn) (hdn : dn.length ≤ 15) (hp : p ≤ 16) (ht : t ≤ 16) (hto : to ≤ 16) (hi : i < 6) (hb : b ≤ 5) (h83 : ∀ a, a < 3 → c 83 0 a = iv (slotAt (lnK K i) a cur)) (d : Nat) : ∃ c2 : Nat → Nat → Nat → Int32, X (d + 1) 205 46 [some (vr 48 0), some (vi (iv p)), some (vi (iv b)), some (vi (iv ((p : Int) + t))), some (vi (iv i)), some (vi (iv to)), some (vi (iv (6 * (dn.length : Int)))), some (vi (iv 0))] [] (c, l, x, y) = some (some (vi (iv to)), c2, l, x, y) ∧ (∀ k, k ≠ 82 → k ≠ 48 → c2 k = c k) ∧ (∀ i s, s ≠ 50 → c2 48 i s = c 48 i s) ∧ ClsAt c2 (dn ++ [mkCl K i cur t b]) := by
  have step : ∀ (v : Nat) (c : Nat → Nat → Nat → Int32), v < 3 → X (d + 1) 205 46 [some (vr 48 0), some (vi (iv p)), some (vi (iv b)), some (vi (iv ((p : Int) + t))), some (vi (iv i)), some (vi (iv to)), some (vi (iv (6 * (dn.length : Int)))), some (vi (iv (v : Nat)))] [] (c, l, x, y) = X (d + 1) 205 46 [some (vr 48 0), some (vi (iv p)), some (vi (iv b)), some (vi (iv ((p : Int) + t))), some (vi (iv i)), some (vi (iv to)), some (vi (iv (6 * (dn.length : Int)))), some (vi (iv ((v + 1 : Nat) : Int)))] [] (am_ui c 82 0 (6 * dn.length + v) (c 83 0 v), l, x, y) := by
    intro v c hv
    rw [q_205_46]
    simp (disch := omega) only [iv_add, iv_sub, iv_mul, iv_neg, iv_lt, iv_le, iv_eq, iv_nat, iv_L, iv_L2, am_bi_v, am_bv_v, am_bl_v, if_pos, if_neg, Int.toNat_natCast, Int.toNat_add, Int.toNat_mul, Int.reduceToNat]
    rfl
  have e0 := step 0 c (by decide)
  rw [step 1 _ (by decide), step 2 _ (by decide)] at e0
  refine ⟨am_ui (am_ui (am_ui (am_ui (am_ui (am_ui (am_ui c 82 0 (6 * dn.length + 0) (c 83 0 0)) 82 0 (6 * dn.length + 1) (c 83 0 1)) 82 0 (6 * dn.length + 2) (c 83 0 2)) 82 0 (6 * dn.length + 3) (iv t)) 82 0 (6 * dn.length + 4) (iv i)) 82 0 (6 * dn.length + 5) (iv b)) 48 0 50 (iv ((dn.length : Int) + 1)), ?_, ?_, ?_, ?_⟩
  · refine Eq.trans e0 ?_
    rw [q_205_46]
    simp (disch := omega) only [iv_add, iv_sub, iv_mul, iv_neg, iv_lt, iv_le, iv_eq, iv_nat, iv_L, iv_L2, am_bi_v, am_bv_v, am_bl_v, if_pos, if_neg, Int.toNat_natCast, Int.toNat_add, Int.toNat_mul, Int.reduceToNat, hC.1, ui_ne]
    rw [show ((p : Int) + t - p) = t by omega]
  · intro k h1 h2
    simp only [ui_nk _ _ _ _ h1, ui_nk _ _ _ _ h2]
  · intro i s hs
    rw [ui_ne _ _ _ _ (Or.inr (Or.inr hs))]
    simp only [ui_nk _ _ _ _ (show (48 : Nat) ≠ 82 by decide)]
  · refine ⟨?_, ?_⟩
    · rw [ui_self, List.length_append, List.length_singleton]; rfl
    · intro k hk
      rw [List.length_append, List.length_singleton] at hk
      rw [ui_nk _ _ _ _ (show (82 : Nat) ≠ 48 by decide)]
      by_cases e : k = dn.length
      · subst e
        rw [clN_new]
        unfold mkCl
        refine ⟨?_, ?_, ?_, ?_, ?_, ?_⟩
        · rw [ui_ne _ _ _ _ (by omega), ui_ne _ _ _ _ (by omega), ui_ne _ _ _ _ (by omega), ui_ne _ _ _ _ (by omega), ui_ne _ _ _ _ (by omega)]
          exact (ui_self 82 0 (6 * dn.length) _).trans (h83 0 (by decide))
        · rw [ui_ne _ _ _ _ (by omega), ui_ne _ _ _ _ (by omega), ui_ne _ _ _ _ (by omega), ui_ne _ _ _ _ (by omega), ui_self]
          exact h83 1 (by decide)
        · rw [ui_ne _ _ _ _ (by omega), ui_ne _ _ _ _ (by omega), ui_ne _ _ _ _ (by omega), ui_self]
          exact h83 2 (by decide)
        · rw [ui_ne _ _ _ _ (by omega), ui_ne _ _ _ _ (by omega), ui_self]
        · rw [ui_ne _ _ _ _ (by omega), ui_self]
        · rw [ui_self]
      · have hk2 : k < dn.length := by omega
        rw [clN_old _ hk2]
        have ho := hC.2 k hk2
        have far : ∀ j, j < 6 * dn.length → (am_ui (am_ui (am_ui (am_ui (am_ui (am_ui c 82 0 (6 * dn.length + 0) (c 83 0 0)) 82 0 (6 * dn.length + 1) (c 83 0 1)) 82 0 (6 * dn.length + 2) (c 83 0 2)) 82 0 (6 * dn.length + 3) (iv t)) 82 0 (6 * dn.length + 4) (iv i)) 82 0 (6 * dn.length + 5) (iv b)) 82 0 j = c 82 0 j := by
          intro j hj
          rw [ui_ne _ _ _ _ (by omega), ui_ne _ _ _ _ (by omega), ui_ne _ _ _ _ (by omega), ui_ne _ _ _ _ (by omega), ui_ne _ _ _ _ (by omega), ui_ne _ _ _ _ (by omega)]
        rw [far _ (by omega), far _ (by omega), far _ (by omega), far _ (by omega), far _ (by omega), far _ (by omega)]
        exact ho
theorem e205 (h : RR c l K F) {PL : List (Nat × Nat)} (hP : PlAt c PL) (hw : ∀ w ∈ PL.map (·.1), w < nW K ∧ knd K w ≠ 5) (hl : PL.length ≤ 16) {dn : List Cs} (hC : ClsAt c dn) {p b : Nat} (hdn : dn.length ≤ p) (hp : p ≤ PL.length) (hb : b ≤ 5) (d : Nat) : R205 K l x y p b dn c (clE K F [] 0 ((PL.map (·.1)).drop p)) (E (d + 4) 205 [vr 48 0, vi (iv p), vi (iv b)] (c, l, x, y)) := by
  have hpl : (PL.map (·.1)).length = PL.length := List.length_map ..
  have hn20 := h.2.1.1.1
  have hn6 := h.2.1.2.1.1
  have hw1 : ∀ w ∈ PL.map (·.1), w < nW K := fun w q => (hw w q).1
  have lines : ∀ t, p + t ≤ PL.length → (∀ w r2, (PL.map (·.1)).drop (p + t) = w :: r2 → knd K w ≠ 2) → R205 K l x y p b dn c (clE K F [] t ((PL.map (·.1)).drop (p + t))) (X (d + 3 + 1) 205 18 [some (vr 48 0), some (vi (iv p)), some (vi (iv b)), some (vi (iv ((p + t : Nat) : Int))), some (vi (iv 0)), none, none, none] [] (c, l, x, y)) := by
    intro t ht hnt
    have hsub : ∀ w ∈ (PL.map (·.1)).drop (p + t), w ∈ PL.map (·.1) := fun w q => List.mem_of_mem_drop q
    rw [clE_run _ [] t (fun _ => hnt) (fun w q => (hw w (hsub w q)).2) (fun w q => (h.2.1.1.2 w (hw w (hsub w q)).1).2), List.nil_append]
    generalize hr : (PL.map (·.1)).drop (p + t) = r at *
    have loop : ∀ (n v : Nat) (c1 : Nat → Nat → Nat → Int32), v + n = nL K → (∀ k, k ≠ 83 → c1 k = c k) → match (List.range' v n).find? (fun i => F.testBit i && mtA K (lnK K i) r) with
        | none => ∃ c2 : Nat → Nat → Nat → Int32, X (d + 3 + 1) 205 18 [some (vr 48 0), some (vi (iv p)), some (vi (iv b)), some (vi (iv ((p + t : Nat) : Int))), some (vi (iv (v : Nat))), none, none, none] [] (c1, l, x, y) = some (some (vi (iv (-1))), c2, l, x, y) ∧ ∀ k, k ≠ 83 → c2 k = c k
        | some i => i < nL K ∧ ∃ c2 : Nat → Nat → Nat → Int32, (∀ k, k ≠ 83 → c2 k = c k) ∧ (∀ a, a < 3 → c2 83 0 a = iv (slotAt (lnK K i) a r)) ∧ X (d + 3 + 1) 205 18 [some (vr 48 0), some (vi (iv p)), some (vi (iv b)), some (vi (iv ((p + t : Nat) : Int))), some (vi (iv (v : Nat))), none, none, none] [] (c1, l, x, y) = X (d + 3 + 1) 205 46 [some (vr 48 0), some (vi (iv p)), some (vi (iv b)), some (vi (iv ((p + t : Nat) : Int))), some (vi (iv i)), some (vi (iv ((p + t + (lnK K i).length : Nat) : Int))), some (vi (iv (6 * (dn.length : Int)))), some (vi (iv 0))] [] (c2, l, x, y) := by
      intro n
      induction n with
      | zero =>
        intro v c1 hv hfr
        have hR1 : RR c1 l K F := Sx_RR ⟨fun k h1 h2 => hfr k (by omega), fun i s _ _ _ _ => by rw [hfr 48 (by decide)]⟩ h
        refine ⟨c1, ?_, hfr⟩
        rw [q_205_18, q_177, hR1.1.2.1.1]
        simp (disch := omega) only [iv_add, iv_sub, iv_mul, iv_neg, iv_lt, iv_le, iv_eq, iv_nat, iv_L, iv_L2, am_bi_v, am_bv_v, am_bl_v, if_pos, if_neg, Int.toNat_natCast, Int.toNat_add, Int.toNat_mul, Int.reduceToNat]
      | succ n ih =>
        intro v c1 hv hfr
        have hR1 : RR c1 l K F := Sx_RR ⟨fun k h1 h2 => hfr k (by omega), fun i s _ _ _ _ => by rw [hfr 48 (by decide)]⟩ h
        have hP1 : PlAt c1 PL := PlAt_fr hP (by rw [hfr 48 (by decide)]) (hfr 80 (by decide)) (hfr 81 (by decide))
        have hC1 : ClsAt c1 dn := ClsAt_fr hC (by rw [hfr 48 (by decide)]) (hfr 82 (by decide))
        have e1 : X (d + 3 + 1) 205 18 [some (vr 48 0), some (vi (iv p)), some (vi (iv b)), some (vi (iv ((p + t : Nat) : Int))), some (vi (iv (v : Nat))), none, none, none] [] (c1, l, x, y) = if F.testBit v = true then (am_bi (E (d + 3) 206 [vr 48 0, vi (iv (v : Nat)), vi (iv ((p + t : Nat) : Int))] (c1, l, x, y)) (fun r4 g3 => if r4 = (-1) then X (d + 3 + 1) 205 18 [some (vr 48 0), some (vi (iv p)), some (vi (iv b)), some (vi (iv ((p + t : Nat) : Int))), some (vi (iv ((v + 1 : Nat) : Int))), none, none, none] [] g3 else X (d + 3 + 1) 205 46 [some (vr 48 0), some (vi (iv p)), some (vi (iv b)), some (vi (iv ((p + t : Nat) : Int))), some (vi (iv (v : Nat))), some (vi r4), some (vi ((6 : Int32) * (g3.1 48 0 50))), some (vi 0)] [] g3)) else X (d + 3 + 1) 205 18 [some (vr 48 0), some (vi (iv p)), some (vi (iv b)), some (vi (iv ((p + t : Nat) : Int))), some (vi (iv ((v + 1 : Nat) : Int))), none, none, none] [] (c1, l, x, y) := by
          rw [q_205_18, q_177, hR1.1.2.1.1]
          have hm : (iv (F : Int) >>> (iv (v : Int) &&& (31 : Int32))) &&& 1 = iv (if F.testBit v then 1 else 0) := by
            simp only [iv_L, iv_L2]
            have hF := h.2.2.1
            rw [iv_m31 (by omega), show ((v : Int) % 32) = v by omega, iv_bit (by omega) (by omega), Int.toNat_natCast, Int.toNat_natCast]
          simp only [am_bi_v, hR1.2.2.2, hm]
          rw [if_pos (by rw [iv_lt] <;> omega), show ((1 : Int32)) = iv 1 from rfl, iv_add, show ((v : Int) + 1) = ((v + 1 : Nat) : Int) by omega]
          cases F.testBit v with
          | true => rw [if_neg (by decide), if_pos rfl]
          | false => rw [if_pos (by decide), if_neg (by decide)]
        rw [e1, List.range'_succ, List.find?_cons]
        by_cases ht : F.testBit v = true
        · rw [if_pos ht, ht, Bool.true_and]
          obtain ⟨c2, g1, g2, g3⟩ := e206 (x := x) (y := y) hR1 hP1 hw1 hl (i := v) (by omega) (p := p + t) (by omega) d
          have hfr2 : ∀ k, k ≠ 83 → c2 k = c k := fun k hk => (g2 k hk).trans (hfr k hk)
          rw [hr] at g1 g3
          rw [g1]
          cases hm : mtA K (lnK K v) r with
          | false =>
            have g1 := ih (v + 1) c2 (by omega) hfr2
            simp only [am_bi_v]
            rw [if_pos (by rw [if_neg (by decide)]; rfl)]
            exact g1
          | true =>
            refine ⟨by omega, c2, hfr2, g3 hm, ?_⟩
            have hsl := sl_len _ (h.2.1.2.1.2 v (by omega))
            simp only [am_bi_v, if_true]
            have hc50 : c2 48 0 50 = iv dn.length := by rw [hfr2 48 (by decide)]; exact hC.1
            rw [if_neg (by rw [show ((-1 : Int32)) = iv (-1) from rfl, iv_eq] <;> omega), hc50, show ((6 : Int32)) = iv 6 from rfl, iv_mul, show (((p + t : Nat) : Int) + ((lnK K v).length : Nat)) = ((p + t + (lnK K v).length : Nat) : Int) by omega]
            rfl
        · rw [if_neg ht, show F.testBit v = false by simpa using ht, Bool.false_and]
          exact ih (v + 1) c1 (by omega) hfr
    have hlp := loop (nL K) 0 c (by omega) (fun _ _ => rfl)
    rw [← List.range_eq_range'] at hlp
    by_cases he : endW K (offW K r) = true
    · rw [if_pos he]
      have hpred : (fun i => F.testBit i && mtA K (lnK K i) r) = (fun i => F.testBit i && patS (lnK K i) == patW K (runW K r)) := by
        funext i
        rw [mtA_pat, he, Bool.and_true]
        congr 1
      rw [hpred] at hlp
      unfold fitL
      cases hf : (List.range (nL K)).find? (fun i => F.testBit i && patS (lnK K i) == patW K (runW K r)) with
      | none => rw [hf] at hlp; exact hlp
      | some i =>
        rw [hf] at hlp
        obtain ⟨hi, c2, f1, f2, f3⟩ := hlp
        have hpat : patS (lnK K i) = patW K (runW K r) := by
          have := List.find?_some hf
          rw [Bool.and_eq_true] at this
          exact beq_iff_eq.mp this.2
        have hlen : (lnK K i).length = (runW K r).length := by
          have hm : mtA K (lnK K i) r = true := by rw [mtA_pat, hpat, he]; simp
          rw [mtA_run, Bool.and_eq_true] at hm
          have := congrArg List.length (of_decide_eq_true hm.1)
          simpa using this
        have hrl : (runW K r).length ≤ r.length := (List.takeWhile_prefix _).length_le
        have hrl2 : r.length = PL.length - (p + t) := by rw [← hr, List.length_drop, hpl]
        have hsl := sl_len _ (h.2.1.2.1.2 i hi)
        obtain ⟨c3, k1, k2, k3, k4⟩ := e205_46 (K := K) (l := l) (x := x) (y := y) (c := c2) (p := p) (b := b) (t := t) (i := i) (to := p + t + (lnK K i).length) (cur := runW K r) (dn := dn) (ClsAt_fr hC (by rw [f1 48 (by decide)]) (f1 82 (by decide))) (by omega) (by omega) (by omega) (by omega) (by omega) hb (fun a ha => by
          rw [f2 a ha, slotAt_pre]
          intro k hk
          have := idx_slot _ (h.2.1.2.1.2 i hi) a ha
          have h9 : ∀ sl ∈ slotLists, ∀ a, a < 3 → ∀ k, k < 3 → sl.idxOf? a = some k → k < sl.length := by decide
          rw [← hlen]
          refine h9 _ (h.2.1.2.1.2 i hi) a ha k ?_ hk
          rw [hk] at this
          rcases this with q | q | q | q <;> cases q <;> decide) (d + 3)
        refine ⟨c3, ?_, fun k q1 q2 q3 => (k2 k q2 q3).trans (f1 k q1), fun i s hs => (k3 i s hs).trans (by rw [f1 48 (by decide)]), k4⟩
        rw [show some (vi (iv 0)) = some (vi (iv ((0 : Nat) : Int))) from rfl, f3]
        rw [show ((p + t : Nat) : Int) = (p : Int) + t by omega, k1, hlen]
    · rw [if_neg he]
      have hpred : (fun i => F.testBit i && mtA K (lnK K i) r) = (fun _ => false) := by
        funext i
        rw [mtA_pat, show endW K (offW K r) = false by simpa using he, Bool.and_false, Bool.and_false]
      rw [hpred] at hlp
      have : (List.range (nL K)).find? (fun _ => false) = none := by simp
      rw [this] at hlp
      exact hlp
  have turns : ∀ (n t : Nat), p + t + n = PL.length → R205 K l x y p b dn c (clE K F [] t ((PL.map (·.1)).drop (p + t))) (X (d + 3 + 1) 205 2 [some (vr 48 0), some (vi (iv p)), some (vi (iv b)), some (vi (iv ((p + t : Nat) : Int))), none, none, none, none] [] (c, l, x, y)) := by
    intro n
    induction n with
    | zero =>
      intro t ht
      rw [q_205_2]
      simp (disch := omega) only [iv_add, iv_sub, iv_mul, iv_neg, iv_lt, iv_le, iv_eq, iv_nat, iv_L, iv_L2, am_bi_v, am_bv_v, am_bl_v, if_pos, if_neg, Int.toNat_natCast, Int.toNat_add, Int.toNat_mul, Int.reduceToNat, hP.1]
      refine lines t (by omega) ?_
      intro w r2 q
      rw [List.drop_of_length_le (by omega)] at q
      cases q
    | succ n ih =>
      intro t ht
      have e2 : p + t < (PL.map (·.1)).length := by omega
      have hwp := hw1 _ (getD_mem e2)
      have hk := (h.2.1.1.2 _ hwp).2
      rw [q_205_2]
      simp (disch := omega) only [iv_add, iv_sub, iv_mul, iv_neg, iv_lt, iv_le, iv_eq, iv_nat, iv_L, iv_L2, am_bi_v, am_bv_v, am_bl_v, if_pos, if_neg, Int.toNat_natCast, Int.toNat_add, Int.toNat_mul, Int.reduceToNat, hP.1, (hP.2 (p + t) (by omega)).1, e184 h hwp]
      by_cases k2 : knd K ((PL.map (·.1)).getD (p + t) 0) = 2
      · rw [if_pos (by omega), drop_getD e2]
        unfold clE
        rw [if_pos k2, if_pos rfl, show (((p + t : Nat) : Int) + 1) = ((p + (t + 1) : Nat) : Int) by omega]
        exact ih (t + 1) (by omega)
      · rw [if_neg (by omega)]
        refine lines t (by omega) ?_
        intro w r2 q
        rw [drop_getD e2] at q
        cases q
        exact k2
  rw [q_205]
  exact turns (PL.length - p) 0 (by omega)
end
