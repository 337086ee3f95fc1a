/-! the class's Judge: rows -/
/-- a row of words as it lies in an array -/
def RowAt (c : Nat → Nat → Nat → Int32) (kd ki : Nat) (ws : List Nat) : Prop := ∀ k, k < ws.length → c kd ki k = iv (ws.getD k 0 : Nat)
def rowBut (ws : List Nat) (sk : Int) : List Nat := if 0 ≤ sk then ws.eraseIdx sk.toNat else ws
def nosR (K : Ct) (F : Nat) : List Nat → Nat → Sj → Int → Int
  | [], i, s, cl => if finS K F s = none then (if cl = -1 then (i : Int) else cl) else -1
  | w :: ws, i, s, cl => match hearS K F s w with
    | none => if cl = -1 ∧ knd K w ≠ 5 then (i : Int) else cl
    | some t => nosR K F ws (i + 1) t (if knd K w = 3 ∨ knd K w = 4 then -1 else if cl = -1 ∧ knd K w ≠ 5 then (i : Int) else cl)
def telCl (cl : Cs) (what : Int) : Int := if what = 0 then cl.1 else if what = 1 then cl.2.1 else if what = 2 then cl.2.2.1 else if what = 3 then cl.2.2.2.1 else if what = 4 then cl.2.2.2.2.1 else if what = 5 then cl.2.2.2.2.2 else -1
def telC (cs : List Cs) (k : Nat) (what : Int) : Int := match cs[k]? with
  | some cl => telCl cl what
  | none => -1
section
variable {c : Nat → Nat → Nat → Int32} {l : Nat → Nat → Int64} {x y : Nat} {K : Ct} {F : Nat}
theorem getD_mem {ws : List Nat} {k : Nat} (h : k < ws.length) : ws.getD k 0 ∈ ws := by
  rw [List.getD_eq_getElem?_getD, List.getElem?_eq_getElem h]
  exact List.getElem_mem h
theorem drop_getD {ws : List Nat} {i : Nat} (h : i < ws.length) : ws.drop i = ws.getD i 0 :: ws.drop (i + 1) := by
  rw [List.drop_eq_getElem_cons h, List.getD_eq_getElem?_getD, List.getElem?_eq_getElem h]
  rfl
theorem e49 (h : JR c x K F) {kd ki : Nat} (hkd : kd = 24 ∨ kd = 16) {ws : List Nat} (hw : ∀ w ∈ ws, w < nW K) (hr : RowAt c kd ki ws) (hlen : ws.length ≤ (af kd).2) {sk : Int} (hsk : -1 ≤ sk ∧ sk < 1000) (d : Nat) : E (d + 5) 49 [vr 20 0, vr kd ki, vi (iv ws.length), vi (iv sk)] (c, l, x, y) = some (some (vi (iv (encO K (hearA K F (rowBut ws sk))))), c, l, x, y) := by
  have hl8 : (af kd).2 ≤ 8 := by rcases hkd with rfl | rfl <;> decide
  have key : ∀ (n i : Nat) (o : Option Sj), i + n = ws.length → WO K o → X (d + 4 + 1) 49 4 [some (vr 20 0), some (vr kd ki), some (vi (iv ws.length)), some (vi (iv sk)), some (vi (iv (encO K o))), some (vi (iv (i : Nat)))] [] (c, l, x, y) = some (some (vi (iv (encO K ((if sk < i then ws.drop i else (ws.drop i).eraseIdx (sk.toNat - i)).foldl (hearO K F) o)))), c, l, x, y) := by
    intro n
    induction n with
    | zero =>
      intro i o hi ho
      rw [q_49_4 hkd]
      simp (disch := omega) only [iv_add, iv_sub, iv_mul, iv_neg, iv_lt, iv_le, iv_eq, iv_nat, iv_L, iv_L2, am_bi_v, am_bv_v, am_bl_v, if_pos, if_neg]
      rw [List.drop_of_length_le (by omega)]
      split <;> rfl
    | succ n ih =>
      intro i o hi ho
      have hil : i < ws.length := by omega
      have hm := getD_mem hil
      rw [q_49_4 hkd]
      simp (disch := omega) only [iv_add, iv_sub, iv_mul, iv_neg, iv_lt, iv_le, iv_eq, iv_nat, iv_L, iv_L2, am_bi_v, am_bv_v, am_bl_v, if_pos, if_neg, Int.toNat_natCast, hr i hil]
      by_cases e : (i : Int) = sk
      · rw [if_pos e]
        have e2 := ih (i + 1) o (by omega) ho
        rw [if_pos (by omega)] at e2
        rw [show ((i : Int) + 1) = ((i + 1 : Nat) : Int) by omega, e2, if_neg (by omega), show sk.toNat - i = 0 by omega, drop_getD hil]
        rfl
      · rw [if_neg e, e40 h ho (hw _ hm)]
        simp only [am_bi_v]
        rw [show ((i : Int) + 1) = ((i + 1 : Nat) : Int) by omega, ih (i + 1) _ (by omega) (WO_hear h.2.1 (hw _ hm) ho)]
        by_cases e2 : sk < i
        · rw [if_pos e2, if_pos (by omega), drop_getD hil]
          rfl
        · rw [if_neg e2, if_neg (by omega), drop_getD hil, show sk.toNat - i = (sk.toNat - (i + 1)) + 1 by omega]
          rfl
  have k0 := key ws.length 0 (some startS) (by omega) (WO_start K)
  rw [q_49 hkd]
  refine Eq.trans (Eq.trans ?_ k0) ?_
  · rfl
  · unfold rowBut hearA
    by_cases e : 0 ≤ sk
    · rw [if_neg (by omega), if_pos e]; rfl
    · rw [if_pos (by omega), if_neg e]; rfl
theorem case_row (h : JR c x K F) {i : Nat} (hi : i < nC K) : RowAt c 16 (i + x * 8) (csK K i) := (h.1.2.2.2.2.1.2 i hi).2
theorem e51 (h : JR c x K F) {i : Nat} (hi : i < nC K) (d : Nat) : E (d + 6) 51 [vr 20 0, vi (iv i)] (c, l, x, y) = some (some (vi (iv (rul K F (csK K i)))), c, l, x, y) := by
  have hc := h.2.1.2.2.2.2.1
  have hv := hc.2 i hi
  rw [q_51]
  simp (disch := omega) only [iv_add, iv_sub, iv_mul, iv_neg, iv_lt, iv_le, iv_eq, iv_nat, iv_L, iv_L2, am_bi_v, am_bv_v, am_bl_v, if_pos, if_neg, Int.toNat_natCast, (h.1.2.2.2.2.1.2 i hi).1]
  rw [e49 h (Or.inr rfl) hv.2.2 (case_row h hi) hv.2.1 (by omega)]
  simp only [am_bi_v]
  rw [show rowBut (csK K i) (-1) = csK K i from rfl, e50 h (WO_hearA h.2.1 _ hv.2.2)]
  rfl
theorem e46 (h : JR c x K F) {w : Nat} (hw : w < nW K) (d : Nat) : E (d + 1) 46 [vr 20 0, vi (iv w)] (c, l, x, y) = some (some (vi (iv (if knd K w = 3 ∨ knd K w = 4 then 1 else 0))), c, l, x, y) := by
  have hw2 := h.2.1.1.1
  have hk := (h.2.1.1.2 w hw).2
  rw [q_46]
  simp (disch := omega) only [iv_add, iv_sub, iv_mul, iv_neg, iv_lt, iv_le, iv_eq, iv_nat, iv_L, iv_L2, am_bi_v, am_bv_v, am_bl_v, if_pos, if_neg, Int.toNat_natCast, (h.1.1.2 w hw).1]
  by_cases k3 : knd K w = 3
  · simp [k3]
  · by_cases k4 : knd K w = 4
    · simp [k4]
    · rw [if_neg (by omega), if_neg (by omega), if_neg (by omega)]
theorem e39 (h : JR c x K F) {kd ki : Nat} (hkd : kd = 24 ∨ kd = 16) {ws : List Nat} (hw : ∀ w ∈ ws, w < nW K) (hr : RowAt c kd ki ws) (hlen : ws.length ≤ (af kd).2) (d : Nat) : E (d + 5) 39 [vr 20 0, vr kd ki, vi (iv ws.length)] (c, l, x, y) = some (some (vi (iv (nosR K F ws 0 startS (-1)))), c, l, x, y) := by
  have hl8 : (af kd).2 ≤ 8 := by rcases hkd with rfl | rfl <;> decide
  have hw2 := h.2.1.1.1
  have key : ∀ (n i : Nat) (s : Sj) (cl : Int), i + n = ws.length → WS K s → -1 ≤ cl → cl < 8 → X (d + 4 + 1) 39 6 [some (vr 20 0), some (vr kd ki), some (vi (iv ws.length)), some (vi (iv (encS K s))), some (vi (iv cl)), some (vi (iv (i : Nat)))] [] (c, l, x, y) = some (some (vi (iv (nosR K F (ws.drop i) i s cl))), c, l, x, y) := by
    intro n
    induction n with
    | zero =>
      intro i s cl hi hs hc1 hc2
      have hb := bitsO_bd K (finS K F s)
      rw [q_39_6 hkd]
      simp (disch := omega) only [iv_add, iv_sub, iv_mul, iv_neg, iv_lt, iv_le, iv_eq, iv_nat, iv_L, iv_L2, am_bi_v, am_bv_v, am_bl_v, if_pos, if_neg]
      rw [e43 h hs, List.drop_of_length_le (by omega)]
      simp (disch := omega) only [iv_add, iv_sub, iv_mul, iv_neg, iv_lt, iv_le, iv_eq, iv_nat, iv_L, iv_L2, am_bi_v, am_bv_v, am_bl_v, if_pos, if_neg, nosR]
      cases hf : finS K F s with
      | none => 
        rw [if_pos (show bitsO K none = -1 from rfl), if_pos rfl]
        by_cases e : cl = -1
        · rw [if_pos e, if_pos e, show i = ws.length by omega]
        · rw [if_neg e, if_neg e]
      | some cs =>
        rw [if_neg (by simp only [bitsO]; omega), if_neg (by simp)]
    | succ n ih =>
      intro i s cl hi hs hc1 hc2
      have hil : i < ws.length := by omega
      have hm := hw _ (getD_mem hil)
      have hk := (h.2.1.1.2 _ hm).2
      have step : ∀ cl2 : Int, -1 ≤ cl2 → cl2 < 8 → X (d + 4 + 1) 39 23 [some (vr 20 0), some (vr kd ki), some (vi (iv ws.length)), some (vi (iv (encS K s))), some (vi (iv cl2)), some (vi (iv (i : Nat)))] [] (c, l, x, y) = some (some (vi (iv (match hearS K F s (ws.getD i 0) with
          | none => cl2
          | some t => nosR K F (ws.drop (i + 1)) (i + 1) t (if knd K (ws.getD i 0) = 3 ∨ knd K (ws.getD i 0) = 4 then -1 else cl2)))), c, l, x, y) := by
        intro cl2 h1 h2
        rw [q_39_23 hkd]
        simp (disch := omega) only [iv_add, iv_sub, iv_mul, iv_neg, iv_lt, iv_le, iv_eq, iv_nat, iv_L, iv_L2, am_bi_v, am_bv_v, am_bl_v, if_pos, if_neg, Int.toNat_natCast, hr i hil]
        have e4 := e40 (l := l) (y := y) h (o := some s) (fun t ht => by cases ht; exact hs) hm d
        rw [show iv ((encS K s : Nat) : Int) = iv (encO K (some s)) from rfl, e4]
        simp only [am_bi_v]
        rw [show hearO K F (some s) (ws.getD i 0) = hearS K F s (ws.getD i 0) from rfl]
        cases ht : hearS K F s (ws.getD i 0) with
        | none => rw [if_pos (show iv (encO K none) = iv (-1) from rfl)]
        | some t =>
          have hst := WS_hear h.2.1 hm hs ht
          have hbt := enc_bd h.2.1 hst
          rw [if_neg (by show ¬ iv ((encS K t : Nat) : Int) = iv (-1); rw [iv_eq] <;> omega), hr i hil, e46 h hm]
          simp only [am_bi_v]
          rw [show ((i : Int) + 1) = ((i + 1 : Nat) : Int) by omega]
          by_cases k : knd K (ws.getD i 0) = 3 ∨ knd K (ws.getD i 0) = 4
          · rw [if_pos k, if_pos k, if_neg (by rw [iv_eq] <;> omega)]
            exact ih (i + 1) t (-1) (by omega) hst (by omega) (by omega)
          · rw [if_neg k, if_neg k, if_pos rfl]
            exact ih (i + 1) t cl2 (by omega) hst (by omega) (by omega)
      rw [q_39_6 hkd, drop_getD hil]
      simp (disch := omega) only [iv_add, iv_sub, iv_mul, iv_neg, iv_lt, iv_le, iv_eq, iv_nat, iv_L, iv_L2, am_bi_v, am_bv_v, am_bl_v, if_pos, if_neg, Int.toNat_natCast, hr i hil, (h.1.1.2 _ hm).1, nosR]
      by_cases e : cl = -1
      · rw [if_pos e]
        by_cases k5 : knd K (ws.getD i 0) = 5
        · rw [if_pos (by omega), step cl hc1 hc2]
          simp only [k5, ne_eq, not_true_eq_false, and_false, if_false]
        · rw [if_neg (by omega), step (i : Int) (by omega) (by omega)]
          simp only [e, k5, ne_eq, not_false_eq_true, and_self, if_true]
      · rw [if_neg e, step cl hc1 hc2]
        simp only [e, false_and, if_false]
  rw [q_39 hkd]
  exact key ws.length 0 startS (-1) (by omega) (WS_start K) (by omega) (by omega)
theorem e52 (h : JR c x K F) {s : Sj} (hs : WS K s) (d : Nat) : E (d + 3) 52 [vr 20 0, vi (iv (encS K s))] (c, l, x, y) = some (some (vi (iv (if finS K F s = none then (if s.2.2.2 = [] then 2 else 1) else 0))), c, l, x, y) := by
  have h1 := enc_bd h.2.1 hs
  have h2 := WS_bd h.2.1 hs
  have hn := h.2.1.2.1.1
  have hp := patW_len s.2.2.2 (fun w q => (hs.2.1 w q).2)
  rw [q_52, e44 h hs]
  simp (disch := omega) only [iv_add, iv_sub, iv_mul, iv_neg, iv_lt, iv_le, iv_eq, iv_nat, iv_L, iv_L2, am_bi_v, am_bv_v, am_bl_v, if_pos, if_neg]
  rw [e41 _ (by omega), enc_pat h.2.1 hs]
  simp only [am_bi_v]
  unfold finS
  cases hf : fitL K F (patW K s.2.2.2) with
  | none =>
    rw [if_pos (show iv (oi none) = iv (-1) from rfl), Option.map_none, if_pos rfl]
    simp (disch := omega) only [iv_eq]
    cases hc : s.2.2.2 with
    | nil => rw [if_pos (by rw [patW_nil]; rfl), if_pos rfl]
    | cons a ws =>
      rw [hc] at hp
      have h5 : 2 ^ 1 ≤ 2 ^ (a :: ws).length := Nat.pow_le_pow_right (by decide) (by simp)
      rw [if_neg (by omega), if_neg (by simp)]
  | some i =>
    obtain ⟨hi, -, -⟩ := fitL_some hf
    rw [if_neg (by rw [show iv (oi (some i)) = iv (i : Int) from rfl, iv_eq] <;> omega), if_neg (by simp)]
/-- what is told of a clause that ends here -/
theorem e48 (h : JR c x K F) {s : Sj} (hs : WS K s) {i : Nat} (hf : fitL K F (patW K s.2.2.2) = some i) {what : Int} (hwh : -2147483648 ≤ what ∧ what < 2147483648) (d : Nat) : E (d + 3) 48 [vr 20 0, vi (iv (encS K s)), vi (iv s.2.2.1), vi (iv what)] (c, l, x, y) = some (some (vi (iv (telCl (mkCl K i s.2.2.2 s.2.2.1 s.2.1) what))), c, l, x, y) := by
  have hn := h.2.1.2.1.1
  obtain ⟨hi, -, -⟩ := fitL_some hf
  have f0 : ∀ d, E (d + 1) 45 [vr 20 0, vi (iv (encS K s)), vi (iv i), vi (iv 0)] (c, l, x, y) = some (some (vi (iv (slotAt (lnK K i) 0 s.2.2.2))), c, l, x, y) := fun d => e45 h hs hi (a := 0) (by decide) d
  have f1 : ∀ d, E (d + 1) 45 [vr 20 0, vi (iv (encS K s)), vi (iv i), vi (iv 1)] (c, l, x, y) = some (some (vi (iv (slotAt (lnK K i) 1 s.2.2.2))), c, l, x, y) := fun d => e45 h hs hi (a := 1) (by decide) d
  have f2 : ∀ d, E (d + 1) 45 [vr 20 0, vi (iv (encS K s)), vi (iv i), vi (iv 2)] (c, l, x, y) = some (some (vi (iv (slotAt (lnK K i) 2 s.2.2.2))), c, l, x, y) := fun d => e45 h hs hi (a := 2) (by decide) d
  have e4 : ∀ d, E (d + 2) 44 [vr 20 0, vi (iv (encS K s))] (c, l, x, y) = some (some (vi (iv i)), c, l, x, y) := fun d => by
    rw [e44 h hs, hf]; rfl
  rw [q_48]
  simp (disch := omega) only [iv_L, iv_L2, iv_neg, iv_eq, e4, am_bi_v]
  unfold telCl mkCl
  by_cases w0 : what = 0
  · subst w0; simp only [f0, am_bi_v, if_true]
  by_cases w1 : what = 1
  · subst w1; simp only [f1, am_bi_v, if_true]; simp
  by_cases w2 : what = 2
  · subst w2; simp only [f2, am_bi_v, if_true]; simp
  simp only [if_neg w0, if_neg w1, if_neg w2]
  by_cases w3 : what = 3
  · simp only [if_pos w3]
  by_cases w4 : what = 4
  · simp only [if_neg w3, if_pos w4]
  by_cases w5 : what = 5
  · simp only [if_neg w3, if_neg w4, if_pos w5, enc_bi h.2.1 hs]
  · simp only [if_neg w3, if_neg w4, if_neg w5]
theorem hear_pre {s t : Sj} {w : Nat} (h : hearS K F s w = some t) : s.1 <+: t.1 := by
  unfold hearS at h
  split at h
  · cases h; exact List.prefix_rfl
  split at h
  · split at h
    · cases h; exact List.prefix_rfl
    · cases h
  split at h
  · split at h
    · cases h; exact List.prefix_rfl
    · cases h
  · unfold finS at h
    cases hg : fitL K F (patW K s.2.2.2) with
    | none => rw [hg] at h; cases h
    | some i => rw [hg] at h; cases h; exact List.prefix_append _ _
theorem fold_pre : ∀ (ws : List Nat) (s : Sj) (cs : List Cs), meanO K F (ws.foldl (hearO K F) (some s)) = some cs → s.1 <+: cs
  | [], s, cs, h => by
    change finS K F s = some cs at h
    unfold finS at h
    cases hg : fitL K F (patW K s.2.2.2) with
    | none => rw [hg] at h; cases h
    | some i => rw [hg] at h; cases h; exact List.prefix_append _ _
  | w :: ws, s, cs, h => by
    rw [List.foldl_cons] at h
    change meanO K F (ws.foldl (hearO K F) (hearS K F s w)) = some cs at h
    cases ht : hearS K F s w with
    | none => rw [ht, fold_none] at h; cases h
    | some t => rw [ht] at h; exact (hear_pre ht).trans (fold_pre ws t cs h)
theorem pre_at {α : Type} {a b : List α} {z : α} (h : a ++ [z] <+: b) : b[a.length]? = some z := by
  obtain ⟨t, rfl⟩ := h
  simp
theorem e47 (h : JR c x K F) {kd ki : Nat} (hkd : kd = 24 ∨ kd = 16) {ws : List Nat} (hw : ∀ w ∈ ws, w < nW K) (hr : RowAt c kd ki ws) (hlen : ws.length ≤ (af kd).2) {cs : List Cs} (hcs : meanO K F (hearA K F ws) = some cs) {k : Nat} (hk : k < 2147483648) {what : Int} (hwh : -2147483648 ≤ what ∧ what < 2147483648) (d : Nat) : E (d + 5) 47 [vr 20 0, vr kd ki, vi (iv ws.length), vi (iv k), vi (iv what)] (c, l, x, y) = some (some (vi (iv (telC cs k what))), c, l, x, y) := by
  have hl8 : (af kd).2 ≤ 8 := by rcases hkd with rfl | rfl <;> decide
  have hw2 := h.2.1.1.1
  have key : ∀ (n i : Nat) (s : Sj), i + n = ws.length → WS K s → s.1.length ≤ i → s.2.2.1 ≤ i → s.1.length ≤ k → meanO K F ((ws.drop i).foldl (hearO K F) (some s)) = some cs → X (d + 4 + 1) 47 8 [some (vr 20 0), some (vr kd ki), some (vi (iv ws.length)), some (vi (iv k)), some (vi (iv what)), some (vi (iv (encS K s))), some (vi (iv s.1.length)), some (vi (iv s.2.2.1)), some (vi (iv (i : Nat)))] [] (c, l, x, y) = some (some (vi (iv (telC cs k what))), c, l, x, y) := by
    intro n
    induction n with
    | zero =>
      intro i s hi hs hdl htu hdk hm
      rw [List.drop_of_length_le (by omega)] at hm
      change finS K F s = some cs at hm
      unfold finS at hm
      cases hf : fitL K F (patW K s.2.2.2) with
      | none => rw [hf] at hm; cases hm
      | some j =>
        rw [hf] at hm
        cases hm
        rw [q_47_8 hkd]
        simp (disch := omega) only [iv_add, iv_sub, iv_mul, iv_neg, iv_lt, iv_le, iv_eq, iv_nat, iv_L, iv_L2, am_bi_v, am_bv_v, am_bl_v, if_pos, if_neg, e48 h hs hf hwh]
        unfold telC
        by_cases e : s.1.length = k
        · rw [if_pos (by omega), ← e]; simp
        · rw [if_neg (by omega), List.getElem?_eq_none (by simp; omega)]
    | succ n ih =>
      intro i s hi hs hdl htu hdk hm
      have hil : i < ws.length := by omega
      have hwi := hw _ (getD_mem hil)
      have hkn := (h.2.1.1.2 _ hwi).2
      rw [drop_getD hil, List.foldl_cons] at hm
      change meanO K F ((ws.drop (i + 1)).foldl (hearO K F) (hearS K F s (ws.getD i 0))) = some cs at hm
      cases ht : hearS K F s (ws.getD i 0) with
      | none => rw [ht, fold_none] at hm; cases hm
      | some t =>
        rw [ht] at hm
        have hst := WS_hear h.2.1 hwi hs ht
        have e4 : ∀ d, E (d + 4) 40 [vr 20 0, vi (iv (encS K s)), vi (iv (ws.getD i 0 : Nat))] (c, l, x, y) = some (some (vi (iv (encS K t))), c, l, x, y) := fun d => by
          have := e40 (l := l) (y := y) h (o := some s) (fun t ht => by cases ht; exact hs) hwi d
          rw [show hearO K F (some s) (ws.getD i 0) = hearS K F s (ws.getD i 0) from rfl, ht] at this
          exact this
        rw [q_47_8 hkd]
        simp (disch := omega) only [iv_add, iv_sub, iv_mul, iv_neg, iv_lt, iv_le, iv_eq, iv_nat, iv_L, iv_L2, am_bi_v, am_bv_v, am_bl_v, if_pos, if_neg, Int.toNat_natCast, hr i hil, e46 h hwi]
        by_cases kb : knd K (ws.getD i 0) = 3 ∨ knd K (ws.getD i 0) = 4
        · rw [if_pos kb, if_neg (by omega)]
          unfold hearS at ht
          rw [if_neg (by omega), if_neg (by omega), if_neg (by omega)] at ht
          unfold finS at ht
          cases hf : fitL K F (patW K s.2.2.2) with
          | none => rw [hf] at ht; cases ht
          | some j =>
            rw [hf] at ht
            cases ht
            by_cases e : s.1.length = k
            · rw [if_pos (by omega), e48 h hs hf hwh]
              simp only [am_bi_v]
              have hp := pre_at (fold_pre _ _ _ hm)
              unfold telC
              rw [← e, hp]
            · rw [if_neg (by omega), q_47_29 hkd]
              simp (disch := omega) only [iv_add, iv_sub, iv_mul, iv_neg, iv_lt, iv_le, iv_eq, iv_nat, iv_L, iv_L2, am_bi_v, am_bv_v, am_bl_v, if_pos, if_neg, Int.toNat_natCast, hr i hil, (h.1.1.2 _ hwi).1, e4]
              rw [show ((i : Int) + 1) = ((i + 1 : Nat) : Int) by omega]
              have q := ih (i + 1) _ (by omega) hst (by simp; omega) (by simp) (by simp; omega) hm
              simp only [List.length_append, List.length_singleton] at q
              rw [show ((s.1.length : Int) + 1) = ((s.1.length + 1 : Nat) : Int) by omega]
              exact q
        · rw [if_neg kb, if_pos rfl, q_47_29 hkd]
          simp (disch := omega) only [iv_add, iv_sub, iv_mul, iv_neg, iv_lt, iv_le, iv_eq, iv_nat, iv_L, iv_L2, am_bi_v, am_bv_v, am_bl_v, if_pos, if_neg, Int.toNat_natCast, hr i hil, (h.1.1.2 _ hwi).1, e4]
          rw [show ((i : Int) + 1) = ((i + 1 : Nat) : Int) by omega]
          have same : t.1 = s.1 ∧ t.2.2.1 = s.2.2.1 + (if knd K (ws.getD i 0) = 2 then 1 else 0) := by
            unfold hearS at ht
            split at ht
            · cases ht; exact ⟨rfl, by rw [if_neg (by omega)]; rfl⟩
            split at ht
            · split at ht
              · cases ht; rename_i k2 _; exact ⟨rfl, by rw [if_pos k2]⟩
              · cases ht
            split at ht
            · split at ht
              · cases ht; exact ⟨rfl, by rw [if_neg (by omega)]; rfl⟩
              · cases ht
            · omega
          have q := ih (i + 1) t (by omega) hst (by rw [same.1]; omega) (by rw [same.2]; split <;> omega) (by rw [same.1]; omega) hm
          rw [same.1, same.2] at q
          by_cases k2 : knd K (ws.getD i 0) = 2
          · rw [if_pos k2] at q
            rw [if_pos (by omega), show ((s.2.2.1 : Int) + 1) = ((s.2.2.1 + 1 : Nat) : Int) by omega]
            exact q
          · rw [if_neg k2] at q
            rw [if_neg (by omega), show ((s.2.2.1 : Int) + 0) = ((s.2.2.1 + 0 : Nat) : Int) by omega]
            exact q
  rw [q_47 hkd]
  exact key ws.length 0 startS (by omega) (WS_start K) (Nat.zero_le _) (Nat.zero_le _) (Nat.zero_le _) hcs
end
