/-! the reference: what is so, rulings -/
def tru (K : Ct) : Nat := if kAc K = -1 then 0 else if isF K (kAc K) (kDe K) (-1) then 1 else 2
def insAt (ws : List Nat) (p w : Nat) : List Nat := ws.take p ++ w :: ws.drop p
section
variable {c : Nat → Nat → Nat → Int32} {l : Nat → Nat → Int64} {x y : Nat} {K : Ct} {F : Nat}
theorem par_iv {t : Nat} (ht : t < 1000) : iv t - iv t / iv 2 * iv 2 = iv ((t % 2 : Nat) : Int) := by
  rw [iv_div (by omega) (by omega), iv_mul, iv_sub]
  congr 1
  omega
theorem e211 (h : RR c l K F) {cs : List Cs} (hC : ClsAt c cs) (hcs : cs.length ≤ 16) (hB : ∀ cl ∈ cs, CB 16 cl) {k : Nat} (hk : k < cs.length) {b : Nat} (hb : b < 3) (d : Nat) : E (d + 2) 211 [vr 48 0, vi (iv k), vi (iv b)] (c, l, x, y) = some (some (vi (iv (if soK K b (clN cs k) then 1 else 0))), c, l, x, y) := by
  have hm : clN cs k ∈ cs := by
    unfold clN
    rw [List.getD_eq_getElem?_getD, List.getElem?_eq_getElem hk]
    exact List.getElem_mem hk
  obtain ⟨w1, w2, w3, w4, w5, w6⟩ := hB _ hm
  obtain ⟨q1, q2, q3, q4, q5, q6⟩ := hC.2 k hk
  have hacc := h.1.2.2.2.2.2
  have hv := h.2.1.2.2.2.2.2
  have hn20 := h.2.1.1.1
  have e41 : X (d + 2) 211 41 [some (vr 48 0), none, none, some (vi (iv (6 * (k : Int)))), none, none] [] (c, l, x, y) = some (some (vi (iv (if xor ((clN cs k).2.2.2.1 % 2 == 1) (isF K (clN cs k).1 (clN cs k).2.1 (clN cs k).2.2.1) then 1 else 0))), c, l, x, y) := by
    rw [q_211_41]
    simp (disch := omega) only [iv_add, iv_sub, iv_mul, iv_neg, iv_lt, iv_le, iv_eq, iv_nat, iv_L, iv_L2, am_bi_v, am_bv_v, am_bl_v, if_pos, if_neg, Int.toNat_natCast, Int.toNat_add, Int.toNat_mul, Int.reduceToNat, q1, q2, q3, q4]
    rw [e212 h (by omega) (by omega) w3]
    simp (disch := omega) only [am_bi_v, par_iv, iv_eq, q4]
    by_cases ht : (clN cs k).2.2.2.1 % 2 = 0
    · rw [if_pos (by omega), ht]
      cases isF K (clN cs k).1 (clN cs k).2.1 (clN cs k).2.2.1 with
      | true => simp
      | false => simp
    · rw [if_neg (by omega), show (clN cs k).2.2.2.1 % 2 = 1 by omega]
      cases isF K (clN cs k).1 (clN cs k).2.1 (clN cs k).2.2.1 with
      | true => simp
      | false => simp
  have e29 : ∀ s : Bool, (s = isHis K (clN cs k)) → X (d + 2) 211 29 [some (vr 48 0), none, some (vi (iv b)), some (vi (iv (6 * (k : Int)))), none, none] [vi (iv (if s then 1 else 0))] (c, l, x, y) = some (some (vi (iv (if soK K b (clN cs k) then 1 else 0))), c, l, x, y) := by
    intro s hs
    rw [q_211_29]
    simp (disch := omega) only [iv_add, iv_sub, iv_mul, iv_neg, iv_lt, iv_le, iv_eq, iv_nat, iv_L, iv_L2, am_bi_v, am_bv_v, am_bl_v, if_pos, if_neg, Int.toNat_natCast, Int.toNat_add, Int.toNat_mul, Int.reduceToNat, q4]
    unfold soK
    by_cases b0 : b = 0
    · rw [if_neg (by omega), if_pos b0]
      exact e41
    · rw [if_pos (by omega), if_neg b0]
      cases hh : isHis K (clN cs k) with
      | false =>
        subst hs
        rw [hh]
        simp only [Bool.false_eq_true, if_false, if_true]
        exact e41
      | true =>
        subst hs
        rw [hh]
        simp (disch := omega) only [par_iv, iv_eq, if_true]
        rw [if_neg (by decide)]
        by_cases ht : (clN cs k).2.2.2.1 % 2 = 0
        · by_cases b1 : b = 1
          · subst b1
            rw [if_pos (by decide), if_pos (by omega), ht]; rfl
          · rw [if_neg (by omega), if_pos (by omega), ht, show b = 2 by omega]; rfl
        · have ht1 : (clN cs k).2.2.2.1 % 2 = 1 := by omega
          by_cases b1 : b = 1
          · subst b1
            rw [if_pos (by decide), if_neg (by omega), ht1]; rfl
          · rw [if_neg (by omega), if_neg (by omega), ht1, show b = 2 by omega]; rfl
  rw [q_211, e180 h]
  simp (disch := omega) only [am_bi_v, iv_L, iv_neg, iv_mul, iv_eq]
  by_cases ha : kAc K = -1
  · rw [if_pos ha]
    refine e29 false ?_
    unfold isHis
    rw [show ((clN cs k).1 == kAc K) = false by simp; omega]
    rfl
  · rw [if_neg ha, e180 h]
    have h3 := hacc.2 ha
    simp (disch := omega) only [iv_add, iv_sub, iv_mul, iv_neg, iv_lt, iv_le, iv_eq, iv_nat, iv_L, iv_L2, am_bi_v, am_bv_v, am_bl_v, if_pos, if_neg, Int.toNat_natCast, Int.toNat_add, Int.toNat_mul, Int.reduceToNat, q1, q2, h3.2]
    by_cases a1 : (clN cs k).1 = kAc K
    · rw [if_pos a1]
      by_cases a2 : (clN cs k).2.1 = kDe K
      · rw [if_pos a2]
        exact e29 true (by unfold isHis; rw [a1, a2]; simp)
      · rw [if_neg a2]
        exact e29 false (by unfold isHis; rw [show ((clN cs k).2.1 == kDe K) = false by simpa using a2]; simp)
    · rw [if_neg a1]
      exact e29 false (by unfold isHis; rw [show ((clN cs k).1 == kAc K) = false by simpa using a1]; simp)
theorem take_clN {cs : List Cs} {k : Nat} (h : k < cs.length) : cs.take (k + 1) = cs.take k ++ [clN cs k] := by
  unfold clN
  rw [List.take_succ_eq_append_getElem h, List.getD_eq_getElem?_getD, List.getElem?_eq_getElem h]
  rfl
theorem e210 (h : RR c l K F) {cs : List Cs} (hC : ClsAt c cs) (hcs : cs.length ≤ 16) (h0 : cs ≠ []) (hB : ∀ cl ∈ cs, CB 16 cl) (hI : BI cs) {b : Nat} (hb : b < 3) (d : Nat) : E (d + 3) 210 [vr 48 0, vi (iv b)] (c, l, x, y) = some (some (vi (iv (if allSo K b cs then 1 else 0))), c, l, x, y) := by
  have hl0 : 0 < cs.length := List.length_pos_iff.mpr h0
  have key : ∀ (n k : Nat), k + n = cs.length → 1 ≤ k → X (d + 3) 210 7 [some (vr 48 0), some (vi (iv b)), some (vi (iv (if allSo K b (cs.take k) then 1 else 0))), some (vi (iv (k : Nat)))] [] (c, l, x, y) = some (some (vi (iv (if allSo K b cs then 1 else 0))), c, l, x, y) := by
    intro n
    induction n with
    | zero =>
      intro k hk h1
      rw [q_210_7, hC.1, List.take_of_length_le (by omega)]
      simp (disch := omega) only [iv_L, iv_lt, if_neg]
      cases allSo K b cs with
      | true => exact if_pos (Or.inr rfl)
      | false => exact if_pos (Or.inl rfl)
    | succ n ih =>
      intro k hk h1
      have hkl : k < cs.length := by omega
      have hq := hC.2 k hkl
      have hi := hI k hkl
      rw [if_neg (by omega)] at hi
      have e1 := ih (k + 1) (by omega) (by omega)
      rw [take_clN hkl, allSo_snoc] at e1
      unfold soF at e1
      rw [q_210_7, hC.1]
      simp (disch := omega) only [iv_add, iv_sub, iv_mul, iv_neg, iv_lt, iv_le, iv_eq, iv_nat, iv_L, iv_L2, am_bi_v, am_bv_v, am_bl_v, if_pos, if_neg, Int.toNat_natCast, Int.toNat_add, Int.toNat_mul, Int.reduceToNat, hq.2.2.2.2.2, e211 h hC hcs hB hkl hb]
      rw [show ((k : Int) + 1) = ((k + 1 : Nat) : Int) by omega]
      rcases hi with hi | hi
      · rw [if_pos hi] at e1
        rw [if_pos (by omega)]
        generalize allSo K b (cs.take k) = p at e1 ⊢
        generalize soK K b (clN cs k) = q at e1 ⊢
        cases p <;> cases q <;> exact e1
      · rw [if_neg (show ¬ (clN cs k).2.2.2.2.2 = 3 by omega), if_pos hi] at e1
        rw [if_neg (by omega)]
        generalize allSo K b (cs.take k) = p at e1 ⊢
        generalize soK K b (clN cs k) = q at e1 ⊢
        cases p <;> cases q <;> exact e1
  have hi := hI 0 hl0
  rw [if_pos rfl] at hi
  have e1 := key (cs.length - 1) 1 (by omega) (by omega)
  rw [take_clN (k := 0) hl0, allSo_snoc] at e1
  unfold soF at e1
  rw [if_neg (show ¬ (clN cs 0).2.2.2.2.2 = 3 by omega), if_neg (show ¬ (clN cs 0).2.2.2.2.2 = 4 by omega)] at e1
  have e2 := e211 (x := x) (y := y) h hC hcs hB hl0 hb d
  rw [q_210]
  rw [show vi 0 = vi (iv ((0 : Nat) : Int)) from rfl, e2]
  exact e1
theorem rulO_none {o : Option (List Cs)} (h : kAc K = -1) (ho : ∀ cs, o = some cs → ∀ cl ∈ cs, 0 ≤ cl.1) : rulO K o = 0 := by
  cases o with
  | none => rfl
  | some cs =>
    have hcs := ho cs rfl
    have : ∀ (cs : List Cs) (s : Bool), (∀ cl ∈ cs, 0 ≤ cl.1) → cs.foldl (soF K 1) s = cs.foldl (soF K 2) s := by
      intro cs
      induction cs with
      | nil => intro s _; rfl
      | cons a cs ih =>
        intro s hh
        rw [List.foldl_cons, List.foldl_cons]
        have ha := hh a List.mem_cons_self
        have e : soK K 1 a = soK K 2 a := by
          unfold soK isHis
          rw [show (a.1 == kAc K) = false by simp; omega]
          simp
        rw [show soF K 1 s a = soF K 2 s a by unfold soF; rw [e]]
        exact ih _ (fun cl q => hh cl (List.mem_cons_of_mem _ q))
    show rulC K cs = 0
    unfold rulC
    rw [if_pos (show allSo K 1 cs = allSo K 2 cs from this cs false hcs)]
theorem rul_none (hK : VK K) {ws : List Nat} (hw : ∀ w ∈ ws, w < nW K) (h : kAc K = -1) : rul K F ws = 0 := rulO_none h (fun cs hcs cl hcl => ((mean_HI hK hw hcs).1 cl hcl).1.1)
/-- the ruling by what is tried -/
theorem e215 (h : RR c l K F) {ws : List Nat} (hT : TR c ws) (hw : ∀ w ∈ ws, w < nW K) (hl : ws.length ≤ 16) (d : Nat) : ∃ c2 : Nat → Nat → Nat → Int32, E (d + 6) 215 [vr 48 0] (c, l, x, y) = some (some (vi (iv (rul K F ws))), c2, l, x, y) ∧ Sx c c2 := by
  have hv := h.2.1.2.2.2.2.2
  have hn20 := h.2.1.1.1
  rw [q_215, e180 h]
  simp (disch := omega) only [am_bi_v, iv_L, iv_neg, iv_eq]
  by_cases ha : kAc K = -1
  · refine ⟨c, ?_, Sx.rf c⟩
    rw [if_pos ha, rul_none h.2.1 hw ha]
    rfl
  · rw [if_neg ha]
    obtain ⟨c2, g1, g2, g3, g4⟩ := e204 (x := x) (y := y) h hT hw hl d
    refine ⟨c2, ?_, g2⟩
    rw [g1]
    unfold rul
    cases hm : meanO K F (hearA K F ws) with
    | none => rfl
    | some cs =>
      obtain ⟨m1, m2, m3, m4⟩ := mean_HI h.2.1 hw hm
      have hR2 := Sx_RR g2 h
      have hC := g3 cs hm
      have hB : ∀ cl ∈ cs, CB 16 cl := fun cl q => CB_mono (m1 cl q) hl
      have r1 := e210 (x := x) (y := y) hR2 hC (by omega) m3 hB m4 (b := 1) (by decide)
      have r2 := e210 (x := x) (y := y) hR2 hC (by omega) m3 hB m4 (b := 2) (by decide)
      simp only [Option.isSome_some, if_true, am_bi_v]
      rw [if_neg (by decide), show iv 1 = iv ((1 : Nat) : Int) from rfl, show iv 2 = iv ((2 : Nat) : Int) from rfl, r1]
      simp only [am_bi_v]
      rw [r2]
      simp only [am_bi_v]
      show _ = some (some (vi (iv (rulC K cs))), c2, l, x, y)
      unfold rulC
      cases allSo K 1 cs <;> cases allSo K 2 cs <;> rfl
theorem e216 (h : RR c l K F) (d : Nat) : E (d + 2) 216 [vr 48 0] (c, l, x, y) = some (some (vi (iv (tru K))), c, l, x, y) := by
  have hv := h.2.1.2.2.2.2.2
  have hn20 := h.2.1.1.1
  have hacc := h.1.2.2.2.2.2
  rw [q_216, e180 h]
  simp (disch := omega) only [am_bi_v, iv_L, iv_neg, iv_eq]
  unfold tru
  by_cases ha : kAc K = -1
  · rw [if_pos ha, if_pos ha]; rfl
  · have h3 := hacc.2 ha
    rw [if_neg ha, if_neg ha, h3.1, h3.2, e212 h (by omega) (by omega) (by omega)]
    simp only [am_bi_v]
    cases isF K (kAc K) (kDe K) (-1) with
    | true => rfl
    | false => rfl
theorem e203 {ws : List Nat} (hT : TR c ws) (hl : ws.length < 16) (w : Nat) (d : Nat) : ∃ c2 : Nat → Nat → Nat → Int32, E (d + 1) 203 [vr 48 0, vi (iv w)] (c, l, x, y) = some (none, c2, l, x, y) ∧ Sx c c2 ∧ TR c2 (ws ++ [w]) := by
  refine ⟨am_ui (am_ui c 79 0 ws.length (iv w)) 48 0 44 (iv ((ws.length : Int) + 1)), ?_, (Sx.ui _ _ _ _ (by omega)).tr (Sx.ui _ _ _ _ (by omega)), ?_, ?_⟩
  · rw [q_203, hT.1]
    simp (disch := omega) only [iv_add, iv_sub, iv_mul, iv_neg, iv_lt, iv_le, iv_eq, iv_nat, iv_L, iv_L2, am_bi_v, am_bv_v, am_bl_v, if_pos, if_neg, Int.toNat_natCast, Int.toNat_add, Int.toNat_mul, Int.reduceToNat]
  · rw [ui_self, List.length_append, List.length_singleton]; rfl
  · intro k hk
    rw [List.length_append, List.length_singleton] at hk
    rw [ui_ne _ _ _ _ (by omega)]
    by_cases e : k = ws.length
    · subst e; rw [ui_self, getD_app_new]
    · rw [ui_ne _ _ _ _ (by omega), getD_app_old (by omega)]
      exact hT.2 k (by omega)
theorem rowBut_snoc {ws : List Nat} {i : Nat} {sk : Int} (h : i < ws.length) : rowBut (ws.take (i + 1)) sk = if (i : Int) = sk then rowBut (ws.take i) sk else rowBut (ws.take i) sk ++ [ws.getD i 0] := by
  have hl : (ws.take i).length = i := by rw [List.length_take]; omega
  rw [take_succ_getD h]
  unfold rowBut
  by_cases e0 : 0 ≤ sk
  · rw [if_pos e0, if_pos e0]
    by_cases e : (i : Int) = sk
    · rw [if_pos e, show sk.toNat = i by omega, List.eraseIdx_append_of_length_le (by omega), List.eraseIdx_of_length_le (l := ws.take i) (by omega), hl, Nat.sub_self]
      simp
    · rw [if_neg e]
      by_cases e2 : sk.toNat < i
      · rw [List.eraseIdx_append_of_lt_length (by omega)]
      · rw [List.eraseIdx_of_length_le (by rw [List.length_append, List.length_singleton]; omega), List.eraseIdx_of_length_le (by omega)]
  · rw [if_neg e0, if_neg e0, if_neg (by omega)]
theorem rowBut_len (ws : List Nat) (sk : Int) : (rowBut ws sk).length ≤ ws.length := by
  unfold rowBut
  split
  · rw [List.length_eraseIdx]; split <;> omega
  · exact Nat.le_refl _
theorem rowBut_mem {ws : List Nat} {sk : Int} : ∀ w ∈ rowBut ws sk, w ∈ ws := by
  intro w h
  unfold rowBut at h
  split at h
  · exact List.mem_of_mem_eraseIdx h
  · exact h
/-- the row is tried but for a place -/
theorem e202 {ws : List Nat} (hr : RowAt c 77 0 ws) (hn : c 48 0 42 = iv ws.length) (hl : ws.length ≤ 8) {sk : Int} (hsk : -1 ≤ sk ∧ sk < 1000) (d : Nat) : ∃ c2 : Nat → Nat → Nat → Int32, E (d + 2) 202 [vr 48 0, vi (iv sk)] (c, l, x, y) = some (none, c2, l, x, y) ∧ Sx c c2 ∧ TR c2 (rowBut ws sk) := by
  have key : ∀ (n i : Nat) (c : Nat → Nat → Nat → Int32), i + n = ws.length → RowAt c 77 0 ws → c 48 0 42 = iv ws.length → TR c (rowBut (ws.take i) sk) → ∃ c2 : Nat → Nat → Nat → Int32, X (d + 2) 202 5 [some (vr 48 0), some (vi (iv sk)), some (vi (iv (i : Nat)))] [] (c, l, x, y) = some (none, c2, l, x, y) ∧ Sx c c2 ∧ TR c2 (rowBut ws sk) := by
    intro n
    induction n with
    | zero =>
      intro i c hi hr hn hT
      rw [List.take_of_length_le (by omega)] at hT
      refine ⟨c, ?_, Sx.rf c, hT⟩
      rw [q_202_5, hn]
      simp (disch := omega) only [iv_add, iv_sub, iv_mul, iv_neg, iv_lt, iv_le, iv_eq, iv_nat, iv_L, iv_L2, am_bi_v, am_bv_v, am_bl_v, if_pos, if_neg, Int.toNat_natCast, Int.toNat_add, Int.toNat_mul, Int.reduceToNat]
    | succ n ih =>
      intro i c hi hr hn hT
      have hil : i < ws.length := by omega
      have hsn := rowBut_snoc (sk := sk) hil
      rw [q_202_5, hn]
      simp (disch := omega) only [iv_add, iv_sub, iv_mul, iv_neg, iv_lt, iv_le, iv_eq, iv_nat, iv_L, iv_L2, am_bi_v, am_bv_v, am_bl_v, if_pos, if_neg, Int.toNat_natCast, Int.toNat_add, Int.toNat_mul, Int.reduceToNat, hr i hil]
      rw [show ((i : Int) + 1) = ((i + 1 : Nat) : Int) by omega]
      by_cases e : (i : Int) = sk
      · rw [if_pos e] at hsn
        rw [if_pos e]
        exact ih (i + 1) c (by omega) hr hn (by rw [hsn]; exact hT)
      · rw [if_neg e] at hsn
        rw [if_neg e]
        have hb := rowBut_len (ws.take i) sk
        rw [List.length_take] at hb
        obtain ⟨c2, g1, g2, g3⟩ := e203 (l := l) (x := x) (y := y) hT (by omega) (ws.getD i 0) d
        obtain ⟨c3, k1, k2, k3⟩ := ih (i + 1) c2 (by omega) (fun k hk => by rw [g2.1 77 (by decide) (by decide)]; exact hr k hk) (by rw [g2.2 0 42 (by decide) (by decide) (by decide) (by decide)]; exact hn) (by rw [hsn]; exact g3)
        refine ⟨c3, ?_, g2.tr k2, k3⟩
        rw [g1]
        exact k1
  obtain ⟨c2, g1, g2, g3⟩ := key ws.length 0 (am_ui c 48 0 44 (iv 0)) (by omega) (fun k hk => by rw [ui_nk _ _ _ _ (by decide)]; exact hr k hk) (by rw [ui_ne _ _ _ _ (by omega)]; exact hn) (by
    rw [List.take_zero, show rowBut [] sk = [] by unfold rowBut; split <;> rfl]
    exact ⟨ui_self _ _ _ _, fun k hk => absurd hk (Nat.not_lt_zero _)⟩)
  exact ⟨c2, by rw [q_202]; exact g1, (Sx.ui _ _ _ _ (by omega)).tr g2, g3⟩
/-- a case is tried but for a place -/
theorem e220 (h : RR c l K F) {m : Nat} (hm : m < nC K) {sk : Int} (hsk : -1 ≤ sk ∧ sk < 1000) (d : Nat) : ∃ c2 : Nat → Nat → Nat → Int32, E (d + 2) 220 [vr 48 0, vi (iv m), vi (iv sk)] (c, l, x, y) = some (none, c2, l, x, y) ∧ Sx c c2 ∧ TR c2 (rowBut (csK K m) sk) := by
  have hcs := h.2.1.2.2.2.2.1
  have hv := hcs.2 m hm
  have key : ∀ (n i : Nat) (c : Nat → Nat → Nat → Int32), i + n = (csK K m).length → RR c l K F → TR c (rowBut ((csK K m).take i) sk) → ∃ c2 : Nat → Nat → Nat → Int32, X (d + 2) 220 11 [some (vr 48 0), none, some (vi (iv sk)), some (vi (iv (72 + 9 * (m : Int)))), some (vi (iv (i : Nat)))] [] (c, l, x, y) = some (none, c2, l, x, y) ∧ Sx c c2 ∧ TR c2 (rowBut (csK K m) sk) := by
    intro n
    induction n with
    | zero =>
      intro i c hi hR hT
      rw [List.take_of_length_le (by omega)] at hT
      refine ⟨c, ?_, Sx.rf c, hT⟩
      rw [q_220_11]
      simp (disch := omega) only [iv_add, iv_sub, iv_mul, iv_neg, iv_lt, iv_le, iv_eq, iv_nat, iv_L, iv_L2, am_bi_v, am_bv_v, am_bl_v, if_pos, if_neg, Int.toNat_natCast, Int.toNat_add, Int.toNat_mul, Int.reduceToNat, (hR.1.2.2.2.2.1.2 m hm).1]
    | succ n ih =>
      intro i c hi hR hT
      have hil : i < (csK K m).length := by omega
      have hsn := rowBut_snoc (sk := sk) hil
      have hcell := hR.1.2.2.2.2.1.2 m hm
      rw [q_220_11]
      simp (disch := omega) only [iv_add, iv_sub, iv_mul, iv_neg, iv_lt, iv_le, iv_eq, iv_nat, iv_L, iv_L2, am_bi_v, am_bv_v, am_bl_v, if_pos, if_neg, Int.toNat_natCast, Int.toNat_add, Int.toNat_mul, Int.reduceToNat, hcell.1, hcell.2 i hil]
      rw [show ((i : Int) + 1) = ((i + 1 : Nat) : Int) by omega]
      by_cases e : (i : Int) = sk
      · rw [if_pos e] at hsn
        rw [if_pos e]
        exact ih (i + 1) c (by omega) hR (by rw [hsn]; exact hT)
      · rw [if_neg e] at hsn
        rw [if_neg e]
        have hb := rowBut_len ((csK K m).take i) sk
        rw [List.length_take] at hb
        obtain ⟨c2, g1, g2, g3⟩ := e203 (l := l) (x := x) (y := y) hT (by omega) ((csK K m).getD i 0) d
        obtain ⟨c3, k1, k2, k3⟩ := ih (i + 1) c2 (by omega) (Sx_RR g2 hR) (by rw [hsn]; exact g3)
        refine ⟨c3, ?_, g2.tr k2, k3⟩
        rw [g1]
        exact k1
  obtain ⟨c2, g1, g2, g3⟩ := key (csK K m).length 0 (am_ui c 48 0 44 (iv 0)) (by omega) (Sx_RR (Sx.ui _ _ _ _ (by omega)) h) (by
    rw [List.take_zero, show rowBut [] sk = [] by unfold rowBut; split <;> rfl]
    exact ⟨ui_self _ _ _ _, fun k hk => absurd hk (Nat.not_lt_zero _)⟩)
  refine ⟨c2, ?_, (Sx.ui _ _ _ _ (by omega)).tr g2, g3⟩
  rw [q_220]
  simp (disch := omega) only [iv_add, iv_sub, iv_mul, iv_neg, iv_lt, iv_le, iv_eq, iv_nat, iv_L, iv_L2, am_bi_v, am_bv_v, am_bl_v, if_pos, if_neg, Int.toNat_natCast, Int.toNat_add, Int.toNat_mul, Int.reduceToNat]
  exact g1
end
