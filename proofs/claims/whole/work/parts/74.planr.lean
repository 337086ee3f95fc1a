/-! the reference's plans -/
def ChAt (c : Nat → Nat → Nat → Int32) (L : List Nat) : Prop := ∀ k, k < L.length → c 84 0 k = iv (L.getD k 0 : Nat)
def fsG (K : Ct) (F r : Nat) (side : Int) (j : Nat) (pre : List Nat) (i : Nat) : Option (List Nat) := if okC K side pre i then (fstP K F r side j (pre ++ [i])).map (fun L => i :: L) else none
section
variable {c : Nat → Nat → Nat → Int32} {l : Nat → Nat → Int64} {x y : Nat} {K : Ct} {F : Nat} {side : Int}
theorem ChAt_fr {c2 : Nat → Nat → Nat → Int32} {L : List Nat} (h : ChAt c L) (hf : c2 84 = c 84) : ChAt c2 L := fun k hk => by rw [hf]; exact h k hk
theorem dq4 (v : Nat) (hv : v < 1000) : iv (v : Int) / iv 4 = iv ((v / 4 : Nat) : Int) ∧ iv (v : Int) - iv ((v / 4 : Nat) : Int) * iv 4 = iv ((v % 4 : Nat) : Int) := by
  rw [iv_div (by omega) (by omega)]
  refine ⟨by congr 1, ?_⟩
  rw [iv_mul, iv_sub]
  congr 1
  omega
theorem PV_at {L : List Nat} (h : PV K side [] L) {k : Nat} (hk : k < L.length) : L.getD k 0 < 4 * nB K ∧ L.getD k 0 % 4 < (sayK K (L.getD k 0 / 4)).length := by
  have h1 := ((PV_iff L []).mp h).1 _ (getD_mem hk)
  have h2 := h1.2.1
  unfold okB at h2
  rw [Bool.and_eq_true, decide_eq_true_eq] at h2
  exact ⟨h1.1, h2.1⟩
theorem PV_len (hK : VK K) {L : List Nat} (h : PV K side [] L) : L.length ≤ nB K := by
  have h1 := (PV_iff L []).mp h
  have := nodup_len (nB K) (L.map (· / 4)) h1.2 (fun w hw => by
    obtain ⟨p, hp, rfl⟩ := List.mem_map.mp hw
    have := (h1.1 p hp).1
    show p / 4 < nB K
    omega)
  rw [List.length_map] at this
  exact this
theorem map_at {L : List Nat} {k : Nat} (hk : k < L.length) : (L.map (cw K)).getD k 0 = cw K (L.getD k 0) := by
  rw [List.getD_eq_getElem?_getD, List.getElem?_map, List.getD_eq_getElem?_getD, List.getElem?_eq_getElem hk]
  rfl
theorem e226 (h : RR c l K F) {L : List Nat} (hC : ChAt c L) (hV : PV K side [] L) (hl : L.length ≤ 5) (d : Nat) : ∃ c2 : Nat → Nat → Nat → Int32, E (d + 2) 226 [vr 48 0, vi (iv (L.length : Nat))] (c, l, x, y) = some (none, c2, l, x, y) ∧ Sx c c2 ∧ TR c2 (L.map (cw K)) := by
  have hnb := h.2.1.2.2.2.1.1
  have key : ∀ (m i : Nat) (c : Nat → Nat → Nat → Int32), i + m = L.length → RR c l K F → ChAt c L → TR c ((L.map (cw K)).take i) → ∃ c2 : Nat → Nat → Nat → Int32, X (d + 2) 226 5 [some (vr 48 0), some (vi (iv (L.length : Nat))), some (vi (iv (i : Nat)))] [] (c, l, x, y) = some (none, c2, l, x, y) ∧ Sx c c2 ∧ TR c2 (L.map (cw K)) := by
    intro m
    induction m with
    | zero =>
      intro i c hi hR hC hT
      rw [List.take_of_length_le (by rw [List.length_map]; omega)] at hT
      refine ⟨c, ?_, Sx.rf c, hT⟩
      rw [q_226_5]
      simp (disch := omega) only [iv_add, iv_sub, iv_mul, iv_neg, iv_lt, iv_le, iv_eq, iv_nat, iv_L, iv_L2, am_bi_v, am_bv_v, am_bl_v, if_pos, if_neg, Int.toNat_natCast, Int.toNat_add, Int.toNat_mul, Int.reduceToNat]
    | succ m ih =>
      intro i c hi hR hC hT
      have hil : i < L.length := by omega
      have hv := PV_at hV hil
      have hd := dq4 (L.getD i 0) (by omega)
      have hs := e188 (l := l) (x := x) (y := y) hR (show L.getD i 0 / 4 < nB K by omega) hv.2 d
      obtain ⟨c2, g1, g2, g3⟩ := e203 (l := l) (x := x) (y := y) hT (by rw [List.length_take, List.length_map]; omega) (cw K (L.getD i 0)) d
      have htk : (L.map (cw K)).take (i + 1) = (L.map (cw K)).take i ++ [cw K (L.getD i 0)] := by rw [take_succ_getD (by rw [List.length_map]; exact hil), map_at hil]
      obtain ⟨c3, k1, k2, k3⟩ := ih (i + 1) c2 (by omega) (Sx_RR g2 hR) (ChAt_fr hC (g2.1 84 (by decide) (by decide))) (by rw [htk]; exact g3)
      refine ⟨c3, ?_, g2.tr k2, k3⟩
      rw [q_226_5]
      simp (disch := omega) only [iv_add, iv_sub, iv_mul, iv_neg, iv_lt, iv_le, iv_eq, iv_nat, iv_L, iv_L2, am_bi_v, am_bv_v, am_bl_v, if_pos, if_neg, Int.toNat_natCast, Int.toNat_add, Int.toNat_mul, Int.reduceToNat, hC i hil]
      rw [hd.1, hd.2, hs]
      simp only [am_bi_v]
      unfold cw at g1
      rw [g1]
      exact k1
  obtain ⟨c2, g1, g2, g3⟩ := key L.length 0 (am_ui c 48 0 44 (iv 0)) (by omega) (Sx_RR (Sx.ui _ _ _ _ (by omega)) h) (ChAt_fr hC (ui_nk _ _ _ _ (by decide))) (by
    rw [List.take_zero]
    exact ⟨ui_self _ _ _ _, fun k hk => absurd hk (Nat.not_lt_zero _)⟩)
  exact ⟨c2, by rw [q_226]; exact g1, (Sx.ui _ _ _ _ (by omega)).tr g2, g3⟩
theorem e223 (h : RR c l K F) {pre : List Nat} (hC : ChAt c pre) (hV : PV K side [] pre) (hl : pre.length < 5) {v : Nat} (hv : v < 4 * nB K) (hc : c 84 0 pre.length = iv (v : Nat)) (hsd : -1 ≤ side ∧ side ≤ 1) (d : Nat) : E (d + 2) 223 [vr 48 0, vi (iv (pre.length : Nat)), vi (iv side)] (c, l, x, y) = some (some (vi (iv (if okC K side pre v then 1 else 0))), c, l, x, y) := by
  have hnb := h.2.1.2.2.2.1.1
  have hb : v / 4 < nB K := by omega
  have hvb := h.2.1.2.2.2.1.2 _ hb
  have hd := dq4 v (by omega)
  have e1 := e187 (l := l) (x := x) (y := y) h hb d
  have e2 := e224 (l := l) (x := x) (y := y) h hb d
  have key : ∀ (m i : Nat), i + m = pre.length → (∀ j, j < i → pre.getD j 0 / 4 ≠ v / 4) → X (d + 2) 223 29 [some (vr 48 0), some (vi (iv (pre.length : Nat))), none, some (vi (iv ((v / 4 : Nat) : Int))), some (vi (iv (i : Nat)))] [] (c, l, x, y) = some (some (vi (iv (if (pre.map (· / 4)).contains (v / 4) then 0 else 1))), c, l, x, y) := by
    intro m
    induction m with
    | zero =>
      intro i hi hn
      have hc : (pre.map (· / 4)).contains (v / 4) = false := by
        rw [← Bool.not_eq_true, List.contains_iff_mem]
        intro q
        obtain ⟨a, q1, q2⟩ := List.mem_map.mp q
        obtain ⟨k, k1, k2⟩ := List.getElem_of_mem q1
        refine hn k (by omega) ?_
        rw [List.getD_eq_getElem?_getD, List.getElem?_eq_getElem k1, Option.getD_some, k2]
        exact q2
      rw [hc, q_223_29]
      simp (disch := omega) only [iv_add, iv_sub, iv_mul, iv_neg, iv_lt, iv_le, iv_eq, iv_nat, iv_L, iv_L2, am_bi_v, am_bv_v, am_bl_v, if_pos, if_neg, Int.toNat_natCast, Int.toNat_add, Int.toNat_mul, Int.reduceToNat]
      rfl
    | succ m ih =>
      intro i hi hn
      have hil : i < pre.length := by omega
      have hp := PV_at hV hil
      have hq := dq4 (pre.getD i 0) (by omega)
      rw [q_223_29]
      simp (disch := omega) only [iv_add, iv_sub, iv_mul, iv_neg, iv_lt, iv_le, iv_eq, iv_nat, iv_L, iv_L2, am_bi_v, am_bv_v, am_bl_v, if_pos, if_neg, Int.toNat_natCast, Int.toNat_add, Int.toNat_mul, Int.reduceToNat, hC i hil]
      rw [hq.1]
      by_cases e : pre.getD i 0 / 4 = v / 4
      · have hc : (pre.map (· / 4)).contains (v / 4) = true := by
          rw [List.contains_iff_mem]
          exact List.mem_map.mpr ⟨_, getD_mem hil, e⟩
        rw [if_pos (by rw [e]), hc, if_pos rfl]
      · rw [if_neg (by rw [iv_eq (by omega) (by omega)]; omega), show ((i : Int) + 1) = ((i + 1 : Nat) : Int) by omega]
        refine ih (i + 1) (by omega) (fun j hj => ?_)
        by_cases ej : j = i
        · rw [ej]; exact e
        · exact hn j (by omega)
  have hk := key pre.length 0 (by omega) (fun j hj => absurd hj (Nat.not_lt_zero _))
  rw [q_223]
  simp (disch := omega) only [iv_add, iv_sub, iv_mul, iv_neg, iv_lt, iv_le, iv_eq, iv_nat, iv_L, iv_L2, am_bi_v, am_bv_v, am_bl_v, if_pos, if_neg, Int.toNat_natCast, Int.toNat_add, Int.toNat_mul, Int.reduceToNat, hc]
  rw [hd.1, hd.2, e1]
  simp (disch := omega) only [am_bi_v, iv_lt, iv_neg, iv_eq]
  unfold okC okB
  by_cases q1 : v % 4 < (sayK K (v / 4)).length
  · rw [if_pos (by omega), decide_eq_true q1, Bool.true_and]
    by_cases q2 : side = -1
    · rw [if_pos q2]
      refine hk.trans ?_
      rw [q2]
      cases (pre.map (· / 4)).contains (v / 4) <;> rfl
    · rw [if_neg q2, e2]
      simp (disch := omega) only [am_bi_v, iv_eq]
      have hs1 : (side == -1) = false := beq_eq_false_iff_ne.mpr q2
      rw [hs1, Bool.false_or]
      by_cases q3 : ((bnK K (v / 4)).2.2.1 : Int) = side
      · rw [if_pos q3, beq_iff_eq.mpr q3, Bool.true_and]
        refine hk.trans ?_
        cases (pre.map (· / 4)).contains (v / 4) <;> rfl
      · rw [if_neg q3, beq_eq_false_iff_ne.mpr q3]
        rfl
  · rw [if_neg (by omega), decide_eq_false q1]
    rfl
theorem e228 {ws : List Nat} (hT : TR c ws) (hl : ws.length ≤ 16) {p : Nat} (hp : p < ws.length) (d : Nat) : ∃ c2 : Nat → Nat → Nat → Int32, E (d + 1) 228 [vr 48 0, vi (iv (p : Nat))] (c, l, x, y) = some (none, c2, l, x, y) ∧ Sx c c2 ∧ TR c2 (ws.eraseIdx p) := by
  have hlen : (ws.eraseIdx p).length = ws.length - 1 := by rw [List.length_eraseIdx, if_pos hp]
  have key : ∀ (m i : Nat) (c : Nat → Nat → Nat → Int32), i + m + 1 = ws.length → p ≤ i → c 48 0 44 = iv ((ws.length : Int) - 1) → (∀ k, k < i → c 79 0 k = iv ((ws.eraseIdx p).getD k 0 : Nat)) → (∀ k, i ≤ k → k < ws.length → c 79 0 k = iv (ws.getD k 0 : Nat)) → ∃ c2 : Nat → Nat → Nat → Int32, X (d + 1) 228 8 [some (vr 48 0), none, some (vi (iv (i : Nat)))] [] (c, l, x, y) = some (none, c2, l, x, y) ∧ Sx c c2 ∧ TR c2 (ws.eraseIdx p) := by
    intro m
    induction m with
    | zero =>
      intro i c hi hpi h44 ha hb
      refine ⟨c, ?_, Sx.rf c, ?_, fun k hk => ha k (by omega)⟩
      · rw [q_228_8, h44]
        simp (disch := omega) only [iv_add, iv_sub, iv_mul, iv_neg, iv_lt, iv_le, iv_eq, iv_nat, iv_L, iv_L2, am_bi_v, am_bv_v, am_bl_v, if_pos, if_neg, Int.toNat_natCast, Int.toNat_add, Int.toNat_mul, Int.reduceToNat]
      · rw [h44, hlen]; congr 1; omega
    | succ m ih =>
      intro i c hi hpi h44 ha hb
      have hb1 := hb (i + 1) (by omega) (by omega)
      obtain ⟨c2, k1, k2, k3⟩ := ih (i + 1) (am_ui c 79 0 i (iv (ws.getD (i + 1) 0 : Nat))) (by omega) (by omega) (by rw [ui_nk _ _ _ _ (by decide)]; exact h44) (fun k hk => by
        by_cases e : k = i
        · subst e
          rw [ui_self, getD_erase, if_neg (by omega)]
        · rw [ui_ne _ _ _ _ (by omega)]; exact ha k (by omega)) (fun k h1 h2 => by rw [ui_ne _ _ _ _ (by omega)]; exact hb k (by omega) h2)
      refine ⟨c2, ?_, (Sx.ui _ _ _ _ (by omega)).tr k2, k3⟩
      rw [q_228_8, h44]
      simp (disch := omega) only [iv_add, iv_sub, iv_mul, iv_neg, iv_lt, iv_le, iv_eq, iv_nat, iv_L, iv_L2, am_bi_v, am_bv_v, am_bl_v, if_pos, if_neg, Int.toNat_natCast, Int.toNat_add, Int.toNat_mul, Int.reduceToNat]
      try rw [show ((i : Int) + 1).toNat = i + 1 by omega]
      rw [hb1]
      exact k1
  obtain ⟨c2, k1, k2, k3⟩ := key (ws.length - 1 - p) p (am_ui c 48 0 44 (iv ((ws.length : Int) - 1))) (by omega) (by omega) (ui_self _ _ _ _) (fun k hk => by rw [ui_nk _ _ _ _ (by decide), hT.2 k (by omega), getD_erase, if_pos hk]) (fun k _ hk => by rw [ui_nk _ _ _ _ (by decide)]; exact hT.2 k hk)
  refine ⟨c2, ?_, (Sx.ui _ _ _ _ (by omega)).tr k2, k3⟩
  rw [q_228, hT.1]
  simp (disch := omega) only [iv_add, iv_sub, iv_mul, iv_neg, iv_lt, iv_le, iv_eq, iv_nat, iv_L, iv_L2, am_bi_v, am_bv_v, am_bl_v, if_pos, if_neg, Int.toNat_natCast, Int.toNat_add, Int.toNat_mul, Int.reduceToNat]
  exact k1
theorem e227 (h : RR c l K F) {L : List Nat} (hC : ChAt c L) (hV : PV K side [] L) (hl : L.length ≤ 5) {r : Nat} (hr : r = 1 ∨ r = 2) (hrl : rul K F (L.map (cw K)) = r) (d : Nat) : ∃ c2 : Nat → Nat → Nat → Int32, E (d + 7) 227 [vr 48 0, vi (iv (L.length : Nat)), vi (iv (r : Nat))] (c, l, x, y) = some (some (vi (iv 0)), c2, l, x, y) ∧ Sx c c2 := by
  have hw := PV_lt h.2.1 L [] hV
  obtain ⟨i0, hi0, hz⟩ := no_stand h.2.1 hw (show rul K F (L.map (cw K)) ≠ 0 by omega)
  rw [List.length_map] at hi0
  have key : ∀ (m i : Nat) (c : Nat → Nat → Nat → Int32), i + m = i0 → RR c l K F → ChAt c L → ∃ c2 : Nat → Nat → Nat → Int32, X (d + 7) 227 2 [some (vr 48 0), some (vi (iv (L.length : Nat))), some (vi (iv (r : Nat))), some (vi (iv (i : Nat)))] [] (c, l, x, y) = some (some (vi (iv 0)), c2, l, x, y) ∧ Sx c c2 := by
    intro m
    induction m with
    | zero =>
      intro i c hi hR hC
      have : i = i0 := by omega
      subst this
      obtain ⟨c1, g1, g2, g3⟩ := e226 (x := x) (y := y) hR hC hV hl (d + 4)
      obtain ⟨c2, k1, k2, k3⟩ := e228 (l := l) (x := x) (y := y) g3 (by rw [List.length_map]; omega) (p := i) (by rw [List.length_map]; exact hi0) (d + 5)
      obtain ⟨c3, j1, j2⟩ := e215 (x := x) (y := y) (Sx_RR (g2.tr k2) hR) k3 (fun w q => hw w (List.mem_of_mem_eraseIdx q)) (by have := List.length_eraseIdx_le (L.map (cw K)) i; rw [List.length_map] at this; omega) d
      refine ⟨c3, ?_, (g2.tr k2).tr j2⟩
      rw [hz] at j1
      rw [q_227_2]
      simp (disch := omega) only [iv_add, iv_sub, iv_mul, iv_neg, iv_lt, iv_le, iv_eq, iv_nat, iv_L, iv_L2, am_bi_v, am_bv_v, am_bl_v, if_pos, if_neg, Int.toNat_natCast, Int.toNat_add, Int.toNat_mul, Int.reduceToNat]
      rw [g1]
      simp only [am_bv_v]
      rw [k1]
      simp only [am_bv_v]
      rw [j1]
      simp (disch := omega) only [iv_add, iv_sub, iv_mul, iv_neg, iv_lt, iv_le, iv_eq, iv_nat, iv_L, iv_L2, am_bi_v, am_bv_v, am_bl_v, if_pos, if_neg, Int.toNat_natCast, Int.toNat_add, Int.toNat_mul, Int.reduceToNat]
    | succ m ih =>
      intro i c hi hR hC
      obtain ⟨c1, g1, g2, g3⟩ := e226 (x := x) (y := y) hR hC hV hl (d + 4)
      obtain ⟨c2, k1, k2, k3⟩ := e228 (l := l) (x := x) (y := y) g3 (by rw [List.length_map]; omega) (p := i) (by rw [List.length_map]; omega) (d + 5)
      obtain ⟨c3, j1, j2⟩ := e215 (x := x) (y := y) (Sx_RR (g2.tr k2) hR) k3 (fun w q => hw w (List.mem_of_mem_eraseIdx q)) (by have := List.length_eraseIdx_le (L.map (cw K)) i; rw [List.length_map] at this; omega) d
      have h3 := rul_lt K F ((L.map (cw K)).eraseIdx i)
      have hs := (g2.tr k2).tr j2
      rw [q_227_2]
      simp (disch := omega) only [iv_add, iv_sub, iv_mul, iv_neg, iv_lt, iv_le, iv_eq, iv_nat, iv_L, iv_L2, am_bi_v, am_bv_v, am_bl_v, if_pos, if_neg, Int.toNat_natCast, Int.toNat_add, Int.toNat_mul, Int.reduceToNat]
      rw [g1]
      simp only [am_bv_v]
      rw [k1]
      simp only [am_bv_v]
      rw [j1]
      simp (disch := omega) only [am_bi_v, iv_eq]
      by_cases e : ((rul K F ((L.map (cw K)).eraseIdx i) : Nat) : Int) = (r : Nat)
      · rw [if_pos e, show ((i : Int) + 1) = ((i + 1 : Nat) : Int) by omega]
        obtain ⟨c4, l1, l2⟩ := ih (i + 1) c3 (by omega) (Sx_RR hs hR) (ChAt_fr hC (hs.1 84 (by decide) (by decide)))
        exact ⟨c4, l1, hs.tr l2⟩
      · rw [if_neg e]
        exact ⟨c3, rfl, hs⟩
  obtain ⟨c2, k1, k2⟩ := key i0 0 c (by omega) h hC
  exact ⟨c2, by rw [q_227]; exact k1, k2⟩
theorem e183 (h : RR c l K F) (d : Nat) : E (d + 1) 183 [vr 48 0] (c, l, x, y) = some (some (vi (iv (nW K : Nat))), c, l, x, y) := by rw [q_183, h.1.1.1]
theorem e229 (h : RR c l K F) {L : List Nat} (hC : ChAt c L) (hV : PV K side [] L) (hl : L.length ≤ 5) {r : Nat} (hr : r = 1 ∨ r = 2) (hrl : rul K F (L.map (cw K)) = r) (d : Nat) : ∃ c2 : Nat → Nat → Nat → Int32, E (d + 7) 229 [vr 48 0, vi (iv (L.length : Nat)), vi (iv (r : Nat))] (c, l, x, y) = some (some (vi (iv 0)), c2, l, x, y) ∧ Sx c c2 := by
  have hw := PV_lt h.2.1 L [] hV
  have hn20 := h.2.1.1.1
  obtain ⟨w0, hw0, hz⟩ := no_firm h.2.1 hw (show rul K F (L.map (cw K)) ≠ 0 by omega)
  have key : ∀ (m i : Nat) (c : Nat → Nat → Nat → Int32), i + m = w0 → RR c l K F → ChAt c L → ∃ c2 : Nat → Nat → Nat → Int32, X (d + 7) 229 7 [some (vr 48 0), some (vi (iv (L.length : Nat))), some (vi (iv (r : Nat))), some (vi (iv 0)), some (vi (iv (i : Nat)))] [] (c, l, x, y) = some (some (vi (iv 0)), c2, l, x, y) ∧ Sx c c2 := by
    intro m
    induction m with
    | zero =>
      intro i c hi hR hC
      have : i = w0 := by omega
      subst this
      obtain ⟨c1, g1, g2, g3⟩ := e226 (x := x) (y := y) hR hC hV hl (d + 4)
      obtain ⟨c2, k1, k2, k3⟩ := e230 (l := l) (x := x) (y := y) g3 (by rw [List.length_map]; omega) (p := 0) (w := i) (by omega) (d + 5)
      obtain ⟨c3, j1, j2⟩ := e215 (x := x) (y := y) (Sx_RR (g2.tr k2) hR) k3 (fun w q => by
        rcases insAt_mem q with q | q
        · rw [q]; exact hw0
        · exact hw w q) (by rw [insAt_len _ _ _ (by omega), List.length_map]; omega) d
      refine ⟨c3, ?_, (g2.tr k2).tr j2⟩
      rw [hz] at j1
      have k1 : E (d + 6) 230 [vr 48 0, vi (iv 0), vi (iv (i : Nat))] (c1, l, x, y) = _ := k1
      rw [q_229_7, e183 hR]
      simp (disch := omega) only [iv_add, iv_sub, iv_mul, iv_neg, iv_lt, iv_le, iv_eq, iv_nat, iv_L, iv_L2, am_bi_v, am_bv_v, am_bl_v, if_pos, if_neg, Int.toNat_natCast, Int.toNat_add, Int.toNat_mul, Int.reduceToNat]
      rw [g1]
      simp only [am_bv_v]
      rw [k1]
      simp only [am_bv_v]
      rw [j1]
      simp (disch := omega) only [iv_add, iv_sub, iv_mul, iv_neg, iv_lt, iv_le, iv_eq, iv_nat, iv_L, iv_L2, am_bi_v, am_bv_v, am_bl_v, if_pos, if_neg, Int.toNat_natCast, Int.toNat_add, Int.toNat_mul, Int.reduceToNat]
    | succ m ih =>
      intro i c hi hR hC
      obtain ⟨c1, g1, g2, g3⟩ := e226 (x := x) (y := y) hR hC hV hl (d + 4)
      obtain ⟨c2, k1, k2, k3⟩ := e230 (l := l) (x := x) (y := y) g3 (by rw [List.length_map]; omega) (p := 0) (w := i) (by omega) (d + 5)
      obtain ⟨c3, j1, j2⟩ := e215 (x := x) (y := y) (Sx_RR (g2.tr k2) hR) k3 (fun w q => by
        rcases insAt_mem q with q | q
        · rw [q]; omega
        · exact hw w q) (by rw [insAt_len _ _ _ (by omega), List.length_map]; omega) d
      have h3 := rul_lt K F (insAt (L.map (cw K)) 0 i)
      have hs := (g2.tr k2).tr j2
      have k1 : E (d + 6) 230 [vr 48 0, vi (iv 0), vi (iv (i : Nat))] (c1, l, x, y) = _ := k1
      rw [q_229_7, e183 hR]
      simp (disch := omega) only [iv_add, iv_sub, iv_mul, iv_neg, iv_lt, iv_le, iv_eq, iv_nat, iv_L, iv_L2, am_bi_v, am_bv_v, am_bl_v, if_pos, if_neg, Int.toNat_natCast, Int.toNat_add, Int.toNat_mul, Int.reduceToNat]
      rw [g1]
      simp only [am_bv_v]
      rw [k1]
      simp only [am_bv_v]
      rw [j1]
      simp (disch := omega) only [am_bi_v, iv_eq]
      by_cases e : ((rul K F (insAt (L.map (cw K)) 0 i) : Nat) : Int) = (r : Nat)
      · rw [if_pos e, show ((i : Int) + 1) = ((i + 1 : Nat) : Int) by omega]
        obtain ⟨c4, l1, l2⟩ := ih (i + 1) c3 (by omega) (Sx_RR hs hR) (ChAt_fr hC (hs.1 84 (by decide) (by decide)))
        exact ⟨c4, l1, hs.tr l2⟩
      · rw [if_neg e]
        exact ⟨c3, rfl, hs⟩
  obtain ⟨c2, k1, k2⟩ := key w0 0 c (by omega) h hC
  refine ⟨c2, ?_, k2⟩
  rw [q_229, show (0 : Int32) = iv 0 from rfl, q_229_2]
  simp (disch := omega) only [iv_add, iv_sub, iv_mul, iv_neg, iv_lt, iv_le, iv_eq, iv_nat, iv_L, iv_L2, am_bi_v, am_bv_v, am_bl_v, if_pos, if_neg, Int.toNat_natCast, Int.toNat_add, Int.toNat_mul, Int.reduceToNat]
  exact k1
/-- the ruling that is asked; none when the kind is one that can't be -/
def rKd (r kd : Nat) : Nat := if kd = 0 then r else 7
theorem e225 (h : RR c l K F) {L : List Nat} (hC : ChAt c L) (hV : PV K side [] L) (hl : L.length ≤ 5) {r kd : Nat} (hr : r = 1 ∨ r = 2) (hk : kd ≤ 2) (d : Nat) : ∃ c2 : Nat → Nat → Nat → Int32, E (d + 8) 225 [vr 48 0, vi (iv (L.length : Nat)), vi (iv (r : Nat)), vi (iv (kd : Nat))] (c, l, x, y) = some (some (vi (iv (if rul K F (L.map (cw K)) = rKd r kd then 1 else 0))), c2, l, x, y) ∧ Sx c c2 := by
  have hw := PV_lt h.2.1 L [] hV
  obtain ⟨c1, g1, g2, g3⟩ := e226 (x := x) (y := y) h hC hV hl (d + 5)
  obtain ⟨c2, j1, j2⟩ := e215 (x := x) (y := y) (Sx_RR g2 h) g3 hw (by rw [List.length_map]; omega) (d + 1)
  have hs := g2.tr j2
  have h3 := rul_lt K F (L.map (cw K))
  unfold rKd
  rw [q_225, g1]
  simp only [am_bv_v]
  rw [j1]
  simp (disch := omega) only [am_bi_v, iv_L, iv_eq]
  by_cases e : rul K F (L.map (cw K)) = r
  · rw [if_pos (by omega)]
    rcases (show kd = 0 ∨ kd = 1 ∨ kd = 2 by omega) with rfl | rfl | rfl
    · rw [if_pos (by omega), if_pos rfl, if_pos e]
      exact ⟨c2, rfl, hs⟩
    · obtain ⟨c3, l1, l2⟩ := e227 (x := x) (y := y) (Sx_RR hs h) (ChAt_fr hC (hs.1 84 (by decide) (by decide))) hV hl hr e d
      rw [if_neg (by omega), if_pos (by omega), l1, if_neg (show ¬ (1 : Nat) = 0 by decide), if_neg (by omega)]
      exact ⟨c3, rfl, hs.tr l2⟩
    · obtain ⟨c3, l1, l2⟩ := e229 (x := x) (y := y) (Sx_RR hs h) (ChAt_fr hC (hs.1 84 (by decide) (by decide))) hV hl hr e d
      rw [if_neg (by omega), if_neg (by omega), l1, if_neg (show ¬ (2 : Nat) = 0 by decide), if_neg (by omega)]
      exact ⟨c3, rfl, hs.tr l2⟩
  · rw [if_neg (by omega)]
    refine ⟨c2, ?_, hs⟩
    rw [if_neg (by split <;> omega)]
theorem ChAt_snoc {pre : List Nat} {v : Nat} (h : ChAt c pre) (hv : c 84 0 pre.length = iv (v : Nat)) : ChAt c (pre ++ [v]) := by
  intro k hk
  rw [List.length_append, List.length_singleton] at hk
  by_cases e : k = pre.length
  · rw [e, getD_app_new]; exact hv
  · rw [getD_app_old (by omega)]; exact h k (by omega)
theorem ChAt_ui {pre : List Nat} {j : Nat} {v : Int32} (h : ChAt c pre) (hj : pre.length ≤ j) : ChAt (am_ui c 84 0 j v) pre := fun k hk => by rw [ui_ne _ _ _ _ (by omega)]; exact h k hk
theorem ChAt_pre {pre L : List Nat} (h : ChAt c (pre ++ L)) : ChAt c pre := fun k hk => by
  rw [h k (by rw [List.length_append]; omega), List.getD_eq_getElem?_getD, List.getD_eq_getElem?_getD, List.getElem?_append_left hk]
/-- what a level comes to -/
def LvR (K : Ct) (F : Nat) (l : Nat → Nat → Int64) (x y d n r kd : Nat) (side : Int) (pre : List Nat) (c : Nat → Nat → Nat → Int32) (o : Option (List Nat)) (res : Option mr) : Prop := ∃ c2 : Nat → Nat → Nat → Int32, res = (match o with
    | some _ => some (some (vi (iv 1)), c2, l, x, y)
    | none => X (d + 9) 222 7 [some (vr 48 0), some (vi (iv (n : Nat))), some (vi (iv (r : Nat))), some (vi (iv side)), some (vi (iv (kd : Nat))), some (vi (iv ((pre.length : Int) - 1)))] [] (c2, l, x, y)) ∧ RR c2 l K F ∧ Sy c c2 ∧ ChAt c2 pre ∧ ∀ L, o = some L → ChAt c2 (pre ++ L)
theorem lvP (d n r kd : Nat) (hn : n ≤ 5) (hr : r = 1 ∨ r = 2) (hkd : kd ≤ 2) (hsd : -1 ≤ side ∧ side ≤ 1) : ∀ (j : Nat) (pre : List Nat), pre.length + j + 1 = n → PV K side [] pre → ∀ (m v : Nat) (c : Nat → Nat → Nat → Int32), v + m = 4 * nB K → RR c l K F → ChAt c pre → c 84 0 pre.length = iv (v : Nat) → LvR K F l x y d n r kd side pre c ((List.range' v m).findSome? (fsG K F (rKd r kd) side j pre)) (X (d + 9) 222 17 [some (vr 48 0), some (vi (iv (n : Nat))), some (vi (iv (r : Nat))), some (vi (iv side)), some (vi (iv (kd : Nat))), some (vi (iv (pre.length : Nat)))] [] (c, l, x, y)) := by
  intro j
  induction j with
  | zero =>
    intro pre hl hV m
    induction m with
    | zero =>
      intro v c hv h hC hc
      have hnb := h.2.1.2.2.2.1.1
      refine ⟨c, ?_, h, Sy.refl c, hC, fun L q => by cases q⟩
      have h185 := e185 (l := l) (x := x) (y := y) h (d + 7)
      rw [q_222_17, h185]
      simp (disch := omega) only [iv_add, iv_sub, iv_mul, iv_neg, iv_lt, iv_le, iv_eq, iv_nat, iv_L, iv_L2, am_bi_v, am_bv_v, am_bl_v, if_pos, if_neg, Int.toNat_natCast, Int.toNat_add, Int.toNat_mul, Int.reduceToNat, hc]
      rw [q_222_40, h185]
      simp (disch := omega) only [iv_add, iv_sub, iv_mul, iv_neg, iv_lt, iv_le, iv_eq, iv_nat, iv_L, iv_L2, am_bi_v, am_bv_v, am_bl_v, if_pos, if_neg, Int.toNat_natCast, Int.toNat_add, Int.toNat_mul, Int.reduceToNat, hc]
      rfl
    | succ m ih =>
      intro v c hv h hC hc
      have hnb := h.2.1.2.2.2.1.1
      have h185 := e185 (l := l) (x := x) (y := y) h (d + 7)
      have h223 := e223 (l := l) (x := x) (y := y) h hC hV (by omega) (v := v) (by omega) hc hsd (d + 6)
      have hgo : ∀ c3 : Nat → Nat → Nat → Int32, RR c3 l K F → Sy c c3 → ChAt c3 pre → c3 84 0 pre.length = iv (v : Nat) → LvR K F l x y d n r kd side pre c ((List.range' (v + 1) m).findSome? (fsG K F (rKd r kd) side 0 pre)) (X (d + 9) 222 17 [some (vr 48 0), some (vi (iv (n : Nat))), some (vi (iv (r : Nat))), some (vi (iv side)), some (vi (iv (kd : Nat))), some (vi (iv (pre.length : Nat)))] [] (am_ui c3 84 0 pre.length (iv ((v : Int) + 1)), l, x, y)) := by
        intro c3 h3 s3 C3 e3
        obtain ⟨c4, k1, k2, k3, k4, k5⟩ := ih (v + 1) (am_ui c3 84 0 pre.length (iv ((v : Int) + 1))) (by omega) (Sy_RR (Sy.ui _ _ _ _ (by omega)) h3) (ChAt_ui C3 (Nat.le_refl _)) (ui_self _ _ _ _)
        exact ⟨c4, k1, k2, (s3.tr (Sy.ui _ _ _ _ (by omega))).tr k3, k4, k5⟩
      rw [List.range'_succ, List.findSome?_cons]
      rw [q_222_17, h185]
      simp (disch := omega) only [iv_add, iv_sub, iv_mul, iv_neg, iv_lt, iv_le, iv_eq, iv_nat, iv_L, iv_L2, am_bi_v, am_bv_v, am_bl_v, if_pos, if_neg, Int.toNat_natCast, Int.toNat_add, Int.toNat_mul, Int.reduceToNat, hc]
      rw [h223]
      simp only [am_bi_v]
      unfold fsG
      cases ho : okC K side pre v with
      | false =>
        rw [if_neg Bool.false_ne_true, if_neg Bool.false_ne_true, if_pos rfl, hc, iv_add]
        exact hgo c h (Sy.refl c) hC hc
      | true =>
        rw [if_pos rfl, if_pos rfl, if_neg (by decide), q_222_40, h185]
        simp (disch := omega) only [iv_add, iv_sub, iv_mul, iv_neg, iv_lt, iv_le, iv_eq, iv_nat, iv_L, iv_L2, am_bi_v, am_bv_v, am_bl_v, if_pos, if_neg, Int.toNat_natCast, Int.toNat_add, Int.toNat_mul, Int.reduceToNat, hc]
        have hV2 : PV K side [] (pre ++ [v]) := (PV_app pre [] [v]).mpr ⟨hV, by rw [List.nil_append]; exact ⟨by omega, ho, trivial⟩⟩
        have hlen : (pre ++ [v]).length = n := by rw [List.length_append, List.length_singleton]; omega
        obtain ⟨c3, g1, g2⟩ := e225 (x := x) (y := y) h (ChAt_snoc hC hc) hV2 (by omega) hr hkd d
        rw [hlen] at g1
        rw [g1]
        simp only [am_bi_v]
        unfold fstP
        by_cases e : rul K F ((pre ++ [v]).map (cw K)) = rKd r kd
        · rw [if_pos e, if_pos e, if_neg (by decide)]
          have f84 : c3 84 = c 84 := g2.1 84 (by decide) (by decide)
          refine ⟨c3, rfl, Sx_RR g2 h, Sx_Sy g2, ChAt_fr hC f84, fun L q => ?_⟩
          cases q
          exact ChAt_fr (ChAt_snoc hC hc) f84
        · rw [if_neg e, if_neg e, if_pos rfl]
          have f84 : c3 84 = c 84 := g2.1 84 (by decide) (by decide)
          have e3 : c3 84 0 pre.length = iv (v : Nat) := by rw [f84]; exact hc
          show LvR K F l x y d n r kd side pre c ((List.range' (v + 1) m).findSome? (fsG K F (rKd r kd) side 0 pre)) _
          rw [q_222_7]
          simp (disch := omega) only [iv_add, iv_sub, iv_mul, iv_neg, iv_lt, iv_le, iv_eq, iv_nat, iv_L, iv_L2, am_bi_v, am_bv_v, am_bl_v, if_pos, if_neg, Int.toNat_natCast, Int.toNat_add, Int.toNat_mul, Int.reduceToNat, e3]
          exact hgo c3 (Sx_RR g2 h) (Sx_Sy g2) (ChAt_fr hC f84) e3
  | succ j ihj =>
    intro pre hl hV m
    induction m with
    | zero =>
      intro v c hv h hC hc
      have hnb := h.2.1.2.2.2.1.1
      refine ⟨c, ?_, h, Sy.refl c, hC, fun L q => by cases q⟩
      have h185 := e185 (l := l) (x := x) (y := y) h (d + 7)
      rw [q_222_17, h185]
      simp (disch := omega) only [iv_add, iv_sub, iv_mul, iv_neg, iv_lt, iv_le, iv_eq, iv_nat, iv_L, iv_L2, am_bi_v, am_bv_v, am_bl_v, if_pos, if_neg, Int.toNat_natCast, Int.toNat_add, Int.toNat_mul, Int.reduceToNat, hc]
      rw [q_222_40, h185]
      simp (disch := omega) only [iv_add, iv_sub, iv_mul, iv_neg, iv_lt, iv_le, iv_eq, iv_nat, iv_L, iv_L2, am_bi_v, am_bv_v, am_bl_v, if_pos, if_neg, Int.toNat_natCast, Int.toNat_add, Int.toNat_mul, Int.reduceToNat, hc]
      rfl
    | succ m ih =>
      intro v c hv h hC hc
      have hnb := h.2.1.2.2.2.1.1
      have h185 := e185 (l := l) (x := x) (y := y) h (d + 7)
      have h223 := e223 (l := l) (x := x) (y := y) h hC hV (by omega) (v := v) (by omega) hc hsd (d + 6)
      have hgo : ∀ c3 : Nat → Nat → Nat → Int32, RR c3 l K F → Sy c c3 → ChAt c3 pre → c3 84 0 pre.length = iv (v : Nat) → LvR K F l x y d n r kd side pre c ((List.range' (v + 1) m).findSome? (fsG K F (rKd r kd) side (j + 1) pre)) (X (d + 9) 222 17 [some (vr 48 0), some (vi (iv (n : Nat))), some (vi (iv (r : Nat))), some (vi (iv side)), some (vi (iv (kd : Nat))), some (vi (iv (pre.length : Nat)))] [] (am_ui c3 84 0 pre.length (iv ((v : Int) + 1)), l, x, y)) := by
        intro c3 h3 s3 C3 e3
        obtain ⟨c4, k1, k2, k3, k4, k5⟩ := ih (v + 1) (am_ui c3 84 0 pre.length (iv ((v : Int) + 1))) (by omega) (Sy_RR (Sy.ui _ _ _ _ (by omega)) h3) (ChAt_ui C3 (Nat.le_refl _)) (ui_self _ _ _ _)
        exact ⟨c4, k1, k2, (s3.tr (Sy.ui _ _ _ _ (by omega))).tr k3, k4, k5⟩
      rw [List.range'_succ, List.findSome?_cons]
      rw [q_222_17, h185]
      simp (disch := omega) only [iv_add, iv_sub, iv_mul, iv_neg, iv_lt, iv_le, iv_eq, iv_nat, iv_L, iv_L2, am_bi_v, am_bv_v, am_bl_v, if_pos, if_neg, Int.toNat_natCast, Int.toNat_add, Int.toNat_mul, Int.reduceToNat, hc]
      rw [h223]
      simp only [am_bi_v]
      have hfs : fsG K F (rKd r kd) side (j + 1) pre v = if okC K side pre v then (fstP K F (rKd r kd) side (j + 1) (pre ++ [v])).map (fun L => v :: L) else none := rfl
      rw [hfs]
      cases ho : okC K side pre v with
      | false =>
        rw [if_neg Bool.false_ne_true, if_neg Bool.false_ne_true, if_pos rfl, hc, iv_add]
        exact hgo c h (Sy.refl c) hC hc
      | true =>
        rw [if_pos rfl, if_pos rfl, if_neg (by decide), q_222_40, h185]
        simp (disch := omega) only [iv_add, iv_sub, iv_mul, iv_neg, iv_lt, iv_le, iv_eq, iv_nat, iv_L, iv_L2, am_bi_v, am_bv_v, am_bl_v, if_pos, if_neg, Int.toNat_natCast, Int.toNat_add, Int.toNat_mul, Int.reduceToNat, hc]
        have hV2 : PV K side [] (pre ++ [v]) := (PV_app pre [] [v]).mpr ⟨hV, by rw [List.nil_append]; exact ⟨by omega, ho, trivial⟩⟩
        have hlen : (pre ++ [v]).length = pre.length + 1 := by rw [List.length_append, List.length_singleton]
        -- one level deeper
        have e84 : am_ui c 84 0 (pre.length + 1) (iv (-1)) 84 0 (pre.length + 1) = iv (-1) := ui_self _ _ _ _
        have hdeep := ihj (pre ++ [v]) (by omega) hV2 (4 * nB K) 0 (am_ui (am_ui c 84 0 (pre.length + 1) (iv (-1))) 84 0 (pre.length + 1) (iv 0)) (by omega) (Sy_RR ((Sy.ui _ _ _ _ (by omega)).tr (Sy.ui _ _ _ _ (by omega))) h) (ChAt_ui (ChAt_ui (ChAt_snoc hC hc) (by omega)) (by omega)) (by rw [hlen]; exact ui_self _ _ _ _)
        have hfp : fstP K F (rKd r kd) side (j + 1) (pre ++ [v]) = (List.range' 0 (4 * nB K)).findSome? (fsG K F (rKd r kd) side j (pre ++ [v])) := by
          rw [fstP, List.range_eq_range']
          rfl
        rw [← hfp, hlen] at hdeep
        obtain ⟨c3, g1, g2, g3, g4, g5⟩ := hdeep
        have hsy : Sy c c3 := ((Sy.ui _ _ _ _ (by omega)).tr (Sy.ui _ _ _ _ (by omega))).tr g3
        rw [q_222_7]
        simp (disch := omega) only [iv_add, iv_sub, iv_mul, iv_neg, iv_lt, iv_le, iv_eq, iv_nat, iv_L, iv_L2, am_bi_v, am_bv_v, am_bl_v, if_pos, if_neg, Int.toNat_natCast, Int.toNat_add, Int.toNat_mul, Int.reduceToNat, iv_neg, e84]
        have g1 : X (d + 9) 222 17 [some (vr 48 0), some (vi (iv (n : Nat))), some (vi (iv (r : Nat))), some (vi (iv side)), some (vi (iv (kd : Nat))), some (vi (iv ((pre.length : Int) + 1)))] [] (am_ui (am_ui c 84 0 (pre.length + 1) (iv (-1))) 84 0 (pre.length + 1) (iv 0), l, x, y) = _ := g1
        cases hf : fstP K F (rKd r kd) side (j + 1) (pre ++ [v]) with
        | some L =>
          rw [hf] at g1 g5
          refine ⟨c3, ?_, g2, hsy, ChAt_pre g4, fun M q => ?_⟩
          · exact g1
          · cases q
            have := g5 L rfl
            rw [List.append_assoc] at this
            exact this
        | none =>
          rw [hf] at g1
          have e3 : c3 84 0 pre.length = iv (v : Nat) := by
            have := g4 pre.length (by omega)
            rw [getD_app_new] at this
            exact this
          have hg := hgo c3 g2 hsy (ChAt_pre g4) e3
          show LvR K F l x y d n r kd side pre c ((List.range' (v + 1) m).findSome? (fsG K F (rKd r kd) side (j + 1) pre)) _
          refine (congrArg (LvR K F l x y d n r kd side pre c ((List.range' (v + 1) m).findSome? (fsG K F (rKd r kd) side (j + 1) pre))) (g1.trans ?_)).mpr hg
          show X (d + 9) 222 7 [some (vr 48 0), some (vi (iv (n : Nat))), some (vi (iv (r : Nat))), some (vi (iv side)), some (vi (iv (kd : Nat))), some (vi (iv (((pre ++ [v]).length : Int) - 1)))] [] (c3, l, x, y) = _
          rw [hlen, show ((pre.length + 1 : Nat) : Int) - 1 = (pre.length : Nat) by omega, q_222_7]
          simp (disch := omega) only [iv_add, iv_sub, iv_mul, iv_neg, iv_lt, iv_le, iv_eq, iv_nat, iv_L, iv_L2, am_bi_v, am_bv_v, am_bl_v, if_pos, if_neg, Int.toNat_natCast, Int.toNat_add, Int.toNat_mul, Int.reduceToNat, e3]
theorem e222 (h : RR c l K F) {n r kd : Nat} (hn : 1 ≤ n ∧ n ≤ 5) (hr : r = 1 ∨ r = 2) (hkd : kd ≤ 2) (hsd : -1 ≤ side ∧ side ≤ 1) (d : Nat) : ∃ c2 : Nat → Nat → Nat → Int32, E (d + 9) 222 [vr 48 0, vi (iv (n : Nat)), vi (iv (r : Nat)), vi (iv side), vi (iv (kd : Nat))] (c, l, x, y) = some (some (vi (iv (if (fstP K F (rKd r kd) side n []).isSome then 1 else 0))), c2, l, x, y) ∧ Sy c c2 ∧ ∀ L, fstP K F (rKd r kd) side n [] = some L → ChAt c2 L := by
  obtain ⟨j, rfl⟩ : ∃ j, n = j + 1 := ⟨n - 1, by omega⟩
  have e84 : am_ui c 84 0 0 (iv (-1)) 84 0 0 = iv (-1) := ui_self _ _ _ _
  obtain ⟨c3, g1, g2, g3, g4, g5⟩ := lvP (l := l) (x := x) (y := y) d (j + 1) r kd hn.2 hr hkd hsd j [] (by simp) trivial (4 * nB K) 0 (am_ui (am_ui c 84 0 0 (iv (-1))) 84 0 0 (iv 0)) (by omega) (Sy_RR ((Sy.ui _ _ _ _ (by omega)).tr (Sy.ui _ _ _ _ (by omega))) h) (fun k hk => absurd hk (Nat.not_lt_zero _)) (ui_self _ _ _ _)
  have hfp : fstP K F (rKd r kd) side (j + 1) [] = (List.range' 0 (4 * nB K)).findSome? (fsG K F (rKd r kd) side j []) := by
    rw [fstP, List.range_eq_range']
    rfl
  rw [← hfp] at g1 g5
  refine ⟨c3, ?_, ((Sy.ui _ _ _ _ (by omega)).tr (Sy.ui _ _ _ _ (by omega))).tr g3, fun L q => by have := g5 L q; rw [List.nil_append] at this; exact this⟩
  rw [q_222, show (0 : Int32) = iv 0 from rfl, q_222_7]
  simp (disch := omega) only [iv_add, iv_sub, iv_mul, iv_neg, iv_lt, iv_le, iv_eq, iv_nat, iv_L, iv_L2, am_bi_v, am_bv_v, am_bl_v, if_pos, if_neg, Int.toNat_natCast, Int.toNat_add, Int.toNat_mul, Int.reduceToNat, iv_neg, e84]
  refine Eq.trans g1 ?_
  cases fstP K F (rKd r kd) side (j + 1) [] with
  | some L => rfl
  | none =>
    show X (d + 9) 222 7 [some (vr 48 0), some (vi (iv ((j + 1 : Nat) : Int))), some (vi (iv (r : Nat))), some (vi (iv side)), some (vi (iv (kd : Nat))), some (vi (iv (-1)))] [] (c3, l, x, y) = _
    rw [q_222_7]
    simp (disch := omega) only [iv_add, iv_sub, iv_mul, iv_neg, iv_lt, iv_le, iv_eq, iv_nat, iv_L, iv_L2, am_bi_v, am_bv_v, am_bl_v, if_pos, if_neg, Int.toNat_natCast, Int.toNat_add, Int.toNat_mul, Int.reduceToNat]
    rfl
theorem pln_no {m : Nat} : plnS K F 7 side m = none := by
  unfold plnS
  rw [List.findSome?_eq_none_iff]
  intro n _
  refine (fstP_none n []).mpr (fun L _ _ => ?_)
  have := rul_lt K F (([] ++ L).map (cw K))
  omega
theorem pln_acc (hK : VK K) (h : kAc K = -1) {r m : Nat} (hr : r ≠ 0) : plnS K F r side m = none := by
  unfold plnS
  rw [List.findSome?_eq_none_iff]
  intro n _
  refine (fstP_none n []).mpr (fun L _ hL => ?_)
  rw [List.nil_append, rul_none hK (PV_lt hK L [] hL) h]
  exact fun q => hr q.symm
theorem m221 (h : RR c l K F) {r s kd k : Int} (hr : -2147483648 ≤ r ∧ r < 2147483648) (hs : -2147483648 ≤ s ∧ s < 2147483648) (hkd : -2147483648 ≤ kd ∧ kd < 2147483648) (hk : -2147483648 ≤ k ∧ k < 2147483648) (d : Nat) : ∃ c2 : Nat → Nat → Nat → Int32, E (d + 10) 221 [vr 48 0, vi (iv r), vi (iv s), vi (iv kd), vi (iv k)] (c, l, x, y) = some (some (vi (iv (planS K F r s kd k))), c2, l, x, y) ∧ Sy c c2 := by
  have hnb := h.2.1.2.2.2.1.1
  have hvac := h.2.1.2.2.2.2.2
  have hn20 := h.2.1.1.1
  have a1 := e171 (c := c) (l := l) (x := x) (y := y) (p := r) (q := 1) (r := 2) (by omega) (by omega) (by omega) (d + 8)
  have a2 := e171 (c := c) (l := l) (x := x) (y := y) (p := s) (q := -1) (r := 1) (by omega) (by omega) (by omega) (d + 8)
  have a3 := e171 (c := c) (l := l) (x := x) (y := y) (p := kd) (q := 0) (r := 2) (by omega) (by omega) (by omega) (d + 8)
  unfold planS
  rw [q_221, jv_of hr, jv_of hs, jv_of hkd, jv_L.1, jv_L.2.1, jv_L.2.2.1, jv_neg, a1]
  simp only [am_bi_v]
  by_cases h1 : 1 ≤ r ∧ r ≤ 2
  · rw [if_pos h1, if_neg (by decide), a2]
    simp only [am_bi_v]
    by_cases h2 : -1 ≤ s ∧ s ≤ 1
    · rw [if_pos h2, if_neg (by decide), a3]
      simp only [am_bi_v]
      by_cases h3 : 0 ≤ kd ∧ kd ≤ 2
      · rw [if_pos h3, if_neg (by decide), e180 h]
        simp (disch := omega) only [am_bi_v, iv_L, iv_neg, iv_eq]
        obtain ⟨rn, rfl⟩ := Int.eq_ofNat_of_zero_le (show 0 ≤ r by omega)
        obtain ⟨kn, rfl⟩ := Int.eq_ofNat_of_zero_le h3.1
        have hrn : rn = 1 ∨ rn = 2 := by omega
        by_cases ha : kAc K = -1
        · rw [if_pos ha]
          refine ⟨c, ?_, Sy.refl c⟩
          rw [Int.toNat_natCast, pln_acc h.2.1 ha (by omega)]
          split <;> rfl
        · rw [if_neg ha]
          have htell : ∀ (c : Nat → Nat → Nat → Int32) (L : List Nat), 1 ≤ L.length → L.length ≤ 5 → ChAt c L → (∀ q, q < L.length → L.getD q 0 < 1000) → X (d + 10) 221 38 [some (vr 48 0), none, none, none, some (vi (iv k)), some (vi (iv (L.length : Nat)))] [] (c, l, x, y) = some (some (vi (iv (telP (some L) k))), c, l, x, y) := by
            intro c L l1 l5 hC hL
            unfold telP
            dsimp only
            rw [q_221_38]
            simp (disch := omega) only [iv_L, iv_neg, iv_lt, iv_eq, if_neg, iv_sub]
            by_cases b : k = -1
            · rw [if_pos b, if_pos b]
            · rw [if_neg b, if_neg b, jv_of hk, jv_of (by omega), jv_L.1, e171 (by omega) (by omega) (by omega)]
              simp only [am_bi_v]
              by_cases b1 : 0 ≤ k ∧ k ≤ (L.length : Int) - 1
              · obtain ⟨q, rfl⟩ := Int.eq_ofNat_of_zero_le b1.1
                have hd := dq4 (L.getD q 0) (hL q (by omega))
                rw [if_pos b1, if_neg (by decide)]
                simp (disch := omega) only [iv_add, iv_sub, iv_mul, iv_neg, iv_lt, iv_le, iv_eq, iv_nat, iv_L, iv_L2, am_bi_v, am_bv_v, am_bl_v, if_pos, if_neg, Int.toNat_natCast, Int.toNat_add, Int.toNat_mul, Int.reduceToNat, hC q (by omega)]
                rw [hd.1]
              · rw [if_neg b1, if_pos (by decide), if_neg (by omega)]
                by_cases b2 : -2147483638 ≤ k
                · rw [jv_of (by omega), e171 (by omega) (by omega) (by omega)]
                  simp only [am_bi_v]
                  by_cases b3 : 0 ≤ k - 10 ∧ k - 10 ≤ (L.length : Int) - 1
                  · obtain ⟨q, hq⟩ : ∃ q : Nat, (q : Int) = k - 10 := ⟨(k - 10).toNat, by omega⟩
                    have hd := dq4 (L.getD q 0) (hL q (by omega))
                    rw [if_pos b3, if_neg (by decide), ← hq]
                    simp (disch := omega) only [iv_add, iv_sub, iv_mul, iv_neg, iv_lt, iv_le, iv_eq, iv_nat, iv_L, iv_L2, am_bi_v, am_bv_v, am_bl_v, if_pos, if_neg, Int.toNat_natCast, Int.toNat_add, Int.toNat_mul, Int.reduceToNat, hC q (by omega)]
                    rw [hd.1, hd.2]
                  · rw [if_neg b3, if_pos (by decide), if_neg (by omega)]
                · have hwr : iv (k - 10) = iv (k - 10 + 4294967296) := by
                    rw [← iv_add (k - 10) 4294967296, show iv 4294967296 = 0 from rfl, Int32.add_zero]
                  rw [hwr, jv_of (by omega), e171 (by omega) (by omega) (by omega)]
                  simp only [am_bi_v]
                  rw [if_neg (show ¬ (0 ≤ k - 10 + 4294967296 ∧ k - 10 + 4294967296 ≤ (L.length : Int) - 1) by omega), if_pos (by decide), if_neg (by omega)]
          have key : ∀ (m n : Nat) (c : Nat → Nat → Nat → Int32), n + m = 6 → 1 ≤ n → RR c l K F → ∃ c2 : Nat → Nat → Nat → Int32, X (d + 10) 221 26 [some (vr 48 0), some (vi (iv (rn : Nat))), some (vi (iv s)), some (vi (iv (kn : Nat))), some (vi (iv k)), some (vi (iv (n : Nat)))] [] (c, l, x, y) = some (some (vi (iv (telP ((List.range' n m).findSome? (fun n => fstP K F (rKd rn kn) s n [])) k))), c2, l, x, y) ∧ Sy c c2 := by
            intro m
            induction m with
            | zero =>
              intro n c hn _ hR
              refine ⟨c, ?_, Sy.refl c⟩
              rw [q_221_26]
              simp (disch := omega) only [iv_add, iv_sub, iv_mul, iv_neg, iv_lt, iv_le, iv_eq, iv_nat, iv_L, iv_L2, am_bi_v, am_bv_v, am_bl_v, if_pos, if_neg, Int.toNat_natCast, Int.toNat_add, Int.toNat_mul, Int.reduceToNat]
              rw [q_221_38]
              simp (disch := omega) only [iv_add, iv_sub, iv_mul, iv_neg, iv_lt, iv_le, iv_eq, iv_nat, iv_L, iv_L2, am_bi_v, am_bv_v, am_bl_v, if_pos, if_neg, Int.toNat_natCast, Int.toNat_add, Int.toNat_mul, Int.reduceToNat, iv_neg]
              rfl
            | succ m ih =>
              intro n c hn h1n hR
              obtain ⟨c2, g1, g2, g3⟩ := e222 (x := x) (y := y) (side := s) hR (n := n) (r := rn) (kd := kn) (by omega) hrn (by omega) h2 d
              rw [List.range'_succ, List.findSome?_cons, q_221_26]
              simp (disch := omega) only [iv_add, iv_sub, iv_mul, iv_neg, iv_lt, iv_le, iv_eq, iv_nat, iv_L, iv_L2, am_bi_v, am_bv_v, am_bl_v, if_pos, if_neg, Int.toNat_natCast, Int.toNat_add, Int.toNat_mul, Int.reduceToNat]
              rw [g1]
              simp only [am_bi_v]
              cases hf : fstP K F (rKd rn kn) s n [] with
              | some L =>
                have hs := fstP_some n [] L hf
                rw [Option.isSome_some, if_pos rfl, if_neg (by decide)]
                refine ⟨c2, ?_, g2⟩
                have ht := htell c2 L (by omega) (by omega) (g3 L hf) (fun q hq => by have := (PV_at hs.2.1 hq).1; omega)
                rw [hs.1] at ht
                exact ht
              | none =>
                rw [Option.isSome_none, if_neg Bool.false_ne_true, if_pos rfl]
                obtain ⟨c3, k1, k2⟩ := ih (n + 1) c2 (by omega) (by omega) (Sy_RR g2 hR)
                exact ⟨c3, k1, g2.tr k2⟩
          obtain ⟨c2, g1, g2⟩ := key 5 1 c (by omega) (by omega) h
          refine ⟨c2, g1.trans ?_, g2⟩
          have hp : (List.range' 1 5).findSome? (fun n => fstP K F (rKd rn kn) s n []) = plnS K F (rKd rn kn) s 5 := rfl
          rw [hp, Int.toNat_natCast]
          unfold rKd
          by_cases hk0 : kn = 0
          · rw [if_pos hk0, pln_45 h.2.1 hrn, if_pos ⟨h1, h2, by omega⟩]
          · rw [if_neg hk0, pln_no, if_neg (by omega)]
            rfl
      · rw [if_neg h3, if_pos (by decide), if_neg (by omega)]
        exact ⟨c, rfl, Sy.refl c⟩
    · rw [if_neg h2, if_pos (by decide), if_neg (by omega)]
      exact ⟨c, rfl, Sy.refl c⟩
  · rw [if_neg h1, if_pos (by decide), if_neg (by omega)]
    exact ⟨c, rfl, Sy.refl c⟩
end
