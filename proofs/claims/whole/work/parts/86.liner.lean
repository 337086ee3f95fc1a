/-! the reference: a line is told -/
theorem slotE_ge {sl : List Nat} {k : Nat} (h : sl.length ≤ k) : slotE sl k = -1 := by unfold slotE; rw [List.getElem?_eq_none h]
theorem slotE_lt {sl : List Nat} {k : Nat} (h : k < sl.length) : slotE sl k = (sl.getD k 0 : Nat) := by
  unfold slotE
  rw [List.getD_eq_getElem?_getD, List.getElem?_eq_getElem h]
  rfl
theorem and3_iv : ∀ g : Nat, g < 8 → ((iv (g : Nat) &&& iv 3 = iv 3) ↔ (g.testBit 0 = true ∧ g.testBit 1 = true)) := by decide +kernel
section
variable {c : Nat → Nat → Nat → Int32} {l : Nat → Nat → Int64} {x y : Nat} {tp : Nat → Nat} {n : Nat} {z : Tz} {s : Ts} {K : Ct}
theorem ln_fill {sl : List Nat} (h6 : nL K < 6) (d : Nat) : ∀ (m k : Nat) (c : Nat → Nat → Nat → Int32), k + m = 3 → c 68 0 1 = iv (nL K) → sl.length ≤ k → (∀ j, j < k → c 72 0 (3 * nL K + j) = iv (slotE sl j)) → ∃ c2, X (d + 1) 163 79 [some (vr 48 0), none, some (vi (iv (3 * nL K))), none, none, some (vi (iv (k : Nat))), none] [] (c, l, x, y) = some (none, (if c 48 0 5 = iv 0 then am_ui c2 68 0 1 (iv ((nL K : Int) + 1)) else c2), l, x, y) ∧ (∀ k2, k2 ≠ 72 → c2 k2 = c k2) ∧ FS c l c2 l ∧ RU c l c2 l K ∧ ∀ j, j < 3 → c2 72 0 (3 * nL K + j) = iv (slotE sl j) := by
  intro m
  induction m with
  | zero =>
    intro k c hk h68 hl hc
    refine ⟨c, ?_, fun _ _ => rfl, FS.refl c l, RU.refl c l K, fun j hj => hc j (by omega)⟩
    rw [q_163_79]
    simp (disch := omega) only [iv_add, iv_sub, iv_mul, iv_neg, iv_lt, iv_le, iv_eq, iv_nat, iv_L, iv_L2, am_bi_v, am_bv_v, am_bl_v, if_pos, if_neg, Int.toNat_natCast, Int.toNat_add, Int.toNat_mul, Int.reduceToNat, h68]
    split <;> rfl
  | succ m ih =>
    intro k c hk h68 hl hc
    have hcell : ∀ j, j < k + 1 → am_ui c 72 0 (3 * nL K + k) (iv (-1)) 72 0 (3 * nL K + j) = iv (slotE sl j) := by
      intro j hj
      by_cases e : j = k
      · rw [e, ui_self, slotE_ge hl]
      · rw [ui_ne _ _ _ _ (by omega)]; exact hc j (by omega)
    obtain ⟨c2, g1, g2, g3, g4, g5⟩ := ih (k + 1) (am_ui c 72 0 (3 * nL K + k) (iv (-1))) (by omega) (by rw [ui_ne _ _ _ _ (by omega)]; exact h68) (by omega) hcell
    refine ⟨c2, ?_, fun k2 hk2 => by rw [g2 k2 hk2, ui_nk _ _ _ _ hk2], (FS.ui _ _ _ _ (by omega)).tr g3, (RU.ui _ _ _ (by omega)).tr g4, g5⟩
    rw [ui_ne _ _ _ _ (by omega)] at g1
    rw [← g1, q_163_79]
    simp (disch := omega) only [iv_add, iv_sub, iv_mul, iv_neg, iv_lt, iv_le, iv_eq, iv_nat, iv_L, iv_L2, am_bi_v, am_bv_v, am_bl_v, if_pos, if_neg, Int.toNat_natCast, Int.toNat_add, Int.toNat_mul, Int.reduceToNat]
    rfl
theorem ln_end {sl : List Nat} {g : Nat} (h6 : nL K < 6) (hK : VK K) (h : RL c tp n s) (hd : RD c l K) (hg : g < 8) (hb : ∀ b, b < 3 → g.testBit b = sl.contains b) (h3 : sl.length ≤ 3) (hc : ∀ k, k < sl.length → c 72 0 (3 * nL K + k) = iv (sl.getD k 0 : Nat)) (d : Nat) : ∃ c2, X (d + 2) 163 64 [some (vr 48 0), none, some (vi (iv (3 * nL K))), some (vi (iv (g : Nat))), some (vi (iv (sl.length : Nat))), none, none] [] (c, l, x, y) = some (none, c2, l, x, y) ∧ BD c2 l tp n (endL K (some sl, (s, none))) ∧ FS c l c2 l := by
  have hn : s.1 ≤ 1600 := by obtain ⟨-, h2, -, -, -, e, -, h7, -⟩ := h; omega
  have hcS : ∀ j, j < sl.length → c 72 0 (3 * nL K + j) = iv (slotE sl j) := fun j hj => by rw [hc j hj, slotE_lt hj]
  have h0 : c 48 0 5 = iv 0 := h.2.2.2.1.1
  have hp : c 48 0 2 = iv (s.1 : Nat) := h.2.2.2.2.1
  rw [q_163_64]
  simp only [iv_L]
  rw [if_pos h0]
  have h01 : (iv (g : Int) &&& iv 3 = iv 3) ↔ (0 ∈ sl ∧ 1 ∈ sl) := by
    rw [and3_iv g hg, hb 0 (by omega), hb 1 (by omega), List.contains_iff_mem, List.contains_iff_mem]
  unfold endL
  dsimp only
  by_cases e : 0 ∈ sl ∧ 1 ∈ sl
  · rw [if_pos (h01.mpr e), if_pos e]
    obtain ⟨c2, g1, g2, g3, g4, g5⟩ := ln_fill (l := l) (x := x) (y := y) (sl := sl) h6 (d + 1) (3 - sl.length) sl.length c (by omega) hd.2.1.1 (Nat.le_refl _) hcS
    rw [g1, if_pos h0]
    refine ⟨_, rfl, Or.inl ⟨?_, fun _ => RD_addL hK hd g4 g5⟩, g3.tr (FS.ui _ _ _ _ (by omega))⟩
    have hz : RZ c tp n (s, none) := RL_RZ h
    exact RZ_dr hz (by rw [ui_nk _ _ _ _ (by omega)]; exact g2 48 (by omega)) (fun k hk => by rw [ui_nk _ _ _ _ (by omega)]; exact g2 k (by omega))
  · rw [if_neg (fun q => e (h01.mp q)), if_neg e]
    obtain ⟨c1, k1, k2, k3⟩ := e152 (l := l) (x := x) (y := y) (RL_RZ h) (k := 1) (p := s.1) (by omega) hn d
    have k1 : E (d + 1) 152 [vr 48 0, vi (iv 1), vi (iv (s.1 : Nat))] (c, l, x, y) = _ := k1
    rw [hp, k1]
    simp only [am_bv_v]
    obtain ⟨c2, g1, g2, g3, g4, g5⟩ := ln_fill (l := l) (x := x) (y := y) (sl := sl) h6 (d + 1) (3 - sl.length) sl.length c1 (by omega) (by rw [k3.1 68 (by omega)]; exact hd.2.1.1) (Nat.le_refl _) (fun j hj => by rw [k3.1 72 (by omega)]; exact hcS j hj)
    have hne : ¬ c1 48 0 5 = iv 0 := by
      rw [RZ_flt k2, flZ_none rfl]
      exact fun q => by cases q
    rw [g1, if_neg hne]
    refine ⟨c2, rfl, Or.inl ⟨?_, fun q => absurd q (flZ_ns 1 s.1 (s, none))⟩, (FS_FR k3 l).tr g3⟩
    exact RZ_dr k2 (g2 48 (by omega)) (fun k hk => g2 k (by omega))
theorem ln_loop (hK : VK K) (h6 : nL K < 6) (d : Nat) : ∀ (m : Nat) (sl : List Nat) (g : Nat) (s : Ts) (c : Nat → Nat → Nat → Int32), sl.length + m = 3 → g < 8 → (∀ b, b < 3 → g.testBit b = sl.contains b) → (∀ a ∈ sl, a < 3) → sl.Nodup → RZ c tp n (s, none) → RD c l K → (∀ k, k < sl.length → c 72 0 (3 * nL K + k) = iv (sl.getD k 0 : Nat)) → ∃ c2, X (d + 6) 163 18 [some (vr 48 0), none, some (vi (iv (3 * nL K))), some (vi (iv (g : Nat))), some (vi (iv (sl.length : Nat))), none, none] [] (c, l, x, y) = some (none, c2, l, x, y) ∧ BD c2 l tp n (endL K (slZ tp n m sl (s, none))) ∧ FS c l c2 l := by
  intro m
  induction m with
  | zero =>
    intro sl g s c hm hg hb ha hnd h hd hc
    obtain ⟨c1, g1, g2, g3⟩ := e150 (l := l) (x := x) (y := y) h (d + 4)
    have hd1 := RD_FR g3 hd
    have hc1 : ∀ k, k < sl.length → c1 72 0 (3 * nL K + k) = iv (sl.getD k 0 : Nat) := fun k hk => by rw [g3.1 72 (by omega)]; exact hc k hk
    have h0 : c 48 0 5 = iv 0 := by rw [RZ_flt h]
    have hs1 : s.1 ≤ 1600 := by obtain ⟨-, h2, -, -, -, e, -, h7, -⟩ := g2; omega
    have hall : ∀ a, a < 3 → a ∈ sl := by
      intro a ha3
      match sl, hm, ha, hnd with
      | [p, q, r], _, ha, hnd =>
        have := ha p (by simp)
        have := ha q (by simp)
        have := ha r (by simp)
        simp only [List.nodup_cons, List.mem_cons, List.not_mem_nil, or_false, not_or, List.nodup_nil, and_true] at hnd ⊢
        omega
    rw [show slZ tp n 0 sl (s, none) = (some sl, (s, none)) from rfl, q_163_18]
    simp only [iv_L, iv_L2]
    rw [if_pos h0, g1]
    simp only [am_bi_v]
    by_cases e : btT tp n s.1 = 59
    · rw [if_pos (by rw [e])]
      obtain ⟨c2, k1, k2, k3⟩ := ln_end (x := x) (y := y) h6 hK g2 hd1 hg hb (by omega) hc1 (d + 4)
      exact ⟨c2, k1, k2, (FS_FR g3 l).tr k3⟩
    · have hbt := bt_bd (n := n) h.2.1.2 s.1
      have hs59 : ¬ sgnT tp n s = 59 := fun q => e ((sgnS_iff (by omega)).mp q)
      rw [if_neg (by rw [iv_eq (by omega) (by omega)]; exact e)]
      obtain ⟨c2, v, k1, k2, k3⟩ := e164 (l := l) (x := x) (y := y) g2 d
      rw [k1]
      simp only [am_bi_v]
      have hend : endL K (some sl, (s, none)) = (addL K sl, (s, none)) := by
        unfold endL
        dsimp only
        rw [if_pos ⟨hall 0 (by omega), hall 1 (by omega)⟩]
      rw [hend]
      have hflt : ∀ c3 : Nat → Nat → Nat → Int32, RZ c3 tp n (s, some (1, s.1)) → BD c3 l tp n (addL K sl, (s, none)) := fun c3 h3 => Or.inr ⟨rfl, hs59, by rw [flZ_none rfl]; exact h3⟩
      have hbad : RZ c2 tp n (s, some (1, s.1)) → ∃ c3, (if c2 48 0 5 = iv 0 then (if (iv (g : Int) >>> (v &&& iv 31)) &&& iv 1 = iv 1 then (am_bv (E (d + 5) 152 [vr 48 0, vi (iv 1), vi (c1 48 0 2)] (c2, l, x, y)) (fun g5 => X (d + 6) 163 45 [some (vr 48 0), none, some (vi (iv (3 * nL K))), some (vi (iv (g : Nat))), some (vi (iv (sl.length : Nat))), none, some (vi v)] [] g5)) else X (d + 6) 163 45 [some (vr 48 0), none, some (vi (iv (3 * nL K))), some (vi (iv (g : Nat))), some (vi (iv (sl.length : Nat))), none, some (vi v)] [] (c2, l, x, y)) else X (d + 6) 163 45 [some (vr 48 0), none, some (vi (iv (3 * nL K))), some (vi (iv (g : Nat))), some (vi (iv (sl.length : Nat))), none, some (vi v)] [] (c2, l, x, y)) = some (none, c3, l, x, y) ∧ BD c3 l tp n (addL K sl, (s, none)) ∧ FS c l c3 l := by
        intro q
        have hne : ¬ c2 48 0 5 = iv 0 := by rw [RZ_flt q]; exact fun q => by cases q
        refine ⟨c2, ?_, hflt c2 q, FS_FR (g3.tr k2) l⟩
        rw [if_neg hne, q_163_45]
        simp only [iv_L]
        rw [if_neg hne]
      cases ho : lixT tp n 0 s with
      | none =>
        rw [ho] at k3
        exact hbad k3
      | some o =>
        rw [ho] at k3
        dsimp only at k3
        by_cases o1 : 7 ≤ o ∧ o ≤ 9
        · rw [if_pos o1] at k3
          obtain ⟨rfl, k3⟩ := k3
          have hbit : (iv (g : Int) >>> (iv ((o : Int) - 7) &&& iv 31)) &&& iv 1 = iv (if sl.contains (o - 7) then 1 else 0) := by
            rw [show (o : Int) - 7 = ((o - 7 : Nat) : Int) by omega, iv_m31 (by omega), show (((o - 7 : Nat) : Int) % 32) = ((o - 7 : Nat) : Int) by omega, iv_bit (by omega) (by omega), Int.toNat_natCast, Int.toNat_natCast, hb (o - 7) (by omega)]
          have e1 : sl.contains (o - 7) = true := by rw [List.contains_iff_mem]; exact hall _ (by omega)
          obtain ⟨c3, j1, j2, j3⟩ := e152 (l := l) (x := x) (y := y) k3 (k := 1) (p := s.1) (by omega) hs1 (d + 4)
          have j1 : E (d + 5) 152 [vr 48 0, vi (iv 1), vi (iv (s.1 : Nat))] (c2, l, x, y) = _ := j1
          have hne : ¬ c3 48 0 5 = iv 0 := by rw [RZ_flt j2, flZ_none rfl]; exact fun q => by cases q
          rw [flZ_none rfl] at j2
          rw [if_pos (show c2 48 0 5 = iv 0 by rw [RZ_flt k3]), hbit, e1, if_pos rfl, if_pos rfl, g2.2.2.2.2.1, j1]
          simp only [am_bv_v]
          rw [q_163_45]
          simp only [iv_L]
          rw [if_neg hne]
          exact ⟨c3, rfl, hflt c3 (RZ_any j2), FS_FR ((g3.tr k2).tr j3) l⟩
        · rw [if_neg o1] at k3
          exact hbad k3
  | succ m ih =>
    intro sl g s c hm hg hb ha hnd h hd hc
    obtain ⟨c1, g1, g2, g3⟩ := e150 (l := l) (x := x) (y := y) h (d + 4)
    have hd1 := RD_FR g3 hd
    have hc1 : ∀ k, k < sl.length → c1 72 0 (3 * nL K + k) = iv (sl.getD k 0 : Nat) := fun k hk => by rw [g3.1 72 (by omega)]; exact hc k hk
    have h0 : c 48 0 5 = iv 0 := by rw [RZ_flt h]
    have hs1 : s.1 ≤ 1600 := by obtain ⟨-, h2, -, -, -, e, -, h7, -⟩ := g2; omega
    have hbt := bt_bd (n := n) h.2.1.2 s.1
    have h59 : sgnT tp n s = 59 ↔ btT tp n s.1 = 59 := sgnS_iff (by omega)
    rw [q_163_18]
    simp only [iv_L, iv_L2]
    rw [if_pos h0, g1]
    simp only [am_bi_v]
    by_cases e : btT tp n s.1 = 59
    · rw [if_pos (by rw [e])]
      obtain ⟨c2, k1, k2, k3⟩ := ln_end (x := x) (y := y) h6 hK g2 hd1 hg hb (by omega) hc1 (d + 4)
      refine ⟨c2, k1, ?_, (FS_FR g3 l).tr k3⟩
      unfold slZ
      by_cases e0 : sl = []
      · rw [if_neg (fun q => q.1 e0)]
        have hl : lixT tp n 0 s = none := by
          unfold lixT
          rw [if_neg (show ¬ sgnT tp n s = 97 by rw [h59.mpr e]; decide)]
        dsimp only
        rw [hl]
        have hx : endL K (some sl, (s, none)) = (K, flZ 1 s.1 (s, none)) := by
          unfold endL
          dsimp only
          rw [e0, if_neg (fun q => by cases q.1)]
        rw [hx] at k2
        exact k2
      · rw [if_pos ⟨e0, h59.mpr e⟩]
        exact k2
    · rw [if_neg (by rw [iv_eq (by omega) (by omega)]; exact e)]
      obtain ⟨c2, v, k1, k2, k3⟩ := e164 (l := l) (x := x) (y := y) g2 d
      rw [k1]
      simp only [am_bi_v]
      unfold slZ
      rw [if_neg (show ¬ (sl ≠ [] ∧ sgnT tp n ((s, none) : Tz).1 = 59) from fun q => e (h59.mp q.2))]
      dsimp only
      have hbad : RZ c2 tp n (s, some (1, s.1)) → ∃ c3, (if c2 48 0 5 = iv 0 then (if (iv (g : Int) >>> (v &&& iv 31)) &&& iv 1 = iv 1 then (am_bv (E (d + 5) 152 [vr 48 0, vi (iv 1), vi (c1 48 0 2)] (c2, l, x, y)) (fun g5 => X (d + 6) 163 45 [some (vr 48 0), none, some (vi (iv (3 * nL K))), some (vi (iv (g : Nat))), some (vi (iv (sl.length : Nat))), none, some (vi v)] [] g5)) else X (d + 6) 163 45 [some (vr 48 0), none, some (vi (iv (3 * nL K))), some (vi (iv (g : Nat))), some (vi (iv (sl.length : Nat))), none, some (vi v)] [] (c2, l, x, y)) else X (d + 6) 163 45 [some (vr 48 0), none, some (vi (iv (3 * nL K))), some (vi (iv (g : Nat))), some (vi (iv (sl.length : Nat))), none, some (vi v)] [] (c2, l, x, y)) = some (none, c3, l, x, y) ∧ BD c3 l tp n (endL K (none, flZ 1 s.1 (s, none))) ∧ FS c l c3 l := by
        intro q
        have hne : ¬ c2 48 0 5 = iv 0 := by rw [RZ_flt q]; exact fun q => by cases q
        refine ⟨c2, ?_, Or.inl ⟨?_, fun q => absurd q (flZ_ns 1 s.1 (s, none))⟩, FS_FR (g3.tr k2) l⟩
        · rw [if_neg hne, q_163_45]
          simp only [iv_L]
          rw [if_neg hne]
        · show RZ c2 tp n (flZ 1 s.1 (s, none))
          rw [flZ_none rfl]; exact q
      cases ho : lixT tp n 0 s with
      | none =>
        rw [ho] at k3
        exact hbad k3
      | some o =>
        rw [ho] at k3
        dsimp only at k3 ⊢
        by_cases o1 : 7 ≤ o ∧ o ≤ 9
        · rw [if_pos o1] at k3
          obtain ⟨rfl, k3⟩ := k3
          have hbit : (iv (g : Int) >>> (iv ((o : Int) - 7) &&& iv 31)) &&& iv 1 = iv (if sl.contains (o - 7) then 1 else 0) := by
            rw [show (o : Int) - 7 = ((o - 7 : Nat) : Int) by omega, iv_m31 (by omega), show (((o - 7 : Nat) : Int) % 32) = ((o - 7 : Nat) : Int) by omega, iv_bit (by omega) (by omega), Int.toNat_natCast, Int.toNat_natCast, hb (o - 7) (by omega)]
          have h20 : c2 48 0 5 = iv 0 := by rw [RZ_flt k3]
          by_cases o3 : (o - 7) ∈ sl
          · have e1 : sl.contains (o - 7) = true := by rw [List.contains_iff_mem]; exact o3
            obtain ⟨c3, j1, j2, j3⟩ := e152 (l := l) (x := x) (y := y) k3 (k := 1) (p := s.1) (by omega) hs1 (d + 4)
            have j1 : E (d + 5) 152 [vr 48 0, vi (iv 1), vi (iv (s.1 : Nat))] (c2, l, x, y) = _ := j1
            have hne : ¬ c3 48 0 5 = iv 0 := by rw [RZ_flt j2, flZ_none rfl]; exact fun q => by cases q
            rw [flZ_none rfl] at j2
            rw [if_pos h20, hbit, e1, if_pos rfl, if_pos rfl, g2.2.2.2.2.1, j1, if_neg (fun q => q.2 o3)]
            simp only [am_bv_v]
            rw [q_163_45]
            simp only [iv_L]
            rw [if_neg hne]
            refine ⟨c3, rfl, Or.inl ⟨?_, fun q => absurd q (flZ_ns 1 s.1 (s, none))⟩, FS_FR ((g3.tr k2).tr j3) l⟩
            show RZ c3 tp n (flZ 1 s.1 (s, none))
            rw [flZ_none rfl]
            exact RZ_any j2
          · have e1 : sl.contains (o - 7) = false := by rw [← Bool.not_eq_true, List.contains_iff_mem]; exact o3
            have hor := or_iv (a := g) (b := o - 7) (by omega) (by omega)
            rw [show ((o - 7 : Nat) : Int) = (o : Int) - 7 by omega] at hor
            have hg8 : g ||| 2 ^ (o - 7) < 8 := Nat.or_lt_two_pow (n := 3) hg (Nat.pow_lt_pow_right (by decide) (by omega))
            have hd2 := RD_FR k2 hd1
            have hd3 : RD (am_ui c2 72 0 (3 * nL K + sl.length) (iv ((o : Int) - 7))) l K := RU_RD hK (RU.ui _ _ _ (by omega)) hd2
            have hz3 : RZ (am_ui c2 72 0 (3 * nL K + sl.length) (iv ((o : Int) - 7))) tp n (nxtT tp n s, none) := RZ_dr k3 (ui_nk _ _ _ _ (by omega)) (fun k hk => ui_nk _ _ _ _ (by omega))
            obtain ⟨c3, b1, b2, b3⟩ := ih (sl ++ [o - 7]) (g ||| 2 ^ (o - 7)) (nxtT tp n s) (am_ui c2 72 0 (3 * nL K + sl.length) (iv ((o : Int) - 7))) (by rw [List.length_append]; simp; omega) hg8 (by
              intro b hb3
              rw [Nat.testBit_or, hb b hb3, Nat.testBit_two_pow, Bool.eq_iff_iff]
              simp only [Bool.or_eq_true, List.contains_iff_mem, List.mem_append, List.mem_singleton, decide_eq_true_eq]
              constructor
              · rintro (q | q)
                · exact Or.inl q
                · exact Or.inr q.symm
              · rintro (q | q)
                · exact Or.inl q
                · exact Or.inr q.symm) (fun a q => by
              rcases List.mem_append.mp q with q | q
              · exact ha a q
              · rw [List.mem_singleton.mp q]; omega) (by
              rw [List.nodup_append]
              exact ⟨hnd, by simp, fun a ha2 b hb2 => by rw [List.mem_singleton.mp hb2]; intro q; rw [q] at ha2; exact o3 ha2⟩) hz3 hd3 (by
              intro k hk
              rw [List.length_append, List.length_singleton] at hk
              by_cases e : k = sl.length
              · rw [e, ui_self, getD_app_new]; congr 1; omega
              · rw [ui_ne _ _ _ _ (by omega), getD_app_old (by omega), k2.1 72 (by omega)]; exact hc1 k (by omega))
            rw [show (((sl ++ [o - 7]).length : Nat) : Int) = (sl.length : Int) + 1 by rw [List.length_append]; simp] at b1
            rw [if_pos h20, hbit, e1, if_neg Bool.false_ne_true, if_neg (show ¬ iv 0 = iv 1 by decide), if_pos (show (7 ≤ o ∧ o ≤ 9) ∧ ¬ (o - 7) ∈ sl from ⟨o1, o3⟩), q_163_45]
            simp (disch := omega) only [iv_add, iv_sub, iv_mul, iv_neg, iv_lt, iv_le, iv_eq, iv_nat, iv_L, iv_L2, am_bi_v, am_bv_v, am_bl_v, if_pos, if_neg, Int.toNat_natCast, Int.toNat_add, Int.toNat_mul, Int.reduceToNat, h20]
            rw [hor]
            exact ⟨c3, b1, b2, ((FS_FR (g3.tr k2) l).tr (FS.ui _ _ _ _ (by omega))).tr b3⟩
        · rw [if_neg o1] at k3
          rw [if_neg (show ¬ ((7 ≤ o ∧ o ≤ 9) ∧ ¬ (o - 7) ∈ sl) from fun q => o1 q.1)]
          exact hbad k3
theorem m163 (h : RZ c tp n (avZ tp n z)) (hz : z.2 = none) (hp : z.1.1 ≤ 1600) (hd : RD c l K) (hK : VK K) (d : Nat) : ∃ (c2 : Nat → Nat → Nat → Int32) (l2 : Nat → Nat → Int64), E (d + 6) 163 [vr 48 0, vi (iv (z.1.1 : Nat))] (c, l, x, y) = some (none, c2, l2, x, y) ∧ BD c2 l2 tp n (rlZ tp n K z) ∧ FS c l c2 l2 := by
  have h6 := hK.2.1.1
  obtain ⟨c1, g1, g2, g3⟩ := e157 (l := l) (x := x) (y := y) h (show (avZ tp n z).2 = none from hz) (k := 1) (m := nL K) (r := 6) (p := z.1.1) (by omega) hd.2.1.1 (by omega) (by omega) hp (d + 3)
  have g1 : E (d + 5) 157 [vr 48 0, vi 1, vi 6, vi (iv (z.1.1 : Nat))] (c, l, x, y) = _ := g1
  rw [rlZ_eq, q_163, g1]
  simp only [am_bi_v]
  by_cases e : nL K = 6
  · rw [if_pos e] at g3
    rw [if_pos e, if_neg (show ¬ iv 1 = 0 by decide), if_pos (show 6 ≤ nL K by omega)]
    refine ⟨c1, l, rfl, ?_, FS_FR g2 l⟩
    rw [flZ_none (show (avZ tp n z).2 = none from hz)] at g3
    rw [flZ_none hz]
    exact BD_flt g3
  · rw [if_neg e] at g3
    rw [if_neg e, if_pos (show iv 0 = 0 from rfl), if_neg (show ¬ 6 ≤ nL K by omega)]
    have hd1 := RD_FR g2 hd
    have hav : avZ tp n z = ((avZ tp n z).1, none) := tz_eta _ hz
    rw [hav] at g3 ⊢
    obtain ⟨c2, k1, k2, k3⟩ := ln_loop (l := l) (x := x) (y := y) hK (by omega) d 3 [] 0 (avZ tp n z).1 c1 rfl (by omega) (fun b _ => by rw [Nat.zero_testBit]; rfl) (fun a q => (by cases q)) List.nodup_nil g3 hd1 (fun k hk => absurd hk (Nat.not_lt_zero _))
    refine ⟨c2, l, ?_, k2, (FS_FR g2 l).tr k3⟩
    rw [← k1]
    simp (disch := omega) only [iv_add, iv_sub, iv_mul, iv_neg, iv_lt, iv_le, iv_eq, iv_nat, iv_L, iv_L2, am_bi_v, am_bv_v, am_bl_v, if_pos, if_neg, Int.toNat_natCast, Int.toNat_add, Int.toNat_mul, Int.reduceToNat, hd1.2.1.1]
    rfl
end
