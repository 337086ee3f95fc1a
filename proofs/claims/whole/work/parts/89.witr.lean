/-! the reference: a witness is told -/
section
variable {c : Nat → Nat → Nat → Int32} {l : Nat → Nat → Int64} {x y : Nat} {tp : Nat → Nat} {n : Nat} {z : Tz} {s : Ts} {K : Ct}
theorem wd_bad {ws : List Nat} (h7 : nB K < 7) (h4 : ws.length < 4) (hne : ¬ c 48 0 5 = iv 0) {v3 : Int64} {v6 : Int32} (d : Nat) : ∀ m k, k + m = ws.length → X (d + 2) 168 64 [some (vr 48 0), none, some (vi (iv (7 * nB K))), some (vl v3), none, some (vi (iv (ws.length : Nat))), some (vi v6), some (vi (iv (k : Nat)))] [] (c, l, x, y) = some (none, c, l, x, y) := by
  intro m
  induction m with
  | zero =>
    intro k hk
    rw [q_168_64]
    simp (disch := omega) only [iv_add, iv_sub, iv_mul, iv_neg, iv_lt, iv_le, iv_eq, iv_nat, iv_L, iv_L2, am_bi_v, am_bv_v, am_bl_v, if_pos, if_neg, Int.toNat_natCast, Int.toNat_add, Int.toNat_mul, Int.reduceToNat]
  | succ m ih =>
    intro k hk
    rw [← ih (k + 1) (by omega), q_168_64]
    simp (disch := omega) only [iv_add, iv_sub, iv_mul, iv_neg, iv_lt, iv_le, iv_eq, iv_nat, iv_L, iv_L2, am_bi_v, am_bv_v, am_bl_v, if_pos, if_neg, Int.toNat_natCast, Int.toNat_add, Int.toNat_mul, Int.reduceToNat]
    rw [q_168_85]
    simp (disch := omega) only [iv_add, iv_sub, iv_mul, iv_neg, iv_lt, iv_le, iv_eq, iv_nat, iv_L, iv_L2, am_bi_v, am_bv_v, am_bl_v, if_pos, if_neg, Int.toNat_natCast, Int.toNat_add, Int.toNat_mul, Int.reduceToNat]
    rfl
theorem wd_ok {ws : List Nat} {w : Nat} (hw : w < 20) (hws : ∀ a ∈ ws, a < 20) (h7 : nB K < 7) (h4 : ws.length < 4) (h0 : c 48 0 5 = iv 0) (hc : ∀ k, k < ws.length → c 74 0 (7 * nB K + 3 + k) = iv (ws.getD k 0 : Nat)) (hn : ¬ w ∈ ws) {v3 : Int64} (d : Nat) : ∀ m k, k + m = ws.length → X (d + 2) 168 64 [some (vr 48 0), none, some (vi (iv (7 * nB K))), some (vl v3), none, some (vi (iv (ws.length : Nat))), some (vi (iv (w : Nat))), some (vi (iv (k : Nat)))] [] (c, l, x, y) = X (d + 2) 168 64 [some (vr 48 0), none, some (vi (iv (7 * nB K))), some (vl v3), none, some (vi (iv (ws.length : Nat))), some (vi (iv (w : Nat))), some (vi (iv (ws.length : Nat)))] [] (c, l, x, y) := by
  intro m
  induction m with
  | zero =>
    intro k hk
    rw [show k = ws.length by omega]
  | succ m ih =>
    intro k hk
    have hcell := hc k (by omega)
    have hin : ws.getD k 0 ∈ ws := by
      rw [List.getD_eq_getElem?_getD, List.getElem?_eq_getElem (show k < ws.length by omega)]
      exact List.getElem_mem _
    have h20 := hws _ hin
    rw [← ih (k + 1) (by omega), q_168_64]
    simp (disch := omega) only [iv_add, iv_sub, iv_mul, iv_neg, iv_lt, iv_le, iv_eq, iv_nat, iv_L, iv_L2, am_bi_v, am_bv_v, am_bl_v, if_pos, if_neg, Int.toNat_natCast, Int.toNat_add, Int.toNat_mul, Int.reduceToNat, h0, hcell]
    rw [if_neg (show ¬ (ws.getD k 0 : Int) = (w : Int) from fun q => hn (by rw [← Int.ofNat_inj.mp q]; exact hin)), q_168_85]
    simp (disch := omega) only [iv_add, iv_sub, iv_mul, iv_neg, iv_lt, iv_le, iv_eq, iv_nat, iv_L, iv_L2, am_bi_v, am_bv_v, am_bl_v, if_pos, if_neg, Int.toNat_natCast, Int.toNat_add, Int.toNat_mul, Int.reduceToNat]
    rfl
theorem wd_dup {ws : List Nat} {w p : Nat} (hw : w < 20) (hws : ∀ a ∈ ws, a < 20) (h7 : nB K < 7) (h4 : ws.length < 4) (h : RZ c tp n z) (hz : z.2 = none) (hp : p ≤ 1600) (h27 : c 48 0 27 = iv (p : Nat)) (hc : ∀ k, k < ws.length → c 74 0 (7 * nB K + 3 + k) = iv (ws.getD k 0 : Nat)) {v3 : Int64} (d : Nat) : ∀ m k, k + m = ws.length → w ∈ ws.drop k → ∃ c2, X (d + 2) 168 64 [some (vr 48 0), none, some (vi (iv (7 * nB K))), some (vl v3), none, some (vi (iv (ws.length : Nat))), some (vi (iv (w : Nat))), some (vi (iv (k : Nat)))] [] (c, l, x, y) = some (none, c2, l, x, y) ∧ RZ c2 tp n (flZ 3 p z) ∧ FR c c2 := by
  have h0 : c 48 0 5 = iv 0 := by rw [RZ_flt h]; exact hz
  intro m
  induction m with
  | zero =>
    intro k hk hin
    rw [List.drop_of_length_le (by omega)] at hin
    cases hin
  | succ m ih =>
    intro k hk hin
    have hcell := hc k (by omega)
    have hmem : ws.getD k 0 ∈ ws := by
      rw [List.getD_eq_getElem?_getD, List.getElem?_eq_getElem (show k < ws.length by omega)]
      exact List.getElem_mem _
    have h20 := hws _ hmem
    rw [drop_getD (show k < ws.length by omega)] at hin
    rw [q_168_64]
    simp (disch := omega) only [iv_add, iv_sub, iv_mul, iv_neg, iv_lt, iv_le, iv_eq, iv_nat, iv_L, iv_L2, am_bi_v, am_bv_v, am_bl_v, if_pos, if_neg, Int.toNat_natCast, Int.toNat_add, Int.toNat_mul, Int.reduceToNat, if_true, if_false, h0, hcell]
    by_cases e : ws.getD k 0 = w
    · obtain ⟨c2, k1, k2, k3⟩ := e152 (l := l) (x := x) (y := y) h (k := 3) (p := p) (by omega) hp d
      have k1 : E (d + 1) 152 [vr 48 0, vi (iv 3), vi (iv (p : Nat))] (c, l, x, y) = _ := k1
      have hne : ¬ c2 48 0 5 = iv 0 := by rw [RZ_flt k2]; exact flZ_ns 3 p z
      rw [if_pos (show (ws.getD k 0 : Int) = (w : Int) by omega), h27, k1]
      simp only [am_bv_v]
      have hb := wd_bad (c := c2) (l := l) (x := x) (y := y) (ws := ws) h7 h4 hne (v3 := v3) (v6 := iv (w : Nat)) d m (k + 1) (by omega)
      refine ⟨c2, ?_, k2, k3⟩
      rw [← hb, q_168_85]
      simp (disch := omega) only [iv_add, iv_sub, iv_mul, iv_neg, iv_lt, iv_le, iv_eq, iv_nat, iv_L, iv_L2, am_bi_v, am_bv_v, am_bl_v, if_pos, if_neg, Int.toNat_natCast, Int.toNat_add, Int.toNat_mul, Int.reduceToNat]
      rfl
    · rw [if_neg (show ¬ (ws.getD k 0 : Int) = (w : Int) by omega), q_168_85]
      obtain ⟨c2, g1, g2, g3⟩ := ih (k + 1) (by omega) (by
        rcases List.mem_cons.mp hin with q | q
        · exact absurd q.symm e
        · exact q)
      refine ⟨c2, ?_, g2, g3⟩
      rw [← g1]
      simp (disch := omega) only [iv_add, iv_sub, iv_mul, iv_neg, iv_lt, iv_le, iv_eq, iv_nat, iv_L, iv_L2, am_bi_v, am_bv_v, am_bl_v, if_pos, if_neg, Int.toNat_natCast, Int.toNat_add, Int.toNat_mul, Int.reduceToNat]
      rfl
theorem wt_loop (hK : VK K) (h7 : nB K < 7) {sp : List Nat} {a b : Nat} {v3 : Int64} (d : Nat) : ∀ (m : Nat) (ws : List Nat) (z : Tz) (c : Nat → Nat → Nat → Int32), ws.length + m = 4 → RZ c tp n z → (ws ≠ [] → z.2 = none ∧ RL c tp n z.1 ∧ 97 ≤ btT tp n z.1.1 ∧ btT tp n z.1.1 ≤ 122) → RD c l K → (∀ k, k < ws.length → c 74 0 (7 * nB K + 3 + k) = iv (ws.getD k 0 : Nat)) → (∀ w ∈ ws, w < nW K) → (z.2 = none → c 74 0 (7 * nB K) = iv (a : Nat) ∧ c 74 0 (7 * nB K + 1) = iv (b : Nat) ∧ v3 = jv (e27 sp)) → ∃ c2 l2, X (d + 6) 168 49 [some (vr 48 0), none, some (vi (iv (7 * nB K))), some (vl v3), none, some (vi (iv (ws.length : Nat))), none, none] [] (c, l, x, y) = some (none, c2, l2, x, y) ∧ BD c2 l2 tp n (endB K sp a b (wsZ tp n K false m ws z)) ∧ FS c l c2 l2 := by
  intro m
  have hw20 := hK.1.1
  induction m with
  | zero =>
    intro ws z c hm h hR hd hc hws hab
    have h0 : ws ≠ [] := fun q => by rw [q] at hm; exact absurd hm (by decide)
    obtain ⟨hz, hL, hb⟩ := hR h0
    obtain ⟨c2, k1, k2, k3⟩ := e152 (l := l) (x := x) (y := y) h (k := 1) (p := z.1.1) (by omega) (RL_le hL) (d + 4)
    have k1 : E (d + 5) 152 [vr 48 0, vi 1, vi (iv (z.1.1 : Nat))] (c, l, x, y) = _ := k1
    have he : endB K sp a b (wsZ tp n K false 0 ws z) = (addB K (sp, a, b, ws), z) := by
      unfold endB wsZ
      rw [if_pos hz]
    rw [he, q_168_49, if_pos (by rw [show ws.length = 4 by omega]; rfl), hL.2.2.2.2.1, k1]
    simp only [am_bv_v]
    exact ⟨c2, l, rfl, Or.inr ⟨hz, not59 hb, k2⟩, FS_FR k3 l⟩
  | succ m ih =>
    intro ws z c hm h hR hd hc hws hab
    obtain ⟨c2, v, k1, k2, k3, k4⟩ := e167p (x := x) (y := y) h hd hK (kd := -1) (by omega) d
    have k1 : E (d + 5) 167 [vr 48 0, vi (-1)] (c, l, x, y) = _ := k1
    have hd2 := RD_FR k2 hd
    have hf := RZ_flt k3
    rw [q_168_49, if_neg (by simp only [iv_L]; rw [iv_eq (by omega) (by omega)]; omega), k1]
    simp only [am_bi_v]
    by_cases h0 : ws ≠ [] ∧ ¬ sgnT tp n z.1 = 97
    · have hz := (hR h0.1).1
      have he : endB K sp a b (wsZ tp n K false (m + 1) ws z) = (addB K (sp, a, b, ws), z) := by
        rw [wsZ_stop false h0.1 h0.2]
        unfold endB
        rw [if_pos hz]
      have hb := (hR h0.1).2.2
      have ht := tw_not97 (K := K) (kd := -1) h0.2
      rw [← tz_eta z hz] at ht
      rw [ht] at k3
      have hne : ¬ c2 48 0 5 = iv 0 := by rw [RZ_flt k3]; exact flZ_ns 1 z.1.1 z
      have hbad := wd_bad (c := c2) (l := l) (x := x) (y := y) (ws := ws) h7 (by omega) hne (v3 := v3) (v6 := v) (d + 4) ws.length 0 (by omega)
      rw [he]
      exact ⟨c2, l, hbad, Or.inr ⟨hz, not59 hb, k3⟩, FS_FR k2 l⟩
    · unfold wsZ
      rw [if_neg (show ¬ (ws ≠ [] ∧ sgnT tp n z.1 ≠ 97) from h0)]
      cases ht : twZ tp n K (-1) z with
      | mk o z1 =>
        cases o with
        | none =>
          have hn := twZ_none (tp := tp) (n := n) (K := K) (kd := -1) (z := z) (by rw [ht])
          rw [ht] at hn k3
          have hne : ¬ z1.2 = none := fun q => by rw [show (none, z1).2.2 = z1.2 from rfl, q] at hn; cases hn
          have hne2 : ¬ c2 48 0 5 = iv 0 := by rw [RZ_flt k3]; exact hne
          have hbad := wd_bad (c := c2) (l := l) (x := x) (y := y) (ws := ws) h7 (by omega) hne2 (v3 := v3) (v6 := v) (d + 4) ws.length 0 (by omega)
          dsimp only
          have he : endB K sp a b (ws, z1) = (K, z1) := by
            unfold endB
            rw [if_neg hne]
          rw [he]
          exact ⟨c2, l, hbad, Or.inl ⟨k3, fun q => absurd q hne⟩, FS_FR k2 l⟩
        | some w =>
          have hw := twZ_some (tp := tp) (n := n) (K := K) (kd := -1) (z := z) (w := w) (by rw [ht])
          obtain ⟨hv, h27⟩ := k4 w (by rw [ht])
          subst hv
          rw [ht] at k3 hw
          obtain ⟨hw1, -, hw3, hz, hw97⟩ := hw
          have hw3 : z1 = avZ tp n z := hw3
          subst hw3
          have hp : z.1.1 ≤ 1600 := by
            have := h.2.1.1
            have := (sgn_97 hw97).1
            omega
          have hav : avZ tp n z = (nxtT tp n z.1, none) := tz_eta _ hz
          have hws20 : ∀ a ∈ ws, a < 20 := fun a ha => by have := hws a ha; omega
          have hc2 : ∀ k, k < ws.length → c2 74 0 (7 * nB K + 3 + k) = iv (ws.getD k 0 : Nat) := fun k hk => by rw [k2.1 74 (by omega)]; exact hc k hk
          dsimp only
          by_cases hin : w ∈ ws
          · rw [if_pos (show false = false ∧ w ∈ ws from ⟨rfl, hin⟩)]
            obtain ⟨c3, g1, g2, g3⟩ := wd_dup (l := l) (x := x) (y := y) (by omega) hws20 h7 (by omega) k3 hz hp h27 hc2 (v3 := v3) (d + 4) ws.length 0 (by omega) hin
            have he : endB K sp a b (ws, flZ 3 z.1.1 (avZ tp n z)) = (K, flZ 3 z.1.1 (avZ tp n z)) := by
              unfold endB
              rw [if_neg (flZ_ns 3 z.1.1 _)]
            rw [he]
            exact ⟨c3, l, g1, Or.inl ⟨g2, fun q => absurd q (flZ_ns 3 z.1.1 _)⟩, FS_FR (k2.tr g3) l⟩
          · rw [if_neg (show ¬ (false = false ∧ w ∈ ws) from fun q => hin q.2)]
            rw [hav] at k3 ⊢
            have h20 : c2 48 0 5 = iv 0 := by rw [RZ_flt k3]
            have hgo := wd_ok (l := l) (x := x) (y := y) (by omega) hws20 h7 (by omega) h20 hc2 hin (v3 := v3) (d + 4) ws.length 0 (by omega)
            have hgo : X (d + 6) 168 64 [some (vr 48 0), none, some (vi (iv (7 * nB K))), some (vl v3), none, some (vi (iv (ws.length : Nat))), some (vi (iv (w : Nat))), some (vi 0)] [] (c2, l, x, y) = _ := hgo
            obtain ⟨g1, g2, g3⟩ := hab hz
            have hd3 : RD (am_ui c2 74 0 (7 * nB K + 3 + ws.length) (iv (w : Nat))) l K := RU_RD hK (RU.ui _ _ _ (by omega)) hd2
            have hz3 : RZ (am_ui c2 74 0 (7 * nB K + 3 + ws.length) (iv (w : Nat))) tp n (nxtT tp n z.1, none) := RZ_dr k3 (ui_nk _ _ _ _ (by omega)) (fun k hk => ui_nk _ _ _ _ (by omega))
            obtain ⟨c4, j1, j2, j3⟩ := e150 (l := l) (x := x) (y := y) hz3 (d + 4)
            have hbt := bt_bd (n := n) hz3.2.1.2 (nxtT tp n z.1).1
            have hd4 := RD_FR j3 hd3
            have hcell : ∀ k, k < (ws ++ [w]).length → c4 74 0 (7 * nB K + 3 + k) = iv ((ws ++ [w]).getD k 0 : Nat) := by
              intro k hk
              rw [List.length_append, List.length_singleton] at hk
              rw [j3.1 74 (by omega)]
              by_cases e : k = ws.length
              · rw [e, ui_self, getD_app_new]
              · rw [ui_ne _ _ _ _ (by omega), getD_app_old (by omega)]; exact hc2 k (by omega)
            have hab4 : c4 74 0 (7 * nB K) = iv (a : Nat) ∧ c4 74 0 (7 * nB K + 1) = iv (b : Nat) ∧ v3 = jv (e27 sp) := by
              rw [j3.1 74 (by omega), ui_ne _ _ _ _ (by omega), ui_ne _ _ _ _ (by omega), k2.1 74 (by omega)]
              exact ⟨g1, g2, g3⟩
            have hlen : (((ws ++ [w]).length : Nat) : Int) = (ws.length : Int) + 1 := by rw [List.length_append]; simp
            have hS4 : FS c l c4 l := ((FS_FR k2 l).tr (FS.ui _ _ _ _ (by omega))).tr (FS_FR j3 l)
            rw [hgo, q_168_64]
            simp (disch := omega) only [iv_add, iv_sub, iv_mul, iv_neg, iv_lt, iv_le, iv_eq, iv_nat, iv_L, iv_L2, am_bi_v, am_bv_v, am_bl_v, if_pos, if_neg, Int.toNat_natCast, Int.toNat_add, Int.toNat_mul, Int.reduceToNat, h20]
            rw [j1]
            simp only [am_bi_v]
            rw [e155 hbt (d + 4)]
            simp only [am_bi_v]
            by_cases e4 : 97 ≤ btT tp n (nxtT tp n z.1).1 ∧ btT tp n (nxtT tp n z.1).1 ≤ 122
            · rw [if_pos e4, if_neg (show ¬ iv 1 = iv 0 by decide)]
              obtain ⟨c5, l5, b1, b2, b3⟩ := ih (ws ++ [w]) (nxtT tp n z.1, none) c4 (by rw [List.length_append]; simp; omega) (RL_RZ j2) (fun _ => ⟨rfl, j2, e4⟩) hd4 hcell (fun a ha => by
                rcases List.mem_append.mp ha with q | q
                · exact hws a q
                · rw [List.mem_singleton.mp q]; exact hw1) (fun _ => hab4)
              rw [hlen] at b1
              exact ⟨c5, l5, b1, b2, hS4.tr b3⟩
            · have e5 : ¬ sgnT tp n (nxtT tp n z.1) = 97 := fun q => e4 (sgn97_iff.mp q).1
              have he : endB K sp a b (wsZ tp n K false m (ws ++ [w]) (nxtT tp n z.1, none)) = (addB K (sp, a, b, ws ++ [w]), (nxtT tp n z.1, none)) := by
                rw [wsZ_stop false (by simp) e5]
                unfold endB
                rw [if_pos rfl]
              have h63 := hd4.2.2.2.1.1
              rw [if_neg e4, if_pos rfl, he]
              simp (disch := omega) only [iv_add, iv_sub, iv_mul, iv_neg, iv_lt, iv_le, iv_eq, iv_nat, iv_L, iv_L2, am_bi_v, am_bv_v, am_bl_v, if_pos, if_neg, Int.toNat_natCast, Int.toNat_add, Int.toNat_mul, Int.reduceToNat, h63]
              refine ⟨_, _, rfl, Or.inl ⟨?_, fun _ => ?_⟩, ((hS4.tr (FS.ui _ _ _ _ (by omega))).tr (FS.ui _ _ _ _ (by omega))).tr (FS.ul _ _ _ (by omega))⟩
              · exact RZ_dr (RL_RZ j2) (by rw [ui_nk _ _ _ _ (by omega), ui_nk _ _ _ _ (by omega)]) (fun k hk => by rw [ui_nk _ _ _ _ (by omega), ui_nk _ _ _ _ (by omega)])
              · refine RD_addB hK hd4 ((RU.ui _ _ _ (by omega)).tr (RU.ul _ _ _ (by omega))) ⟨?_, ?_, ?_, ?_, fun k hk => ?_⟩
                · rw [← hab4.2.2]; exact am_ul_self2 71 (nB K) _
                · rw [ui_ne _ _ _ _ (by omega)]; exact hab4.1
                · rw [ui_ne _ _ _ _ (by omega)]; exact hab4.2.1
                · rw [ui_self, hlen]
                · rw [ui_ne _ _ _ _ (by omega)]; exact hcell k hk
theorem m168 (h : RZ c tp n (avZ tp n z)) (hz : z.2 = none) (hp : z.1.1 ≤ 1600) (hd : RD c l K) (hK : VK K) (d : Nat) : ∃ (c2 : Nat → Nat → Nat → Int32) (l2 : Nat → Nat → Int64), E (d + 6) 168 [vr 48 0, vi (iv (z.1.1 : Nat))] (c, l, x, y) = some (none, c2, l2, x, y) ∧ BD c2 l2 tp n (rtZ tp n K z) ∧ FS c l c2 l2 := by
  have h7 := hK.2.2.2.1.1
  obtain ⟨c1, g1, g2, g3⟩ := e157 (l := l) (x := x) (y := y) h (show (avZ tp n z).2 = none from hz) (k := 3) (m := nB K) (r := 7) (p := z.1.1) (by omega) hd.2.2.2.1.1 (by omega) (by omega) hp (d + 3)
  have g1 : E (d + 5) 157 [vr 48 0, vi 3, vi 7, vi (iv (z.1.1 : Nat))] (c, l, x, y) = _ := g1
  unfold rtZ
  rw [q_168, g1]
  simp only [am_bi_v]
  by_cases e : nB K = 7
  · rw [if_pos e] at g3
    rw [if_pos e, if_neg (show ¬ iv 1 = 0 by decide), if_pos (show 7 ≤ nB K by omega)]
    refine ⟨c1, l, rfl, ?_, FS_FR g2 l⟩
    rw [flZ_none (show (avZ tp n z).2 = none from hz)] at g3
    rw [flZ_none hz]
    exact BD_flt g3
  · rw [if_neg e] at g3
    rw [if_neg e, if_pos (show iv 0 = 0 from rfl), if_neg (show ¬ 7 ≤ nB K by omega)]
    have hd1 := RD_FR g2 hd
    obtain ⟨c2, v, a1, a2, a3, a4⟩ := e158 (x := x) (y := y) g3 hd1 hK d
    have hd2 := RD_FR a2 hd1
    obtain ⟨c3, b1, b2, b3⟩ := e165 (l := l) (x := x) (y := y) a3 (t := 0) (own := 12) (kd := 63) (W := [97, 103, 101]) (by decide) (by decide) rfl (d + 1)
    rw [tqZ_0] at b2
    have hd3 := RD_FR b3 hd2
    obtain ⟨c4, v4, j1, j2, j3, j4⟩ := e169 (l := l) (x := x) (y := y) b2 (most := 99) (by omega) (d + 1)
    have j1 : E (d + 5) 169 [vr 48 0, vi 0, vi 99] (c3, l, x, y) = _ := j1
    have hd4 : RD (am_ui c4 74 0 (7 * nB K) v4) l K := RU_RD hK (RU.ui _ _ _ (by omega)) (RD_FR j2 hd3)
    have hz4 : RZ (am_ui c4 74 0 (7 * nB K) v4) tp n _ := RZ_dr j3 (ui_nk _ _ _ _ (by omega)) (fun k hk => ui_nk _ _ _ _ (by omega))
    obtain ⟨c5, k1, k2, k3⟩ := e165 (l := l) (x := x) (y := y) hz4 (t := 0) (own := 13) (kd := 64) (W := [115, 105, 100, 101]) (by decide) (by decide) rfl (d + 1)
    rw [tqZ_0] at k2
    have hd5 := RD_FR k3 hd4
    obtain ⟨c6, v6, o1, o2, o3, o4⟩ := e169 (l := l) (x := x) (y := y) k2 (most := 1) (by omega) (d + 1)
    have o1 : E (d + 5) 169 [vr 48 0, vi 0, vi 1] (c5, l, x, y) = _ := o1
    have hd6 : RD (am_ui c6 74 0 (7 * nB K + 1) v6) l K := RU_RD hK (RU.ui _ _ _ (by omega)) (RD_FR o2 hd5)
    have hz6 : RZ (am_ui c6 74 0 (7 * nB K + 1) v6) tp n _ := RZ_dr o3 (ui_nk _ _ _ _ (by omega)) (fun k hk => ui_nk _ _ _ _ (by omega))
    obtain ⟨c7, p1, p2, p3⟩ := e165 (l := l) (x := x) (y := y) hz6 (t := 0) (own := 14) (kd := 65) (W := [115, 97, 121, 115]) (by decide) (by decide) rfl (d + 1)
    rw [tqZ_0] at p2
    have hd7 := RD_FR p3 hd6
    have hwh : (toZ tp n 14 (tnZ tp n 1 (toZ tp n 13 (tnZ tp n 99 (toZ tp n 12 (nsZ tp n K (avZ tp n z)).2)).2)).2) = (whZ tp n K (avZ tp n z)).2 := rfl
    rw [hwh] at p2
    have hS7 : FS c l c7 l := ((((FS_FR ((g2.tr a2).tr (b3.tr j2)) l).tr (FS.ui 74 0 (7 * nB K) v4 (by omega))).tr (FS_FR (k3.tr o2) l)).tr (FS.ui 74 0 (7 * nB K + 1) v6 (by omega))).tr (FS_FR p3 l)
    have hab : (whZ tp n K (avZ tp n z)).2.2 = none → c7 74 0 (7 * nB K) = iv ((whZ tp n K (avZ tp n z)).1.2.1.getD 0 : Nat) ∧ c7 74 0 (7 * nB K + 1) = iv ((whZ tp n K (avZ tp n z)).1.2.2.getD 0 : Nat) ∧ v = jv (e27 ((whZ tp n K (avZ tp n z)).1.1.getD [])) := by
      intro q
      obtain ⟨s, a, b, h2, -⟩ := whZ_ok q
      have hs : (nsZ tp n K (avZ tp n z)).1 = some s := congrArg (·.1) h2
      have ha : (tnZ tp n 99 (toZ tp n 12 (nsZ tp n K (avZ tp n z)).2)).1 = some a := congrArg (·.2.1) h2
      have hb : (tnZ tp n 1 (toZ tp n 13 (tnZ tp n 99 (toZ tp n 12 (nsZ tp n K (avZ tp n z)).2)).2)).1 = some b := congrArg (·.2.2) h2
      rw [h2]
      refine ⟨?_, ?_, a4 s hs⟩
      · rw [p3.1 74 (by omega), ui_ne _ _ _ _ (by omega), o2.1 74 (by omega), k3.1 74 (by omega), ui_self]
        exact j4 a ha
      · rw [p3.1 74 (by omega), ui_self]
        exact o4 b hb
    obtain ⟨c8, l8, t1, t2, t3⟩ := wt_loop (x := x) (y := y) hK (by omega) (v3 := v) d 4 [] _ c7 rfl p2 (fun q => absurd rfl q) hd7 (fun k hk => absurd hk (Nat.not_lt_zero _)) (fun w q => (by cases q)) hab
    refine ⟨c8, l8, ?_, t2, hS7.tr t3⟩
    rw [← t1, a1]
    simp only [am_bl_v]
    rw [b1]
    simp only [am_bv_v]
    rw [j1]
    simp (disch := omega) only [iv_add, iv_sub, iv_mul, iv_neg, iv_lt, iv_le, iv_eq, iv_nat, iv_L, iv_L2, am_bi_v, am_bv_v, am_bl_v, if_pos, if_neg, Int.toNat_natCast, Int.toNat_add, Int.toNat_mul, Int.reduceToNat, hd1.2.2.2.1.1]
    rw [k1]
    simp only [am_bv_v]
    simp only [iv_L] at o1
    rw [o1]
    simp (disch := omega) only [iv_add, iv_sub, iv_mul, iv_neg, iv_lt, iv_le, iv_eq, iv_nat, iv_L, iv_L2, am_bi_v, am_bv_v, am_bl_v, if_pos, if_neg, Int.toNat_natCast, Int.toNat_add, Int.toNat_mul, Int.reduceToNat]
    rw [p1]
    simp (disch := omega) only [iv_add, iv_sub, iv_mul, iv_neg, iv_lt, iv_le, iv_eq, iv_nat, iv_L, iv_L2, am_bi_v, am_bv_v, am_bl_v, if_pos, if_neg, Int.toNat_natCast, Int.toNat_add, Int.toNat_mul, Int.reduceToNat]
    rfl
end
