/-! the reference: a case, a witness are told -/
section
variable {c : Nat → Nat → Nat → Int32} {l : Nat → Nat → Int64} {x y : Nat} {tp : Nat → Nat} {n : Nat} {z : Tz} {s : Ts} {K : Ct}
theorem not59 (h : 97 ≤ btT tp n s.1 ∧ btT tp n s.1 ≤ 122) : ¬ sgnT tp n s = 59 := fun q => by
  have := (sgnS_iff (tp := tp) (n := n) (s := s) (sg := 59) (by omega)).mp q
  omega
theorem wsZ_stop (dup : Bool) {m : Nat} {ws : List Nat} (h0 : ws ≠ []) (h : ¬ sgnT tp n z.1 = 97) : wsZ tp n K dup m ws z = (ws, z) := by
  cases m with
  | zero => rfl
  | succ m =>
    unfold wsZ
    rw [if_pos ⟨h0, h⟩]
theorem cs_loop (hK : VK K) (h8 : nC K < 8) (d : Nat) : ∀ (m : Nat) (ws : List Nat) (s : Ts) (c : Nat → Nat → Nat → Int32), ws.length + m = 8 → RZ c tp n (s, none) → (ws ≠ [] → RL c tp n s ∧ 97 ≤ btT tp n s.1 ∧ btT tp n s.1 ≤ 122) → RD c l K → (∀ k, k < ws.length → c 75 0 (9 * nC K + 1 + k) = iv (ws.getD k 0 : Nat)) → ∃ c2, X (d + 6) 173 16 [some (vr 48 0), none, some (vi (iv (9 * nC K))), some (vi (iv (ws.length : Nat))), none] [] (c, l, x, y) = some (none, c2, l, x, y) ∧ BD c2 l tp n (endC K (wsZ tp n K true m ws (s, none))) ∧ FS c l c2 l := by
  intro m
  induction m with
  | zero =>
    intro ws s c hm h hR hd hc
    have h0 : ws ≠ [] := fun q => by rw [q] at hm; exact absurd hm (by decide)
    obtain ⟨hL, hb⟩ := hR h0
    obtain ⟨c2, k1, k2, k3⟩ := e152 (l := l) (x := x) (y := y) h (k := 1) (p := s.1) (by omega) (RL_le hL) (d + 4)
    have k1 : E (d + 5) 152 [vr 48 0, vi 1, vi (iv (s.1 : Nat))] (c, l, x, y) = _ := k1
    have he : endC K (wsZ tp n K true 0 ws (s, none)) = (addC K ws, (s, none)) := by
      unfold endC wsZ
      rw [if_pos rfl]
    rw [he, q_173_16, if_pos (by rw [show ws.length = 8 by omega]; rfl), hL.2.2.2.2.1, k1]
    simp only [am_bv_v]
    exact ⟨c2, rfl, Or.inr ⟨rfl, not59 hb, k2⟩, FS_FR k3 l⟩
  | succ m ih =>
    intro ws s c hm h hR hd hc
    obtain ⟨c2, v, k1, k2, k3, k4⟩ := e167 (x := x) (y := y) h hd hK (kd := -1) (by omega) d
    have k1 : E (d + 5) 167 [vr 48 0, vi (-1)] (c, l, x, y) = _ := k1
    have hd2 := RD_FR k2 hd
    have hf := RZ_flt k3
    rw [q_173_16, if_neg (by simp only [iv_L]; rw [iv_eq (by omega) (by omega)]; omega), k1]
    simp only [am_bi_v, iv_L, iv_L2, hf]
    by_cases h0 : ws ≠ [] ∧ ¬ sgnT tp n s = 97
    · have he : endC K (wsZ tp n K true (m + 1) ws (s, none)) = (addC K ws, (s, none)) := by
        rw [wsZ_stop true h0.1 h0.2]
        unfold endC
        rw [if_pos rfl]
      have hb := (hR h0.1).2
      rw [tw_not97 h0.2] at k3
      rw [tw_not97 h0.2, if_neg (flZ_ns 1 s.1 (s, none)), he]
      exact ⟨c2, rfl, Or.inr ⟨rfl, not59 hb, k3⟩, FS_FR k2 l⟩
    · unfold wsZ
      rw [if_neg (show ¬ (ws ≠ [] ∧ sgnT tp n ((s, none) : Tz).1 ≠ 97) from h0)]
      cases ht : twZ tp n K (-1) (s, none) with
      | mk o z1 =>
        cases o with
        | none =>
          have hn := twZ_none (tp := tp) (n := n) (K := K) (kd := -1) (z := (s, none)) (by rw [ht])
          rw [ht] at hn k3
          have hne : ¬ z1.2 = none := fun q => by rw [show (none, z1).2.2 = z1.2 from rfl, q] at hn; cases hn
          dsimp only
          rw [if_neg hne]
          have he : endC K (ws, z1) = (K, z1) := by
            unfold endC
            rw [if_neg hne]
          rw [he]
          exact ⟨c2, rfl, Or.inl ⟨k3, fun q => absurd q hne⟩, FS_FR k2 l⟩
        | some w =>
          have hw := twZ_some (tp := tp) (n := n) (K := K) (kd := -1) (z := (s, none)) (w := w) (by rw [ht])
          have hv := k4 w (by rw [ht])
          subst hv
          rw [ht] at k3 hw
          obtain ⟨hw1, -, hw3, -, -⟩ := hw
          have hw3 : z1 = (nxtT tp n s, none) := hw3
          subst hw3
          have hd3 : RD (am_ui c2 75 0 (9 * nC K + 1 + ws.length) (iv (w : Nat))) l K := RU_RD hK (RU.ui _ _ _ (by omega)) hd2
          have hz3 : RZ (am_ui c2 75 0 (9 * nC K + 1 + ws.length) (iv (w : Nat))) tp n (nxtT tp n s, none) := RZ_dr k3 (ui_nk _ _ _ _ (by omega)) (fun k hk => ui_nk _ _ _ _ (by omega))
          obtain ⟨c4, j1, j2, j3⟩ := e150 (l := l) (x := x) (y := y) hz3 (d + 4)
          have hbt := bt_bd (n := n) hz3.2.1.2 (nxtT tp n s).1
          have hd4 := RD_FR j3 hd3
          have hcell : ∀ k, k < (ws ++ [w]).length → c4 75 0 (9 * nC K + 1 + k) = iv ((ws ++ [w]).getD k 0 : Nat) := by
            intro k hk
            rw [List.length_append, List.length_singleton] at hk
            rw [j3.1 75 (by omega)]
            by_cases e : k = ws.length
            · rw [e, ui_self, getD_app_new]
            · rw [ui_ne _ _ _ _ (by omega), getD_app_old (by omega), k2.1 75 (by omega)]; exact hc k (by omega)
          have hlen : (((ws ++ [w]).length : Nat) : Int) = (ws.length : Int) + 1 := by rw [List.length_append]; simp
          have hS4 : FS c l c4 l := ((FS_FR k2 l).tr (FS.ui _ _ _ _ (by omega))).tr (FS_FR j3 l)
          dsimp only
          rw [if_neg (show ¬ (true = false ∧ w ∈ ws) from fun q => by cases q.1), if_pos rfl]
          simp (disch := omega) only [iv_add, iv_sub, iv_mul, iv_neg, iv_lt, iv_le, iv_eq, iv_nat, iv_L, iv_L2, am_bi_v, am_bv_v, am_bl_v, if_pos, if_neg, Int.toNat_natCast, Int.toNat_add, Int.toNat_mul, Int.reduceToNat]
          rw [j1]
          simp only [am_bi_v]
          rw [e155 hbt (d + 4)]
          simp only [am_bi_v]
          by_cases e4 : 97 ≤ btT tp n (nxtT tp n s).1 ∧ btT tp n (nxtT tp n s).1 ≤ 122
          · rw [if_pos e4, if_neg (show ¬ iv 1 = iv 0 by decide)]
            obtain ⟨c5, b1, b2, b3⟩ := ih (ws ++ [w]) (nxtT tp n s) c4 (by rw [List.length_append]; simp; omega) (RL_RZ j2) (fun _ => ⟨j2, e4⟩) hd4 hcell
            rw [hlen] at b1
            exact ⟨c5, b1, b2, hS4.tr b3⟩
          · have e5 : ¬ sgnT tp n (nxtT tp n s) = 97 := fun q => e4 (sgn97_iff.mp q).1
            have he : endC K (wsZ tp n K true m (ws ++ [w]) (nxtT tp n s, none)) = (addC K (ws ++ [w]), (nxtT tp n s, none)) := by
              rw [wsZ_stop true (by simp) e5]
              unfold endC
              rw [if_pos rfl]
            rw [if_neg e4, if_pos rfl, he]
            simp (disch := omega) only [iv_add, iv_sub, iv_mul, iv_neg, iv_lt, iv_le, iv_eq, iv_nat, iv_L, iv_L2, am_bi_v, am_bv_v, am_bl_v, if_pos, if_neg, Int.toNat_natCast, Int.toNat_add, Int.toNat_mul, Int.reduceToNat, hd4.2.2.2.2.1.1]
            refine ⟨_, rfl, Or.inl ⟨?_, fun _ => ?_⟩, (hS4.tr (FS.ui _ _ _ _ (by omega))).tr (FS.ui _ _ _ _ (by omega))⟩
            · exact RZ_dr (RL_RZ j2) (by rw [ui_nk _ _ _ _ (by omega), ui_nk _ _ _ _ (by omega)]) (fun k hk => by rw [ui_nk _ _ _ _ (by omega), ui_nk _ _ _ _ (by omega)])
            · refine RD_addC hK hd4 (RU.ui _ _ _ (by omega)) ⟨?_, fun k hk => ?_⟩
              · rw [ui_self, hlen]
              · rw [ui_ne _ _ _ _ (by omega)]; exact hcell k hk
theorem m173 (h : RZ c tp n (avZ tp n z)) (hz : z.2 = none) (hp : z.1.1 ≤ 1600) (hd : RD c l K) (hK : VK K) (d : Nat) : ∃ (c2 : Nat → Nat → Nat → Int32) (l2 : Nat → Nat → Int64), E (d + 6) 173 [vr 48 0, vi (iv (z.1.1 : Nat))] (c, l, x, y) = some (none, c2, l2, x, y) ∧ BD c2 l2 tp n (rcZ tp n K z) ∧ FS c l c2 l2 := by
  have h8 := hK.2.2.2.2.1.1
  obtain ⟨c1, g1, g2, g3⟩ := e157 (l := l) (x := x) (y := y) h (show (avZ tp n z).2 = none from hz) (k := 4) (m := nC K) (r := 8) (p := z.1.1) (by omega) hd.2.2.2.2.1.1 (by omega) (by omega) hp (d + 3)
  have g1 : E (d + 5) 157 [vr 48 0, vi 4, vi 8, vi (iv (z.1.1 : Nat))] (c, l, x, y) = _ := g1
  unfold rcZ
  rw [q_173, g1]
  simp only [am_bi_v]
  by_cases e : nC K = 8
  · rw [if_pos e] at g3
    rw [if_pos e, if_neg (show ¬ iv 1 = 0 by decide), if_pos (show 8 ≤ nC K by omega)]
    refine ⟨c1, l, rfl, ?_, FS_FR g2 l⟩
    rw [flZ_none (show (avZ tp n z).2 = none from hz)] at g3
    rw [flZ_none hz]
    exact BD_flt g3
  · rw [if_neg e] at g3
    rw [if_neg e, if_pos (show iv 0 = 0 from rfl), if_neg (show ¬ 8 ≤ nC K by omega)]
    have hd1 := RD_FR g2 hd
    have hav : avZ tp n z = ((avZ tp n z).1, none) := tz_eta _ hz
    rw [hav] at g3 ⊢
    obtain ⟨c2, k1, k2, k3⟩ := cs_loop (l := l) (x := x) (y := y) hK (by omega) d 8 [] (avZ tp n z).1 c1 rfl g3 (fun q => absurd rfl q) hd1 (fun k hk => absurd hk (Nat.not_lt_zero _))
    refine ⟨c2, l, ?_, k2, (FS_FR g2 l).tr k3⟩
    rw [← k1]
    simp (disch := omega) only [iv_add, iv_sub, iv_mul, iv_neg, iv_lt, iv_le, iv_eq, iv_nat, iv_L, iv_L2, am_bi_v, am_bv_v, am_bl_v, if_pos, if_neg, Int.toNat_natCast, Int.toNat_add, Int.toNat_mul, Int.reduceToNat, hd1.2.2.2.2.1.1]
    rfl
end
