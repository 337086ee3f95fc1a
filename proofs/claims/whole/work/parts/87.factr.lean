/-! the reference: a fact, a case, a witness are told -/
def endC (K : Ct) (r : List Nat × Tz) : Ct × Tz := if r.2.2 = none then (addC K r.1, r.2) else (K, r.2)
def endB (K : Ct) (s : List Nat) (a b : Nat) (r : List Nat × Tz) : Ct × Tz := if r.2.2 = none then (addB K (s, a, b, r.1), r.2) else (K, r.2)
section
variable {c : Nat → Nat → Nat → Int32} {l : Nat → Nat → Int64} {x y : Nat} {tp : Nat → Nat} {n : Nat} {z : Tz} {s : Ts} {K : Ct}
theorem RL_le (h : RL c tp n s) : s.1 ≤ 1600 := by
  obtain ⟨-, h2, -, -, -, e, -, h7, -⟩ := h
  omega
theorem tw_not97 {kd : Int} (h : ¬ sgnT tp n s = 97) : twZ tp n K kd (s, none) = (none, flZ 1 s.1 (s, none)) := by
  have hs : spZ tp n (s, none) = (none, flZ 1 s.1 (s, none)) := by
    unfold spZ
    rw [if_neg (show ¬ (none : Option (Nat × Nat)).isSome = true by decide), if_pos (Or.inl h)]
  unfold twZ
  rw [hs]
theorem fwZ_eq {z : Tz} (h : (twZ tp n K 1 (twZ tp n K 0 z).2).2 = (s, none)) : fwZ tp n K z = if sgnT tp n s = 97 then ((oi (twZ tp n K 0 z).1, oi (twZ tp n K 1 (twZ tp n K 0 z).2).1, oi (twZ tp n K 0 (s, none)).1), (twZ tp n K 0 (s, none)).2) else ((oi (twZ tp n K 0 z).1, oi (twZ tp n K 1 (twZ tp n K 0 z).2).1, -1), (s, none)) := by
  unfold fwZ
  dsimp only
  rw [h]
theorem fwZ_f {z : Tz} (h : (twZ tp n K 1 (twZ tp n K 0 z).2).2.2.isSome = true) : (fwZ tp n K z).2 = (twZ tp n K 1 (twZ tp n K 0 z).2).2 := by
  unfold fwZ
  dsimp only
  split
  · rw [twZ_f h]
  · rfl
theorem RZ_fl0 {o : Option (Nat × Nat)} (h : RZ c tp n (s, o)) : (c 48 0 5 = iv 0) = (o = none) := RZ_flt h
theorem fc_end (hd : RD c l K) (h16 : nF K < 16) (h : RZ c tp n z) (v : Int32) (d : Nat) : X (d + 1) 166 47 [some (vr 48 0), none, none] [vi v, vi (iv (3 * nF K + 2)), vr 73 0] (c, l, x, y) = some (none, (if z.2 = none then am_ui (am_ui c 73 0 (3 * nF K + 2) v) 68 0 2 (iv ((nF K : Int) + 1)) else am_ui c 73 0 (3 * nF K + 2) v), l, x, y) := by
  have hf := RZ_flt h
  rw [q_166_47]
  simp (disch := omega) only [iv_add, iv_sub, iv_mul, iv_neg, iv_lt, iv_le, iv_eq, iv_nat, iv_L, iv_L2, am_bi_v, am_bv_v, am_bl_v, if_pos, if_neg, Int.toNat_natCast, Int.toNat_add, Int.toNat_mul, Int.reduceToNat, hd.2.2.1.1, hf]
  split <;> rfl
theorem m166 (h : RZ c tp n (avZ tp n z)) (hz : z.2 = none) (hp : z.1.1 ≤ 1600) (hd : RD c l K) (hK : VK K) (d : Nat) : ∃ (c2 : Nat → Nat → Nat → Int32) (l2 : Nat → Nat → Int64), E (d + 6) 166 [vr 48 0, vi (iv (z.1.1 : Nat))] (c, l, x, y) = some (none, c2, l2, x, y) ∧ BD c2 l2 tp n (rfZ tp n K z) ∧ FS c l c2 l2 := by
  have h16 := hK.2.2.1.1
  obtain ⟨c1, g1, g2, g3⟩ := e157 (l := l) (x := x) (y := y) h (show (avZ tp n z).2 = none from hz) (k := 2) (m := nF K) (r := 16) (p := z.1.1) (by omega) hd.2.2.1.1 (by omega) (by omega) hp (d + 3)
  have g1 : E (d + 5) 157 [vr 48 0, vi 2, vi 16, vi (iv (z.1.1 : Nat))] (c, l, x, y) = _ := g1
  unfold rfZ
  rw [q_166, g1]
  simp only [am_bi_v]
  by_cases e : nF K = 16
  · rw [if_pos e] at g3
    rw [if_pos e, if_neg (show ¬ iv 1 = 0 by decide), if_pos (show 16 ≤ nF K by omega)]
    refine ⟨c1, l, rfl, ?_, FS_FR g2 l⟩
    rw [flZ_none (show (avZ tp n z).2 = none from hz)] at g3
    rw [flZ_none hz]
    exact BD_flt g3
  · rw [if_neg e] at g3
    rw [if_neg e, if_pos (show iv 0 = 0 from rfl), if_neg (show ¬ 16 ≤ nF K by omega)]
    have hd1 := RD_FR g2 hd
    obtain ⟨c2, v1, a1, a2, a3, a4⟩ := e167 (x := x) (y := y) g3 hd1 hK (kd := 0) (by omega) d
    have hd2 : RD (am_ui c2 73 0 (3 * nF K) v1) l K := RU_RD hK (RU.ui _ _ _ (by omega)) (RD_FR a2 hd1)
    have hz2 : RZ (am_ui c2 73 0 (3 * nF K) v1) tp n (twZ tp n K 0 (avZ tp n z)).2 := RZ_dr a3 (ui_nk _ _ _ _ (by omega)) (fun k hk => ui_nk _ _ _ _ (by omega))
    obtain ⟨c3, v2, b1, b2, b3, b4⟩ := e167 (x := x) (y := y) hz2 hd2 hK (kd := 1) (by omega) d
    have hd3 : RD (am_ui c3 73 0 (3 * nF K + 1) v2) l K := RU_RD hK (RU.ui _ _ _ (by omega)) (RD_FR b2 hd2)
    have hz3 : RZ (am_ui c3 73 0 (3 * nF K + 1) v2) tp n (twZ tp n K 1 (twZ tp n K 0 (avZ tp n z)).2).2 := RZ_dr b3 (ui_nk _ _ _ _ (by omega)) (fun k hk => ui_nk _ _ _ _ (by omega))
    have hS3 : FS c l (am_ui c3 73 0 (3 * nF K + 1) v2) l := (((FS_FR (g2.tr a2) l).tr (FS.ui _ _ _ _ (by omega))).tr (FS_FR b2 l)).tr (FS.ui _ _ _ _ (by omega))
    have hf3 : (c3 48 0 5 = iv 0) = ((twZ tp n K 1 (twZ tp n K 0 (avZ tp n z)).2).2.2 = none) := RZ_flt b3
    have a1 : E (d + 5) 167 [vr 48 0, vi (iv 0)] (c1, l, x, y) = _ := a1
    have b1 : E (d + 5) 167 [vr 48 0, vi (iv 1)] (am_ui c2 73 0 (3 * nF K) v1, l, x, y) = _ := b1
    simp only [iv_L, hd1.2.2.1.1]
    rw [a1]
    simp (disch := omega) only [iv_add, iv_sub, iv_mul, iv_neg, iv_lt, iv_le, iv_eq, iv_nat, iv_L, iv_L2, am_bi_v, am_bv_v, am_bl_v, if_pos, if_neg, Int.toNat_natCast, Int.toNat_add, Int.toNat_mul, Int.reduceToNat]
    rw [b1]
    simp (disch := omega) only [iv_add, iv_sub, iv_mul, iv_neg, iv_lt, iv_le, iv_eq, iv_nat, iv_L, iv_L2, am_bi_v, am_bv_v, am_bl_v, if_pos, if_neg, Int.toNat_natCast, Int.toNat_add, Int.toNat_mul, Int.reduceToNat, hf3]
    have hend : ∀ (c4 : Nat → Nat → Nat → Int32) (v3 : Int32) (z4 : Tz), RD c4 l K → RZ c4 tp n z4 → X (d + 6) 166 47 [some (vr 48 0), none, none] [vi v3, vi (iv (3 * nF K + 2)), vr 73 0] (c4, l, x, y) = some (none, (if z4.2 = none then am_ui (am_ui c4 73 0 (3 * nF K + 2) v3) 68 0 2 (iv ((nF K : Int) + 1)) else am_ui c4 73 0 (3 * nF K + 2) v3), l, x, y) := fun c4 v3 z4 q1 q2 => fc_end q1 (by omega) q2 v3 (d + 5)
    have hcl : ∀ (c4 : Nat → Nat → Nat → Int32) (v3 : Int32) (w3 : Int), FR (am_ui c3 73 0 (3 * nF K + 1) v2) c4 → v3 = iv w3 → (∀ w1 w2, (twZ tp n K 0 (avZ tp n z)).1 = some w1 → (twZ tp n K 1 (twZ tp n K 0 (avZ tp n z)).2).1 = some w2 → RD (am_ui (am_ui c4 73 0 (3 * nF K + 2) v3) 68 0 2 (iv ((nF K : Int) + 1))) l (addF K ((w1 : Int), (w2 : Int), w3))) := by
      intro c4 v3 w3 q1 q2 w1 w2 hw1 hw2
      have hc4 : c4 73 = am_ui c3 73 0 (3 * nF K + 1) v2 73 := q1.1 73 (by omega)
      have hc3 : c3 73 = am_ui c2 73 0 (3 * nF K) v1 73 := b2.1 73 (by omega)
      refine RD_addF hK (RD_FR q1 hd3) (RU.ui _ _ _ (by omega)) ⟨?_, ?_, ?_⟩
      · rw [ui_ne _ _ _ _ (by omega), hc4, ui_ne _ _ _ _ (by omega), hc3, ui_self, a4 w1 hw1]
      · rw [ui_ne _ _ _ _ (by omega), hc4, ui_self, b4 w2 hw2]
      · rw [ui_self, q2]
    by_cases e3 : (twZ tp n K 1 (twZ tp n K 0 (avZ tp n z)).2).2.2 = none
    · rw [if_pos e3]
      have hw2 : (twZ tp n K 1 (twZ tp n K 0 (avZ tp n z)).2).1 ≠ none := fun q => by have := twZ_none q; rw [e3] at this; cases this
      obtain ⟨w2, hw2⟩ := Option.ne_none_iff_exists'.mp hw2
      have h2 := twZ_some hw2
      have hw1 : (twZ tp n K 0 (avZ tp n z)).1 ≠ none := fun q => by have := twZ_none q; rw [h2.2.2.2.1] at this; cases this
      obtain ⟨w1, hw1⟩ := Option.ne_none_iff_exists'.mp hw1
      have ez : (twZ tp n K 1 (twZ tp n K 0 (avZ tp n z)).2).2 = ((twZ tp n K 1 (twZ tp n K 0 (avZ tp n z)).2).2.1, none) := tz_eta _ e3
      obtain ⟨s, hs⟩ : ∃ s, s = (twZ tp n K 1 (twZ tp n K 0 (avZ tp n z)).2).2.1 := ⟨_, rfl⟩
      rw [← hs] at ez
      have hF := fwZ_eq ez
      rw [hw1, hw2] at hF
      rw [ez] at hz3
      obtain ⟨c4, j1, j2, j3⟩ := e150 (l := l) (x := x) (y := y) hz3 (d + 4)
      have hbt := bt_bd (n := n) hz3.2.1.2 s.1
      rw [j1]
      simp only [am_bi_v]
      rw [e155 hbt (d + 4)]
      simp only [am_bi_v]
      have hd4 := RD_FR j3 hd3
      have hz4 := RL_RZ j2
      by_cases e4 : 97 ≤ btT tp n s.1 ∧ btT tp n s.1 ≤ 122
      · rw [if_pos e4, if_neg (show ¬ iv 1 = iv 0 by decide)]
        obtain ⟨c5, v3, k1, k2, k3, k4⟩ := e167 (x := x) (y := y) hz4 hd4 hK (kd := 0) (by omega) d
        have k1 : E (d + 5) 167 [vr 48 0, vi (iv 0)] (c4, l, x, y) = _ := k1
        rw [k1]
        simp only [am_bi_v]
        rw [hend c5 v3 _ (RD_FR k2 hd4) k3]
        by_cases e5 : sgnT tp n s = 97
        · rw [if_pos e5] at hF
          rw [hF]
          dsimp only
          by_cases e6 : (twZ tp n K 0 (s, none)).2.2 = none
          · rw [if_pos e6, if_pos e6]
            have hw3 : (twZ tp n K 0 (s, none)).1 ≠ none := fun q => by have := twZ_none q; rw [e6] at this; cases this
            obtain ⟨w3, hw3⟩ := Option.ne_none_iff_exists'.mp hw3
            rw [hw3]
            refine ⟨_, _, rfl, Or.inl ⟨?_, fun _ => hcl c5 v3 _ (j3.tr k2) (k4 w3 hw3) w1 w2 hw1 hw2⟩, ((hS3.tr (FS_FR (j3.tr k2) l)).tr (FS.ui _ _ _ _ (by omega))).tr (FS.ui _ _ _ _ (by omega))⟩
            exact RZ_dr k3 (by rw [ui_nk _ _ _ _ (by omega), ui_nk _ _ _ _ (by omega)]) (fun k hk => by rw [ui_nk _ _ _ _ (by omega), ui_nk _ _ _ _ (by omega)])
          · rw [if_neg e6, if_neg e6]
            refine ⟨_, _, rfl, Or.inl ⟨?_, fun q => absurd q e6⟩, (hS3.tr (FS_FR (j3.tr k2) l)).tr (FS.ui _ _ _ _ (by omega))⟩
            exact RZ_dr k3 (ui_nk _ _ _ _ (by omega)) (fun k hk => ui_nk _ _ _ _ (by omega))
        · rw [tw_not97 e5] at k3
          rw [tw_not97 e5]
          rw [if_neg e5] at hF
          rw [if_neg (flZ_ns 1 s.1 (s, none)), hF]
          dsimp only
          rw [if_pos rfl]
          refine ⟨_, _, rfl, Or.inr ⟨rfl, ?_, ?_⟩, (hS3.tr (FS_FR (j3.tr k2) l)).tr (FS.ui _ _ _ _ (by omega))⟩
          · intro q
            have := (sgnS_iff (tp := tp) (n := n) (s := s) (sg := 59) (by omega)).mp q
            omega
          · exact RZ_dr k3 (ui_nk _ _ _ _ (by omega)) (fun k hk => ui_nk _ _ _ _ (by omega))
      · have e5 : ¬ sgnT tp n s = 97 := fun q => e4 (sgn97_iff.mp q).1
        rw [if_neg e5] at hF
        rw [if_neg e4, if_pos rfl, hF, hend c4 (iv (-1)) (s, none) hd4 hz4]
        dsimp only
        rw [if_pos rfl, if_pos rfl]
        refine ⟨_, _, rfl, Or.inl ⟨?_, fun _ => hcl c4 _ (-1) j3 rfl w1 w2 hw1 hw2⟩, ((hS3.tr (FS_FR j3 l)).tr (FS.ui _ _ _ _ (by omega))).tr (FS.ui _ _ _ _ (by omega))⟩
        exact RZ_dr hz4 (by rw [ui_nk _ _ _ _ (by omega), ui_nk _ _ _ _ (by omega)]) (fun k hk => by rw [ui_nk _ _ _ _ (by omega), ui_nk _ _ _ _ (by omega)])
    · rw [if_neg e3, hend _ (iv (-1)) _ hd3 hz3, if_neg e3]
      have hsm : (twZ tp n K 1 (twZ tp n K 0 (avZ tp n z)).2).2.2.isSome = true := by
        cases q : (twZ tp n K 1 (twZ tp n K 0 (avZ tp n z)).2).2.2 with
        | none => exact absurd q e3
        | some f => rfl
      have hx : ∀ r : (Int × Int × Int) × Tz, r.2 = (twZ tp n K 1 (twZ tp n K 0 (avZ tp n z)).2).2 → BD (am_ui (am_ui c3 73 0 (3 * nF K + 1) v2) 73 0 (3 * nF K + 2) (iv (-1))) l tp n (if r.2.2 = none then (addF K r.1, r.2) else (K, r.2)) := by
        intro r hr
        rw [hr, if_neg e3]
        refine Or.inl ⟨?_, fun q => absurd q e3⟩
        exact RZ_dr hz3 (ui_nk _ _ _ _ (by omega)) (fun k hk => ui_nk _ _ _ _ (by omega))
      exact ⟨_, _, rfl, hx _ (fwZ_f hsm), hS3.tr (FS.ui _ _ _ _ (by omega))⟩
end
