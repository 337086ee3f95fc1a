/-! the reference: a statement is told -/
def FT (c : Nat → Nat → Nat → Int32) (l : Nat → Nat → Int64) (c2 : Nat → Nat → Nat → Int32) (l2 : Nat → Nat → Int64) : Prop := (∀ k i j, nDr k j → ¬ (k = 48 ∧ j = 37) → c2 k i j = c k i j) ∧ ∀ k j, ¬ (k = 69 ∧ j < 20) → ¬ (k = 71 ∧ j < 7) → l2 k j = l k j
section
variable {c : Nat → Nat → Nat → Int32} {l : Nat → Nat → Int64} {x y : Nat} {tp : Nat → Nat} {n : Nat} {z : Tz} {s : Ts} {K : Ct}
theorem FT.tr {c1 c2 c3 : Nat → Nat → Nat → Int32} {l1 l2 l3 : Nat → Nat → Int64} (h : FT c1 l1 c2 l2) (g : FT c2 l2 c3 l3) : FT c1 l1 c3 l3 := ⟨fun k i j h1 h2 => (g.1 k i j h1 h2).trans (h.1 k i j h1 h2), fun k j h1 h2 => (g.2 k j h1 h2).trans (h.2 k j h1 h2)⟩
theorem FT_FS {c2 : Nat → Nat → Nat → Int32} {l2 : Nat → Nat → Int64} (h : FS c l c2 l2) : FT c l c2 l2 := ⟨fun k i j h1 _ => h.1 k i j h1, h.2⟩
theorem FT_37 (v : Int32) : FT c l (am_ui c 48 0 37 v) l := ⟨fun k i j _ h => ui_ne _ _ _ _ (by omega), fun _ _ _ _ => rfl⟩
theorem FS_37 {c2 : Nat → Nat → Nat → Int32} {l2 : Nat → Nat → Int64} (h : FS c l c2 l2) : c2 48 0 37 = c 48 0 37 := h.1 48 0 37 (by unfold nDr; omega)
theorem FR_37 {c2 : Nat → Nat → Nat → Int32} (h : FR c c2) : c2 48 0 37 = c 48 0 37 := h.2 0 37 (by omega) (by omega) (by omega) (by omega) (by omega)
theorem RD_37 (h : RD c l K) (v : Int32) : RD (am_ui c 48 0 37 v) l K := by
  unfold RD at h ⊢
  rw [ui_nk _ _ _ _ (by omega), ui_nk _ _ _ _ (by omega), ui_nk _ _ _ _ (by omega), ui_nk _ _ _ _ (by omega), ui_nk _ _ _ _ (by omega), ui_nk _ _ _ _ (by omega), ui_nk _ _ _ _ (by omega)]
  exact h
theorem RZ_37 (h : RZ c tp n z) (v : Int32) : RZ (am_ui c 48 0 37 v) tp n z := by
  obtain ⟨h1, h2, h3, h4⟩ := h
  refine ⟨⟨by rw [ui_ne _ _ _ _ (by omega)]; exact h1.1, by rw [ui_nk _ _ _ _ (by omega)]; exact h1.2⟩, h2, CH_fr h3 (fun k hk => ui_nk _ _ _ _ (by omega)), ?_⟩
  unfold RP at h4 ⊢
  rw [ui_ne _ _ _ _ (by omega), ui_ne _ _ _ _ (by omega), ui_ne _ _ _ _ (by omega), ui_ne _ _ _ _ (by omega)]
  exact h4
theorem tk_153 (h : RL c tp n s) {o kd : Nat} {W : List Nat} (hw : (kd, W) ∈ chs) (hW : (WL 0)[o]? = some W) (d : Nat) : ∃ c2 : Nat → Nat → Nat → Int32, E (d + 3) 153 [vr 48 0, vr kd 0] (c, l, x, y) = some (some (vi (iv (if lixT tp n 0 s = some o then 1 else 0))), c2, l, x, y) ∧ FR c c2 ∧ (lixT tp n 0 s = some o → RZ c2 tp n (avZ tp n (s, none))) ∧ (¬ lixT tp n 0 s = some o → RL c2 tp n s) := by
  obtain ⟨c2, g1, g2, g3⟩ := e153 (l := l) (x := x) (y := y) (RL_RZ h) hw d
  have hl := her_lix (tp := tp) (n := n) (s := s) (t := 0) (o := o) (W := W) (by decide) hW
  refine ⟨c2, ?_, g3, fun q => ?_, fun q => ?_⟩
  · rw [g1]
    by_cases e : lixT tp n 0 s = some o
    · rw [if_pos e, if_pos (hl.mpr e)]
    · rw [if_neg e, if_neg (fun q => e (hl.mp q))]
  · rw [if_pos (hl.mpr q)] at g2
    exact g2
  · rw [if_neg (fun q2 => q (hl.mp q2))] at g2
    exact g2
theorem st_end {c2 : Nat → Nat → Nat → Int32} {l2 : Nat → Nat → Int64} {cnt : Nat} (hc : cnt < 1000) {r : Ct × Tz} (h : BD c2 l2 tp n r) (h37 : c2 48 0 37 = iv (cnt : Nat)) (d : Nat) : ∃ c3, X (d + 4) 151 117 [some (vr 48 0), none] [] (c2, l2, x, y) = some (none, c3, l2, x, y) ∧ RZ c3 tp n (tkZ tp n 59 r.2) ∧ ((tkZ tp n 59 r.2).2 = none → RD c3 l2 r.1) ∧ c3 48 0 37 = iv ((cnt + 1 : Nat) : Int) ∧ FT c2 l2 c3 l2 := by
  rw [q_151_117]
  rcases h with ⟨h1, h2⟩ | ⟨h1, h2, h3⟩
  · obtain ⟨c3, g1, g2, g3⟩ := e174 (l := l2) (x := x) (y := y) h1 (sg := 59) (by omega) d
    have g1 : E (d + 3) 174 [vr 48 0, vi 59] (c2, l2, x, y) = _ := g1
    rw [g1]
    simp (disch := omega) only [iv_add, iv_sub, iv_mul, iv_neg, iv_lt, iv_le, iv_eq, iv_nat, iv_L, iv_L2, am_bi_v, am_bv_v, am_bl_v, if_pos, if_neg, Int.toNat_natCast, Int.toNat_add, Int.toNat_mul, Int.reduceToNat, FR_37 g3, h37]
    refine ⟨_, rfl, RZ_37 g2 _, fun q => RD_37 (RD_FR g3 (h2 ?_)) _, ?_, (FT_FS (FS_FR g3 l2)).tr (FT_37 _)⟩
    · cases q2 : r.2.2 with
      | none => rfl
      | some f =>
        rw [tkZ_f (by rw [q2]; rfl), q2] at q
        cases q
    · rw [ui_self]; rfl
  · obtain ⟨c3, g1, g2, g3⟩ := e174 (l := l2) (x := x) (y := y) h3 (sg := 59) (by omega) d
    have g1 : E (d + 3) 174 [vr 48 0, vi 59] (c2, l2, x, y) = _ := g1
    have hf : (flZ 1 r.2.1.1 r.2).2.isSome = true := rfl
    have ht : tkZ tp n 59 r.2 = flZ 1 r.2.1.1 r.2 := by
      unfold tkZ
      rw [if_neg (fun q => h2 q.2)]
    rw [tkZ_f hf] at g2
    rw [g1, ht]
    simp (disch := omega) only [iv_add, iv_sub, iv_mul, iv_neg, iv_lt, iv_le, iv_eq, iv_nat, iv_L, iv_L2, am_bi_v, am_bv_v, am_bl_v, if_pos, if_neg, Int.toNat_natCast, Int.toNat_add, Int.toNat_mul, Int.reduceToNat, FR_37 g3, h37]
    refine ⟨_, rfl, RZ_37 g2 _, fun q => absurd q (flZ_ns _ _ _), ?_, (FT_FS (FS_FR g3 l2)).tr (FT_37 _)⟩
    rw [ui_self]; rfl
theorem st_fin {c1 : Nat → Nat → Nat → Int32} {cnt : Nat} (hc : cnt < 1000) (hF : FR c c1) (h37 : c 48 0 37 = iv (cnt : Nat)) {m : Nat} {A : List (Sum Int32 (Sum Int64 (Nat × Nat)))} {r : Ct × Tz} (d : Nat) (h : ∃ (c2 : Nat → Nat → Nat → Int32) (l2 : Nat → Nat → Int64), E (d + 6) m A (c1, l, x, y) = some (none, c2, l2, x, y) ∧ BD c2 l2 tp n r ∧ FS c1 l c2 l2) : ∃ (c3 : Nat → Nat → Nat → Int32) (l3 : Nat → Nat → Int64), am_bv (E (d + 6) m A (c1, l, x, y)) (fun g => X (d + 7) 151 117 [some (vr 48 0), none] [] g) = some (none, c3, l3, x, y) ∧ RZ c3 tp n (tkZ tp n 59 r.2) ∧ ((tkZ tp n 59 r.2).2 = none → RD c3 l3 r.1) ∧ c3 48 0 37 = iv ((cnt + 1 : Nat) : Int) ∧ FT c l c3 l3 := by
  obtain ⟨c2, l2, h1, h2, h3⟩ := h
  obtain ⟨c3, g1, g2, g3, g4, g5⟩ := st_end (x := x) (y := y) hc h2 (by rw [FS_37 h3, FR_37 hF]; exact h37) (d + 3)
  refine ⟨c3, l2, ?_, g2, g3, g4, (FT_FS ((FS_FR hF l).tr h3)).tr g5⟩
  rw [h1]
  exact g1
theorem m151 (h : RL c tp n s) (hd : RD c l K) (hK : VK K) {cnt : Nat} (hc : cnt ≤ 70) (h37 : c 48 0 37 = iv (cnt : Nat)) (d : Nat) : ∃ (c2 : Nat → Nat → Nat → Int32) (l2 : Nat → Nat → Int64), E (d + 7) 151 [vr 48 0] (c, l, x, y) = some (none, c2, l2, x, y) ∧ FT c l c2 l2 ∧ if cnt = 70 then RZ c2 tp n (flZ 5 s.1 (s, none)) else RZ c2 tp n (stZ tp n K (s, none)).2 ∧ ((stZ tp n K (s, none)).2.2 = none → RD c2 l2 (stZ tp n K (s, none)).1) ∧ c2 48 0 37 = iv ((cnt + 1 : Nat) : Int) := by
  have hp := RL_le h
  have h2 : c 48 0 2 = iv (s.1 : Nat) := h.2.2.2.2.1
  rw [q_151, h37, h2]
  by_cases e : cnt = 70
  · obtain ⟨c2, k1, k2, k3⟩ := e152 (l := l) (x := x) (y := y) (RL_RZ h) (k := 5) (p := s.1) (by omega) hp (d + 5)
    have k1 : E (d + 6) 152 [vr 48 0, vi 5, vi (iv (s.1 : Nat))] (c, l, x, y) = _ := k1
    rw [if_pos (by rw [e]; rfl), k1]
    simp only [am_bv_v]
    refine ⟨c2, l, rfl, FT_FS (FS_FR k3 l), ?_⟩
    rw [if_pos e]
    exact k2
  · rw [if_neg (by show ¬ iv (cnt : Nat) = iv 70; rw [iv_eq (by omega) (by omega)]; omega)]
    suffices hG : ∃ (c2 : Nat → Nat → Nat → Int32) (l2 : Nat → Nat → Int64), _ = some (none, c2, l2, x, y) ∧ RZ c2 tp n (tkZ tp n 59 (rsZ tp n K (s, none)).2) ∧ ((tkZ tp n 59 (rsZ tp n K (s, none)).2).2 = none → RD c2 l2 (rsZ tp n K (s, none)).1) ∧ c2 48 0 37 = iv ((cnt + 1 : Nat) : Int) ∧ FT c l c2 l2 by
      obtain ⟨c2, l2, q1, q2, q3, q4, q5⟩ := hG
      refine ⟨c2, l2, q1, q5, ?_⟩
      rw [if_neg e]
      exact ⟨q2, q3, q4⟩
    have hrs : ∀ o, lixT tp n 0 s = some o → rsZ tp n K (s, none) = if o ≤ 5 then rwZ tp n o K (s, none) else if o = 6 then rlZ tp n K (s, none) else if o = 10 then rfZ tp n K (s, none) else if o = 11 then rtZ tp n K (s, none) else if o = 15 then raZ tp n K (s, none) else if o = 16 then rcZ tp n K (s, none) else (K, flZ 1 s.1 (s, none)) := by
      intro o ho
      unfold rsZ
      dsimp only
      rw [ho]
    have hpz : ((s, none) : Tz).1.1 ≤ 1600 := hp
    obtain ⟨c1, a1, b1, f1, r1⟩ := tk_153 (l := l) (x := x) (y := y) h (o := 0) (kd := 51) (W := [110, 97, 109, 101]) (by decide) rfl (d + 3)
    rw [a1]
    simp only [am_bi_v]
    by_cases e1 : lixT tp n 0 s = some 0
    · rw [if_pos e1, if_neg (show ¬ iv 1 = 0 by decide), hrs 0 e1, if_pos (by omega)]
      exact st_fin (by omega) b1 h37 d (m156 (f1 e1) rfl hpz (RD_FR b1 hd) hK (o := 0) d)
    rw [if_neg e1, if_pos (show iv 0 = 0 from rfl)]
    obtain ⟨c2, a2, b2, f2, r2⟩ := tk_153 (l := l) (x := x) (y := y) (r1 e1) (o := 1) (kd := 52) (W := [100, 101, 101, 100]) (by decide) rfl (d + 3)
    have b2 := b1.tr b2
    rw [a2]
    simp only [am_bi_v]
    by_cases e2 : lixT tp n 0 s = some 1
    · rw [if_pos e2, if_neg (show ¬ iv 1 = 0 by decide), hrs 1 e2, if_pos (by omega)]
      exact st_fin (by omega) b2 h37 d (m156 (f2 e2) rfl hpz (RD_FR b2 hd) hK (o := 1) d)
    rw [if_neg e2, if_pos (show iv 0 = 0 from rfl)]
    obtain ⟨c3, a3, b3, f3, r3⟩ := tk_153 (l := l) (x := x) (y := y) (r2 e2) (o := 2) (kd := 53) (W := [116, 117, 114, 110]) (by decide) rfl (d + 3)
    have b3 := b2.tr b3
    rw [a3]
    simp only [am_bi_v]
    by_cases e3 : lixT tp n 0 s = some 2
    · rw [if_pos e3, if_neg (show ¬ iv 1 = 0 by decide), hrs 2 e3, if_pos (by omega)]
      exact st_fin (by omega) b3 h37 d (m156 (f3 e3) rfl hpz (RD_FR b3 hd) hK (o := 2) d)
    rw [if_neg e3, if_pos (show iv 0 = 0 from rfl)]
    obtain ⟨c4, a4, b4, f4, r4⟩ := tk_153 (l := l) (x := x) (y := y) (r3 e3) (o := 3) (kd := 54) (W := [98, 111, 116, 104]) (by decide) rfl (d + 3)
    have b4 := b3.tr b4
    rw [a4]
    simp only [am_bi_v]
    by_cases e4 : lixT tp n 0 s = some 3
    · rw [if_pos e4, if_neg (show ¬ iv 1 = 0 by decide), hrs 3 e4, if_pos (by omega)]
      exact st_fin (by omega) b4 h37 d (m156 (f4 e4) rfl hpz (RD_FR b4 hd) hK (o := 3) d)
    rw [if_neg e4, if_pos (show iv 0 = 0 from rfl)]
    obtain ⟨c5, a5, b5, f5, r5⟩ := tk_153 (l := l) (x := x) (y := y) (r4 e4) (o := 4) (kd := 55) (W := [101, 105, 116, 104, 101, 114]) (by decide) rfl (d + 3)
    have b5 := b4.tr b5
    rw [a5]
    simp only [am_bi_v]
    by_cases e5 : lixT tp n 0 s = some 4
    · rw [if_pos e5, if_neg (show ¬ iv 1 = 0 by decide), hrs 4 e5, if_pos (by omega)]
      exact st_fin (by omega) b5 h37 d (m156 (f5 e5) rfl hpz (RD_FR b5 hd) hK (o := 4) d)
    rw [if_neg e5, if_pos (show iv 0 = 0 from rfl)]
    obtain ⟨c6, a6, b6, f6, r6⟩ := tk_153 (l := l) (x := x) (y := y) (r5 e5) (o := 5) (kd := 56) (W := [101, 109, 112, 116, 121]) (by decide) rfl (d + 3)
    have b6 := b5.tr b6
    rw [a6]
    simp only [am_bi_v]
    by_cases e6 : lixT tp n 0 s = some 5
    · rw [if_pos e6, if_neg (show ¬ iv 1 = 0 by decide), hrs 5 e6, if_pos (by omega)]
      exact st_fin (by omega) b6 h37 d (m156 (f6 e6) rfl hpz (RD_FR b6 hd) hK (o := 5) d)
    rw [if_neg e6, if_pos (show iv 0 = 0 from rfl)]
    obtain ⟨c7, a7, b7, f7, r7⟩ := tk_153 (l := l) (x := x) (y := y) (r6 e6) (o := 6) (kd := 57) (W := [108, 105, 110, 101]) (by decide) rfl (d + 3)
    have b7 := b6.tr b7
    rw [a7]
    simp only [am_bi_v]
    by_cases e7 : lixT tp n 0 s = some 6
    · rw [if_pos e7, if_neg (show ¬ iv 1 = 0 by decide), hrs 6 e7, if_neg (by omega), if_pos rfl]
      exact st_fin (by omega) b7 h37 d (m163 (f7 e7) rfl hpz (RD_FR b7 hd) hK d)
    rw [if_neg e7, if_pos (show iv 0 = 0 from rfl)]
    obtain ⟨c8, a8, b8, f8, r8⟩ := tk_153 (l := l) (x := x) (y := y) (r7 e7) (o := 10) (kd := 61) (W := [102, 97, 99, 116]) (by decide) rfl (d + 3)
    have b8 := b7.tr b8
    rw [a8]
    simp only [am_bi_v]
    by_cases e8 : lixT tp n 0 s = some 10
    · rw [if_pos e8, if_neg (show ¬ iv 1 = 0 by decide), hrs 10 e8, if_neg (by omega), if_neg (by omega), if_pos rfl]
      exact st_fin (by omega) b8 h37 d (m166 (f8 e8) rfl hpz (RD_FR b8 hd) hK d)
    rw [if_neg e8, if_pos (show iv 0 = 0 from rfl)]
    obtain ⟨c9, a9, b9, f9, r9⟩ := tk_153 (l := l) (x := x) (y := y) (r8 e8) (o := 11) (kd := 62) (W := [119, 105, 116, 110, 101, 115, 115]) (by decide) rfl (d + 3)
    have b9 := b8.tr b9
    rw [a9]
    simp only [am_bi_v]
    by_cases e9 : lixT tp n 0 s = some 11
    · rw [if_pos e9, if_neg (show ¬ iv 1 = 0 by decide), hrs 11 e9, if_neg (by omega), if_neg (by omega), if_neg (by omega), if_pos rfl]
      exact st_fin (by omega) b9 h37 d (m168 (f9 e9) rfl hpz (RD_FR b9 hd) hK d)
    rw [if_neg e9, if_pos (show iv 0 = 0 from rfl)]
    obtain ⟨c10, a10, b10, f10, r10⟩ := tk_153 (l := l) (x := x) (y := y) (r9 e9) (o := 15) (kd := 66) (W := [97, 99, 99, 117, 115, 101, 100]) (by decide) rfl (d + 3)
    have b10 := b9.tr b10
    rw [a10]
    simp only [am_bi_v]
    by_cases e10 : lixT tp n 0 s = some 15
    · rw [if_pos e10, if_neg (show ¬ iv 1 = 0 by decide), hrs 15 e10, if_neg (by omega), if_neg (by omega), if_neg (by omega), if_neg (by omega), if_pos rfl]
      exact st_fin (by omega) b10 h37 d (m172 (f10 e10) (RD_FR b10 hd) hK d)
    rw [if_neg e10, if_pos (show iv 0 = 0 from rfl)]
    obtain ⟨c11, a11, f11, b11⟩ := e165 (l := l) (x := x) (y := y) (RL_RZ (r10 e10)) (t := 0) (own := 16) (kd := 67) (W := [99, 97, 115, 101]) (by decide) (by decide) rfl (d + 2)
    have b11 := b10.tr b11
    rw [tqZ_0] at f11
    rw [a11]
    simp only [am_bv_v]
    by_cases e11 : lixT tp n 0 s = some 16
    · have ht : toZ tp n 16 (s, none) = avZ tp n (s, none) := by
        unfold toZ
        rw [if_neg (show ¬ ((s, none) : Tz).2.isSome = true from Bool.false_ne_true), if_pos e11]
      rw [ht] at f11
      have h0 : c11 48 0 5 = iv 0 := by rw [RZ_flt f11]; rfl
      rw [if_pos (show c11 48 0 5 = 0 from h0), hrs 16 e11, if_neg (by omega), if_neg (by omega), if_neg (by omega), if_neg (by omega), if_neg (by omega), if_pos rfl]
      exact st_fin (by omega) b11 h37 d (m173 f11 rfl hpz (RD_FR b11 hd) hK d)
    · have ht : toZ tp n 16 (s, none) = flZ 1 s.1 (s, none) := by
        unfold toZ
        rw [if_neg (show ¬ ((s, none) : Tz).2.isSome = true from Bool.false_ne_true), if_neg e11]
      rw [ht] at f11
      have hne : ¬ c11 48 0 5 = iv 0 := by rw [RZ_flt f11]; exact flZ_ns _ _ _
      have hr : rsZ tp n K (s, none) = (K, flZ 1 s.1 (s, none)) := by
        cases ho : lixT tp n 0 s with
        | none =>
          unfold rsZ
          dsimp only
          rw [ho]
        | some o =>
          rw [hrs o ho]
          rw [ho] at e1 e2 e3 e4 e5 e6 e7 e8 e9 e10 e11
          simp only [Option.some_inj] at e1 e2 e3 e4 e5 e6 e7 e8 e9 e10 e11
          rw [if_neg (by omega), if_neg e7, if_neg e8, if_neg e9, if_neg e10, if_neg e11]
      rw [if_neg (show ¬ c11 48 0 5 = 0 from hne), hr]
      obtain ⟨c12, g1, g2, g3, g4, g5⟩ := st_end (l2 := l) (x := x) (y := y) (cnt := cnt) (by omega) (r := (K, flZ 1 s.1 (s, none))) (Or.inl ⟨f11, fun q => absurd q (flZ_ns _ _ _)⟩) (by rw [FR_37 b11]; exact h37) (d + 3)
      exact ⟨c12, l, g1, g2, g3, g4, (FT_FS (FS_FR b11 l)).tr g5⟩
end
