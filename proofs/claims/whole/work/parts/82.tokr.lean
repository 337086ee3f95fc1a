/-! the reference's tape: tokens -/
/-- the byte here -/
def btT (tp : Nat → Nat) (n p : Nat) : Int := if p < n then (tp p : Int) else -1
/-- the tape that is read -/
def RT (c : Nat → Nat → Nat → Int32) (tp : Nat → Nat) (n : Nat) : Prop := c 48 0 3 = iv n ∧ ∀ i, i < 1600 → c 49 0 i = iv (tp i)
/-- where the reference stands: ahead of blanks, perhaps -/
def RP (c : Nat → Nat → Nat → Int32) (tp : Nat → Nat) (n : Nat) (s : Ts) : Prop := ∃ (q : Nat) (e : Int), c 48 0 2 = iv (q : Nat) ∧ c 48 0 4 = iv e ∧ q ≤ n ∧ (-1 ≤ e ∧ e ≤ q) ∧ skp tp (n - q) q = s.1 ∧ (s.2 = true ↔ e = s.1)
def RZ (c : Nat → Nat → Nat → Int32) (tp : Nat → Nat) (n : Nat) (z : Tz) : Prop := RT c tp n ∧ (n ≤ 1600 ∧ ∀ i, tp i < 256) ∧ CH c ∧ match z.2 with
  | none => (c 48 0 5 = iv 0 ∧ c 48 0 6 = iv (-1)) ∧ RP c tp n z.1
  | some f => (c 48 0 5 = iv (f.1 : Nat) ∧ c 48 0 6 = iv (f.2 : Nat)) ∧ (1 ≤ f.1 ∧ f.1 ≤ 5) ∧ f.2 ≤ 1600
/-- it stands at the token itself -/
def RL (c : Nat → Nat → Nat → Int32) (tp : Nat → Nat) (n : Nat) (s : Ts) : Prop := RT c tp n ∧ (n ≤ 1600 ∧ ∀ i, tp i < 256) ∧ CH c ∧ (c 48 0 5 = iv 0 ∧ c 48 0 6 = iv (-1)) ∧ c 48 0 2 = iv (s.1 : Nat) ∧ ∃ e : Int, c 48 0 4 = iv e ∧ s.1 ≤ n ∧ (-1 ≤ e ∧ e ≤ s.1) ∧ skp tp (n - s.1) s.1 = s.1 ∧ (s.2 = true ↔ e = s.1)
/-- only the reading's own numbers change -/
def FR (c c2 : Nat → Nat → Nat → Int32) : Prop := (∀ k, k ≠ 48 → c2 k = c k) ∧ ∀ i j, j ≠ 2 → j ≠ 4 → j ≠ 5 → j ≠ 6 → j ≠ 27 → c2 48 i j = c 48 i j
section
variable {c : Nat → Nat → Nat → Int32} {l : Nat → Nat → Int64} {x y : Nat} {tp : Nat → Nat} {n : Nat} {z : Tz} {s : Ts}
theorem FR.refl (c : Nat → Nat → Nat → Int32) : FR c c := ⟨fun _ _ => rfl, fun _ _ _ _ _ _ _ => rfl⟩
theorem FR.tr {c1 c2 c3 : Nat → Nat → Nat → Int32} (h : FR c1 c2) (g : FR c2 c3) : FR c1 c3 := ⟨fun k hk => (g.1 k hk).trans (h.1 k hk), fun i j h1 h2 h3 h4 h5 => (g.2 i j h1 h2 h3 h4 h5).trans (h.2 i j h1 h2 h3 h4 h5)⟩
theorem FR.ui (j : Nat) (v : Int32) (h : j = 2 ∨ j = 4 ∨ j = 5 ∨ j = 6 ∨ j = 27) : FR c (am_ui c 48 0 j v) := ⟨fun k hk => ui_nk _ _ _ _ hk, fun i k h1 h2 h3 h4 h5 => ui_ne _ _ _ _ (by omega)⟩
theorem FR_RT {c2 : Nat → Nat → Nat → Int32} (h : FR c c2) (g : RT c tp n) : RT c2 tp n := ⟨by rw [h.2 0 3 (by omega) (by omega) (by omega) (by omega) (by omega)]; exact g.1, fun i hi => by rw [h.1 49 (by omega)]; exact g.2 i hi⟩
theorem FR_CH {c2 : Nat → Nat → Nat → Int32} (h : FR c c2) (g : CH c) : CH c2 := CH_fr g (fun k hk => h.1 k (by omega))
theorem skp_fix : ∀ (m q : Nat), q + m = n → skp tp (n - skp tp m q) (skp tp m q) = skp tp m q
  | 0, q, h => by
    show skp tp (n - q) q = q
    rw [show n - q = 0 by omega]
    rfl
  | m + 1, q, h => by
    by_cases e : tp q = 32 ∨ tp q = 10
    · have hs : skp tp (m + 1) q = skp tp m (q + 1) := by show (if tp q = 32 ∨ tp q = 10 then skp tp m (q + 1) else q) = _; rw [if_pos e]
      rw [hs]
      exact skp_fix m (q + 1) (by omega)
    · have hs : skp tp (m + 1) q = q := by show (if tp q = 32 ∨ tp q = 10 then skp tp m (q + 1) else q) = _; rw [if_neg e]
      rw [hs, show n - q = m + 1 by omega, hs]
theorem RL_RZ (h : RL c tp n s) : RZ c tp n (s, none) := by
  obtain ⟨h1, h2, h3, h4, h5, e, h6, h7, h8, h9, h10⟩ := h
  exact ⟨h1, h2, h3, h4, s.1, e, h5, h6, h7, h8, h9, h10⟩
theorem skp_byte {p : Nat} (hp : p < n) (h : skp tp (n - p) p = p) : tp p ≠ 32 ∧ tp p ≠ 10 := by
  obtain ⟨m, hm⟩ : ∃ m, n - p = m + 1 := ⟨n - p - 1, by omega⟩
  rw [hm] at h
  unfold skp at h
  split at h
  · have := skp_le (tp := tp) m (p + 1)
    omega
  · rename_i e; omega
/-- it looks -/
theorem e150 (h : RZ c tp n (s, none)) (d : Nat) : ∃ c2 : Nat → Nat → Nat → Int32, E (d + 1) 150 [vr 48 0] (c, l, x, y) = some (some (vi (iv (btT tp n s.1))), c2, l, x, y) ∧ RL c2 tp n s ∧ FR c c2 := by
  obtain ⟨h1, h2, h3, h4, q, e, h5, h6, h7, h8, h9, h10⟩ := h
  have h9 : skp tp (n - q) q = s.1 := h9
  have h10 : (s.2 = true ↔ e = s.1) := h10
  have key : ∀ (m q : Nat) (c : Nat → Nat → Nat → Int32), q + m = n → RT c tp n → c 48 0 2 = iv (q : Nat) → ∃ c2 : Nat → Nat → Nat → Int32, X (d + 1) 150 0 [some (vr 48 0)] [] (c, l, x, y) = some (some (vi (iv (btT tp n (skp tp m q)))), c2, l, x, y) ∧ c2 48 0 2 = iv (skp tp m q : Nat) ∧ (∀ k, k ≠ 48 → c2 k = c k) ∧ ∀ i j, j ≠ 2 → c2 48 i j = c 48 i j := by
    intro m
    induction m with
    | zero =>
      intro q c hq hT hc
      refine ⟨c, ?_, hc, fun _ _ => rfl, fun _ _ _ => rfl⟩
      unfold skp btT
      rw [q_150_0, hc, hT.1, if_neg (show ¬ q < n by omega)]
      simp (disch := omega) only [iv_add, iv_sub, iv_mul, iv_neg, iv_lt, iv_le, iv_eq, iv_nat, iv_L, iv_L2, am_bi_v, am_bv_v, am_bl_v, if_pos, if_neg, Int.toNat_natCast, Int.toNat_add, Int.toNat_mul, Int.reduceToNat]
      all_goals rfl
    | succ m ih =>
      intro q c hq hT hc
      have hb := h2.2 q
      have hcell := hT.2 q (by omega)
      obtain ⟨c2, g1, g2, g3, g4⟩ := ih (q + 1) (am_ui c 48 0 2 (iv ((q : Int) + 1))) (by omega) ⟨by rw [ui_ne _ _ _ _ (by omega)]; exact hT.1, fun i hi => by rw [ui_nk _ _ _ _ (by omega)]; exact hT.2 i hi⟩ (ui_self _ _ _ _)
      have hgo : c2 48 0 2 = iv (skp tp m (q + 1) : Nat) ∧ (∀ k, k ≠ 48 → c2 k = c k) ∧ ∀ i j, j ≠ 2 → c2 48 i j = c 48 i j := ⟨g2, fun k hk => by rw [g3 k hk, ui_nk _ _ _ _ hk], fun i j hj => by rw [g4 i j hj, ui_ne _ _ _ _ (by omega)]⟩
      have e10 : (iv (tp q : Int) = iv 10) = (tp q = 10) := by
        rw [iv_eq (by omega) (by omega)]
        apply propext
        omega
      have e32 : (iv (tp q : Int) = iv 32) = (tp q = 32) := by
        rw [iv_eq (by omega) (by omega)]
        apply propext
        omega
      unfold skp
      rw [q_150_0, hc, hT.1]
      simp (disch := omega) only [iv_L, iv_L2, iv_add, iv_lt, iv_nat, if_pos, if_neg, Int.toNat_natCast, hcell, e10, e32]
      by_cases b10 : tp q = 10
      · rw [if_pos b10]
        simp only [if_pos (show tp q = 32 ∨ tp q = 10 from Or.inr b10)]
        exact ⟨c2, g1, hgo⟩
      · rw [if_neg b10]
        by_cases b32 : tp q = 32
        · rw [if_pos b32]
          simp only [if_pos (show tp q = 32 ∨ tp q = 10 from Or.inl b32)]
          exact ⟨c2, g1, hgo⟩
        · rw [if_neg b32]
          simp only [if_neg (show ¬ (tp q = 32 ∨ tp q = 10) by omega)]
          refine ⟨c, ?_, hc, fun _ _ => rfl, fun _ _ _ => rfl⟩
          unfold btT
          rw [if_pos (show q < n by omega)]
  obtain ⟨c2, g1, g2, g3, g4⟩ := key (n - q) q c (by omega) h1 h5
  rw [h9] at g1 g2
  have hs := skp_le (tp := tp) (n - q) q
  rw [h9] at hs
  have hfix := skp_fix (tp := tp) (n := n) (n - q) q (by omega)
  rw [h9] at hfix
  have hF : FR c c2 := ⟨g3, fun i j j1 _ _ _ _ => g4 i j j1⟩
  exact ⟨c2, by rw [q_150]; exact g1, ⟨FR_RT hF h1, h2, FR_CH hF h3, ⟨by rw [g4 0 5 (by omega)]; exact h4.1, by rw [g4 0 6 (by omega)]; exact h4.2⟩, g2, e, by rw [g4 0 4 (by omega)]; exact h6, by omega, by omega, hfix, h10⟩, hF⟩
/-- it looks, and stands there already -/
theorem e150s (h : RL c tp n s) (d : Nat) : E (d + 1) 150 [vr 48 0] (c, l, x, y) = some (some (vi (iv (btT tp n s.1))), c, l, x, y) := by
  obtain ⟨h1, h2, h3, h4, h5, e, h6, h7, h8, h9, h10⟩ := h
  unfold btT
  rw [q_150, q_150_0, h5, h1.1]
  by_cases hp : s.1 < n
  · have hb := h2.2 s.1
    have hcell := h1.2 s.1 (by omega)
    have hbl := skp_byte hp h9
    rw [if_pos hp]
    simp (disch := omega) only [iv_add, iv_sub, iv_mul, iv_neg, iv_lt, iv_le, iv_eq, iv_nat, iv_L, iv_L2, am_bi_v, am_bv_v, am_bl_v, if_pos, if_neg, Int.toNat_natCast, Int.toNat_add, Int.toNat_mul, Int.reduceToNat, hcell]
  · rw [if_neg hp]
    simp (disch := omega) only [iv_add, iv_sub, iv_mul, iv_neg, iv_lt, iv_le, iv_eq, iv_nat, iv_L, iv_L2, am_bi_v, am_bv_v, am_bl_v, if_pos, if_neg, Int.toNat_natCast, Int.toNat_add, Int.toNat_mul, Int.reduceToNat]
    all_goals rfl
theorem e155 {b : Int} (hb : -1 ≤ b ∧ b < 256) (d : Nat) : E (d + 1) 155 [vi (iv b)] (c, l, x, y) = some (some (vi (iv (if 97 ≤ b ∧ b ≤ 122 then 1 else 0))), c, l, x, y) := by
  rw [q_155]
  simp (disch := omega) only [iv_L, iv_L2, iv_lt]
  by_cases h1 : b < 97
  · rw [if_pos h1, if_neg (by omega)]
  · rw [if_neg h1]
    by_cases h2 : 122 < b
    · rw [if_pos h2, if_neg (by omega)]
    · rw [if_neg h2, if_pos (by omega)]
theorem e170 {b : Int} (hb : -1 ≤ b ∧ b < 256) (d : Nat) : E (d + 1) 170 [vi (iv b)] (c, l, x, y) = some (some (vi (iv (if 48 ≤ b ∧ b ≤ 57 then 1 else 0))), c, l, x, y) := by
  rw [q_170]
  simp (disch := omega) only [iv_L, iv_L2, iv_lt]
  by_cases h1 : b < 48
  · rw [if_pos h1, if_neg (by omega)]
  · rw [if_neg h1]
    by_cases h2 : 57 < b
    · rw [if_pos h2, if_neg (by omega)]
    · rw [if_neg h2, if_pos (by omega)]
theorem bt_bd (ht : ∀ i, tp i < 256) (p : Nat) : -1 ≤ btT tp n p ∧ btT tp n p < 256 := by
  have := ht p
  unfold btT
  split <;> omega
/-- a letter here that doesn't stand behind a word -/
theorem sgn97_iff : sgnT tp n s = 97 ↔ (97 ≤ btT tp n s.1 ∧ btT tp n s.1 ≤ 122) ∧ s.2 = false := by
  unfold sgnT btT
  by_cases hp : s.1 < n
  · rw [if_pos hp, if_pos hp]
    have := clB_97 (tp s.1)
    cases hg : s.2 with
    | false =>
      rw [if_neg (fun q => by cases q.2)]
      constructor
      · intro q; exact ⟨by omega, rfl⟩
      · intro q; omega
    | true =>
      constructor
      · intro q
        split at q
        · omega
        · rename_i h; exact absurd ⟨Or.inl (by omega), rfl⟩ h
      · intro q; cases q.2
  · rw [if_neg hp, if_neg hp]
    omega
theorem sgn48_iff : sgnT tp n s = 48 ↔ (48 ≤ btT tp n s.1 ∧ btT tp n s.1 ≤ 57) ∧ s.2 = false := by
  unfold sgnT btT
  by_cases hp : s.1 < n
  · rw [if_pos hp, if_pos hp]
    have := clB_48 (tp s.1)
    cases hg : s.2 with
    | false =>
      rw [if_neg (fun q => by cases q.2)]
      constructor
      · intro q; exact ⟨by omega, rfl⟩
      · intro q; omega
    | true =>
      constructor
      · intro q
        split at q
        · omega
        · rename_i h; exact absurd ⟨Or.inr (by omega), rfl⟩ h
      · intro q; cases q.2
  · rw [if_neg hp, if_neg hp]
    omega
/-- a sign that is neither letter nor digit -/
theorem sgnS_iff {sg : Int} (hsg : 1 ≤ sg ∧ sg < 256 ∧ ¬ (97 ≤ sg ∧ sg ≤ 122) ∧ ¬ (48 ≤ sg ∧ sg ≤ 57)) : sgnT tp n s = sg ↔ btT tp n s.1 = sg := by
  unfold sgnT btT
  by_cases hp : s.1 < n
  · rw [if_pos hp, if_pos hp]
    have h1 := clB_97 (tp s.1)
    have h2 := clB_48 (tp s.1)
    have h3 : clB (tp s.1) = 97 ∨ clB (tp s.1) = 48 ∨ clB (tp s.1) = tp s.1 := by
      unfold clB
      split
      · exact Or.inl rfl
      split
      · exact Or.inr (Or.inl rfl)
      · exact Or.inr (Or.inr rfl)
    split <;> omega
  · rw [if_neg hp, if_neg hp]
theorem ended_iff (h : RL c tp n s) : (c 48 0 2 = c 48 0 4) = (s.2 = true) := by
  obtain ⟨h1, h2, h3, h4, h5, e, h6, h7, h8, h9, h10⟩ := h
  rw [h5, h6, iv_eq (by omega) (by omega)]
  apply propext
  constructor
  · intro q; exact h10.mpr q.symm
  · intro q; exact (h10.mp q).symm
theorem chs_ok : ∀ p ∈ chs, (af p.1).2 = p.2.length ∧ p.2.length ≤ 7 ∧ ∀ a ∈ p.2, a < 128 := by decide +kernel
theorem chs_or {kd : Nat} {W : List Nat} (hw : (kd, W) ∈ chs) : kd = 51 ∨ kd = 52 ∨ kd = 53 ∨ kd = 54 ∨ kd = 55 ∨ kd = 56 ∨ kd = 57 ∨ kd = 58 ∨ kd = 59 ∨ kd = 60 ∨ kd = 61 ∨ kd = 62 ∨ kd = 63 ∨ kd = 64 ∨ kd = 65 ∨ kd = 66 ∨ kd = 67 ∨ kd = 90 ∨ kd = 91 ∨ kd = 92 ∨ kd = 93 ∨ kd = 94 ∨ kd = 95 ∨ kd = 96 ∨ kd = 97 ∨ kd = 98 ∨ kd = 99 ∨ kd = 100 ∨ kd = 101 ∨ kd = 102 ∨ kd = 103 ∨ kd = 104 ∨ kd = 105 ∨ kd = 106 ∨ kd = 107 := by
  have := chs_fam _ hw
  dsimp only at this
  omega
/-- whether a word is here -/
def herB (tp : Nat → Nat) (n : Nat) (s : Ts) (W : List Nat) : Bool := decide (sgnT tp n s = 97) && (runT tp n s.1 == W)
theorem e154s (h : RL c tp n s) {kd : Nat} {W : List Nat} (hw : (kd, W) ∈ chs) (d : Nat) : E (d + 2) 154 [vr 48 0, vr kd 0] (c, l, x, y) = some (some (vi (iv (if herB tp n s W then 1 else 0))), c, l, x, y) := by
  have hk := chs_or hw
  have hc := chs_ok _ hw
  dsimp only at hc
  have hr := h.2.2.1 _ hw
  have h150 := e150s (l := l) (x := x) (y := y) h d
  have hb := bt_bd (n := n) h.2.1.2 s.1
  have hen := ended_iff h
  have haf : Int32.ofNat (af kd).2 = iv ((W.length : Nat) : Int) := by rw [hc.1]; rfl
  have h97 := sgn97_iff (tp := tp) (n := n) (s := s)
  obtain ⟨h1, h2, h3, h4, h5, e, h6, h7, h8, h9, h10⟩ := h
  unfold herB
  rw [q_154 hk, h4.1, if_pos (by rfl), h150]
  simp only [am_bi_v]
  rw [e155 hb]
  simp only [am_bi_v, hen]
  by_cases hL : 97 ≤ btT tp n s.1 ∧ btT tp n s.1 ≤ 122
  · rw [if_pos hL, if_neg (by decide)]
    cases hg : s.2 with
    | true =>
      rw [if_pos rfl, show decide (sgnT tp n s = 97) = false from decide_eq_false (fun q => by rw [(h97.mp q).2] at hg; cases hg)]
      rfl
    | false =>
      have hs97 := h97.mpr ⟨hL, hg⟩
      have h1s := sgn_97 hs97
      rw [if_neg Bool.false_ne_true, decide_eq_true hs97, Bool.true_and]
      -- the run's end
      have hln := lenT_le (tp := tp) h7
      have hlen : lenT tp n s.1 = runN tp 97 (n - s.1) s.1 := by unfold lenT; rw [if_pos h1s.1, if_pos (Or.inl h1s.2.1), h1s.2.1]
      have k40 : ∀ (m i : Nat), i + m = W.length → lenT tp n s.1 = W.length → (∀ j, j < i → tp (s.1 + j) = W.getD j 0) → X (d + 2) 154 40 [some (vr 48 0), some (vr kd 0), none, some (vi (iv (i : Nat)))] [] (c, l, x, y) = some (some (vi (iv (if runT tp n s.1 == W then 1 else 0))), c, l, x, y) := by
        intro m
        induction m with
        | zero =>
          intro i hi hl hj
          have heq : runT tp n s.1 = W := by
            apply List.ext_getElem (by rw [runT_len]; exact hl)
            intro j j1 j2
            have a1 := runT_at (tp := tp) (n := n) (p := s.1) (i := j) (by rw [runT_len] at j1; exact j1)
            rw [List.getElem?_eq_getElem j1] at a1
            have a2 := hj j (by omega)
            rw [List.getD_eq_getElem?_getD, List.getElem?_eq_getElem j2, Option.getD_some] at a2
            rw [← a2]
            exact Option.some.inj a1
          rw [q_154_40 hk, haf, show (runT tp n s.1 == W) = true from beq_iff_eq.mpr heq]
          simp (disch := omega) only [iv_lt, if_neg, iv_L]
          rfl
        | succ m ih =>
          intro i hi hl hj
          have hil : i < W.length := by omega
          have hcell := h1.2 (s.1 + i) (by omega)
          have hbb := h2.2 (s.1 + i)
          have hw7 := hc.2.2 _ (getD_mem hil)
          rw [q_154_40 hk, haf, hc.1, h5]
          simp (disch := omega) only [iv_add, iv_sub, iv_mul, iv_neg, iv_lt, iv_le, iv_eq, iv_nat, iv_L, iv_L2, am_bi_v, am_bv_v, am_bl_v, if_pos, if_neg, Int.toNat_natCast, Int.toNat_add, Int.toNat_mul, Int.reduceToNat, hcell, hr i hil]
          by_cases e1 : tp (s.1 + i) = W.getD i 0
          · rw [if_pos (by omega), show (i : Int) + 1 = ((i + 1 : Nat) : Int) by omega]
            refine ih (i + 1) (by omega) hl (fun j hj2 => ?_)
            by_cases ej : j = i
            · rw [ej]; exact e1
            · exact hj j (by omega)
          · rw [if_neg (by omega), show (runT tp n s.1 == W) = false from beq_eq_false_iff_ne.mpr (fun q => by
              apply e1
              have a1 := runT_at (tp := tp) (n := n) (p := s.1) (i := i) (by omega)
              rw [q] at a1
              rw [List.getD_eq_getElem?_getD, a1]
              rfl)]
            rfl
      have hne : lenT tp n s.1 ≠ W.length → (runT tp n s.1 == W) = false := fun q => beq_eq_false_iff_ne.mpr (fun q2 => q (by rw [← runT_len (tp := tp) (n := n), q2]))
      have kend : ∀ v : Int32, v = iv ((s.1 + lenT tp n s.1 : Nat) : Int) → (if (v - c 48 0 2) = Int32.ofNat (af kd).2 then X (d + 1 + 1) 154 40 [some (vr 48 0), some (vr kd 0), none, some (vi 0)] [] (c, l, x, y) else (some (some (vi 0), c, l, x, y) : Option mr)) = some (some (vi (iv (if runT tp n s.1 == W then 1 else 0))), c, l, x, y) := by
        intro v hv
        rw [hv, h5, haf, iv_sub]
        by_cases hl : lenT tp n s.1 = W.length
        · rw [if_pos (by congr 1; omega)]
          exact k40 W.length 0 (by omega) hl (fun j hj => absurd hj (Nat.not_lt_zero _))
        · rw [if_neg (by rw [iv_eq (by omega) (by omega)]; omega), hne hl]
          rfl
      have k17 : ∀ (m j : Nat), s.1 + j + m = n → j + runN tp 97 m (s.1 + j) = lenT tp n s.1 → X (d + 2) 154 17 [some (vr 48 0), some (vr kd 0), some (vi (iv ((s.1 + j : Nat) : Int))), none] [] (c, l, x, y) = some (some (vi (iv (if runT tp n s.1 == W then 1 else 0))), c, l, x, y) := by
        intro m
        induction m with
        | zero =>
          intro j hj hr2
          have hr2 : j = lenT tp n s.1 := hr2
          rw [q_154_17 hk, h1.1, if_neg (by rw [iv_lt (by omega) (by omega)]; omega)]
          exact kend _ (by rw [hr2])
        | succ m ih =>
          intro j hj hr2
          have hcell := h1.2 (s.1 + j) (by omega)
          have hbb := h2.2 (s.1 + j)
          unfold runN at hr2
          rw [q_154_17 hk, h1.1]
          simp (disch := omega) only [iv_L, iv_lt, iv_nat, if_pos, if_neg, Int.toNat_natCast, hcell]
          rw [e155 (by omega)]
          simp only [am_bi_v]
          have hcl := clB_97 (tp (s.1 + j))
          by_cases e1 : clB (tp (s.1 + j)) = 97
          · rw [if_pos e1] at hr2
            rw [if_pos (show 97 ≤ (tp (s.1 + j) : Int) ∧ (tp (s.1 + j) : Int) ≤ 122 by omega), if_neg (show ¬ iv 1 = iv 0 by decide), iv_add, show ((s.1 + j : Nat) : Int) + 1 = ((s.1 + (j + 1) : Nat) : Int) by omega]
            exact ih (j + 1) (by omega) (by rw [show s.1 + (j + 1) = s.1 + j + 1 by omega]; omega)
          · rw [if_neg e1] at hr2
            have hj2 : j = lenT tp n s.1 := by omega
            rw [if_neg (show ¬ (97 ≤ (tp (s.1 + j) : Int) ∧ (tp (s.1 + j) : Int) ≤ 122) by omega), if_pos (show iv 0 = iv 0 from rfl)]
            exact kend (iv ((s.1 + j : Nat) : Int)) (by rw [← hj2])
      rw [h5]
      exact k17 (n - s.1) 0 (by omega) (by rw [hlen, Nat.zero_add, Nat.add_zero])
  · rw [if_neg hL, if_pos (by rfl), show decide (sgnT tp n s = 97) = false from decide_eq_false (fun q => hL (h97.mp q).1)]
    rfl
theorem RZ_bad {f : Nat × Nat} (h : RZ c tp n (s, some f)) : ¬ c 48 0 5 = 0 := by
  have h4 := h.2.2.2
  have h4 : (c 48 0 5 = iv (f.1 : Nat) ∧ c 48 0 6 = iv (f.2 : Nat)) ∧ (1 ≤ f.1 ∧ f.1 ≤ 5) ∧ f.2 ≤ 1600 := h4
  rw [h4.1.1]
  simp only [iv_L]
  rw [iv_eq (by omega) (by omega)]
  omega
/-- isHere -/
theorem e154 (h : RZ c tp n (s, none)) {kd : Nat} {W : List Nat} (hw : (kd, W) ∈ chs) (d : Nat) : ∃ c2 : Nat → Nat → Nat → Int32, E (d + 2) 154 [vr 48 0, vr kd 0] (c, l, x, y) = some (some (vi (iv (if herB tp n s W then 1 else 0))), c2, l, x, y) ∧ RL c2 tp n s ∧ FR c c2 := by
  obtain ⟨c2, g1, g2, g3⟩ := e150 (l := l) (x := x) (y := y) h d
  refine ⟨c2, ?_, g2, g3⟩
  have hk := chs_or hw
  have hs := e154s (l := l) (x := x) (y := y) g2 hw d
  have h4 := h.2.2.2.1
  rw [q_154 hk] at hs ⊢
  rw [g2.2.2.2.1.1, if_pos (show iv 0 = 0 from rfl), e150s g2] at hs
  rw [h4.1, if_pos (show iv 0 = 0 from rfl), g1]
  exact hs
theorem e154f {f : Nat × Nat} (h : RZ c tp n (s, some f)) {kd : Nat} {W : List Nat} (hw : (kd, W) ∈ chs) (d : Nat) : E (d + 1) 154 [vr 48 0, vr kd 0] (c, l, x, y) = some (some (vi (iv 0)), c, l, x, y) := by
  rw [q_154 (chs_or hw), if_neg (RZ_bad h)]
  rfl
theorem e152 (h : RZ c tp n z) {k p : Nat} (hk : 1 ≤ k ∧ k ≤ 5) (hp : p ≤ 1600) (d : Nat) : ∃ c2 : Nat → Nat → Nat → Int32, E (d + 1) 152 [vr 48 0, vi (iv (k : Nat)), vi (iv (p : Nat))] (c, l, x, y) = some (none, c2, l, x, y) ∧ RZ c2 tp n (flZ k p z) ∧ FR c c2 := by
  rw [q_152]
  cases hz : z.2 with
  | none =>
    have h4 := h.2.2.2
    rw [hz] at h4
    have h4 : (c 48 0 5 = iv 0 ∧ c 48 0 6 = iv (-1)) ∧ RP c tp n z.1 := h4
    have hf : FR c (am_ui (am_ui c 48 0 5 (iv (k : Nat))) 48 0 6 (iv (p : Nat))) := (FR.ui _ _ (by omega)).tr (FR.ui _ _ (by omega))
    refine ⟨_, by rw [h4.1.1, if_pos (by rfl)], ⟨FR_RT hf h.1, h.2.1, FR_CH hf h.2.2.1, ?_⟩, hf⟩
    rw [flZ_none hz]
    exact ⟨⟨by rw [ui_ne _ _ _ _ (by omega), ui_self], ui_self _ _ _ _⟩, hk, hp⟩
  | some f =>
    have hz1 : z = (z.1, some f) := by rw [← hz]
    rw [flZ_some (by rw [hz]; rfl)]
    refine ⟨c, ?_, h, FR.refl c⟩
    rw [hz1] at h
    rw [if_neg (RZ_bad h)]
/-- a word or a number is passed -/
theorem RL_pass (h : RL c tp n s) (hs : sgnT tp n s = 97 ∨ sgnT tp n s = 48) : RZ (am_ui (am_ui c 48 0 2 (iv ((s.1 + lenT tp n s.1 : Nat) : Int))) 48 0 4 (iv ((s.1 + lenT tp n s.1 : Nat) : Int))) tp n (nxtT tp n s, none) := by
  obtain ⟨h1, h2, h3, h4, h5, e, h6, h7, h8, h9, h10⟩ := h
  have hf : FR c (am_ui (am_ui c 48 0 2 (iv ((s.1 + lenT tp n s.1 : Nat) : Int))) 48 0 4 (iv ((s.1 + lenT tp n s.1 : Nat) : Int))) := (FR.ui _ _ (by omega)).tr (FR.ui _ _ (by omega))
  have hln := lenT_le (tp := tp) h7
  refine ⟨FR_RT hf h1, h2, FR_CH hf h3, ⟨?_, ?_⟩, s.1 + lenT tp n s.1, ((s.1 + lenT tp n s.1 : Nat) : Int), ?_, ?_, hln, by omega, ?_, ?_⟩
  · rw [ui_ne _ _ _ _ (by omega), ui_ne _ _ _ _ (by omega)]; exact h4.1
  · rw [ui_ne _ _ _ _ (by omega), ui_ne _ _ _ _ (by omega)]; exact h4.2
  · rw [ui_ne _ _ _ _ (by omega), ui_self]
  · rw [ui_self]
  · rfl
  · unfold nxtT nxtQ
    dsimp only
    rw [decide_eq_true hs, Bool.true_and, decide_eq_true_eq]
    omega
/-- takes a word -/
theorem e153 (h : RZ c tp n (s, none)) {kd : Nat} {W : List Nat} (hw : (kd, W) ∈ chs) (d : Nat) : ∃ c2 : Nat → Nat → Nat → Int32, E (d + 3) 153 [vr 48 0, vr kd 0] (c, l, x, y) = some (some (vi (iv (if herB tp n s W then 1 else 0))), c2, l, x, y) ∧ (if herB tp n s W then RZ c2 tp n (nxtT tp n s, none) else RL c2 tp n s) ∧ FR c c2 := by
  obtain ⟨c2, g1, g2, g3⟩ := e154 (l := l) (x := x) (y := y) h hw d
  have hc := chs_ok _ hw
  dsimp only at hc
  rw [q_153 (chs_or hw), g1]
  simp only [am_bi_v]
  cases hb : herB tp n s W with
  | false =>
    rw [if_neg Bool.false_ne_true, if_pos (by rfl)]
    exact ⟨c2, rfl, by rw [if_neg Bool.false_ne_true]; exact g2, g3⟩
  | true =>
    unfold herB at hb
    rw [Bool.and_eq_true, decide_eq_true_eq, beq_iff_eq] at hb
    rw [if_pos rfl, if_neg (by decide)]
    have hlen : lenT tp n s.1 = W.length := by rw [← runT_len (tp := tp) (n := n), hb.2]
    have h5 := g2.2.2.2.2.1
    refine ⟨_, rfl, ?_, g3.tr ((FR.ui _ _ (by omega)).tr (FR.ui _ _ (by omega)))⟩
    rw [if_pos rfl]
    have hp := RL_pass g2 (Or.inl hb.1)
    rw [hlen] at hp
    rw [h5, hc.1, show Int32.ofNat W.length = iv ((W.length : Nat) : Int) from rfl, iv_add, show (s.1 : Int) + (W.length : Int) = ((s.1 + W.length : Nat) : Int) by omega]
    exact hp
theorem e153f {f : Nat × Nat} (h : RZ c tp n (s, some f)) {kd : Nat} {W : List Nat} (hw : (kd, W) ∈ chs) (d : Nat) : E (d + 2) 153 [vr 48 0, vr kd 0] (c, l, x, y) = some (some (vi (iv 0)), c, l, x, y) := by
  rw [q_153 (chs_or hw), e154f h hw]
  rfl
theorem her_lix {t o : Nat} (ht : t < 2) {W : List Nat} (hW : (WL t)[o]? = some W) : (herB tp n s W = true) ↔ lixT tp n t s = some o := by
  unfold herB lixT
  rw [Bool.and_eq_true, decide_eq_true_eq, beq_iff_eq]
  constructor
  · rintro ⟨h1, h2⟩
    rw [if_pos h1, h2]
    exact lixW_of ht hW
  · intro h
    split at h
    · rename_i h1
      refine ⟨h1, ?_⟩
      have := lixW_some h
      rw [hW] at this
      exact (Option.some.inj this).symm
    · cases h
theorem tz_eta (z : Tz) {o : Option (Nat × Nat)} (h : z.2 = o) : z = (z.1, o) := by rw [← h]
/-- asks for a word of list t -/
def tqZ (tp : Nat → Nat) (n t own : Nat) (z : Tz) : Tz := if z.2.isSome then z else if lixT tp n t z.1 = some own then avZ tp n z else flZ 1 z.1.1 z
theorem tqZ_0 (own : Nat) : tqZ tp n 0 own z = toZ tp n own z := rfl
theorem e165 (h : RZ c tp n z) {t own kd : Nat} (ht : t < 2) {W : List Nat} (hw : (kd, W) ∈ chs) (hW : (WL t)[own]? = some W) (d : Nat) : ∃ c2 : Nat → Nat → Nat → Int32, E (d + 4) 165 [vr 48 0, vr kd 0] (c, l, x, y) = some (none, c2, l, x, y) ∧ RZ c2 tp n (tqZ tp n t own z) ∧ FR c c2 := by
  unfold tqZ
  cases hz : z.2 with
  | some f =>
    rw [if_pos (show (some f).isSome = true from rfl), q_165 (chs_or hw)]
    refine ⟨c, ?_, h, FR.refl c⟩
    rw [tz_eta z hz] at h
    rw [if_neg (RZ_bad h)]
  | none =>
    rw [if_neg (show ¬ (none : Option (Nat × Nat)).isSome = true by decide)]
    rw [tz_eta z hz] at h ⊢
    have h4 := h.2.2.2.1
    obtain ⟨c2, g1, g2, g3⟩ := e153 (l := l) (x := x) (y := y) h hw d
    have hl := her_lix (tp := tp) (n := n) (s := z.1) ht hW
    rw [q_165 (chs_or hw), h4.1, if_pos (by rfl), g1]
    simp only [am_bi_v]
    cases hb : herB tp n z.1 W with
    | true =>
      rw [hb] at g2
      rw [if_pos rfl] at g2
      rw [if_pos rfl, if_neg (by decide), if_pos (hl.mp hb)]
      exact ⟨c2, rfl, g2, g3⟩
    | false =>
      rw [hb] at g2
      rw [if_neg Bool.false_ne_true] at g2
      have h7 := g2.2.2.2.2
      obtain ⟨q5, e, q6, q7, -⟩ := h7
      have hn := g2.2.1.1
      rw [if_neg Bool.false_ne_true, if_pos (by rfl), if_neg (fun q => by rw [hl.mpr q] at hb; cases hb), q5]
      obtain ⟨c3, k1, k2, k3⟩ := e152 (l := l) (x := x) (y := y) (RL_RZ g2) (k := 1) (p := z.1.1) (by omega) (by omega) (d + 2)
      have k1 : E (d + 3) 152 [vr 48 0, vi 1, vi (iv (z.1.1 : Nat))] (c2, l, x, y) = _ := k1
      rw [k1]
      exact ⟨c3, rfl, k2, g3.tr k3⟩
/-- takes a sign -/
theorem e175 (h : RZ c tp n (s, none)) {sg : Int} (hsg : 1 ≤ sg ∧ sg < 256 ∧ ¬ (97 ≤ sg ∧ sg ≤ 122) ∧ ¬ (48 ≤ sg ∧ sg ≤ 57)) (d : Nat) : ∃ c2 : Nat → Nat → Nat → Int32, E (d + 2) 175 [vr 48 0, vi (iv sg)] (c, l, x, y) = some (some (vi (iv (if sgnT tp n s = sg then 1 else 0))), c2, l, x, y) ∧ (if sgnT tp n s = sg then RZ c2 tp n (nxtT tp n s, none) ∧ c2 48 0 2 = iv ((s.1 : Int) + 1) ∧ s.1 < n ∧ (tp s.1 : Int) = sg else RL c2 tp n s) ∧ FR c c2 := by
  have h4 := h.2.2.2.1
  obtain ⟨c2, g1, g2, g3⟩ := e150 (l := l) (x := x) (y := y) h d
  have hb := bt_bd (n := n) h.2.1.2 s.1
  have hi := sgnS_iff (tp := tp) (n := n) (s := s) hsg
  rw [q_175, h4.1, if_pos (by rfl), g1]
  simp only [am_bi_v]
  by_cases e : sgnT tp n s = sg
  · have e2 := hi.mp e
    obtain ⟨h1, h2, h3, h4, h5, e0, h6, h7, h8, h9, h10⟩ := g2
    have hpn : s.1 < n := by unfold btT at e2; split at e2; assumption; omega
    have e3 : (tp s.1 : Int) = sg := by unfold btT at e2; rw [if_pos hpn] at e2; exact e2
    have hcl : ¬ (clB (tp s.1) = 97 ∨ clB (tp s.1) = 48) := by rw [clB_97, clB_48]; omega
    rw [if_pos (by rw [e2]), if_pos e, h5]
    have hf : FR c2 (am_ui c2 48 0 2 (iv (s.1 : Int) + 1)) := FR.ui _ _ (by omega)
    refine ⟨am_ui c2 48 0 2 (iv (s.1 : Int) + 1), rfl, ?_, g3.tr hf⟩
    rw [if_pos e]
    refine ⟨⟨FR_RT hf h1, h2, FR_CH hf h3, ⟨?_, ?_⟩, s.1 + 1, e0, ?_, ?_, by omega, by omega, ?_, ?_⟩, ?_, hpn, e3⟩
    · rw [ui_ne _ _ _ _ (by omega)]; exact h4.1
    · rw [ui_ne _ _ _ _ (by omega)]; exact h4.2
    · rw [ui_self, show (1 : Int32) = iv 1 from rfl, iv_add]; rfl
    · rw [ui_ne _ _ _ _ (by omega)]; exact h6
    · unfold nxtT nxtQ lenT
      dsimp only
      rw [if_pos hpn, if_neg hcl]
    · have hle := skp_le (tp := tp) (n - (s.1 + 1)) (s.1 + 1)
      unfold nxtT nxtQ lenT
      dsimp only
      rw [if_pos hpn, if_neg hcl, decide_eq_false (show ¬ (sgnT tp n s = 97 ∨ sgnT tp n s = 48) by omega), Bool.false_and]
      constructor
      · intro q; cases q
      · intro q; omega
    · rw [ui_self, show (1 : Int32) = iv 1 from rfl, iv_add]
  · rw [if_neg (by rw [iv_eq (by omega) (by omega)]; exact fun q => e (hi.mpr q)), if_neg e]
    exact ⟨c2, rfl, by rw [if_neg e]; exact g2, g3⟩
theorem e175f {f : Nat × Nat} (h : RZ c tp n (s, some f)) (v : Int32) (d : Nat) : E (d + 1) 175 [vr 48 0, vi v] (c, l, x, y) = some (some (vi (iv 0)), c, l, x, y) := by
  rw [q_175, if_neg (RZ_bad h)]
  rfl
theorem e174 (h : RZ c tp n z) {sg : Int} (hsg : 1 ≤ sg ∧ sg < 256 ∧ ¬ (97 ≤ sg ∧ sg ≤ 122) ∧ ¬ (48 ≤ sg ∧ sg ≤ 57)) (d : Nat) : ∃ c2 : Nat → Nat → Nat → Int32, E (d + 3) 174 [vr 48 0, vi (iv sg)] (c, l, x, y) = some (none, c2, l, x, y) ∧ RZ c2 tp n (tkZ tp n sg z) ∧ FR c c2 := by
  cases hz : z.2 with
  | some f =>
    rw [tkZ_f (by rw [hz]; rfl), q_174]
    refine ⟨c, ?_, h, FR.refl c⟩
    rw [tz_eta z hz] at h
    rw [if_neg (RZ_bad h)]
  | none =>
    unfold tkZ
    rw [tz_eta z hz] at h ⊢
    have h4 := h.2.2.2.1
    obtain ⟨c2, g1, g2, g3⟩ := e175 (l := l) (x := x) (y := y) h hsg d
    rw [q_174, h4.1, if_pos (by rfl), g1]
    simp only [am_bi_v]
    by_cases e : sgnT tp n z.1 = sg
    · rw [if_pos e] at g2
      rw [if_pos e, if_neg (by decide), if_pos ⟨trivial, e⟩]
      exact ⟨c2, rfl, g2.1, g3⟩
    · rw [if_neg e] at g2
      have hn := g2.2.1.1
      obtain ⟨q5, e0, q6, q7, -⟩ := g2.2.2.2.2
      rw [if_neg e, if_pos (by rfl), if_neg (fun q => e q.2), q5]
      obtain ⟨c3, k1, k2, k3⟩ := e152 (l := l) (x := x) (y := y) (RL_RZ g2) (k := 1) (p := z.1.1) (by omega) (by omega) (d + 1)
      have k1 : E (d + 2) 152 [vr 48 0, vi 1, vi (iv (z.1.1 : Nat))] (c2, l, x, y) = _ := k1
      rw [k1]
      exact ⟨c3, rfl, k2, g3.tr k3⟩
end
