/-! the class: odds, parts, at the inn -/
/-- only what Chance keeps changes -/
def CF (c c2 : Nat → Nat → Nat → Int32) : Prop := ∀ k, k < 36 ∨ 43 < k → c2 k = c k
section
variable {c : Nat → Nat → Nat → Int32} {l : Nat → Nat → Int64} {x y : Nat} {K : Ct} {F : Nat} {row : List (Nat × Nat)} {tp : Nat → Nat} {n : Nat} {fa fp : Int} {rf : Nat → Int32} {sd : Int} {oc : List Nat}
theorem CF.tr {c1 c2 c3 : Nat → Nat → Nat → Int32} (h : CF c1 c2) (g : CF c2 c3) : CF c1 c3 := fun k hk => (g k hk).trans (h k hk)
theorem CF.refl (c : Nat → Nat → Nat → Int32) : CF c c := fun _ _ => rfl
theorem CF_JR {c2 : Nat → Nat → Nat → Int32} (h : CF c c2) (g : JR c x K F) : JR c2 x K F := JR_fr g (fun k _ _ => h k (by omega))
theorem e5' (h : JR c x K F) (d : Nat) : E (d + 1) 5 [vr 36 0] (c, l, x, y) = some (some (vi (iv (prodN (cts K) : Nat))), c, l, x, y) := by
  have hn := h.2.1.2.2.2.1.1
  have key : ∀ (m i v : Nat), i + m = nB K → X (d + 1) 5 4 [some (vr 36 0), some (vi (iv (v : Nat))), some (vi (iv (i : Nat)))] [] (c, l, x, y) = some (some (vi (iv ((v * prodN ((cts K).drop i) : Nat) : Int))), c, l, x, y) := by
    intro m
    induction m with
    | zero =>
      intro i v hi
      rw [q_5_4, List.drop_of_length_le (by rw [cts_len]; omega)]
      simp (disch := omega) only [iv_add, iv_sub, iv_mul, iv_neg, iv_lt, iv_le, iv_eq, iv_nat, iv_L, iv_L2, am_bi_v, am_bv_v, am_bl_v, if_pos, if_neg, Int.toNat_natCast, Int.toNat_add, Int.toNat_mul, Int.reduceToNat, h.1.2.2.2.1.1]
      rw [show prodN [] = 1 from rfl, Nat.mul_one]
    | succ m ih =>
      intro i v hi
      rw [q_5_4, cts_drop (by omega)]
      simp (disch := omega) only [iv_add, iv_sub, iv_mul, iv_neg, iv_lt, iv_le, iv_eq, iv_nat, iv_L, iv_L2, am_bi_v, am_bv_v, am_bl_v, if_pos, if_neg, Int.toNat_natCast, Int.toNat_add, Int.toNat_mul, Int.reduceToNat, h.1.2.2.2.1.1, (h.1.2.2.2.1.2 i (show i < nB K by omega)).1]
      rw [show prodN ((sayK K i).length :: (cts K).drop (i + 1)) = (sayK K i).length * prodN ((cts K).drop (i + 1)) from rfl, ← Nat.mul_assoc, ← ih (i + 1) (v * (sayK K i).length) (by omega), Int.natCast_mul]
      rfl
  rw [q_5]
  refine (key (nB K) 0 1 (Nat.zero_add _)).trans ?_
  rw [Nat.one_mul, List.drop_zero]
theorem enc_start (K : Ct) (F : Nat) : encO K (hearA K F []) = 32768 := by
  show ((encS K startS : Nat) : Int) = 32768
  have hb : bitsC K startS.1 = 0 := by
    show nb (allSo K 0 []) (allSo K 1 []) (allSo K 2 []) = 0
    rfl
  unfold encS
  rw [hb]
  show ((0 + 32 * 0 + 1024 * 0 + 32768 * patW K [] + 524288 * (0 % 2) + 1048576 * 0 + 8388608 * 0 : Nat) : Int) = 32768
  rw [patW_nil]
  rfl
theorem e2 (h : JR c x K F) (hC : ChC c K F) {f : Nat} (hf : 20 ≤ f) : ∃ c2 : Nat → Nat → Nat → Int32, E f 2 [vr 36 0] (c, l, x, y) = some (none, c2, l, x, y) ∧ CF c c2 ∧ ChC c2 K F ∧ c2 36 0 6 ≠ 0 := by
  obtain ⟨d, rfl⟩ : ∃ d, f = d + 1 := ⟨f - 1, by omega⟩
  have hn := h.2.1.2.2.2.1.1
  have inner : ∀ (m a r : Nat) (c : Nat → Nat → Nat → Int32), a + m = 28 → r < 3 → ∃ c2 : Nat → Nat → Nat → Int32, X (d + 1) 2 19 [some (vr 36 0), some (vi (iv (r : Nat))), some (vi (iv (a : Nat)))] [] (c, l, x, y) = X (d + 1) 2 9 [some (vr 36 0), some (vi (iv ((r + 1 : Nat) : Int))), none] [] (c2, l, x, y) ∧ (∀ k, k ≠ 39 → c2 k = c k) ∧ (∀ q, a ≤ q → q < 28 → c2 39 r q = iv 0) ∧ ∀ r2 q, r2 ≠ r ∨ q < a → c2 39 r2 q = c 39 r2 q := by
    intro m
    induction m with
    | zero =>
      intro a r c ha hr
      refine ⟨c, ?_, fun _ _ => rfl, fun q h1 h2 => by omega, fun _ _ _ => rfl⟩
      rw [q_2_19]
      simp (disch := omega) only [iv_add, iv_sub, iv_mul, iv_neg, iv_lt, iv_le, iv_eq, iv_nat, iv_L, iv_L2, am_bi_v, am_bv_v, am_bl_v, if_pos, if_neg, Int.toNat_natCast, Int.toNat_add, Int.toNat_mul, Int.reduceToNat]
      rfl
    | succ m ih =>
      intro a r c ha hr
      obtain ⟨c2, g1, g2, g3, g4⟩ := ih (a + 1) r (am_ui c 39 r a (iv 0)) (by omega) hr
      refine ⟨c2, ?_, fun k hk => (g2 k hk).trans (ui_nk _ _ _ _ hk), ?_, ?_⟩
      · rw [q_2_19]
        simp (disch := omega) only [iv_add, iv_sub, iv_mul, iv_neg, iv_lt, iv_le, iv_eq, iv_nat, iv_L, iv_L2, am_bi_v, am_bv_v, am_bl_v, if_pos, if_neg, Int.toNat_natCast, Int.toNat_add, Int.toNat_mul, Int.reduceToNat]
        exact g1
      · intro q h1 h2
        by_cases e : q = a
        · subst e; rw [g4 r q (by omega), ui_self]
        · exact g3 q (by omega) h2
      · intro r2 q hq
        rw [g4 r2 q (by omega), ui_ne _ _ _ _ (by omega)]
  have outer : ∀ (m r : Nat) (c : Nat → Nat → Nat → Int32), r + m = 3 → (∀ q, q < r → c 37 0 q = iv 0 ∧ ∀ a, a < 28 → c 39 q a = iv 0) → ∃ c2 : Nat → Nat → Nat → Int32, X (d + 1) 2 9 [some (vr 36 0), some (vi (iv (r : Nat))), none] [] (c, l, x, y) = X (d + 1) 2 9 [some (vr 36 0), some (vi (iv 3)), none] [] (c2, l, x, y) ∧ (∀ k, k ≠ 37 → k ≠ 39 → c2 k = c k) ∧ ∀ q, q < 3 → c2 37 0 q = iv 0 ∧ ∀ a, a < 28 → c2 39 q a = iv 0 := by
    intro m
    induction m with
    | zero =>
      intro r c hr hz
      rw [show r = 3 by omega] at hz ⊢
      exact ⟨c, rfl, fun _ _ _ => rfl, hz⟩
    | succ m ih =>
      intro r c hr hz
      obtain ⟨c2, g1, g2, g3, g4⟩ := inner 28 0 r (am_ui c 37 0 r (iv 0)) (by omega) (by omega)
      obtain ⟨c3, k1, k2, k3⟩ := ih (r + 1) c2 (by omega) (by
        intro q hq
        rw [g2 37 (by omega)]
        by_cases e : q = r
        · subst e
          exact ⟨ui_self .., fun a ha => g3 a (Nat.zero_le _) ha⟩
        · refine ⟨by rw [ui_ne _ _ _ _ (by omega)]; exact (hz q (by omega)).1, fun a ha => ?_⟩
          rw [g4 q a (by omega), ui_nk _ _ _ _ (by omega)]
          exact (hz q (by omega)).2 a ha)
      refine ⟨c3, ?_, fun k h1 h2 => by rw [k2 k h1 h2, g2 k h2, ui_nk _ _ _ _ h1], k3⟩
      rw [q_2_9]
      simp (disch := omega) only [iv_add, iv_sub, iv_mul, iv_neg, iv_lt, iv_le, iv_eq, iv_nat, iv_L, iv_L2, am_bi_v, am_bv_v, am_bl_v, if_pos, if_neg, Int.toNat_natCast, Int.toNat_add, Int.toNat_mul, Int.reduceToNat]
      exact g1.trans k1
  rw [q_2]
  by_cases e : c 36 0 6 = 0
  · rw [if_pos e]
    obtain ⟨c2, g1, g2, g3⟩ := outer 3 0 (am_ui c 36 0 6 1) (by omega) (fun q hq => absurd hq (Nat.not_lt_zero q))
    have hJ2 : JR c2 x K F := JR_fr h (fun k _ _ => (g2 k (by omega) (by omega)).trans (ui_nk _ _ _ _ (by omega)))
    obtain ⟨c3, k1, k2, k3, k4⟩ := e3 (l := l) (y := y) (nB K) 0 d [] [] (fun _ => 0) (fun _ _ _ => 0) c2 (Nat.zero_add _) (by omega) rfl (fun k hk => by cases hk) (fun k hk => by cases hk) hJ2 (fun j hj => absurd hj (Nat.not_lt_zero j)) (by
      intro r hr
      exact ⟨(g3 r (by omega)).1, fun s k hs hk => (g3 r (by omega)).2 _ (by omega)⟩)
    have h36 : c3 36 0 6 = 1 := by rw [k2 36 (by omega) (by omega) (by omega), g2 36 (by omega) (by omega), ui_self]
    refine ⟨c3, ?_, ?_, ⟨fun _ r hr => ?_, ?_⟩, by rw [h36]; decide⟩
    · simp only [iv_L] at g1 ⊢
      refine g1.trans ?_
      rw [q_2_9]
      simp (disch := omega) only [iv_add, iv_sub, iv_mul, iv_neg, iv_lt, iv_le, iv_eq, iv_nat, iv_L, iv_L2, am_bi_v, am_bv_v, am_bl_v, if_pos, if_neg, Int.toNat_natCast, Int.toNat_add, Int.toNat_mul, Int.reduceToNat]
      rw [enc_start] at k1
      show am_bv (E d 3 [vr 36 0, vi (iv ((0 : Nat) : Int)), vi (iv 32768)] (c2, l, x, y)) _ = _
      rw [k1]
      rfl
    · intro k hk
      rw [k2 k (by omega) (by omega) (by omega), g2 k (by omega) (by omega), ui_nk _ _ _ _ (by omega)]
    · refine ⟨?_, fun s k hs hk => ?_⟩
      · rw [(k4 r hr).1, List.drop_zero]
        show iv ((0 + _ : Nat) : Int) = _
        rw [Nat.zero_add]; rfl
      · rw [(k4 r hr).2 s k hs hk, List.drop_zero]
        show iv ((0 + _ : Nat) : Int) = _
        rw [Nat.zero_add]; rfl
    · intro b hb h43 r hr
      rw [k2 43 (by omega) (by omega) (by omega), g2 43 (by omega) (by omega), ui_nk _ _ _ _ (by omega)] at h43
      rw [k2 41 (by omega) (by omega) (by omega), g2 41 (by omega) (by omega), ui_nk _ _ _ _ (by omega)]
      exact hC.2 b hb h43 r hr
  · rw [if_neg e]
    exact ⟨c, rfl, CF.refl c, hC, e⟩
theorem e1 (h : JR c x K F) (hC : ChC c K F) {f : Nat} (hf : 21 ≤ f) {r : Nat} (hr : r < 3) : ∃ c2 : Nat → Nat → Nat → Int32, E f 1 [vr 36 0, vi (iv r)] (c, l, x, y) = some (some (vi (iv (waysS K F r : Nat))), c2, l, x, y) ∧ CF c c2 ∧ ChC c2 K F := by
  obtain ⟨d, rfl⟩ : ∃ d, f = d + 2 := ⟨f - 2, by omega⟩
  obtain ⟨c2, g1, g2, g3, g4⟩ := e2 (l := l) (y := y) h hC (f := d + 1) (by omega)
  refine ⟨c2, ?_, g2, g3⟩
  have h3 := ways_three K F
  have hw := g3.1 g4
  rw [q_1, g1]
  simp only [am_bv_v]
  by_cases e : r = 0
  · subst e
    rw [if_pos (by rfl), e5' (CF_JR g2 h)]
    simp only [am_bi_v]
    rw [(hw 1 (Or.inl rfl)).1, (hw 2 (Or.inr rfl)).1, iv_sub, iv_sub, show ((prodN (cts K) : Nat) : Int) - (waysS K F 1 : Nat) - (waysS K F 2 : Nat) = (waysS K F 0 : Nat) by omega]
  · simp (disch := omega) only [iv_add, iv_sub, iv_mul, iv_neg, iv_lt, iv_le, iv_eq, iv_nat, iv_L, iv_L2, am_bi_v, am_bv_v, am_bl_v, if_pos, if_neg, Int.toNat_natCast, Int.toNat_add, Int.toNat_mul, Int.reduceToNat]
    rw [(hw r (by omega)).1]
theorem e6 (h : JR c x K F) (hC : ChC c K F) {f : Nat} (hf : 21 ≤ f) {r b k : Nat} (hr : r < 3) (hb : b < nB K) (hk : k < (sayK K b).length) : ∃ c2 : Nat → Nat → Nat → Int32, E f 6 [vr 36 0, vi (iv r), vi (iv b), vi (iv k)] (c, l, x, y) = some (some (vi (iv (saysS K F r b k : Nat))), c2, l, x, y) ∧ CF c c2 ∧ ChC c2 K F := by
  obtain ⟨d, rfl⟩ : ∃ d, f = d + 2 := ⟨f - 2, by omega⟩
  obtain ⟨c2, g1, g2, g3, g4⟩ := e2 (l := l) (y := y) h hC (f := d + 1) (by omega)
  refine ⟨c2, ?_, g2, g3⟩
  have hn := h.2.1.2.2.2.1.1
  have hv := h.2.1.2.2.2.1.2 b hb
  have hJ2 := CF_JR g2 h
  have h3 := says_three (F := F) hb hk
  have hw := g3.1 g4
  have hp := prod_cts h.2.1
  have hcell := (hJ2.1.2.2.2.1.2 b hb).1
  rw [q_6, g1]
  simp only [am_bv_v]
  have hat : (((4 : Int32) * iv b) + iv k) = iv ((4 * b + k : Nat) : Int) := by
    simp only [iv_L, iv_mul, iv_add]; rfl
  rw [hat]
  by_cases e : r = 0
  · subst e
    rw [if_pos (by rfl)]
    simp (disch := omega) only [iv_add, iv_sub, iv_mul, iv_neg, iv_lt, iv_le, iv_eq, iv_nat, iv_L, iv_L2, am_bi_v, am_bv_v, am_bl_v, if_pos, if_neg, Int.toNat_natCast, Int.toNat_add, Int.toNat_mul, Int.reduceToNat, hcell, e5' hJ2]
    have hd : prodN (cts K) / (sayK K b).length = saysS K F 0 b k + saysS K F 1 b k + saysS K F 2 b k := by
      rw [← h3]; exact Nat.mul_div_cancel _ (by omega)
    rw [(hw 1 (Or.inl rfl)).2 b k hb (by omega), (hw 2 (Or.inr rfl)).2 b k hb (by omega), iv_div (by omega) (by omega), ← Int.natCast_ediv, hd, iv_sub, iv_sub, show (((saysS K F 0 b k + saysS K F 1 b k + saysS K F 2 b k : Nat) : Int) - (saysS K F 1 b k : Nat) - (saysS K F 2 b k : Nat)) = (saysS K F 0 b k : Nat) by omega]
  · simp (disch := omega) only [iv_add, iv_sub, iv_mul, iv_neg, iv_lt, iv_le, iv_eq, iv_nat, iv_L, iv_L2, am_bi_v, am_bv_v, am_bl_v, if_pos, if_neg, Int.toNat_natCast, Int.toNat_add, Int.toNat_mul, Int.reduceToNat]
    rw [(hw r (by omega)).2 b k hb (by omega)]
theorem e139 {a b : Nat} (ha : a ≤ 16384) (hb : b ≤ 16384) (d : Nat) : E (d + 1) 139 [vi (iv a), vi (iv b)] (c, l, x, y) = some (some (vi (iv ((1000 * a / b : Nat) : Int))), c, l, x, y) := by
  rw [q_139]
  by_cases e : b = 0
  · subst e
    rw [Nat.div_zero]; rfl
  · have h1000 : (1000 : Int32) = iv 1000 := rfl
    have hne : ¬ (iv (b : Int) = 0) := by
      rw [iv_L.1, iv_eq (by omega) (by omega)]; omega
    rw [if_neg hne, if_neg hne, h1000, iv_mul, iv_div (by omega) (by omega)]
    rfl
theorem e134 {z : Int} (hz : -2147483648 ≤ z ∧ z < 2147483648) (d : Nat) : E (d + 1) 134 [vi (iv z)] (c, l, x, y) = some (some (vi (iv (if 0 ≤ z ∧ z ≤ 2 then 1 else 0))), c, l, x, y) := by
  rw [q_134]
  simp (disch := omega) only [iv_add, iv_sub, iv_mul, iv_neg, iv_lt, iv_le, iv_eq, iv_nat, iv_L, iv_L2, am_bi_v, am_bv_v, am_bl_v, if_pos, if_neg, Int.toNat_natCast, Int.toNat_add, Int.toNat_mul, Int.reduceToNat]
  by_cases e1 : z < 0
  · rw [if_pos e1, if_neg (by omega)]
  · rw [if_neg e1]
    by_cases e2 : z < 3
    · rw [if_pos e2, if_pos (by omega)]
    · rw [if_neg e2, if_neg (by omega)]
theorem ways_le (hK : VK K) (r : Nat) : waysS K F r ≤ 16384 := Nat.le_trans (cntC_le _ _) (prod_cts hK).2
theorem says_le (hK : VK K) (r b k : Nat) : saysS K F r b k ≤ 16384 := Nat.le_trans (cntC_le _ _) (prod_cts hK).2
theorem k138 (h : JR c x K F) (hC : ChC c K F) {z : Int} (hz : -2147483648 ≤ z ∧ z < 2147483648) (d : Nat) : ∃ c2 : Nat → Nat → Nat → Int32, E (d + 22) 138 [vr 0 0, vi (iv z)] (c, l, x, y) = some (some (vi (iv (oddS K F z))), c2, l, x, y) ∧ CF c c2 ∧ ChC c2 K F := by
  rw [q_138, e134 hz]
  simp only [am_bi_v]
  unfold oddS
  by_cases e : 0 ≤ z ∧ z ≤ 2
  · obtain ⟨r, rfl⟩ := Int.eq_ofNat_of_zero_le e.1
    obtain ⟨c2, g1, g2, g3⟩ := e1 (l := l) (y := y) h hC (f := d + 21) (by omega) (r := r) (by omega)
    refine ⟨c2, ?_, g2, g3⟩
    rw [if_pos e, if_pos e, if_neg (show ¬ (iv 1 = 0) by decide), g1]
    simp only [am_bi_v]
    rw [e5' (CF_JR g2 h)]
    simp only [am_bi_v]
    rw [e139 (ways_le h.2.1 r) (prod_cts h.2.1).2]
    rfl
  · refine ⟨c, ?_, CF.refl c, hC⟩
    rw [if_neg e, if_neg e]
    rfl
theorem k140 (h : JR c x K F) (hC : ChC c K F) {z b k : Int} (hz : -2147483648 ≤ z ∧ z < 2147483648) (hb : -2147483648 ≤ b ∧ b < 2147483648) (hk : -2147483648 ≤ k ∧ k < 2147483648) (d : Nat) : ∃ c2 : Nat → Nat → Nat → Int32, E (d + 22) 140 [vr 0 0, vi (iv z), vi (iv b), vi (iv k)] (c, l, x, y) = some (some (vi (iv (partS K F z b k))), c2, l, x, y) ∧ CF c c2 ∧ ChC c2 K F := by
  rw [q_140, e134 hz]
  simp only [am_bi_v]
  unfold partS
  by_cases e : 0 ≤ z ∧ z ≤ 2
  · rw [if_pos e, if_neg (show ¬ (iv 1 = 0) by decide), e21 h hb hk]
    simp only [am_bi_v]
    by_cases e2 : (0 ≤ b ∧ b < nB K) ∧ 0 ≤ k ∧ k < (sayK K b.toNat).length
    · obtain ⟨r, rfl⟩ := Int.eq_ofNat_of_zero_le e.1
      obtain ⟨b, rfl⟩ := Int.eq_ofNat_of_zero_le e2.1.1
      obtain ⟨k, rfl⟩ := Int.eq_ofNat_of_zero_le e2.2.1
      have ek := e2.2.2
      rw [Int.toNat_natCast] at ek
      obtain ⟨c2, g1, g2, g3⟩ := e6 (l := l) (y := y) h hC (f := d + 21) (by omega) (r := r) (b := b) (k := k) (by omega) (by omega) (by omega)
      obtain ⟨c3, j1, j2, j3⟩ := e1 (l := l) (y := y) (CF_JR g2 h) g3 (f := d + 21) (by omega) (r := r) (by omega)
      refine ⟨c3, ?_, g2.tr j2, j3⟩
      rw [if_pos e2, if_neg (show ¬ (iv 1 = 0) by decide), if_pos (show (0 ≤ (r : Int) ∧ (r : Int) ≤ 2) ∧ (0 ≤ (b : Int) ∧ (b : Int) < nB K) ∧ 0 ≤ (k : Int) ∧ (k : Int) < (sayK K (b : Int).toNat).length from ⟨e, e2⟩), g1]
      simp only [am_bi_v]
      rw [j1]
      simp only [am_bi_v]
      rw [e139 (says_le h.2.1 r b k) (ways_le h.2.1 r)]
      rfl
    · refine ⟨c, ?_, CF.refl c, hC⟩
      rw [if_neg e2, if_pos (show iv 0 = 0 by decide), if_neg (show ¬ ((0 ≤ z ∧ z ≤ 2) ∧ (0 ≤ b ∧ b < nB K) ∧ 0 ≤ k ∧ k < (sayK K b.toNat).length) from fun q => e2 q.2)]
      rfl
  · refine ⟨c, ?_, CF.refl c, hC⟩
    rw [if_neg e, if_pos (show iv 0 = 0 by decide), if_neg (show ¬ ((0 ≤ z ∧ z ≤ 2) ∧ (0 ≤ b ∧ b < nB K) ∧ 0 ≤ k ∧ k < (sayK K b.toNat).length) from fun q => e q.1)]
    rfl
end
