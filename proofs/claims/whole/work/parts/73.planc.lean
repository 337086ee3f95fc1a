/-! the class's planner -/
def sdOf (p : Nat) : Int := ((p % 3 : Nat) : Int) - 1
/-- a plan as it is written -/
def PW (c : Nat → Nat → Nat → Int32) (p m : Nat) (L : List Nat) : Prop := ∀ k, k < L.length → c 30 p (m + k) = iv ((L.getD k 0 / 4 : Nat) : Int) ∧ c 32 p (m + k) = iv ((L.getD k 0 % 4 : Nat) : Int)
/-- what is kept of plans is right -/
def PlC (c : Nat → Nat → Nat → Int32) (K : Ct) (F : Nat) : Prop := ∀ p, p < 6 → c 28 0 p = iv (-2) ∨ (match plnS K F (p / 3 + 1) (sdOf p) 4 with
  | none => c 28 0 p = iv (-1)
  | some L => c 28 0 p = iv (L.length : Nat) ∧ PW c p 0 L)
def FP (c c2 : Nat → Nat → Nat → Int32) (p m : Nat) : Prop := (∀ k, k ≠ 30 → k ≠ 32 → c2 k = c k) ∧ ∀ q j, (q ≠ p ∨ j < m) → c2 30 q j = c 30 q j ∧ c2 32 q j = c 32 q j
def PX (c : Nat → Nat → Nat → Int32) (p n r : Nat) (side : Int) : Prop := c 27 0 4 = iv (p : Nat) ∧ c 27 0 5 = iv (n : Nat) ∧ c 27 0 6 = iv (r : Nat) ∧ c 27 0 7 = iv side
def Gb (gone : Nat) (pre : List Nat) : Prop := gone < 128 ∧ ∀ b, b < 7 → gone.testBit b = (pre.map (· / 4)).contains b
def clG (K : Ct) (F r : Nat) (side : Int) (j : Nat) (pre : List Nat) (i : Nat) : Option (List Nat) := if (hearA K F ((pre ++ [i]).map (cw K))).isSome && knd K (cw K i) != 5 then (clP K F r side j (pre ++ [i])).map (fun L => i :: L) else none
def SK (K : Ct) (F r : Nat) (side : Int) (p n : Nat) (l : Nat → Nat → Int64) (x y j : Nat) : Prop := ∀ (pre : List Nat) (f gone : Nat) (c : Nat → Nat → Nat → Int32), pre.length + j = n → 2 * j + 6 ≤ f → JR c x K F → PX c p n r side → PV K side [] pre → (hearA K F (pre.map (cw K))).isSome = true → Gb gone pre → ∃ c2 : Nat → Nat → Nat → Int32, E f 56 [vr 27 0, vi (iv (pre.length : Nat)), vi (iv (encO K (hearA K F (pre.map (cw K))))), vi (iv (gone : Nat))] (c, l, x, y) = some (some (vi (iv (if (clP K F r side j pre).isSome then 1 else 0))), c2, l, x, y) ∧ FP c c2 p pre.length ∧ ∀ L, clP K F r side j pre = some L → PW c2 p pre.length L
section
variable {c : Nat → Nat → Nat → Int32} {l : Nat → Nat → Int64} {x y : Nat} {K : Ct} {F r p n : Nat} {side : Int}
theorem FP.refl (c : Nat → Nat → Nat → Int32) (p m : Nat) : FP c c p m := ⟨fun _ _ _ => rfl, fun _ _ _ => ⟨rfl, rfl⟩⟩
theorem FP.tr {c1 c2 c3 : Nat → Nat → Nat → Int32} {p m : Nat} (h : FP c1 c2 p m) (g : FP c2 c3 p m) : FP c1 c3 p m := ⟨fun k h1 h2 => (g.1 k h1 h2).trans (h.1 k h1 h2), fun q j hq => ⟨(g.2 q j hq).1.trans (h.2 q j hq).1, (g.2 q j hq).2.trans (h.2 q j hq).2⟩⟩
theorem FP.mono {c2 : Nat → Nat → Nat → Int32} {p m s : Nat} (h : FP c c2 p m) (hs : s ≤ m) : FP c c2 p s := ⟨h.1, fun q j hq => h.2 q j (by omega)⟩
theorem FP.ui (k p m j : Nat) (v : Int32) (hk : k = 30 ∨ k = 32) (hj : m ≤ j) : FP c (am_ui c k p j v) p m := ⟨fun q h1 h2 => ui_nk _ _ _ _ (by omega), fun q i hq => ⟨ui_ne _ _ _ _ (by omega), ui_ne _ _ _ _ (by omega)⟩⟩
theorem FP_JR {c2 : Nat → Nat → Nat → Int32} {m : Nat} (h : FP c c2 p m) (g : JR c x K F) : JR c2 x K F := JR_fr g (fun k _ _ => h.1 k (by omega) (by omega))
theorem FP_PX {c2 : Nat → Nat → Nat → Int32} {m : Nat} (h : FP c c2 p m) (g : PX c p n r side) : PX c2 p n r side := by
  unfold PX at g ⊢
  rw [h.1 27 (by decide) (by decide)]
  exact g
theorem enc_same (hK : VK K) {s t : Sj} {w : Nat} (hw : w < nW K) (hs : WS K s) (h : hearS K F s w = some t) : (iv (encO K (some t)) = iv (encO K (some s))) = (knd K w = 5) := by
  have hk := (hK.1.2 w hw).2
  have ht := WS_hear hK hw hs h
  have b1 := enc_bd hK hs
  have b2 := enc_bd hK ht
  have p1 := enc_pat hK hs
  have p2 := enc_pat hK ht
  have hb1 := WS_bd hK hs
  show (iv ((encS K t : Nat) : Int) = iv ((encS K s : Nat) : Int)) = _
  rw [iv_eq (by omega) (by omega)]
  apply propext
  have h0 := h
  unfold hearS at h
  split at h
  · rename_i k5
    cases h
    exact ⟨fun _ => k5, fun _ => rfl⟩
  split at h
  · rename_i k5 k2
    split at h
    · rename_i e
      cases h
      refine ⟨fun q => ?_, fun q => absurd q k5⟩
      unfold encS at q
      rw [e] at q
      dsimp only at q
      omega
    · cases h
  split at h
  · rename_i k5 k2 k1
    split at h
    · cases h
      refine ⟨fun q => ?_, fun q => absurd q k5⟩
      rw [q, p1] at p2
      have e := patW_snoc K s.2.2.2 w
      have p2 : ((patW K s.2.2.2 : Nat) : Int) = (patW K (s.2.2.2 ++ [w]) : Nat) := p2
      omega
    · cases h
  · rename_i k5 k2 k1
    cases hf : finS K F s with
    | none => rw [hf] at h; cases h
    | some cs =>
      rw [hf] at h
      cases h
      obtain ⟨i, h1, -⟩ := fin_some hf
      have h2 := fitL_lt hK h1
      refine ⟨fun q => ?_, fun q => absurd q k5⟩
      rw [q, p1] at p2
      have p2 : ((patW K s.2.2.2 : Nat) : Int) = (patW K [] : Nat) := p2
      rw [patW_nil] at p2
      omega
theorem okC_at (K : Ct) (side : Int) (pre : List Nat) (b k : Nat) (hk : k < 4) : okC K side pre (4 * b + k) = (decide (k < (sayK K b).length) && ((side == -1 || ((bnK K b).2.2.1 : Int) == side) && !((pre.map (· / 4)).contains b))) := by
  unfold okC okB
  rw [show (4 * b + k) / 4 = b by omega, show (4 * b + k) % 4 = k by omega, Bool.and_assoc]
theorem cw_at (K : Ct) (b k : Nat) (hk : k < 4) : cw K (4 * b + k) = (sayK K b).getD k 0 := by
  unfold cw
  rw [show (4 * b + k) / 4 = b by omega, show (4 * b + k) % 4 = k by omega]
theorem fs4 {α : Type} (b n : Nat) (s : Bool) (ok : Nat → Bool) (G : Nat → Option α) (hn : n ≤ 4) (h : ∀ k, k < 4 → ok (4 * b + k) = (decide (k < n) && s)) : (List.range' (4 * b) 4).findSome? (fun i => if ok i then G i else none) = if s then (List.range' (4 * b) n).findSome? G else none := by
  have h0 := h 0 (by decide)
  have h1 := h 1 (by decide)
  have h2 := h 2 (by decide)
  have h3 := h 3 (by decide)
  rw [Nat.add_zero] at h0
  rcases (show n = 0 ∨ n = 1 ∨ n = 2 ∨ n = 3 ∨ n = 4 by omega) with rfl | rfl | rfl | rfl | rfl <;> cases s <;> simp [List.range', List.findSome?_cons, h0, h1, h2, h3, Nat.add_assoc]
theorem PW_cons {m i : Nat} {L : List Nat} (h : PW c p (m + 1) L) (h1 : c 30 p m = iv ((i / 4 : Nat) : Int)) (h2 : c 32 p m = iv ((i % 4 : Nat) : Int)) : PW c p m (i :: L) := by
  intro k hk
  cases k with
  | zero => exact ⟨h1, h2⟩
  | succ k =>
    rw [List.length_cons] at hk
    have := h k (by omega)
    rw [show m + (k + 1) = m + 1 + k by omega]
    exact this
theorem e57 {j : Nat} (hS : SK K F r side p n l x y j) (hp : p < 6) (hn : n ≤ 4) {pre : List Nat} {f gone b : Nat} (hl : pre.length + (j + 1) = n) (hf : 2 * j + 7 ≤ f) (hJ : JR c x K F) (hX : PX c p n r side) (hV : PV K side [] pre) {s : Sj} (hs : hearA K F (pre.map (cw K)) = some s) (hb : b < nB K) (hG : ∀ k, k < 4 → Gb gone (pre ++ [4 * b + k])) (hok : ∀ k, k < (sayK K b).length → okC K side pre (4 * b + k) = true) (h30 : c 30 p pre.length = iv (b : Nat)) : ∃ c2 : Nat → Nat → Nat → Int32, E f 57 [vr 27 0, vi (iv (pre.length : Nat)), vi (iv (encO K (hearA K F (pre.map (cw K))))), vi (iv (gone : Nat))] (c, l, x, y) = some (some (vi (iv (if ((List.range' (4 * b) (sayK K b).length).findSome? (clG K F r side j pre)).isSome then 1 else 0))), c2, l, x, y) ∧ FP c c2 p pre.length ∧ ∀ L, (List.range' (4 * b) (sayK K b).length).findSome? (clG K F r side j pre) = some L → PW c2 p pre.length L := by
  have hnb := hJ.2.1.2.2.2.1.1
  have hvb := hJ.2.1.2.2.2.1.2 b hb
  have hWO : WO K (hearA K F (pre.map (cw K))) := WO_hearA hJ.2.1 _ (PV_lt hJ.2.1 pre [] hV)
  obtain ⟨g, rfl⟩ : ∃ g, f = g + 1 := ⟨f - 1, by omega⟩
  obtain ⟨g4, hg4⟩ : ∃ g4, g = g4 + 4 := ⟨g - 4, by omega⟩
  have key : ∀ (m k : Nat) (c : Nat → Nat → Nat → Int32), k + m = (sayK K b).length → JR c x K F → PX c p n r side → c 30 p pre.length = iv (b : Nat) → ∃ c2 : Nat → Nat → Nat → Int32, X (g + 1) 57 15 [some (vr 27 0), some (vi (iv (pre.length : Nat))), some (vi (iv (encO K (hearA K F (pre.map (cw K)))))), some (vi (iv (gone : Nat))), some (vr 18 (b + x * 7)), some (vi (iv (k : Nat))), none] [] (c, l, x, y) = some (some (vi (iv (if ((List.range' (4 * b + k) m).findSome? (clG K F r side j pre)).isSome then 1 else 0))), c2, l, x, y) ∧ FP c c2 p pre.length ∧ ∀ L, (List.range' (4 * b + k) m).findSome? (clG K F r side j pre) = some L → PW c2 p pre.length L := by
    intro m
    induction m with
    | zero =>
      intro k c hk hJ hX h30
      refine ⟨c, ?_, FP.refl c _ _, fun L q => ?_⟩
      · rw [q_57_15]
        simp (disch := omega) only [iv_add, iv_sub, iv_mul, iv_neg, iv_lt, iv_le, iv_eq, iv_nat, iv_L, iv_L2, am_bi_v, am_bv_v, am_bl_v, if_pos, if_neg, Int.toNat_natCast, Int.toNat_add, Int.toNat_mul, Int.reduceToNat, (hJ.1.2.2.2.1.2 b hb).1]
        rfl
      · rw [show List.range' (4 * b + k) 0 = [] from rfl, List.findSome?_nil] at q
        cases q
    | succ m ih =>
      intro k c hk hJ hX h30
      have hk4 : k < 4 := by omega
      have hkl : k < (sayK K b).length := by omega
      have hwk := say_lt hJ.2.1 hb _ (getD_mem hkl)
      have hbw := hJ.1.2.2.2.1.2 b hb
      have h40 := e40 (l := l) (y := y) hJ hWO hwk g4
      have hmap : (pre ++ [4 * b + k]).map (cw K) = pre.map (cw K) ++ [(sayK K b).getD k 0] := by
        rw [List.map_append, List.map_singleton, cw_at K b k hk4]
      have hwo2 : WO K (hearO K F (hearA K F (pre.map (cw K))) ((sayK K b).getD k 0)) := WO_hear hJ.2.1 hwk hWO
      rw [← hg4] at h40
      have hc1 : JR (am_ui c 32 p pre.length (iv (k : Nat))) x K F := JR_fr hJ (fun q _ _ => ui_nk _ _ _ _ (by omega))
      have hX1 : PX (am_ui c 32 p pre.length (iv (k : Nat))) p n r side := FP_PX (m := pre.length) (FP.ui _ _ _ _ _ (by omega) (by omega)) hX
      have h301 : am_ui c 32 p pre.length (iv (k : Nat)) 30 p pre.length = iv (b : Nat) := by rw [ui_nk _ _ _ _ (by omega)]; exact h30
      rw [q_57_15]
      simp (disch := omega) only [iv_add, iv_sub, iv_mul, iv_neg, iv_lt, iv_le, iv_eq, iv_nat, iv_L, iv_L2, am_bi_v, am_bv_v, am_bl_v, if_pos, if_neg, Int.toNat_natCast, Int.toNat_add, Int.toNat_mul, Int.reduceToNat, hbw.1, hbw.2.2.2.2 k hkl]
      rw [h40]
      simp (disch := omega) only [iv_add, iv_sub, iv_mul, iv_neg, iv_lt, iv_le, iv_eq, iv_nat, iv_L, iv_L2, am_bi_v, am_bv_v, am_bl_v, if_pos, if_neg, Int.toNat_natCast, Int.toNat_add, Int.toNat_mul, Int.reduceToNat, hX.1]
      rw [show ((k : Int) + 1) = ((k + 1 : Nat) : Int) by omega, List.range'_succ, List.findSome?_cons]
      have hcl : clG K F r side j pre (4 * b + k) = if (hearO K F (hearA K F (pre.map (cw K))) ((sayK K b).getD k 0)).isSome && knd K ((sayK K b).getD k 0) != 5 then (clP K F r side j (pre ++ [4 * b + k])).map (fun L => (4 * b + k) :: L) else none := by
        unfold clG
        rw [hmap, hearA_snoc, cw_at K b k hk4]
      cases ho : hearO K F (hearA K F (pre.map (cw K))) ((sayK K b).getD k 0) with
      | none =>
        rw [ho] at hcl
        rw [hcl, show encO K none = -1 from rfl, if_pos rfl]
        obtain ⟨c2, k1, k2, k3⟩ := ih (k + 1) _ (by omega) hc1 hX1 h301
        exact ⟨c2, k1, (FP.ui _ _ _ _ _ (by omega) (by omega)).tr k2, k3⟩
      | some t =>
        rw [ho] at hcl hwo2
        have hne : ¬ iv (encO K (some t)) = iv (-1) := by
          have := enc_eq hJ.2.1 hwo2
          rw [show (iv (-1)) = (-1 : Int32) from rfl, this]
          simp
        rw [if_neg hne, hs]
        have hsm : (iv (encO K (some t)) = iv (encO K (some s))) = (knd K ((sayK K b).getD k 0) = 5) := by
          rw [hs] at ho
          exact enc_same hJ.2.1 hwk (hWO s hs) ho
        simp only [hsm]
        by_cases h5 : knd K ((sayK K b).getD k 0) = 5
        · rw [if_pos h5]
          rw [Option.isSome_some, Bool.true_and, h5, if_neg (by decide)] at hcl
          rw [hcl]
          obtain ⟨c2, k1, k2, k3⟩ := ih (k + 1) _ (by omega) hc1 hX1 h301
          rw [hs] at k1
          exact ⟨c2, k1, (FP.ui _ _ _ _ _ (by omega) (by omega)).tr k2, k3⟩
        · rw [if_neg h5]
          rw [Option.isSome_some, Bool.true_and, if_pos (by rw [bne_iff_ne]; exact h5)] at hcl
          have hV2 : PV K side [] (pre ++ [4 * b + k]) := (PV_app pre [] _).mpr ⟨hV, by rw [List.nil_append]; exact ⟨by omega, hok k hkl, trivial⟩⟩
          have hh2 : hearA K F ((pre ++ [4 * b + k]).map (cw K)) = some t := by rw [hmap, hearA_snoc, ho]
          obtain ⟨c2, k1, k2, k3⟩ := hS (pre ++ [4 * b + k]) g gone _ (by rw [List.length_append]; simp; omega) (by omega) hc1 hX1 hV2 (by rw [hh2]; rfl) (hG k hk4)
          rw [hh2, show ((pre ++ [4 * b + k]).length : Int) = (pre.length : Int) + 1 by rw [List.length_append]; simp] at k1
          rw [show (pre ++ [4 * b + k]).length = pre.length + 1 by rw [List.length_append]; rfl] at k2 k3
          rw [k1]
          simp only [am_bi_v]
          cases hcp : clP K F r side j (pre ++ [4 * b + k]) with
          | some L =>
            rw [hcp] at hcl
            rw [hcl, Option.isSome_some, if_pos rfl, if_neg (by decide)]
            refine ⟨c2, rfl, (FP.ui _ _ _ _ _ (by omega) (by omega)).tr (k2.mono (by omega)), fun M q => ?_⟩
            cases q
            refine PW_cons (k3 L hcp) ?_ ?_
            · rw [(k2.2 p pre.length (by omega)).1, h301, show (4 * b + k) / 4 = b by omega]
            · rw [(k2.2 p pre.length (by omega)).2, ui_self, show (4 * b + k) % 4 = k by omega]
          | none =>
            rw [hcp] at hcl
            rw [hcl, Option.isSome_none, if_neg (by decide : ¬ false = true), if_pos rfl]
            obtain ⟨c3, j1, j2, j3⟩ := ih (k + 1) c2 (by omega) (FP_JR k2 hc1) (FP_PX k2 hX1) (by rw [(k2.2 p pre.length (by omega)).1]; exact h301)
            rw [hs] at j1
            exact ⟨c3, j1, ((FP.ui _ _ _ _ _ (by omega) (by omega)).tr (k2.mono (by omega))).tr j2, j3⟩
  obtain ⟨c2, k1, k2, k3⟩ := key (sayK K b).length 0 c (Nat.zero_add _) hJ hX h30
  refine ⟨c2, ?_, k2, k3⟩
  rw [q_57]
  simp (disch := omega) only [iv_add, iv_sub, iv_mul, iv_neg, iv_lt, iv_le, iv_eq, iv_nat, iv_L, iv_L2, am_bi_v, am_bv_v, am_bl_v, if_pos, if_neg, Int.toNat_natCast, Int.toNat_add, Int.toNat_mul, Int.reduceToNat, hX.1, h30]
  exact k1
theorem Gb_add {pre : List Nat} {gone b : Nat} (h : Gb gone pre) (hb : b < 7) (k : Nat) (hk : k < 4) : Gb (gone ||| 2 ^ b) (pre ++ [4 * b + k]) := by
  refine ⟨Nat.or_lt_two_pow (n := 7) h.1 (Nat.pow_lt_pow_right (by decide) hb), ?_⟩
  intro j hj
  rw [Nat.testBit_or, h.2 j hj, List.map_append, List.map_singleton, show (4 * b + k) / 4 = b by omega, Nat.testBit_two_pow]
  rw [Bool.eq_iff_iff]
  simp only [Bool.or_eq_true, List.contains_iff_mem, List.mem_append, List.mem_singleton, decide_eq_true_eq]
  constructor
  · rintro (q | q)
    · exact Or.inl q
    · exact Or.inr q.symm
  · rintro (q | q)
    · exact Or.inl q
    · exact Or.inr q.symm
theorem sk0 (hr : r < 3) (hn : n ≤ 4) : SK K F r side p n l x y 0 := by
  intro pre f gone c hl hf hJ hX hV hs hG
  obtain ⟨g, rfl⟩ : ∃ g, f = g + 5 := ⟨f - 5, by omega⟩
  have h3 := rul_lt K F (pre.map (cw K))
  refine ⟨c, ?_, FP.refl c _ _, fun L q => ?_⟩
  · have h50 : E (g + 4) 50 [vr 20 0, vi (iv (encO K (hearA K F (pre.map (cw K)))))] (c, l, x, y) = some (some (vi (iv (rul K F (pre.map (cw K))))), c, l, x, y) := e50 hJ (WO_hearA hJ.2.1 _ (PV_lt hJ.2.1 pre [] hV)) g
    rw [q_56, hX.2.1, if_neg (by rw [iv_lt (by omega) (by omega)]; omega), h50]
    simp (disch := omega) only [am_bi_v, hX.2.2.1, iv_eq]
    unfold clP
    by_cases e : rul K F (pre.map (cw K)) = r
    · rw [if_pos (by omega), if_pos e]; rfl
    · rw [if_neg (by omega), if_neg e]; rfl
  · unfold clP at q
    split at q
    · cases q
      exact fun k hk => absurd hk (Nat.not_lt_zero _)
    · cases q
theorem sks {j : Nat} (hS : SK K F r side p n l x y j) (hr : r < 3) (hp : p < 6) (hn : n ≤ 4) (hsd : -1 ≤ side ∧ side ≤ 1) : SK K F r side p n l x y (j + 1) := by
  intro pre f gone c hl hf hJ hX hV hs hG
  have hnb := hJ.2.1.2.2.2.1.1
  obtain ⟨g, rfl⟩ : ∃ g, f = g + 1 := ⟨f - 1, by omega⟩
  obtain ⟨g3, hg3⟩ : ∃ g3, g = g3 + 3 := ⟨g - 3, by omega⟩
  obtain ⟨s, hs'⟩ := Option.isSome_iff_exists.mp hs
  have hWO : WO K (hearA K F (pre.map (cw K))) := WO_hearA hJ.2.1 _ (PV_lt hJ.2.1 pre [] hV)
  have hg1 := hG.1
  have hcl : clP K F r side (j + 1) pre = if j + 1 < misS K F s then none else (List.range (4 * nB K)).findSome? (fun i => if okC K side pre i then clG K F r side j pre i else none) := by
    rw [clP, hs']
    show (if j + 1 < misS K F s then none else _) = _
    congr 1
    refine fs_congr _ _ _ (fun i _ => ?_)
    unfold clG
    cases okC K side pre i <;> rfl
  have key : ∀ (m b : Nat) (c : Nat → Nat → Nat → Int32), b + m = nB K → JR c x K F → PX c p n r side → ∃ c2 : Nat → Nat → Nat → Int32, X (g + 1) 56 28 [some (vr 27 0), some (vi (iv (pre.length : Nat))), some (vi (iv (encO K (hearA K F (pre.map (cw K)))))), some (vi (iv (gone : Nat))), some (vi (iv (b : Nat)))] [] (c, l, x, y) = some (some (vi (iv (if ((List.range' (4 * b) (4 * m)).findSome? (fun i => if okC K side pre i then clG K F r side j pre i else none)).isSome then 1 else 0))), c2, l, x, y) ∧ FP c c2 p pre.length ∧ ∀ L, (List.range' (4 * b) (4 * m)).findSome? (fun i => if okC K side pre i then clG K F r side j pre i else none) = some L → PW c2 p pre.length L := by
    intro m
    induction m with
    | zero =>
      intro b c hb hJ hX
      refine ⟨c, ?_, FP.refl c _ _, fun L q => ?_⟩
      · rw [q_56_28]
        simp (disch := omega) only [iv_add, iv_sub, iv_mul, iv_neg, iv_lt, iv_le, iv_eq, iv_nat, iv_L, iv_L2, am_bi_v, am_bv_v, am_bl_v, if_pos, if_neg, Int.toNat_natCast, Int.toNat_add, Int.toNat_mul, Int.reduceToNat, hJ.1.2.2.2.1.1]
        rfl
      · rw [show List.range' (4 * b) (4 * 0) = [] from rfl, List.findSome?_nil] at q
        cases q
    | succ m ih =>
      intro b c hb hJ hX
      have hbn : b < nB K := by omega
      have hvb := hJ.2.1.2.2.2.1.2 b hbn
      have hbw := hJ.1.2.2.2.1.2 b hbn
      rw [rng4, List.findSome?_append, fs4 b (sayK K b).length _ _ (clG K F r side j pre) hvb.2.2.2.2.1 (fun k hk => okC_at K side pre b k hk)]
      have hbit : (iv ((gone : Nat) : Int) >>> (iv ((b : Nat) : Int) &&& iv 31)) &&& iv 1 = iv (if (pre.map (· / 4)).contains b then 1 else 0) := by
        rw [iv_m31 (by omega), show ((b : Int) % 32) = (b : Int) by omega, iv_bit (by omega) (by omega), Int.toNat_natCast, Int.toNat_natCast, hG.2 b (by omega)]
      have hskip : ∀ cc : Bool, cc = false → (∃ c2 : Nat → Nat → Nat → Int32, X (g + 1) 56 28 [some (vr 27 0), some (vi (iv (pre.length : Nat))), some (vi (iv (encO K (hearA K F (pre.map (cw K)))))), some (vi (iv (gone : Nat))), some (vi (iv ((b : Int) + 1)))] [] (c, l, x, y) = some (some (vi (iv (if ((if cc then (List.range' (4 * b) (sayK K b).length).findSome? (clG K F r side j pre) else none).or ((List.range' (4 * (b + 1)) (4 * m)).findSome? (fun i => if okC K side pre i then clG K F r side j pre i else none))).isSome then 1 else 0))), c2, l, x, y) ∧ FP c c2 p pre.length ∧ ∀ L, (if cc then (List.range' (4 * b) (sayK K b).length).findSome? (clG K F r side j pre) else none).or ((List.range' (4 * (b + 1)) (4 * m)).findSome? (fun i => if okC K side pre i then clG K F r side j pre i else none)) = some L → PW c2 p pre.length L) := by
        intro cc hcc
        subst hcc
        rw [if_neg Bool.false_ne_true, Option.none_or]
        exact ih (b + 1) c (by omega) hJ hX
      rw [q_56_28]
      simp (disch := omega) only [iv_add, iv_sub, iv_mul, iv_neg, iv_lt, iv_le, iv_eq, iv_nat, iv_L, iv_L2, am_bi_v, am_bv_v, am_bl_v, if_pos, if_neg, Int.toNat_natCast, Int.toNat_add, Int.toNat_mul, Int.reduceToNat, hJ.1.2.2.2.1.1, hbw.2.2.2.1, hX.2.2.2]
      rw [hbit]
      by_cases hc : (pre.map (· / 4)).contains b = true
      · rw [if_pos hc, if_neg (show ¬ iv 1 = iv 0 by decide), hc, Bool.not_true, Bool.and_false]
        exact hskip false rfl
      · have hc := Bool.eq_false_iff.mpr hc
        have hgo : (side == -1 || ((bnK K b).2.2.1 : Int) == side) = true → ∃ c2 : Nat → Nat → Nat → Int32, X (g + 1) 56 54 [some (vr 27 0), some (vi (iv (pre.length : Nat))), some (vi (iv (encO K (hearA K F (pre.map (cw K)))))), some (vi (iv (gone : Nat))), some (vi (iv (b : Nat)))] [] (c, l, x, y) = some (some (vi (iv (if ((List.range' (4 * b) (sayK K b).length).findSome? (clG K F r side j pre)).or ((List.range' (4 * (b + 1)) (4 * m)).findSome? (fun i => if okC K side pre i then clG K F r side j pre i else none)) |>.isSome then 1 else 0))), c2, l, x, y) ∧ FP c c2 p pre.length ∧ ∀ L, ((List.range' (4 * b) (sayK K b).length).findSome? (clG K F r side j pre)).or ((List.range' (4 * (b + 1)) (4 * m)).findSome? (fun i => if okC K side pre i then clG K F r side j pre i else none)) = some L → PW c2 p pre.length L := by
          intro hsd2
          have fp1 : FP c (am_ui c 30 p pre.length (iv (b : Nat))) p pre.length := FP.ui _ _ _ _ _ (by omega) (by omega)
          obtain ⟨c2, k1, k2, k3⟩ := e57 (f := g) hS hp hn hl (by omega) (FP_JR fp1 hJ) (FP_PX fp1 hX) hV hs' hbn (fun k hk => Gb_add hG (by omega) k hk) (fun k hk => by
            rw [okC_at K side pre b k (by omega), hsd2, hc, decide_eq_true hk]
            rfl) (ui_self _ _ _ _)
          rw [q_56_54]
          simp (disch := omega) only [iv_add, iv_sub, iv_mul, iv_neg, iv_lt, iv_le, iv_eq, iv_nat, iv_L, iv_L2, am_bi_v, am_bv_v, am_bl_v, if_pos, if_neg, Int.toNat_natCast, Int.toNat_add, Int.toNat_mul, Int.reduceToNat, hX.1]
          rw [or_iv hg1 (show b < 7 by omega), k1]
          simp only [am_bi_v]
          cases hq : (List.range' (4 * b) (sayK K b).length).findSome? (clG K F r side j pre) with
          | some L =>
            rw [Option.isSome_some, if_pos rfl, if_neg (by decide), Option.some_or]
            exact ⟨c2, rfl, fp1.tr k2, fun M q => k3 M (by rw [hq]; exact q)⟩
          | none =>
            rw [Option.isSome_none, if_neg (by decide : ¬ false = true), if_pos rfl, Option.none_or]
            obtain ⟨c3, j1, j2, j3⟩ := ih (b + 1) c2 (by omega) (FP_JR k2 (FP_JR fp1 hJ)) (FP_PX k2 (FP_PX fp1 hX))
            exact ⟨c3, j1, (fp1.tr k2).tr j2, j3⟩
        rw [hc, if_neg Bool.false_ne_true, if_pos rfl, Bool.not_false, Bool.and_true]
        by_cases h1 : side = -1
        · rw [if_pos h1]
          have e : (side == -1 || ((bnK K b).2.2.1 : Int) == side) = true := by rw [h1]; rfl
          rw [e, if_pos rfl]
          exact hgo e
        · rw [if_neg h1]
          by_cases h2 : side = (bnK K b).2.2.1
          · rw [if_pos (by omega)]
            have e : (side == -1 || ((bnK K b).2.2.1 : Int) == side) = true := by rw [Bool.or_eq_true, beq_iff_eq, beq_iff_eq]; exact Or.inr h2.symm
            rw [e, if_pos rfl]
            exact hgo e
          · rw [if_neg (by omega)]
            exact hskip _ (by rw [Bool.or_eq_false_iff, beq_eq_false_iff_ne, beq_eq_false_iff_ne]; exact ⟨h1, fun q => h2 q.symm⟩)
  have h52 := e52 (l := l) (y := y) hJ (hWO s hs') g3
  rw [← hg3] at h52
  have hmis : iv ((if finS K F s = none then (if s.2.2.2 = [] then 2 else 1) else 0 : Int)) = iv ((misS K F s : Nat) : Int) := by
    unfold misS
    split
    · split <;> rfl
    · rfl
  have hm2 : misS K F s ≤ 2 := by
    unfold misS
    split
    · split <;> omega
    · omega
  have henc : encO K (hearA K F (pre.map (cw K))) = (encS K s : Nat) := by rw [hs']; rfl
  rw [q_56, hX.2.1, if_pos (by rw [iv_lt (by omega) (by omega)]; omega), henc, h52, ← henc]
  simp only [am_bi_v]
  simp only [hmis, hX.2.1, iv_sub]
  have hk := key (nB K) 0 c (by omega) hJ hX
  rw [Nat.mul_zero, ← List.range_eq_range'] at hk
  rw [hcl]
  by_cases hm : j + 1 < misS K F s
  · rw [if_pos (by rw [iv_lt (by omega) (by omega)]; omega), if_pos hm]
    exact ⟨c, rfl, FP.refl c _ _, fun L q => by cases q⟩
  · rw [if_neg (by rw [iv_lt (by omega) (by omega)]; omega), if_neg hm]
    exact hk
theorem skA (hr : r < 3) (hp : p < 6) (hn : n ≤ 4) (hsd : -1 ≤ side ∧ side ≤ 1) : ∀ j, SK K F r side p n l x y j
  | 0 => sk0 hr hn
  | j + 1 => sks (skA hr hp hn hsd j) hr hp hn hsd
/-- the fewest -/
theorem e55 (hJ : JR c x K F) (hr : r = 1 ∨ r = 2) (hp : p < 6) (hsd : -1 ≤ side ∧ side ≤ 1) (h4 : c 27 0 4 = iv (p : Nat)) (h6 : c 27 0 6 = iv (r : Nat)) (h7 : c 27 0 7 = iv side) (d : Nat) : ∃ c2 : Nat → Nat → Nat → Int32, E (d + 20) 55 [vr 27 0] (c, l, x, y) = some (some (vi (iv (match plnS K F r side 4 with
    | some L => (L.length : Int)
    | none => -1))), c2, l, x, y) ∧ (∀ k, k ≠ 27 → k ≠ 30 → k ≠ 32 → c2 k = c k) ∧ (∀ s, s ≠ 5 → c2 27 0 s = c 27 0 s) ∧ (∀ q j, q ≠ p → c2 30 q j = c 30 q j ∧ c2 32 q j = c 32 q j) ∧ ∀ L, plnS K F r side 4 = some L → PW c2 p 0 L := by
  have key : ∀ (m n : Nat) (c : Nat → Nat → Nat → Int32), n + m = 5 → 1 ≤ n → JR c x K F → PX c p n r side → (∀ j, 1 ≤ j → j < n → fstP K F r side j [] = none) → ∃ c2 : Nat → Nat → Nat → Int32, X (d + 20) 55 3 [some (vr 27 0)] [] (c, l, x, y) = some (some (vi (iv (match (List.range' n m).findSome? (fun n => fstP K F r side n []) with
    | some L => (L.length : Int)
    | none => -1))), c2, l, x, y) ∧ (∀ k, k ≠ 27 → k ≠ 30 → k ≠ 32 → c2 k = c k) ∧ (∀ s, s ≠ 5 → c2 27 0 s = c 27 0 s) ∧ (∀ q j, q ≠ p → c2 30 q j = c 30 q j ∧ c2 32 q j = c 32 q j) ∧ ∀ L, (List.range' n m).findSome? (fun n => fstP K F r side n []) = some L → PW c2 p 0 L := by
    intro m
    induction m with
    | zero =>
      intro n c hn h1 hJ hX hno
      refine ⟨c, ?_, fun _ _ _ _ => rfl, fun _ _ => rfl, fun _ _ _ => ⟨rfl, rfl⟩, fun L q => by cases q⟩
      rw [q_55_3, hX.2.1]
      simp (disch := omega) only [iv_add, iv_sub, iv_mul, iv_neg, iv_lt, iv_le, iv_eq, iv_nat, iv_L, iv_L2, am_bi_v, am_bv_v, am_bl_v, if_pos, if_neg, Int.toNat_natCast, Int.toNat_add, Int.toNat_mul, Int.reduceToNat]
      rfl
    | succ m ih =>
      intro n c hn h1 hJ hX hno
      have hK := hJ.2.1
      have heq : clP K F r side n [] = fstP K F r side n [] := by
        refine clP_eq hK (by omega) (n := n) (fun L hl hv => ?_) n [] (by simp) trivial rfl
        cases L with
        | nil => rw [List.map_nil, rul_nil K F hK]; omega
        | cons a L =>
          have := (fstP_none _ _).mp (hno (a :: L).length (by simp) (by omega)) (a :: L) rfl hv
          rw [List.nil_append] at this
          exact this
      obtain ⟨c2, k1, k2, k3⟩ := skA (l := l) (x := x) (y := y) (by omega) hp (show n ≤ 4 by omega) hsd n [] (d + 19) 0 c (by simp) (by omega) hJ hX trivial rfl ⟨by decide, fun b _ => by rw [Nat.zero_testBit]; rfl⟩
      rw [List.map_nil, enc_start, heq] at k1
      have k1 : E (d + 19) 56 [vr 27 0, vi (iv 0), vi (iv 32768), vi (iv 0)] (c, l, x, y) = _ := k1
      rw [q_55_3, hX.2.1]
      simp (disch := omega) only [iv_add, iv_sub, iv_mul, iv_neg, iv_lt, iv_le, iv_eq, iv_nat, iv_L, iv_L2, am_bi_v, am_bv_v, am_bl_v, if_pos, if_neg, Int.toNat_natCast, Int.toNat_add, Int.toNat_mul, Int.reduceToNat]
      rw [k1]
      simp only [am_bi_v]
      rw [List.range'_succ, List.findSome?_cons]
      have f27 : c2 27 = c 27 := k2.1 27 (by decide) (by decide)
      cases hf : fstP K F r side n [] with
      | some L =>
        rw [Option.isSome_some, if_pos rfl, if_neg (by decide)]
        have hl := (fstP_some n [] L hf).1
        refine ⟨c2, ?_, fun k a1 a2 a3 => k2.1 k a2 a3, fun s _ => by rw [f27], fun q j hq => k2.2 q j (Or.inl hq), fun M q => ?_⟩
        · rw [f27, hX.2.1, ← hl]
        · cases q
          exact k3 L (by rw [heq]; exact hf)
      | none =>
        rw [Option.isSome_none, if_neg (by decide : ¬ false = true), if_pos rfl, f27, hX.2.1, iv_add]
        obtain ⟨c3, j1, j2, j3, j4, j5⟩ := ih (n + 1) (am_ui c2 27 0 5 (iv ((n : Int) + 1))) (by omega) (by omega) (JR_fr (FP_JR k2 hJ) (fun k _ _ => ui_nk _ _ _ _ (by omega))) (by
          refine ⟨?_, ui_self _ _ _ _, ?_, ?_⟩
          · rw [ui_ne _ _ _ _ (by omega), f27]; exact hX.1
          · rw [ui_ne _ _ _ _ (by omega), f27]; exact hX.2.2.1
          · rw [ui_ne _ _ _ _ (by omega), f27]; exact hX.2.2.2) (fun j q1 q2 => by
          by_cases e : j = n
          · subst e; exact hf
          · exact hno j q1 (by omega))
        refine ⟨c3, j1, fun k a1 a2 a3 => ?_, fun s hs => ?_, fun q j hq => ?_, j5⟩
        · rw [j2 k a1 a2 a3, ui_nk _ _ _ _ a1, k2.1 k a2 a3]
        · rw [j3 s hs, ui_ne _ _ _ _ (by omega), f27]
        · rw [(j4 q j hq).1, (j4 q j hq).2, ui_nk _ _ _ _ (by omega), ui_nk _ _ _ _ (by omega)]
          exact k2.2 q j (Or.inl hq)
  obtain ⟨c2, k1, k2, k3, k4, k5⟩ := key 4 1 (am_ui c 27 0 5 (iv 1)) (by omega) (by omega) (JR_fr hJ (fun k _ _ => ui_nk _ _ _ _ (by omega))) (by
    refine ⟨?_, ui_self _ _ _ _, ?_, ?_⟩
    · rw [ui_ne _ _ _ _ (by omega)]; exact h4
    · rw [ui_ne _ _ _ _ (by omega)]; exact h6
    · rw [ui_ne _ _ _ _ (by omega)]; exact h7) (fun j q1 q2 => by omega)
  refine ⟨c2, ?_, fun k a1 a2 a3 => ?_, fun s hs => ?_, fun q j hq => ?_, k5⟩
  · rw [q_55]; exact k1
  · rw [k2 k a1 a2 a3, ui_nk _ _ _ _ a1]
  · rw [k3 s hs, ui_ne _ _ _ _ (by omega)]
  · rw [(k4 q j hq).1, (k4 q j hq).2, ui_nk _ _ _ _ (by omega), ui_nk _ _ _ _ (by omega)]
    exact ⟨rfl, rfl⟩
def telP (o : Option (List Nat)) (k : Int) : Int := match o with
  | none => -1
  | some L => if k = -1 then (L.length : Int) else if 0 ≤ k ∧ k < L.length then ((L.getD k.toNat 0 / 4 : Nat) : Int) else if 10 ≤ k ∧ k < 10 + L.length then ((L.getD (k - 10).toNat 0 % 4 : Nat) : Int) else -1
/-- plan, as it is told -/
def planS (K : Ct) (F : Nat) (r side kind k : Int) : Int := if (1 ≤ r ∧ r ≤ 2) ∧ (-1 ≤ side ∧ side ≤ 1) ∧ kind = 0 then telP (plnS K F r.toNat side 4) k else -1
theorem pln_len {m : Nat} {L : List Nat} (h : plnS K F r side m = some L) : 1 ≤ L.length ∧ L.length ≤ m := by
  obtain ⟨n, h1, h2⟩ := List.exists_of_findSome?_eq_some h
  rw [List.mem_range'_1] at h1
  have := (fstP_some n [] L h2).1
  omega
/-- what the planner may write -/
def PN (c c2 : Nat → Nat → Nat → Int32) : Prop := ∀ k, k < 27 ∨ 32 < k → c2 k = c k
theorem e54 (hJ : JR c x K F) (hC : PlC c K F) (hr : r = 1 ∨ r = 2) (hsd : -1 ≤ side ∧ side ≤ 1) {k : Int} (hk : -2147483648 ≤ k ∧ k < 2147483648) (d : Nat) : ∃ c2 : Nat → Nat → Nat → Int32, E (d + 21) 54 [vr 27 0, vi (iv (r : Nat)), vi (iv side), vi (iv k)] (c, l, x, y) = some (some (vi (iv (telP (plnS K F r side 4) k))), c2, l, x, y) ∧ PN c c2 ∧ PlC c2 K F := by
  obtain ⟨p, hp⟩ : ∃ p : Nat, (p : Int) = 3 * ((r : Int) - 1) + side + 1 := ⟨(3 * ((r : Int) - 1) + side + 1).toNat, by omega⟩
  have hp6 : p < 6 := by omega
  have hpr : p / 3 + 1 = r := by omega
  have hps : sdOf p = side := by unfold sdOf; omega
  -- with a known plan it is told
  have htell : ∀ c : Nat → Nat → Nat → Int32, c 27 0 4 = iv (p : Nat) → (match plnS K F r side 4 with
      | none => c 28 0 p = iv (-1)
      | some L => c 28 0 p = iv (L.length : Nat) ∧ PW c p 0 L) → X (d + 21) 54 31 [some (vr 27 0), none, none, some (vi (iv k))] [] (c, l, x, y) = some (some (vi (iv (telP (plnS K F r side 4) k))), c, l, x, y) := by
    intro c h4 hm
    cases hL : plnS K F r side 4 with
    | none =>
      rw [hL] at hm
      have hm : c 28 0 p = iv (-1) := hm
      show _ = some (some (vi (iv (-1))), c, l, x, y)
      have e57 : X (d + 21) 54 57 [some (vr 27 0), none, none, some (vi (iv k))] [] (c, l, x, y) = some (some (vi (iv (-1))), c, l, x, y) := by
        rw [q_54_57, h4]
        simp (disch := omega) only [iv_add, iv_sub, iv_mul, iv_neg, iv_lt, iv_le, iv_eq, iv_nat, iv_L, iv_L2, am_bi_v, am_bv_v, am_bl_v, if_pos, if_neg, Int.toNat_natCast, Int.toNat_add, Int.toNat_mul, Int.reduceToNat, iv_neg, hm]
        by_cases a : k < 10
        · rw [if_pos a]
        · rw [if_neg a]
      rw [q_54_31, h4]
      simp (disch := omega) only [iv_add, iv_sub, iv_mul, iv_neg, iv_lt, iv_le, iv_eq, iv_nat, iv_L, iv_L2, am_bi_v, am_bv_v, am_bl_v, if_pos, if_neg, Int.toNat_natCast, Int.toNat_add, Int.toNat_mul, Int.reduceToNat, iv_neg, hm]
      by_cases a : k = -1
      · rw [if_pos a]
      · rw [if_neg a]
        by_cases b : k < 0
        · rw [if_pos b]; exact e57
        · rw [if_neg b]; exact e57
    | some L =>
      rw [hL] at hm
      obtain ⟨hm1, hm2⟩ : c 28 0 p = iv (L.length : Nat) ∧ PW c p 0 L := hm
      have hl := pln_len hL
      unfold telP
      dsimp only
      have e57 : (k < 0 ∨ (L.length : Int) ≤ k) → k ≠ -1 → X (d + 21) 54 57 [some (vr 27 0), none, none, some (vi (iv k))] [] (c, l, x, y) = some (some (vi (iv (if 10 ≤ k ∧ k < 10 + L.length then ((L.getD (k - 10).toNat 0 % 4 : Nat) : Int) else -1))), c, l, x, y) := by
        intro h1 h2
        rw [q_54_57, h4]
        simp (disch := omega) only [iv_add, iv_sub, iv_mul, iv_neg, iv_lt, iv_le, iv_eq, iv_nat, iv_L, iv_L2, am_bi_v, am_bv_v, am_bl_v, if_pos, if_neg, Int.toNat_natCast, Int.toNat_add, Int.toNat_mul, Int.reduceToNat, iv_neg, hm1]
        by_cases a : k < 10
        · rw [if_pos a, if_neg (by omega)]
        · rw [if_neg a]
          by_cases b : k < 10 + (L.length : Int)
          · obtain ⟨q, hq⟩ : ∃ q : Nat, (q : Int) = k - 10 := ⟨(k - 10).toNat, by omega⟩
            have := (hm2 q (by omega)).2
            rw [Nat.zero_add] at this
            rw [if_pos b, if_pos (by omega), ← hq, Int.toNat_natCast, this]
          · rw [if_neg b, if_neg (by omega)]
      rw [q_54_31, h4]
      simp (disch := omega) only [iv_add, iv_sub, iv_mul, iv_neg, iv_lt, iv_le, iv_eq, iv_nat, iv_L, iv_L2, am_bi_v, am_bv_v, am_bl_v, if_pos, if_neg, Int.toNat_natCast, Int.toNat_add, Int.toNat_mul, Int.reduceToNat, iv_neg, hm1]
      by_cases a : k = -1
      · rw [if_pos a, if_pos a]
      · rw [if_neg a, if_neg a]
        by_cases b : k < 0
        · rw [if_pos b, if_neg (by omega)]; exact e57 (Or.inl b) a
        · rw [if_neg b]
          by_cases e : k < (L.length : Int)
          · obtain ⟨q, rfl⟩ := Int.eq_ofNat_of_zero_le (show 0 ≤ k by omega)
            have := (hm2 q (by omega)).1
            rw [Nat.zero_add] at this
            rw [if_pos e, if_pos ⟨by omega, e⟩]
            simp (disch := omega) only [iv_add, iv_sub, iv_mul, iv_neg, iv_lt, iv_le, iv_eq, iv_nat, iv_L, iv_L2, am_bi_v, am_bv_v, am_bl_v, if_pos, if_neg, Int.toNat_natCast, Int.toNat_add, Int.toNat_mul, Int.reduceToNat]
            rw [this]
          · rw [if_neg e, if_neg (by omega)]; exact e57 (Or.inr (by omega)) a
  have hJ1 : JR (am_ui (am_ui (am_ui c 27 0 6 (iv (r : Nat))) 27 0 7 (iv side)) 27 0 4 (iv (p : Nat))) x K F := JR_fr hJ (fun k _ _ => by rw [ui_nk _ _ _ _ (by omega), ui_nk _ _ _ _ (by omega), ui_nk _ _ _ _ (by omega)])
  have f1 : ∀ q, q ≠ 27 → am_ui (am_ui (am_ui c 27 0 6 (iv (r : Nat))) 27 0 7 (iv side)) 27 0 4 (iv (p : Nat)) q = c q := fun q hq => by rw [ui_nk _ _ _ _ hq, ui_nk _ _ _ _ hq, ui_nk _ _ _ _ hq]
  have hC1 : PlC (am_ui (am_ui (am_ui c 27 0 6 (iv (r : Nat))) 27 0 7 (iv side)) 27 0 4 (iv (p : Nat))) K F := by
    unfold PlC PW at hC ⊢
    rw [f1 28 (by omega), f1 30 (by omega), f1 32 (by omega)]
    exact hC
  generalize hc1 : am_ui (am_ui (am_ui c 27 0 6 (iv (r : Nat))) 27 0 7 (iv side)) 27 0 4 (iv (p : Nat)) = c1 at hJ1 f1 hC1
  have h4 : c1 27 0 4 = iv (p : Nat) := by rw [← hc1, ui_self]
  have h6 : c1 27 0 6 = iv (r : Nat) := by rw [← hc1, ui_ne _ _ _ _ (by omega), ui_ne _ _ _ _ (by omega), ui_self]
  have h7 : c1 27 0 7 = iv side := by rw [← hc1, ui_ne _ _ _ _ (by omega), ui_self]
  rw [q_54]
  simp only [iv_add, iv_sub, iv_mul, iv_neg, iv_lt, iv_le, iv_eq, iv_nat, iv_L, iv_L2, iv_neg]
  rw [← hp]
  simp (disch := omega) only [iv_add, iv_sub, iv_mul, iv_neg, iv_lt, iv_le, iv_eq, iv_nat, iv_L, iv_L2, am_bi_v, am_bv_v, am_bl_v, if_pos, if_neg, Int.toNat_natCast, Int.toNat_add, Int.toNat_mul, Int.reduceToNat]
  rw [hc1]
  by_cases hu : c 28 0 p = iv (-2)
  · rw [if_pos hu]
    obtain ⟨c2, k1, k2, k3, k4, k5⟩ := e55 (l := l) (y := y) hJ1 hr hp6 hsd h4 h6 h7 d
    rw [k1]
    simp only [am_bi_v]
    generalize hv : iv (match plnS K F r side 4 with
      | some L => (L.length : Int)
      | none => -1) = v at k1 ⊢
    refine ⟨am_ui c2 28 0 p v, htell _ ?_ ?_, ?_, ?_⟩
    · rw [ui_nk _ _ _ _ (by omega), k3 4 (by omega)]; exact h4
    · cases hL : plnS K F r side 4 with
      | none =>
        rw [hL] at hv
        show am_ui c2 28 0 p v 28 0 p = iv (-1)
        rw [ui_self, ← hv]
      | some L =>
        rw [hL] at hv
        refine ⟨?_, ?_⟩
        · rw [ui_self, ← hv]
        · have := k5 L hL
          unfold PW at this ⊢
          rw [ui_nk _ _ _ _ (by omega), ui_nk _ _ _ _ (by omega)]
          exact this
    · intro k hk
      rw [ui_nk _ _ _ _ (by omega), k2 k (by omega) (by omega) (by omega), f1 k (by omega)]
    · intro q hq
      by_cases e : q = p
      · subst e
        right
        rw [hpr, hps]
        cases hL : plnS K F r side 4 with
        | none =>
          rw [hL] at hv
          show am_ui c2 28 0 q v 28 0 q = iv (-1)
          rw [ui_self, ← hv]
        | some L =>
          rw [hL] at hv
          refine ⟨?_, ?_⟩
          · rw [ui_self, ← hv]
          · have := k5 L hL
            unfold PW at this ⊢
            rw [ui_nk _ _ _ _ (by omega), ui_nk _ _ _ _ (by omega)]
            exact this
      · have h0 := hC1 q hq
        have e28 : am_ui c2 28 0 p v 28 0 q = c1 28 0 q := by rw [ui_ne _ _ _ _ (by omega), k2 28 (by omega) (by omega) (by omega)]
        have e30 : ∀ j, am_ui c2 28 0 p v 30 q j = c1 30 q j := fun j => by rw [ui_nk _ _ _ _ (by omega)]; exact (k4 q j e).1
        have e32 : ∀ j, am_ui c2 28 0 p v 32 q j = c1 32 q j := fun j => by rw [ui_nk _ _ _ _ (by omega)]; exact (k4 q j e).2
        rw [e28]
        unfold PW at h0 ⊢
        simp only [e30, e32]
        exact h0
  · rw [if_neg hu]
    refine ⟨c1, htell c1 h4 ?_, fun k hk => f1 k (by omega), hC1⟩
    have h0 := hC1 p hp6
    rw [hpr, hps] at h0
    rcases h0 with h0 | h0
    · rw [f1 28 (by omega)] at h0; exact absurd h0 hu
    · exact h0
theorem k123 (hJ : JR c x K F) (hC : PlC c K F) {r s kd k : Int} (hr : -2147483648 ≤ r ∧ r < 2147483648) (hs : -2147483648 ≤ s ∧ s < 2147483648) (hkd : -2147483648 ≤ kd ∧ kd < 2147483648) (hk : -2147483648 ≤ k ∧ k < 2147483648) (d : Nat) : ∃ c2 : Nat → Nat → Nat → Int32, E (d + 22) 123 [vr 0 0, vi (iv r), vi (iv s), vi (iv kd), vi (iv k)] (c, l, x, y) = some (some (vi (iv (planS K F r s kd k))), c2, l, x, y) ∧ PN c c2 ∧ PlC c2 K F := by
  unfold planS
  rw [q_123]
  simp (disch := omega) only [iv_L, iv_neg, iv_lt, iv_eq]
  by_cases h : (1 ≤ r ∧ r ≤ 2) ∧ (-1 ≤ s ∧ s ≤ 1) ∧ kd = 0
  · rw [if_pos h, if_neg (by omega), if_neg (by omega), if_neg (by omega), if_neg (by omega), if_neg (by omega), if_neg (by omega), if_pos h.2.2]
    obtain ⟨m, rfl⟩ := Int.eq_ofNat_of_zero_le (show 0 ≤ r by omega)
    obtain ⟨c2, k1, k2, k3⟩ := e54 (l := l) (y := y) (r := m) hJ hC (by omega) h.2.1 hk d
    refine ⟨c2, ?_, k2, k3⟩
    rw [k1]
    rfl
  · rw [if_neg h]
    refine ⟨c, ?_, fun _ _ => rfl, hC⟩
    by_cases h1 : r < 1
    · rw [if_pos h1]
    rw [if_neg h1]
    by_cases h2 : 2 < r
    · rw [if_pos h2]
    rw [if_neg h2]
    by_cases h3 : s < -1
    · rw [if_pos h3]
    rw [if_neg h3]
    by_cases h4 : 1 < s
    · rw [if_pos h4]
    rw [if_neg h4]
    by_cases h5 : kd < 0
    · rw [if_pos h5]
    rw [if_neg h5]
    by_cases h6 : 2 < kd
    · rw [if_pos h6]
    rw [if_neg h6, if_neg (by omega)]
end
