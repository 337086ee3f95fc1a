/-! codes are no more than bytes -/
def Cn (f : Tz → List Nat × Tz) : Prop := ∀ z, (f z).2.2 = none → z.2 = none ∧ (f z).1.length + z.1.1 ≤ (f z).2.1.1
section
variable {tp : Nat → Nat} {n : Nat} {z : Tz}
theorem tkZ_none {sg : Int} (h : (tkZ tp n sg z).2 = none) : z.2 = none ∧ sgnT tp n z.1 = sg ∧ tkZ tp n sg z = avZ tp n z := by
  unfold tkZ at h ⊢
  by_cases q : z.2 = none ∧ sgnT tp n z.1 = sg
  · rw [if_pos q]
    exact ⟨q.1, q.2, rfl⟩
  · rw [if_neg q] at h
    exact absurd h (flZ_ns _ _ _)
theorem lp_cnt {f : Tz → List Nat × Tz} {op : Ts → Option Nat} (hf : Cn f) (ho : ∀ s a, op s = some a → sgnT tp n s ≠ -1) : ∀ (k : Nat) (cs : List Nat) (z : Tz), (lpZ f op tp n k cs z).2.2 = none → z.2 = none ∧ (lpZ f op tp n k cs z).1.length + z.1.1 ≤ cs.length + (lpZ f op tp n k cs z).2.1.1
  | 0, cs, z, h => ⟨h, Nat.le_refl _⟩
  | k + 1, cs, z, h => by
    unfold lpZ at h ⊢
    by_cases hz : z.2 = none
    · rw [if_pos hz] at h ⊢
      refine ⟨hz, ?_⟩
      cases hop : op z.1 with
      | none => exact Nat.le_refl _
      | some a =>
        rw [hop] at h
        dsimp only at h ⊢
        have h1 := lp_cnt hf ho k _ _ h
        have h2 := hf (avZ tp n z) h1.1
        have h3 := avZ_lt (tp := tp) (n := n) (z := z) (ho _ _ hop)
        have h4 := h1.2
        rw [List.length_append, List.length_append, List.length_singleton] at h4
        omega
    · rw [if_neg hz] at h
      exact absurd h hz
theorem prd_cnt {P : Tz → List Nat × Tz} (hP : Cn P) : Cn (prdZ tp n P) := by
  intro z h
  unfold prdZ at h ⊢
  have h1 := lp_cnt hP (fun s a q => by have := mulO_sg q; omega) 1600 _ _ h
  have h2 := hP z h1.1
  refine ⟨h2.1, ?_⟩
  have := h1.2
  omega
theorem sum_cn {P : Tz → List Nat × Tz} (hP : Cn P) : Cn (sumZ tp n P) := by
  intro z h
  unfold sumZ at h ⊢
  have h1 := lp_cnt (prd_cnt hP) (fun s a q => by have := addO_sg q; omega) 1600 _ _ h
  have h2 := prd_cnt hP z h1.1
  refine ⟨h2.1, ?_⟩
  have := h1.2
  omega
theorem br_cnt {f : Option (Tz → List Nat × Tz)} (hf : ∀ P, f = some P → Cn P) {w : Nat} (h : (brZ tp n f w z).2.2 = none) : z.2 = none ∧ (brZ tp n f w z).1.length + z.1.1 + 1 ≤ (brZ tp n f w z).2.1.1 := by
  unfold brZ at h ⊢
  by_cases e : sgnT tp n z.1 ≠ 40
  · rw [if_pos e] at h
    exact absurd h (flZ_ns _ _ _)
  rw [if_neg e] at h ⊢
  have hlt := avZ_lt (tp := tp) (n := n) (z := z) (by omega)
  cases f with
  | none => exact absurd h (flZ_ns _ _ _)
  | some P =>
    have hP := sum_cn (tp := tp) (n := n) (hf P rfl)
    dsimp only at h ⊢
    by_cases hw : w = 0
    · rw [if_pos hw] at h ⊢
      dsimp only at h ⊢
      obtain ⟨t1, t2, t3⟩ := tkZ_none h
      obtain ⟨u1, u2⟩ := hP _ t1
      have t4 := avZ_lt (tp := tp) (n := n) (z := (sumZ tp n P (avZ tp n z)).2) (by omega)
      rw [t3]
      exact ⟨u1, by omega⟩
    · rw [if_neg hw] at h ⊢
      dsimp only at h ⊢
      obtain ⟨t1, t2, t3⟩ := tkZ_none h
      have t4 := avZ_lt (tp := tp) (n := n) (z := (sumZ tp n P (tkZ tp n 44 (sumZ tp n P (avZ tp n z)).2)).2) (by omega)
      obtain ⟨u1, u2⟩ := hP _ t1
      obtain ⟨v1, v2, v3⟩ := tkZ_none u1
      obtain ⟨w1, w2⟩ := hP _ v1
      have v4 := avZ_lt (tp := tp) (n := n) (z := (sumZ tp n P (avZ tp n z)).2) (by omega)
      rw [t3, List.length_append, List.length_append, List.length_singleton]
      rw [v3] at u2 t4 ⊢
      exact ⟨w1, by omega⟩
theorem pc_cnt {f : Option (Tz → List Nat × Tz)} (hf : ∀ P, f = some P → Cn P) : Cn (pcZ tp n f) := by
  intro z h
  unfold pcZ at h ⊢
  by_cases h0 : z.2.isSome = true
  · rw [if_pos h0] at h
    dsimp only at h
    rw [h] at h0
    cases h0
  have hz : z.2 = none := by
    cases q : z.2 with
    | none => rfl
    | some f => rw [q] at h0; exact absurd rfl h0
  rw [if_neg h0] at h ⊢
  refine ⟨hz, ?_⟩
  by_cases h48 : sgnT tp n z.1 = 48
  · rw [if_pos h48] at h ⊢
    have hlt := avZ_lt (tp := tp) (n := n) (z := z) (by omega)
    have : (tnZ tp n 9999 z).2 = avZ tp n z := by
      dsimp only at h
      unfold tnZ at h ⊢
      rw [if_neg h0, if_neg (fun q => q h48)] at h ⊢
      by_cases w3 : 4 < lenT tp n z.1.1
      · rw [if_pos w3] at h
        exact absurd h (flZ_ns _ _ _)
      rw [if_neg w3] at h ⊢
      by_cases w4 : 9999 < valT tp n z.1.1
      · rw [if_pos w4] at h
        exact absurd h (flZ_ns _ _ _)
      rw [if_neg w4]
    dsimp only
    rw [this, List.length_singleton]
    omega
  rw [if_neg h48] at h ⊢
  by_cases h40 : sgnT tp n z.1 = 40
  · rw [if_pos h40] at h ⊢
    have := (br_cnt hf h).2
    omega
  rw [if_neg h40] at h ⊢
  cases ho : lixT tp n 1 z.1 with
  | none =>
    rw [ho] at h
    exact absurd h (flZ_ns _ _ _)
  | some o =>
    rw [ho] at h
    dsimp only at h ⊢
    have h97 := lix_sgn ho
    have hlt := avZ_lt (tp := tp) (n := n) (z := z) (by omega)
    by_cases o1 : o < 10
    · rw [if_pos o1] at h
      exact absurd h (flZ_ns _ _ _)
    rw [if_neg o1] at h ⊢
    by_cases o2 : o = 14 ∨ o = 15
    · rw [if_pos o2] at h ⊢
      cases f with
      | none => exact absurd h (flZ_ns _ _ _)
      | some P =>
        have h2 := hf P rfl (avZ tp n z) h
        show ((P (avZ tp n z)).1 ++ [46 + o]).length + z.1.1 ≤ (P (avZ tp n z)).2.1.1
        rw [List.length_append, List.length_singleton]
        omega
    rw [if_neg o2] at h ⊢
    by_cases o3 : o = 16 ∨ o = 17
    · rw [if_pos o3] at h ⊢
      have := (br_cnt hf h).2
      omega
    rw [if_neg o3]
    show 1 + z.1.1 ≤ (avZ tp n z).1.1
    omega
theorem part_cnt : ∀ m, Cn (partZ tp n m)
  | 0 => pc_cnt (fun P q => by cases q)
  | m + 1 => pc_cnt (fun P q => by cases q; exact part_cnt m)
end
/-! the reference's ask: a whole sum, a fact -/
def AB (c : Nat → Nat → Nat → Int32) (tp : Nat → Nat) (n : Nat) (z : Tz) : Prop := RZ c tp n z ∧ z.2.isSome = true
/-- what words of a fact that isn't bracketed tell -/
def faZ (tp : Nat → Nat) (n : Nat) (P : Tz → List Nat × Tz) (z : Tz) : List Nat × Tz := if lixT tp n 1 z.1 = some 9 then ([13], avZ tp n z) else cpZ tp n P z
section
variable {c c2 : Nat → Nat → Nat → Int32} {l : Nat → Nat → Int64} {x y : Nat} {tp : Nat → Nat} {n : Nat} {z : Tz} {s : Ts} {S T C O : List Nat} {m b v d : Nat} {v1 : Int32} {f P : Tz → List Nat × Tz}
theorem AB_bad (h : AB c tp n z) : ¬ c 48 0 5 = 0 := by
  intro q
  have q : c 48 0 5 = iv 0 := q
  rw [RZ_flt h.1] at q
  have := h.2
  rw [q] at this
  cases this
theorem AF_AB (h : AF c tp n z) : AB c tp n z := ⟨h.1, h.2.1⟩
theorem QS_82 (g : QS c S C m b) (b' : Nat) : QS (am_ui c 48 0 82 (iv (b' : Nat))) S C m b' := by
  obtain ⟨g1, g2, g3, g4, g5, g6, g7⟩ := g
  refine ⟨⟨?_, StA_fr S g1.2 (fun j _ => by rw [ui_nk _ _ _ _ (by omega)])⟩, ⟨?_, RowAt_fr g2.2 (ui_nk _ _ _ _ (by omega))⟩, ?_, ui_self _ _ _ _, g5, g6, g7⟩
  · rw [ui_ne _ _ _ _ (by omega)]; exact g1.1
  · rw [ui_ne _ _ _ _ (by omega)]; exact g2.1
  · rw [ui_ne _ _ _ _ (by omega)]; exact g3
theorem RZ_82 (h : RZ c tp n z) {j : Nat} (hj : 7 ≤ j) (v : Int32) : RZ (am_ui c 48 0 j v) tp n z := RZ_q h (fun i hi => ui_ne _ _ _ _ (by omega)) (fun k hk => ui_nk _ _ _ _ (by omega))
/-- what waits above the floor is told -/
theorem e264_27 (d b' : Nat) (hz : z.2 = none) : ∀ (O C : List Nat) (c : Nat → Nat → Nat → Int32), RZ c tp n z → QS c (O ++ S) C m S.length → ∃ c2 : Nat → Nat → Nat → Int32, X (d + 3) 264 27 [some (vr 48 0), some (vi (iv (b' : Nat))), none] [] (c, l, x, y) = some (none, c2, l, x, y) ∧ RZ c2 tp n z ∧ QS c2 S (C ++ O) m b' ∧ FK c c2 := by
  intro O
  induction O with
  | nil =>
    intro C c hr g
    have h0 : c 48 0 5 = 0 := (RZ_flt hr).mpr hz
    rw [List.nil_append] at g
    have hl := g.2.2.2.2.1
    refine ⟨_, ?_, RZ_82 hr (by omega) _, ?_, FK.ui 48 82 (iv (b' : Nat)) (by omega)⟩
    · rw [q_264_27, if_pos h0, g.1.1, g.2.2.2.1, if_neg (by rw [iv_lt (by omega) (by omega)]; omega)]
    · rw [List.append_nil]
      exact QS_82 g b'
  | cons v O ih =>
    intro C c hr g
    have h0 : c 48 0 5 = 0 := (RZ_flt hr).mpr hz
    have hl := g.2.2.2.2.1
    rw [List.length_append, List.length_cons] at hl
    have h80 : c 48 0 80 = iv (((v :: O) ++ S).length : Nat) := g.1.1
    rw [List.cons_append] at g
    obtain ⟨c1, a1, a2, a3, a4⟩ := e270 (l := l) (x := x) (y := y) g d
    obtain ⟨c2, b1, b2, b3, b4⟩ := ih (C ++ [v]) c1 (a4 tp n z hr) a2
    refine ⟨c2, ?_, b2, ?_, a3.tr b4⟩
    · rw [q_264_27, if_pos h0, h80, g.2.2.2.1, if_pos (by rw [List.length_append, List.length_cons, iv_lt (by omega) (by omega)]; omega), a1]
      simp only [am_bv_v]
      exact b1
    · rw [show C ++ (v :: O) = C ++ [v] ++ O by rw [List.append_assoc]; rfl]
      exact b3
/-- a whole sum -/
theorem e264 (hm : m ≤ 6) (h : AS c tp n z S C m b) (hT : ∀ v, S.head? = some v → ¬ v ∈ [3, 4, 1, 2] ∧ v < 60) (d : Nat) : ∃ c2 : Nat → Nat → Nat → Int32, E (d + 7) 264 [vr 48 0] (c, l, x, y) = some (none, c2, l, x, y) ∧ FK c c2 ∧ if (sumZ tp n (partZ tp n m) z).2.2 = none then AS c2 tp n (sumZ tp n (partZ tp n m) z).2 S (C ++ (sumZ tp n (partZ tp n m) z).1) m b else AF c2 tp n (sumZ tp n (partZ tp n m) z).2 := by
  have hlen := AS_len h
  have h80 := h.2.2.1.1.1
  have h82 := h.2.2.1.2.2.2.1
  have h1 : AS (am_ui c 48 0 82 (iv (S.length : Nat))) tp n z S C m S.length := ⟨RZ_82 h.1 (by omega) _, h.2.1, QS_82 h.2.2.1 _, h.2.2.2.1, Nat.le_refl _⟩
  obtain ⟨c2, a1, a2, a3⟩ := sum_S (d := d) (l := l) (x := x) (y := y) (v1 := iv (b : Nat)) (part_T m hm) (partZ_le m) h1 hT
  have hgo : E (d + 7) 264 [vr 48 0] (c, l, x, y) = sA d l x y (iv (b : Nat)) (am_ui c 48 0 82 (iv (S.length : Nat))) := by
    rw [q_264, h80, h82, s_1 h1]
  rw [hgo]
  unfold OV at a2
  by_cases hz : (sumZ tp n (partZ tp n m) z).2.2 = none
  · rw [if_pos hz] at a2
    obtain ⟨b1, O, C2, b2, b3, b4⟩ := a2
    have hin := inB_no O S (sums_lt b4)
    obtain ⟨c3, f1, f2, f3⟩ := g_61 (l := l) (x := x) (y := y) b2 (fun q => by omega) (AS_in b2) (d + 2)
    obtain ⟨c4, g1, g2, g3⟩ := g_no4 (l := l) (x := x) (y := y) f2 (a3 hz) (AS_in f2) (d + 2)
    rw [hin, if_neg (by omega), if_pos rfl] at g1
    obtain ⟨c5, k1, k2, k3, k4⟩ := e264_27 (l := l) (x := x) (y := y) (d + 4) b hz O C2 c4 g2.1 g2.2.2.1
    refine ⟨c5, ?_, ((((FK.ui _ _ _ (by omega)).tr a1).tr (FK_FR f3)).tr (FK_FR g3)).tr k4, ?_⟩
    · rw [b1, sG_0 (f1.trans g1)]
      exact k1
    · rw [if_pos hz]
      rw [b3] at k3
      have hl := b2.2.2.2.1
      have hC := congrArg List.length b3
      rw [List.length_append] at hl hC
      refine ⟨k2, hz, k3, by omega, h.2.2.2.2⟩
  · rw [if_neg hz] at a2
    obtain ⟨b1, b2⟩ := a2
    have hb := AF_bad b2
    refine ⟨am_ui c2 48 0 82 (iv (b : Nat)), ?_, ((FK.ui _ _ _ (by omega)).tr a1).tr (FK.ui _ _ _ (by omega)), ?_⟩
    · rw [b1]
      unfold sF
      rw [q_264_27, if_neg hb]
    · rw [if_neg hz]
      obtain ⟨u1, u2, k, u3, u4⟩ := b2
      exact ⟨RZ_82 u1 (by omega) _, u2, k, by rw [ui_ne _ _ _ _ (by omega)]; exact u3, u4⟩
theorem cmpC_sg {sg : Int} {cd : Nat} (h : cmpC sg = some cd) : (sg = 60 ∧ cd = 7) ∨ (sg = 62 ∧ cd = 8) ∨ (sg = 61 ∧ cd = 9) := by
  unfold cmpC at h
  split at h
  · have := Option.some.inj h; omega
  · split at h
    · have := Option.some.inj h; omega
    · split at h
      · have := Option.some.inj h; omega
      · cases h
theorem cmpC_no {sg : Int} (h : cmpC sg = none) : sg ≠ 60 ∧ sg ≠ 62 ∧ sg ≠ 61 := by
  unfold cmpC at h
  split at h
  · cases h
  · split at h
    · cases h
    · split at h
      · cases h
      · omega
/-- a fact that isn't bracketed -/
theorem e262 (hm : m ≤ 6) (h : AS c tp n z S C m b) (hT : ∀ v, S.head? = some v → ¬ v ∈ [3, 4, 1, 2] ∧ v < 60) (d : Nat) : ∃ c2 : Nat → Nat → Nat → Int32, E (d + 8) 262 [vr 48 0] (c, l, x, y) = some (none, c2, l, x, y) ∧ FK c c2 ∧ if (faZ tp n (partZ tp n m) z).2.2 = none then AS c2 tp n (faZ tp n (partZ tp n m) z).2 S (C ++ (faZ tp n (partZ tp n m) z).1) m b else AB c2 tp n (faZ tp n (partZ tp n m) z).2 := by
  have hl := her_lix (tp := tp) (n := n) (s := z.1) (t := 1) (o := 9) (W := [97, 108, 108]) (by decide) rfl
  have hz0 : RZ c tp n (z.1, none) := by
    have := h.1
    rw [tz_eta z h.2.1] at this
    exact this
  obtain ⟨c1, a1, a2, a3⟩ := e153 (l := l) (x := x) (y := y) hz0 (kd := 99) (W := [97, 108, 108]) (by decide) (d + 4)
  have hlen := AS_len h
  have hln := h.2.2.2.1
  rw [q_262, a1]
  simp only [am_bi_v]
  unfold faZ
  by_cases e : lixT tp n 1 z.1 = some 9
  · have e2 := hl.mpr e
    rw [e2, if_pos rfl] at a2
    rw [e2, if_pos rfl, if_pos e, if_neg (show ¬ iv 1 = 0 by decide)]
    have h97 := lix_sgn e
    have h1 : AS c1 tp n (avZ tp n z) S C m b := AS_word h a3 h97 (by unfold avZ; rw [h.2.1]; exact a2)
    have hlt := avZ_lt (tp := tp) (n := n) (z := z) (by omega)
    have hlen2 := AS_len h1
    have h263 := e263 (c := c1) (l := l) (x := x) (y := y) (k := C.length) (by omega) h1.2.2.1.2.1.1 (iv (13 : Nat)) (d + 6)
    have h263 : E (d + 7) 263 [vr 48 0, vi 13] (c1, l, x, y) = _ := h263
    have p2 := QS_tell h1.2.2.1 (v := 13) (by omega) (by omega)
    rw [h263]
    simp only [am_bv_v]
    refine ⟨_, rfl, ((FK_FR a3).tr (FK.ui 108 C.length (iv ((13 : Nat) : Int)) (by omega))).tr (FK.ui 48 78 (iv ((C.length + 1 : Nat) : Int)) (by omega)), ?_⟩
    rw [if_pos (show (avZ tp n z).2 = none from h.2.1)]
    refine ⟨RZ_q h1.1 (fun j hj => by rw [ui_ne _ _ _ _ (by omega), ui_nk _ _ _ _ (by omega)]) (fun k hk => by rw [ui_nk _ _ _ _ (by omega), ui_nk _ _ _ _ (by omega)]), h.2.1, p2, ?_, h.2.2.2.2⟩
    rw [List.length_append, List.length_singleton]
    omega
  · have e2 : ¬ herB tp n z.1 [97, 108, 108] = true := fun q => e (hl.mp q)
    rw [if_neg e2] at a2
    rw [if_neg e2, if_neg e, if_pos (show iv 0 = 0 from rfl)]
    have h1 : AS c1 tp n z S C m b := ⟨by rw [tz_eta z h.2.1]; exact RL_RZ a2, h.2.1, QS_FR a3 h.2.2.1, hln, h.2.2.2.2⟩
    obtain ⟨c2, b1, b2, b3⟩ := e264 (l := l) (x := x) (y := y) hm h1 hT d
    rw [b1]
    simp only [am_bv_v]
    unfold cpZ
    generalize hr : sumZ tp n (partZ tp n m) z = r1 at b3 ⊢
    by_cases hz : r1.2.2 = none
    · rw [if_pos hz] at b3
      obtain ⟨c3, f1, f2, f3, f4⟩ := AS_look (l := l) (x := x) (y := y) b3 (d + 6)
      rw [if_pos (AS_0 b3), f1]
      simp only [am_bi_v]
      have hbb := bt_bd (n := n) h.1.2.1.2 r1.2.1.1
      have i60 := sgnS_iff (tp := tp) (n := n) (s := r1.2.1) (sg := 60) (by omega)
      have i62 := sgnS_iff (tp := tp) (n := n) (s := r1.2.1) (sg := 62) (by omega)
      have i61 := sgnS_iff (tp := tp) (n := n) (s := r1.2.1) (sg := 61) (by omega)
      have q60 : (iv (btT tp n r1.2.1.1) = 60) = (btT tp n r1.2.1.1 = 60) := iv_eq (b := 60) (by omega) (by omega)
      have q62 : (iv (btT tp n r1.2.1.1) = 62) = (btT tp n r1.2.1.1 = 62) := iv_eq (b := 62) (by omega) (by omega)
      have q61 : (iv (btT tp n r1.2.1.1) = 61) = (btT tp n r1.2.1.1 = 61) := iv_eq (b := 61) (by omega) (by omega)
      simp only [q60, q62, q61]
      cases hc : cmpC (sgnT tp n r1.2.1) with
      | none =>
        have hno := cmpC_no hc
        dsimp only
        rw [if_neg (fun q => hno.1 (i60.mpr q)), if_neg (fun q => hno.2.1 (i62.mpr q)), if_neg (fun q => hno.2.2 (i61.mpr q)), f2.2.2.2.2.1]
        have hlen2 := AS_len b3
        obtain ⟨c4, k1, k2, k3⟩ := e152 (l := l) (x := x) (y := y) f3.1 (k := 1) (p := r1.2.1.1) (by omega) hlen2 (d + 6)
        have k1 : E (d + 7) 152 [vr 48 0, vi 1, vi (iv (r1.2.1.1 : Nat))] (c3, l, x, y) = _ := k1
        rw [k1]
        simp only [am_bv_v]
        refine ⟨c4, rfl, (((FK_FR a3).tr b2).tr (FK_FR f4)).tr (FK_FR k3), ?_⟩
        rw [if_neg (flZ_ns _ _ _)]
        exact ⟨k2, flZ_is _ _ _⟩
      | some cd =>
        have hsg := cmpC_sg hc
        dsimp only
        have hgo : (if btT tp n r1.2.1.1 = 60 then X (d + 8) 262 33 [some (vr 48 0), some (vi (iv (btT tp n r1.2.1.1)))] [] (c3, l, x, y) else (if btT tp n r1.2.1.1 = 62 then X (d + 8) 262 33 [some (vr 48 0), some (vi (iv (btT tp n r1.2.1.1)))] [] (c3, l, x, y) else (if btT tp n r1.2.1.1 = 61 then X (d + 8) 262 33 [some (vr 48 0), some (vi (iv (btT tp n r1.2.1.1)))] [] (c3, l, x, y) else (am_bv (E (d + 7) 152 [vr 48 0, vi 1, vi (c3 48 0 2)] (c3, l, x, y)) (fun g6 => some (none, g6)))))) = X (d + 8) 262 33 [some (vr 48 0), some (vi (iv (btT tp n r1.2.1.1)))] [] (c3, l, x, y) := by
          rcases hsg with q | q | q
          · rw [if_pos (i60.mp q.1)]
          · have := i62.mp q.1
            rw [if_neg (by omega), if_pos this]
          · have := i61.mp q.1
            rw [if_neg (by omega), if_neg (by omega), if_pos this]
        rw [hgo]
        have hsgn : sgnT tp n r1.2.1 = 60 ∨ sgnT tp n r1.2.1 = 62 ∨ sgnT tp n r1.2.1 = 61 := by omega
        have htk : tkZ tp n (sgnT tp n r1.2.1) r1.2 = avZ tp n r1.2 := by
          unfold tkZ
          rw [if_pos ⟨hz, rfl⟩]
        rw [htk]
        have s2 := AS_sign f2 f3 (sg := sgnT tp n r1.2.1) (by omega) rfl
        obtain ⟨c5, k1, k2, k3⟩ := e264 (l := l) (x := x) (y := y) hm s2 hT d
        generalize hr2 : sumZ tp n (partZ tp n m) (avZ tp n r1.2) = r2 at k3 ⊢
        have hF : FK c c5 := ((((FK_FR a3).tr b2).tr (FK_FR f4)).tr (FK.ui 48 2 (c3 48 0 2 + 1) (by omega))).tr k2
        have hle3 : (avZ tp n r1.2).1.1 ≤ r2.2.1.1 := by
          rw [← hr2]
          exact sumZ_le (partZ_le m) _
        have h78 : ∃ k : Nat, c5 48 0 78 = iv (k : Nat) ∧ k ≤ 1601 := by
          by_cases hz2 : r2.2.2 = none
          · rw [if_pos hz2] at k3
            have := k3.2.2.1.2.2.2.2.1
            exact ⟨_, k3.2.2.1.2.1.1, by omega⟩
          · rw [if_neg hz2] at k3
            exact k3.2.2
        have key : ∀ w : Nat, w = cd → ∃ c6 : Nat → Nat → Nat → Int32, am_bv (E (d + 7) 263 [vr 48 0, vi (iv (w : Nat))] (c5, l, x, y)) (fun g2 => some (none, g2)) = some (none, c6, l, x, y) ∧ FK c c6 ∧ if r2.2.2 = none then AS c6 tp n r2.2 S (C ++ (r1.1 ++ r2.1 ++ [cd])) m b else AB c6 tp n r2.2 := by
          intro w hw
          by_cases hz2 : r2.2.2 = none
          · rw [if_pos hz2] at k3
            simp only [if_pos hz2]
            have hlen3 := AS_len k3
            have hln3 := k3.2.2.2.1
            have hln1 := b3.2.2.2.1
            have hl5 := k3.2.2.1.2.2.2.2.1
            have hpos := avZ_lt (tp := tp) (n := n) (z := r1.2) (by omega)
            have hcnt : S.length + (C ++ r1.1 ++ r2.1).length + 1 ≤ r2.2.1.1 := by
              have hA := sum_cn (tp := tp) (n := n) (part_cnt (tp := tp) (n := n) m) (avZ tp n r1.2)
              rw [hr2] at hA
              have := (hA hz2).2
              simp only [List.length_append] at hln1 ⊢
              omega
            have h263 := e263 (c := c5) (l := l) (x := x) (y := y) (k := (C ++ r1.1 ++ r2.1).length) (by omega) k3.2.2.1.2.1.1 (iv (w : Nat)) (d + 6)
            have p2 := QS_tell k3.2.2.1 (v := w) (by omega) (by omega)
            rw [h263]
            simp only [am_bv_v]
            refine ⟨_, rfl, (hF.tr (FK.ui 108 (C ++ r1.1 ++ r2.1).length (iv (w : Nat)) (by omega))).tr (FK.ui 48 78 (iv (((C ++ r1.1 ++ r2.1).length + 1 : Nat) : Int)) (by omega)), RZ_q k3.1 (fun j hj => by rw [ui_ne _ _ _ _ (by omega), ui_nk _ _ _ _ (by omega)]) (fun k hk => by rw [ui_nk _ _ _ _ (by omega), ui_nk _ _ _ _ (by omega)]), hz2, ?_, ?_, h.2.2.2.2⟩
            · rw [hw] at p2
              rw [hw, show C ++ (r1.1 ++ r2.1 ++ [cd]) = C ++ r1.1 ++ r2.1 ++ [cd] by simp only [List.append_assoc]]
              exact p2
            · rw [show C ++ (r1.1 ++ r2.1 ++ [cd]) = (C ++ r1.1 ++ r2.1) ++ [cd] by simp only [List.append_assoc], List.length_append, List.length_singleton]
              omega
          · rw [if_neg hz2] at k3
            simp only [if_neg hz2]
            obtain ⟨k, u1, u2⟩ := h78
            have h263 := e263 (c := c5) (l := l) (x := x) (y := y) (k := k) (by omega) u1 (iv (w : Nat)) (d + 6)
            rw [h263]
            simp only [am_bv_v]
            exact ⟨_, rfl, (hF.tr (FK.ui 108 k (iv (w : Nat)) (by omega))).tr (FK.ui 48 78 (iv ((k + 1 : Nat) : Int)) (by omega)), RZ_q k3.1 (fun j hj => by rw [ui_ne _ _ _ _ (by omega), ui_nk _ _ _ _ (by omega)]) (fun k hk => by rw [ui_nk _ _ _ _ (by omega), ui_nk _ _ _ _ (by omega)]), k3.2.1⟩
        rw [q_262_33, k1]
        simp only [am_bv_v, q60, q62]
        rcases hsg with ⟨q, rfl⟩ | ⟨q, rfl⟩ | ⟨q, rfl⟩
        · rw [if_pos (i60.mp q)]
          exact key 7 rfl
        · have := i62.mp q
          rw [if_neg (by omega), if_pos this]
          exact key 8 rfl
        · have := i61.mp q
          rw [if_neg (by omega), if_neg (by omega)]
          exact key 9 rfl
    · rw [if_neg hz] at b3
      rw [if_neg (AF_bad b3)]
      have hc : cmpC (sgnT tp n r1.2.1) = none ∨ ∃ cd, cmpC (sgnT tp n r1.2.1) = some cd := by
        cases cmpC (sgnT tp n r1.2.1) with
        | none => exact Or.inl rfl
        | some cd => exact Or.inr ⟨cd, rfl⟩
      have hzs := b3.2.1
      refine ⟨c2, rfl, (FK_FR a3).tr b2, ?_⟩
      rcases hc with q | ⟨cd, q⟩
      · rw [q]
        dsimp only
        rw [flZ_some hzs, if_neg hz]
        exact AF_AB b3
      · rw [q]
        dsimp only
        rw [tkZ_f hzs, sum_flt hzs, if_neg hz]
        exact AF_AB b3
end
