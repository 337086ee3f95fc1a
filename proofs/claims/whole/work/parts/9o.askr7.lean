/-! the reference's ask: states on the way -/
def AS (c : Nat → Nat → Nat → Int32) (tp : Nat → Nat) (n : Nat) (z : Tz) (S C : List Nat) (m b : Nat) : Prop := RZ c tp n z ∧ z.2 = none ∧ QS c S C m b ∧ S.length + C.length ≤ z.1.1 ∧ b ≤ S.length
def AF (c : Nat → Nat → Nat → Int32) (tp : Nat → Nat) (n : Nat) (z : Tz) : Prop := RZ c tp n z ∧ z.2.isSome = true ∧ ∃ k : Nat, c 48 0 78 = iv (k : Nat) ∧ k ≤ 1601
def clC (v : Nat) : List Nat := if v = 20 then [] else if v = 23 then [5] else [6]
section
variable {c : Nat → Nat → Nat → Int32} {l : Nat → Nat → Int64} {x y : Nat} {tp : Nat → Nat} {n : Nat} {z : Tz} {s : Ts} {S C O : List Nat} {m b v : Nat}
theorem sgn_lt (h : sgnT tp n s ≠ -1) : s.1 < n := by
  unfold sgnT at h
  split at h
  · assumption
  · exact absurd rfl h
theorem nxtT_lt (h : s.1 < n) : s.1 + 1 ≤ (nxtT tp n s).1 := by
  have h1 := lenT_pos (tp := tp) h
  have h2 := nxtQ_le (tp := tp) (w := decide (sgnT tp n s = 97 ∨ sgnT tp n s = 48)) (lenT_le (tp := tp) (Nat.le_of_lt h))
  unfold nxtT
  omega
theorem RZ_le (h : RZ c tp n z) (hz : z.2 = none) : z.1.1 ≤ n := by
  have h4 := h.2.2.2
  rw [hz] at h4
  obtain ⟨-, q, e, -, -, h1, -, h2, -⟩ := h4
  have := skp_le (tp := tp) (n - q) q
  omega
theorem RL_lq (h : RL c tp n s) : s.1 ≤ n := by
  obtain ⟨-, -, -, -, -, e, -, h1, -⟩ := h
  exact h1
theorem RL_sign (h : RL c tp n s) {sg : Int} (hsg : 1 ≤ sg ∧ sg < 256 ∧ ¬ (97 ≤ sg ∧ sg ≤ 122) ∧ ¬ (48 ≤ sg ∧ sg ≤ 57)) (e : sgnT tp n s = sg) : RZ (am_ui c 48 0 2 (c 48 0 2 + 1)) tp n (nxtT tp n s, none) := by
  have e2 := (sgnS_iff (tp := tp) (n := n) (s := s) hsg).mp e
  obtain ⟨h1, h2, h3, h4, h5, e0, h6, h7, h8, h9, h10⟩ := h
  have hpn : s.1 < n := sgn_lt (tp := tp) (by omega)
  have e3 : (tp s.1 : Int) = sg := by unfold btT at e2; rw [if_pos hpn] at e2; exact e2
  have hcl : ¬ (clB (tp s.1) = 97 ∨ clB (tp s.1) = 48) := by rw [clB_97, clB_48]; omega
  have hf : FR c (am_ui c 48 0 2 (c 48 0 2 + 1)) := FR.ui _ _ (by omega)
  refine ⟨FR_RT hf h1, h2, FR_CH hf h3, ⟨?_, ?_⟩, s.1 + 1, e0, ?_, ?_, by omega, by omega, ?_, ?_⟩
  · rw [ui_ne _ _ _ _ (by omega)]; exact h4.1
  · rw [ui_ne _ _ _ _ (by omega)]; exact h4.2
  · rw [ui_self, h5, show (1 : Int32) = iv 1 from rfl, iv_add]; rfl
  · rw [ui_ne _ _ _ _ (by omega)]; exact h6
  · unfold nxtT nxtQ lenT
    dsimp only
    rw [if_pos hpn, if_neg hcl]
  · have hle := skp_le (tp := tp) (n - (s.1 + 1)) (s.1 + 1)
    unfold nxtT nxtQ lenT
    dsimp only
    rw [if_pos hpn, if_neg hcl, decide_eq_false (show ¬ (sgnT tp n s = 97 ∨ sgnT tp n s = 48) by omega), Bool.false_and]
    constructor
    · intro q; cases q
    · intro q; omega
theorem avZ_lt (h : sgnT tp n z.1 ≠ -1) : z.1.1 + 1 ≤ (avZ tp n z).1.1 := nxtT_lt (sgn_lt h)
theorem lix_sgn {t o : Nat} (h : lixT tp n t s = some o) : sgnT tp n s = 97 := by
  unfold lixT at h
  split at h
  · assumption
  · cases h
/-- what is dropped -/
theorem d60_app (b : Nat) : ∀ S : List Nat, (d60 b S).1 ++ (d60 b S).2 = S
  | [] => rfl
  | v :: S => by
    unfold d60
    split
    · show v :: ((d60 b S).1 ++ (d60 b S).2) = v :: S
      rw [d60_app b S]
    · rfl
theorem d60_b (b : Nat) : ∀ S : List Nat, b ≤ S.length → b ≤ (d60 b S).2.length
  | [], h => h
  | v :: S, h => by
    unfold d60
    split
    · rename_i q
      exact d60_b b S (by omega)
    · exact h
theorem d60_len (b : Nat) (S : List Nat) : (d60 b S).1.length + (d60 b S).2.length = S.length := by
  rw [← List.length_append, d60_app]
theorem d60_no {b : Nat} : ∀ {S : List Nat}, (∀ v, S.head? = some v → v < 60) → d60 b S = ([], S)
  | [], _ => rfl
  | v :: S, h => by
    have := h v rfl
    unfold d60
    rw [if_neg (by omega)]
theorem drB_br {b v : Nat} : ∀ (O S : List Nat), (∀ w ∈ O, w < 20) → (20 ≤ v ∧ v ≤ 24) → b ≤ S.length → drB b (O ++ v :: S) = (O, v :: S)
  | [], S, _, hv, _ => by
    rw [List.nil_append]
    unfold drB
    rw [if_neg (fun q => q.2 hv)]
  | w :: O, S, hO, hv, hb => by
    have h1 := hO w (List.mem_cons_self ..)
    have h2 := drB_br O S (fun u hu => hO u (List.mem_cons_of_mem _ hu)) hv hb
    rw [List.cons_append]
    unfold drB
    rw [if_pos ⟨by rw [List.length_append, List.length_cons]; omega, by omega⟩, h2]
theorem inB_br {b v : Nat} : ∀ (O S : List Nat), (∀ w ∈ O, w < 20) → (20 ≤ v ∧ v ≤ 24) → b ≤ S.length → inB b (O ++ v :: S) = (v : Int)
  | [], S, _, hv, hb => by
    rw [List.nil_append]
    unfold inB
    rw [if_neg (by omega), if_pos hv]
  | w :: O, S, hO, hv, hb => by
    have h1 := hO w (List.mem_cons_self ..)
    have h2 := inB_br O S (fun u hu => hO u (List.mem_cons_of_mem _ hu)) hv hb
    rw [List.cons_append]
    unfold inB
    rw [if_neg (by rw [List.length_append, List.length_cons]; omega), if_neg (by omega), h2]
theorem inB_no : ∀ (O S : List Nat), (∀ w ∈ O, w < 20) → inB S.length (O ++ S) = -1
  | [], [], _ => rfl
  | [], v :: S, _ => by
    rw [List.nil_append]
    unfold inB
    rw [if_pos (by rw [List.length_cons]; omega)]
  | w :: O, S, hO => by
    have h1 := hO w (List.mem_cons_self ..)
    have h2 := inB_no O S (fun u hu => hO u (List.mem_cons_of_mem _ hu))
    rw [List.cons_append]
    unfold inB
    rw [if_neg (by rw [List.length_append]; omega), if_neg (by omega), h2]
theorem e272 (g : QS c S C m b) (hb : b < 1700) (d : Nat) : E (d + 2) 272 [vr 48 0] (c, l, x, y) = some (some (vi (iv (inB b S))), c, l, x, y) := by
  have h := e272_5 (l := l) (x := x) (y := y) g.2.2.2.1 hb d S g.1.2 (by have := g.2.2.2.2.1; omega) g.2.2.2.2.2.1
  rw [q_272, g.1.1]
  have e : iv (S.length : Nat) - 1 = iv ((S.length : Int) - 1) := by
    show iv (S.length : Nat) - iv 1 = _
    rw [iv_sub]
  rw [e]
  exact h
/-- what is here -/
theorem AS_look (h : AS c tp n z S C m b) (d : Nat) : ∃ c1 : Nat → Nat → Nat → Int32, E (d + 1) 150 [vr 48 0] (c, l, x, y) = some (some (vi (iv (btT tp n z.1.1))), c1, l, x, y) ∧ RL c1 tp n z.1 ∧ AS c1 tp n z S C m b ∧ FR c c1 := by
  obtain ⟨h1, h2, h3, h4, h5⟩ := h
  rw [tz_eta z h2] at h1
  obtain ⟨c1, g1, g2, g3⟩ := e150 (l := l) (x := x) (y := y) h1 d
  refine ⟨c1, g1, g2, ⟨?_, h2, QS_FR g3 h3, h4, h5⟩, g3⟩
  rw [tz_eta z h2]
  exact RL_RZ g2
theorem AS_0 (h : AS c tp n z S C m b) : c 48 0 5 = 0 := (RZ_flt h.1).mpr h.2.1
theorem AS_b (h : AS c tp n z S C m b) : b < 1700 := by
  have h1 := RZ_le h.1 h.2.1
  have h2 := h.1.2.1.1
  have h3 := h.2.2.2
  omega
/-- a sign is passed -/
theorem AS_sign {c1 : Nat → Nat → Nat → Int32} (hL : RL c1 tp n z.1) (h : AS c1 tp n z S C m b) {sg : Int} (hsg : 1 ≤ sg ∧ sg < 256 ∧ ¬ (97 ≤ sg ∧ sg ≤ 122) ∧ ¬ (48 ≤ sg ∧ sg ≤ 57)) (e : sgnT tp n z.1 = sg) : AS (am_ui c1 48 0 2 (c1 48 0 2 + 1)) tp n (avZ tp n z) S C m b := by
  have h2 := avZ_lt (tp := tp) (n := n) (z := z) (by omega)
  refine ⟨?_, h.2.1, QS_FR (FR.ui _ _ (by omega)) h.2.2.1, by have := h.2.2.2.1; omega, h.2.2.2.2⟩
  have := RL_sign hL hsg e
  unfold avZ
  rw [h.2.1]
  exact this
/-- ')' -/
theorem g_close {br : Nat} (h : AS c tp n z (O ++ br :: S) C m b) (hO : ∀ v ∈ O, v < 20) (hbr : br = 20 ∨ br = 23 ∨ br = 24) (hb : b ≤ S.length) (hs : sgnT tp n z.1 = 41) (d : Nat) : ∃ c2 : Nat → Nat → Nat → Int32, X (d + 4) 271 0 [some (vr 48 0), none] [] (c, l, x, y) = X (d + 4) 271 0 [some (vr 48 0), none] [] (c2, l, x, y) ∧ AS c2 tp n (avZ tp n z) (d60 b S).2 (C ++ O ++ clC br ++ (d60 b S).1) (m + 1 + (d60 b S).1.length) b ∧ FK c c2 := by
  obtain ⟨c1, a1, a2, a3, a4⟩ := AS_look (l := l) (x := x) (y := y) h (d + 2)
  have hbt := (sgnS_iff (tp := tp) (n := n) (s := z.1) (sg := 41) (by omega)).mp hs
  have hB := AS_b h
  have h272 := e272 (l := l) (x := x) (y := y) a3.2.2.1 hB (d + 1)
  rw [inB_br O S hO (by omega) hb] at h272
  have hgo : X (d + 4) 271 0 [some (vr 48 0), none] [] (c, l, x, y) = X (d + 4) 271 19 [some (vr 48 0), none] [] (c1, l, x, y) := by
    rw [q_271_0, if_pos (AS_0 h), a1, hbt]
    simp only [am_bi_v]
    rw [if_pos (by rfl), h272]
    simp only [am_bi_v]
    rcases hbr with rfl | rfl | rfl
    · rw [if_pos (by rfl)]
    · rw [if_neg (by decide), h272]
      simp only [am_bi_v]
      rw [if_pos (by rfl)]
    · rw [if_neg (by decide), h272]
      simp only [am_bi_v]
      rw [if_neg (by decide), h272]
      simp only [am_bi_v]
      rw [if_pos (by rfl)]
  have s1 := AS_sign a2 a3 (sg := 41) (by omega) hs
  obtain ⟨s1z, s1n, s1q, s1l, s1b⟩ := s1
  obtain ⟨c3, b1, b2, b3, b4⟩ := e274 (l := l) (x := x) (y := y) hB d (O ++ br :: S) C _ s1q
  rw [drB_br O S hO (by omega) hb] at b2
  dsimp only at b2
  have b5 := b4 tp n _ s1z
  have h80 : c3 48 0 80 = iv ((S.length + 1 : Nat) : Int) := b2.1.1
  have h109 : c3 109 0 S.length = iv (br : Nat) := b2.1.2.1
  have h81 : c3 48 0 81 = iv (6 - (m : Int)) := b2.2.2.1
  have hl := b2.2.2.2.2.1
  rw [List.length_cons, List.length_append] at hl
  rw [List.length_append, List.length_cons] at s1l
  have hsub : iv ((S.length + 1 : Nat) : Int) - 1 = iv (S.length : Nat) := by
    show iv ((S.length + 1 : Nat) : Int) - iv 1 = _
    rw [iv_sub, show ((S.length + 1 : Nat) : Int) - 1 = (S.length : Int) by omega]
  have hcl : c3 48 0 81 - 1 = iv (6 - ((m + 1 : Nat) : Int)) := by
    rw [h81]
    show iv (6 - (m : Int)) - iv 1 = _
    rw [iv_sub, show 6 - (m : Int) - 1 = 6 - ((m + 1 : Nat) : Int) by omega]
  have hlo : ¬ (iv (S.length : Nat) < 0 ∨ 1700 ≤ (iv (S.length : Nat)).toNatClampNeg) := by
    have h0 : (iv (S.length : Nat) < 0) = ((S.length : Int) < 0) := iv_lt (b := 0) (by omega) (by omega)
    rw [h0, iv_nat (by omega)]
    omega
  have p1 := QS_cl (QS_pop b2)
  have pz : RZ (am_ui (am_ui c3 48 0 80 (iv (S.length : Nat))) 48 0 81 (iv (6 - ((m + 1 : Nat) : Int)))) tp n (avZ tp n z) := RZ_q b5 (fun j hj => by rw [ui_ne _ _ _ _ (by omega), ui_ne _ _ _ _ (by omega)]) (fun k hk => by rw [ui_nk _ _ _ _ (by omega), ui_nk _ _ _ _ (by omega)])
  have pF : FK c (am_ui (am_ui c3 48 0 80 (iv (S.length : Nat))) 48 0 81 (iv (6 - ((m + 1 : Nat) : Int)))) := ((((FK_FR a4).tr (FK.ui _ _ _ (by omega))).tr b3).tr (FK.ui _ _ _ (by omega))).tr (FK.ui _ _ _ (by omega))
  have hd := d60_len b S
  have hdb := d60_b b S hb
  have tell : ∀ v : Nat, v < 20 → ∃ c2 : Nat → Nat → Nat → Int32, am_bv (E (d + 3) 263 [vr 48 0, vi (iv (v : Nat))] (am_ui (am_ui c3 48 0 80 (iv (S.length : Nat))) 48 0 81 (iv (6 - ((m + 1 : Nat) : Int))), l, x, y)) (fun g3 => am_bv (E (d + 3) 269 [vr 48 0] g3) (fun g4 => X (d + 4) 271 0 [some (vr 48 0), none] [] g4)) = X (d + 4) 271 0 [some (vr 48 0), none] [] (c2, l, x, y) ∧ AS c2 tp n (avZ tp n z) (d60 b S).2 (C ++ O ++ [v] ++ (d60 b S).1) (m + 1 + (d60 b S).1.length) b ∧ FK c c2 := by
    intro v hv
    have h263 := e263 (c := am_ui (am_ui c3 48 0 80 (iv (S.length : Nat))) 48 0 81 (iv (6 - ((m + 1 : Nat) : Int)))) (l := l) (x := x) (y := y) (k := (C ++ O).length) (by rw [List.length_append]; omega) p1.2.1.1 (iv (v : Nat)) (d + 2)
    have p2 := QS_tell p1 (v := v) (by omega) (by rw [List.length_append]; omega)
    have pz2 : RZ (am_ui (am_ui (am_ui (am_ui c3 48 0 80 (iv (S.length : Nat))) 48 0 81 (iv (6 - ((m + 1 : Nat) : Int)))) 108 0 (C ++ O).length (iv (v : Nat))) 48 0 78 (iv (((C ++ O).length + 1 : Nat) : Int))) tp n (avZ tp n z) := RZ_q pz (fun j hj => by rw [ui_ne _ _ _ _ (by omega), ui_nk _ _ _ _ (by omega)]) (fun k hk => by rw [ui_nk _ _ _ _ (by omega), ui_nk _ _ _ _ (by omega)])
    obtain ⟨c4, k1, k2, k3, k4⟩ := e269 (l := l) (x := x) (y := y) hB d S (C ++ O ++ [v]) (m + 1) _ _ pz2 s1n p2
    rw [h263]
    simp only [am_bv_v]
    rw [q_269, k1]
    refine ⟨c4, rfl, ⟨k2, s1n, k3, ?_, hdb⟩, ((pF.tr (FK.ui _ _ _ (by omega))).tr (FK.ui _ _ _ (by omega))).tr k4⟩
    rw [List.length_append, List.length_append, List.length_append, List.length_singleton]
    omega
  rw [hgo, q_271_19, q_274, b1]
  simp only [am_bv_v]
  rw [h80, hsub, if_neg hlo, iv_nat (by omega), Int.toNat_natCast, h109, hcl]
  rcases hbr with rfl | rfl | rfl
  · rw [if_pos (by rfl)]
    obtain ⟨c4, k1, k2, k3, k4⟩ := e269 (l := l) (x := x) (y := y) hB d S (C ++ O) (m + 1) _ _ pz s1n p1
    rw [q_269, k1]
    refine ⟨c4, rfl, ⟨k2, s1n, ?_, ?_, hdb⟩, pF.tr k4⟩
    · show QS c4 (d60 b S).2 (C ++ O ++ [] ++ (d60 b S).1) (m + 1 + (d60 b S).1.length) b
      rw [List.append_nil]
      exact k3
    · show (d60 b S).2.length + (C ++ O ++ [] ++ (d60 b S).1).length ≤ _
      rw [List.append_nil, List.length_append, List.length_append]
      omega
  · rw [if_neg (by decide), if_neg (show ¬ (iv (S.length : Nat) < 0 ∨ 1700 ≤ S.length) by rw [show (iv (S.length : Nat) < 0) = ((S.length : Int) < 0) from iv_lt (b := 0) (by omega) (by omega)]; omega), if_pos (by rfl)]
    exact tell 5 (by omega)
  · rw [if_neg (by decide), if_neg (show ¬ (iv (S.length : Nat) < 0 ∨ 1700 ≤ S.length) by rw [show (iv (S.length : Nat) < 0) = ((S.length : Int) < 0) from iv_lt (b := 0) (by omega) (by omega)]; omega), if_neg (by decide)]
    exact tell 6 (by omega)
end
