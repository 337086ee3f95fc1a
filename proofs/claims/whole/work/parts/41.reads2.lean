/-! the reference reads and rules -/
section
variable {c : Nat → Nat → Nat → Int32} {l : Nat → Nat → Int64} {x y : Nat} {K : Ct} {F : Nat}
theorem drop_map_fst {PL : List (Nat × Nat)} {p : Nat} : (PL.map (·.1)).drop p = (PL.drop p).map (·.1) := by rw [List.map_drop]
theorem e204_51 {PL : List (Nat × Nat)} {N : Nat} (hw : ∀ w ∈ PL.map (·.1), w < nW K ∧ knd K w ≠ 5) (hx : ∀ w ∈ PL.map (·.2), w < N) (hN : N ≤ 16) (hl : PL.length ≤ 16) (d : Nat) : ∀ (n p b : Nat) (dn : List Cs) (c : Nat → Nat → Nat → Int32), PL.length < p + n → p ≤ PL.length → b ≤ 5 → dn.length ≤ p → RR c l K F → PlAt c PL → c 48 0 44 = iv N → ClsAt c dn → c 48 0 48 = iv (-1) → ∃ c2 : Nat → Nat → Nat → Int32, X (d + 5) 204 51 [some (vr 48 0), some (vi (iv (p : Nat))), some (vi (iv (b : Nat))), none] [] (c, l, x, y) = some (some (vi (iv (if (meanO K F (((PL.drop p).map (·.1)).foldl (hearO K F) (some (dn, b, 0, [])))).isSome then 1 else 0))), c2, l, x, y) ∧ Sx c c2 ∧ (∀ cs, meanO K F (((PL.drop p).map (·.1)).foldl (hearO K F) (some (dn, b, 0, []))) = some cs → ClsAt c2 cs) ∧ (meanO K F (((PL.drop p).map (·.1)).foldl (hearO K F) (some (dn, b, 0, []))) = none → c2 48 0 48 = iv (nosP K F N (PL.drop p) (dn, b, 0, []) (-1))) := by
  have hpl : (PL.map (·.1)).length = PL.length := List.length_map ..
  have hpx : (PL.map (·.2)).length = PL.length := List.length_map ..
  intro n
  induction n with
  | zero => intro p b dn c h1 h2; omega
  | succ n ih =>
    intro p b dn c hn hp hb hdn hR hP h44 hC h48
    have key := e205 (x := x) (y := y) hR hP hw hl hC hdn hp hb d
    have h5 : ∀ w ∈ (PL.drop p).map (·.1), knd K w ≠ 5 := fun w q => (hw w (by rw [← drop_map_fst] at q; exact List.mem_of_mem_drop q)).2
    rw [drop_map_fst] at key
    cases he : clE K F [] 0 ((PL.drop p).map (·.1)) with
    | none =>
      rw [he] at key
      obtain ⟨c2, g1, g2⟩ := key
      obtain ⟨m1, m2⟩ := clE_none (n := N) (PL.drop p) [] 0 dn b (-1) h5 he
      have s2 : Sx c c2 := ⟨fun k k1 k2 => g2 k (by omega), fun i s _ _ _ _ => by rw [g2 48 (by decide)]⟩
      rw [m1, m2]
      have fin : ∀ (v : Int) (c3 : Nat → Nat → Nat → Int32), 0 ≤ v → v ≤ 16 → c3 48 0 48 = iv v → X (d + 5) 204 51 [some (vr 48 0), some (vi (iv (p : Nat))), some (vi (iv (b : Nat))), none] [] (c3, l, x, y) = some (some (vi (iv 0)), c3, l, x, y) := by
        intro v c3 h1 h2 h3
        rw [q_204_51, h3]
        simp (disch := omega) only [iv_add, iv_sub, iv_mul, iv_neg, iv_lt, iv_le, iv_eq, iv_nat, iv_L, iv_L2, am_bi_v, am_bv_v, am_bl_v, if_pos, if_neg, Int.toNat_natCast, Int.toNat_add, Int.toNat_mul, Int.reduceToNat]
      have e0 : X (d + 5) 204 51 [some (vr 48 0), some (vi (iv (p : Nat))), some (vi (iv (b : Nat))), none] [] (c, l, x, y) = if p < PL.length then X (d + 5) 204 51 [some (vr 48 0), some (vi (iv (p : Nat))), some (vi (iv (b : Nat))), none] [] (am_ui c2 48 0 48 (c2 81 0 p), l, x, y) else X (d + 5) 204 51 [some (vr 48 0), some (vi (iv (p : Nat))), some (vi (iv (b : Nat))), none] [] (am_ui c2 48 0 48 (c2 48 0 44), l, x, y) := by
        conv => lhs; rw [q_204_51, h48]
        simp (disch := omega) only [iv_L, iv_neg, iv_eq, if_true]
        rw [g1]
        have q47 : c2 48 0 47 = iv PL.length := by rw [g2 48 (by decide)]; exact hP.1
        simp (disch := omega) only [am_bi_v, iv_eq, if_true, q47, iv_lt, iv_nat, Int.toNat_natCast, Int.toNat_add, Int.toNat_mul, Int.reduceToNat]
        by_cases e : p < PL.length
        · rw [if_pos (by omega), if_pos e, if_neg (by omega)]
        · rw [if_neg (by omega), if_neg e]
      by_cases e : p < PL.length
      · have hv : c2 81 0 p = iv ((PL.map (·.2)).getD p 0 : Nat) := by rw [g2 81 (by decide)]; exact (hP.2 p e).2
        have hb2 := hx _ (getD_mem (k := p) (by omega))
        rw [if_pos e, hv] at e0
        refine ⟨am_ui c2 48 0 48 (iv ((PL.map (·.2)).getD p 0 : Nat)), ?_, s2.tr (Sx.ui _ _ _ _ (by omega)), fun cs q => (by cases q), fun _ => ?_⟩
        · rw [e0]
          exact fin _ _ (by omega) (by omega) (ui_self _ _ _ _)
        · rw [ui_self]
          have hd : PL.drop p = PL[p] :: PL.drop (p + 1) := List.drop_eq_getElem_cons e
          rw [hd]
          dsimp only
          rw [if_pos rfl, List.getD_eq_getElem?_getD, List.getElem?_map, List.getElem?_eq_getElem e]
          rfl
      · rw [if_neg e, g2 48 (by decide), h44] at e0
        refine ⟨am_ui c2 48 0 48 (iv N), ?_, s2.tr (Sx.ui _ _ _ _ (by omega)), fun cs q => (by cases q), fun _ => ?_⟩
        · rw [e0]
          exact fin _ _ (by omega) (by omega) (ui_self _ _ _ _)
        · rw [ui_self, List.drop_of_length_le (by omega)]
          rfl
    | some q =>
      obtain ⟨i, cur, t, rest⟩ := q
      rw [he] at key
      obtain ⟨c2, g1, g2, g3, g4⟩ := key
      obtain ⟨r2, cl2, m1, m2, m3, m4⟩ := clE_some (F := F) hR.2.1 (n := N) (PL.drop p) [] 0 dn b i cur t rest (-1) h5 (fun w q => by cases q) he
      obtain ⟨n1, n2, n3, n4⟩ := clE_len _ _ _ _ _ _ _ he
      obtain ⟨o1, o2, o3, o4, o5⟩ := clE_cur _ _ _ _ _ _ _ he
      simp only [List.length_nil, Nat.sub_zero, Nat.add_zero] at n3 n4
      have hlen : ((PL.drop p).map (·.1)).length = PL.length - p := by rw [List.length_map, List.length_drop]
      have hcur : cur ≠ [] := by
        intro q
        have := fitL_lt hR.2.1 o2
        rw [q, patW_nil] at this
        omega
      have hcl : 1 ≤ cur.length := List.length_pos_iff.mpr hcur
      have s2 : Sx c c2 := ⟨fun k k1 k2 => g2 k (by omega) (by omega) (by omega), fun i s _ _ _ k4 => g3 i s k4⟩
      have q47 : c2 48 0 47 = iv PL.length := by rw [g3 0 47 (by decide)]; exact hP.1
      have hr2 : r2 = PL.drop (p + t + cur.length) := by
        obtain ⟨z, hz⟩ := m2
        have hl2 : r2.length = PL.length - (p + t + cur.length) := by
          have := congrArg List.length m1
          rw [List.length_map] at this
          omega
        have hzl : z.length = t + cur.length := by
          have := congrArg List.length hz
          rw [List.length_append, List.length_drop] at this
          omega
        rw [show p + t + cur.length = p + (t + cur.length) by omega, ← List.drop_drop, ← hz, ← hzl, List.drop_left]
      have hrm : rest = (PL.drop (p + t + cur.length)).map (·.1) := by rw [← hr2, m1]
      rw [m3 (), m4]
      have hfin : finS K F (dn, b, t, cur) = some (dn ++ [mkCl K i cur t b]) := by unfold finS; rw [o2]; rfl
      have e0 : X (d + 5) 204 51 [some (vr 48 0), some (vi (iv (p : Nat))), some (vi (iv (b : Nat))), none] [] (c, l, x, y) = if p + t + cur.length = PL.length then some (some (vi (iv 1)), c2, l, x, y) else (am_bi (E (d + 4) 184 [vr 48 0, vi (c2 80 0 (p + t + cur.length))] (c2, l, x, y)) (fun r4 g3 => X (d + 5) 204 51 [some (vr 48 0), some (vi (iv ((p + t + cur.length : Nat) : Int) + 1)), some (vi r4), none] [] g3)) := by
        conv => lhs; rw [q_204_51, h48]
        simp (disch := omega) only [iv_L, iv_neg, iv_eq, if_true]
        rw [g1]
        simp (disch := omega) only [am_bi_v, iv_eq, q47, iv_lt, iv_nat, Int.toNat_natCast, Int.toNat_add, Int.toNat_mul, Int.reduceToNat]
        rw [if_neg (by omega)]
        by_cases e : p + t + cur.length = PL.length
        · rw [if_pos (by omega), if_pos e]
        · rw [if_neg (by omega), if_neg e, if_neg (by omega)]
      by_cases e : p + t + cur.length = PL.length
      · rw [if_pos e] at e0
        have hrn : rest = [] := by rw [hrm, List.drop_of_length_le (by omega)]; rfl
        rw [hrn]
        have hm : meanO K F (([] : List Nat).foldl (hearO K F) (some (dn, b, t, cur))) = some (dn ++ [mkCl K i cur t b]) := hfin
        rw [hm]
        exact ⟨c2, e0, s2, fun cs q => (by cases q; exact g4), fun q => (by cases q)⟩
      · rw [if_neg e] at e0
        have hto : p + t + cur.length < PL.length := by omega
        have hto2 : p + t + cur.length < (PL.map (·.1)).length := by omega
        have hwt := hw _ (getD_mem hto2)
        have hd : PL.drop (p + t + cur.length) = PL[p + t + cur.length] :: PL.drop (p + t + cur.length + 1) := List.drop_eq_getElem_cons hto
        have hg : PL[p + t + cur.length].1 = (PL.map (·.1)).getD (p + t + cur.length) 0 := by
          rw [List.getD_eq_getElem?_getD, List.getElem?_map, List.getElem?_eq_getElem hto]
          rfl
        have hkk := (hR.2.1.1.2 _ hwt.1).2
        have hk34 : knd K ((PL.map (·.1)).getD (p + t + cur.length) 0) = 3 ∨ knd K ((PL.map (·.1)).getD (p + t + cur.length) 0) = 4 := by
          have hend : ∀ (r cur : List Nat) (t i : Nat) (cur2 : List Nat) (t2 : Nat) (w : Nat) (rest : List Nat), (∀ w ∈ r, knd K w ≠ 5) → (∀ w ∈ r, knd K w ≤ 5) → clE K F cur t r = some (i, cur2, t2, w :: rest) → knd K w = 3 ∨ knd K w = 4 := by
            intro r
            induction r with
            | nil =>
              intro cur t i cur2 t2 w rest _ _ h
              unfold clE at h
              cases hf : fitL K F (patW K cur) with
              | none => rw [hf] at h; cases h
              | some j => rw [hf] at h; cases h
            | cons v r ihr =>
              intro cur t i cur2 t2 w rest h5 h6 h
              have q5 := h5 v List.mem_cons_self
              have q6 := h6 v List.mem_cons_self
              unfold clE at h
              split at h
              · split at h
                · exact ihr _ _ _ _ _ _ _ (fun w q => h5 w (List.mem_cons_of_mem _ q)) (fun w q => h6 w (List.mem_cons_of_mem _ q)) h
                · cases h
              split at h
              · exact ihr _ _ _ _ _ _ _ (fun w q => h5 w (List.mem_cons_of_mem _ q)) (fun w q => h6 w (List.mem_cons_of_mem _ q)) h
              · cases hf : fitL K F (patW K cur) with
                | none => rw [hf] at h; cases h
                | some j => rw [hf] at h; cases h; omega
          rw [← hg]
          exact hend ((PL.drop p).map (·.1)) [] 0 i cur t PL[p + t + cur.length].1 ((PL.drop (p + t + cur.length + 1)).map (·.1)) h5 (fun w q => (hR.2.1.1.2 w (hw w (by rw [← drop_map_fst] at q; exact List.mem_of_mem_drop q)).1).2) (by rw [he, hrm, hd]; rfl)
        have hR2 : RR c2 l K F := Sx_RR s2 hR
        have hP2 : PlAt c2 PL := PlAt_fr hP (g3 0 47 (by decide)) (g2 80 (by decide) (by decide) (by decide)) (g2 81 (by decide) (by decide) (by decide))
        have hh : hearS K F (dn, b, t, cur) ((PL.map (·.1)).getD (p + t + cur.length) 0) = some (dn ++ [mkCl K i cur t b], knd K ((PL.map (·.1)).getD (p + t + cur.length) 0), 0, []) := by
          unfold hearS
          rw [if_neg (by omega), if_neg (by omega), if_neg (by omega), hfin]
          rfl
        obtain ⟨c3, k1, k2, k3, k4⟩ := ih (p + t + cur.length + 1) (knd K ((PL.map (·.1)).getD (p + t + cur.length) 0)) (dn ++ [mkCl K i cur t b]) c2 (by omega) (by omega) hkk (by rw [List.length_append, List.length_singleton]; omega) hR2 hP2 (by rw [g3 0 44 (by decide)]; exact h44) g4 (by rw [g3 0 48 (by decide)]; exact h48)
        have hfold : rest.foldl (hearO K F) (some (dn, b, t, cur)) = ((PL.drop (p + t + cur.length + 1)).map (·.1)).foldl (hearO K F) (some (dn ++ [mkCl K i cur t b], knd K ((PL.map (·.1)).getD (p + t + cur.length) 0), 0, [])) := by
          rw [hrm, hd, List.map_cons, List.foldl_cons, hg]
          show _ = List.foldl (hearO K F) _ _
          rw [show hearO K F (some (dn, b, t, cur)) ((PL.map (·.1)).getD (p + t + cur.length) 0) = hearS K F (dn, b, t, cur) ((PL.map (·.1)).getD (p + t + cur.length) 0) from rfl, hh]
        have hnos : nosP K F N r2 (dn, b, t, cur) cl2 = nosP K F N (PL.drop (p + t + cur.length + 1)) (dn ++ [mkCl K i cur t b], knd K ((PL.map (·.1)).getD (p + t + cur.length) 0), 0, []) (-1) := by
          rw [hr2, hd, show PL[p + t + cur.length] = (PL[p + t + cur.length].1, PL[p + t + cur.length].2) from rfl, nosP, hg, hh]
          dsimp only
          rw [if_pos hk34]
        rw [hfold, hnos]
        refine ⟨c3, ?_, s2.tr k2, k3, k4⟩
        rw [e0, (hP2.2 _ hto).1, e184 hR2 hwt.1]
        simp only [am_bi_v]
        rw [show (1 : Int32) = iv 1 from rfl, iv_add, show (((p + t + cur.length : Nat) : Int) + 1) = ((p + t + cur.length + 1 : Nat) : Int) by omega]
        exact k1
/-- what is tried is read -/
theorem e204 (h : RR c l K F) {ws : List Nat} (hT : TR c ws) (hw : ∀ w ∈ ws, w < nW K) (hl : ws.length ≤ 16) (d : Nat) : ∃ c2 : Nat → Nat → Nat → Int32, E (d + 5) 204 [vr 48 0] (c, l, x, y) = some (some (vi (iv (if (meanO K F (hearA K F ws)).isSome then 1 else 0))), c2, l, x, y) ∧ Sx c c2 ∧ (∀ cs, meanO K F (hearA K F ws) = some cs → ClsAt c2 cs) ∧ (meanO K F (hearA K F ws) = none → c2 48 0 48 = iv (nosR K F ws 0 startS (-1))) := by
  obtain ⟨c1, a1, a2, a3, a4, a5, a6⟩ := e204_5 (x := x) (y := y) hw hl (d + 3) ws.length 0 (am_ui c 48 0 47 (iv 0)) (by omega) (Sx_RR (Sx.ui _ _ _ _ (by omega)) h) ⟨by rw [ui_ne _ _ _ _ (by omega)]; exact hT.1, fun k hk => by rw [ui_nk _ _ _ _ (by decide)]; exact hT.2 k hk⟩ ⟨by rw [ui_self]; rfl, fun k hk => absurd hk (Nat.not_lt_zero _)⟩
  have hlen := plP_len (K := K) ws 0
  have hR1 : RR c1 l K F := Sx_RR ((Sx.ui _ _ _ _ (by omega)).tr a2) h
  obtain ⟨c2, b1, b2, b3, b4⟩ := e204_51 (l := l) (x := x) (y := y) (F := F) (PL := plP K ws 0) (N := ws.length) (fun w q => ⟨hw w (plP_mem ws 0 w q).1, (plP_mem ws 0 w q).2⟩) (fun w q => by have := plP_pos ws 0 w q; omega) hl (by omega) d ((plP K ws 0).length + 1) 0 0 [] c1 (by omega) (by omega) (by omega) (by simp) hR1 a4 a3.1 ⟨a5, fun k hk => absurd hk (Nat.not_lt_zero _)⟩ a6
  rw [List.drop_zero] at b1 b3 b4
  have hfold : hearA K F ws = ((plP K ws 0).map (·.1)).foldl (hearO K F) (some ([], 0, 0, [])) := fold_plP ws 0 (some startS)
  rw [← hfold] at b1 b3 b4
  refine ⟨c2, ?_, ((Sx.ui _ _ _ _ (by omega)).tr a2).tr b2, b3, fun q => ?_⟩
  · rw [q_204, ← b1]
    exact a1
  · rw [b4 q, nosR_nosP, Nat.zero_add]
    rfl
end
