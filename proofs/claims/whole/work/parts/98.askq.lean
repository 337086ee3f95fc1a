/-! the class's ask: a part, by how many may still be opened -/
section
variable {c : Nat → Nat → Nat → Int32} {l : Nat → Nat → Int64} {x y : Nat} {tp : Nat → Nat} {n : Nat} {z : Tz} {K : Ct} {F : Nat} {q : Cx} {m : Nat}
theorem CX_bd (h : CX c x K F q) : (-1 ≤ q.1 ∧ q.1 ≤ 7) ∧ q.2.1.length ≤ 8 ∧ (∀ w ∈ q.2.1, w < 20) ∧ (0 ≤ q.2.2.2 ∧ q.2.2.2 ≤ 1) := by
  obtain ⟨g1, g2, g3, g4, g5, g6⟩ := h
  have hb : 0 ≤ q.2.2.2 ∧ q.2.2.2 ≤ 1 := by
    rw [g5]
    unfold b01
    split <;> omega
  rcases g3 with ⟨e1, e2⟩ | ⟨i, hi, e1, e2⟩
  · rw [e1, e2]
    exact ⟨by omega, by decide, fun w hw => (by cases hw), hb⟩
  · have h8 := g6.2.1.2.2.2.2.1.1
    have h20 := g6.2.1.1.1
    have hc := g6.2.1.2.2.2.2.1.2 i hi
    rw [e1, e2]
    exact ⟨by omega, hc.2.1, fun w hw => by have := hc.2.2 w hw; omega, hb⟩
theorem atW_bd {ws : List Nat} (h : ∀ w ∈ ws, w < 20) (v : Int) : 0 ≤ atW ws v ∧ atW ws v ≤ 99 := by
  unfold atW
  split
  · rename_i h2
    have : ws.getD v.toNat 0 ∈ ws := by
      rw [List.getD_eq_getElem?_getD, List.getElem?_eq_getElem (show v.toNat < ws.length by omega)]
      exact List.getElem_mem _
    have := h _ this
    omega
  · omega
theorem hasW_bd {ws : List Nat} (h : ws.length ≤ 8) (v : Int) : 0 ≤ hasW ws v ∧ hasW ws v ≤ 8 := by
  unfold hasW
  have := List.countP_le_length (p := fun w : Nat => (w : Int) == v) (l := ws)
  omega
theorem e69 (hn : n ≤ 1600) (ht : ∀ i, tp i < 256) {D : Nat} {f : Option (Tz → List Nat × Tz)} (hD : 4 ≤ D) (hm : m ≤ 6) (hP : OP l x y tp n K F q m D f) {d : Nat} (hd : D + 1 ≤ d) (h : CZ c tp n z) (hX : CX c x K F q) (hz : z.2 = none) (h5 : c 44 0 5 = iv (6 - (m : Int))) {o : Nat} (ho : o = 14 ∨ o = 15) : ∃ (c2 : Nat → Nat → Nat → Int32) (r : Int32), E d 69 [vr 44 0, vi (iv (o : Nat))] (c, l, x, y) = some (some (vi r), c2, l, x, y) ∧ RC c c2 tp n m q (atZ tp n f (46 + o) z) r := by
  obtain ⟨d, rfl⟩ : ∃ e, d = e + 4 := ⟨d - 4, by omega⟩
  rw [q_69]
  unfold atZ
  rcases hP with ⟨rfl, rfl⟩ | ⟨k, P, rfl, rfl, hP, hPf⟩
  · obtain ⟨c2, g1, g2, g3⟩ := e64_0 (l := l) (x := x) (y := y) h hn hz h5 (d + 1)
    rw [g1]
    simp only [am_bi_v]
    rw [if_pos trivial]
    exact ⟨c2, 0, rfl, RC_bad g2 g3 (flZ_ns _ _ _)⟩
  · have g1 := e64_s (l := l) (x := x) (y := y) (k := k) (by omega) h hz h5 (d + 2)
    obtain ⟨c1, a1, a2, a3⟩ := e92 (l := l) (x := x) (y := y) (CZ_5 h (iv (6 - (k : Int)))) hn ht (d + 1)
    have hX1 := CX_FQ ((FQ_5 c (iv (6 - (k : Int)))).tr (FQ_FZ a3)) hX
    obtain ⟨c2, r1, b1, b2, b3, b4⟩ := hP (d + 3) c1 (avZ tp n z) (by omega) a2 hX1 (fun _ => by rw [FZ_5 a3, ui_self])
    have hF2 : FQ c (am_ui c2 44 0 5 (c2 44 0 5 - 1)) := (((FQ_5 c (iv (6 - (k : Int)))).tr (FQ_FZ a3)).tr b3).tr (FQ_5 _ _)
    have hX2 := CX_FQ hF2 hX
    have rb : -2147483648 ≤ r1.toInt ∧ r1.toInt < 2147483648 := ⟨Int32.le_toInt r1, Int32.toInt_lt r1⟩
    have hb := CX_bd hX
    rw [g1]
    simp only [am_bi_v]
    rw [if_neg (show ¬ (1 : Int32) = 0 by decide), a1]
    simp only [am_bv_v]
    rw [b1]
    simp only [am_bi_v]
    rcases ho with rfl | rfl
    · have h70 := e70 (l := l) (y := y) hX2 rb (d + 1)
      rw [← iv_self r1] at h70
      rw [if_pos (show iv ((14 : Nat) : Int) = 14 from rfl), h70]
      simp only [am_bi_v]
      refine ⟨_, _, rfl, CZ_5 b2 _, hF2, fun e => ?_⟩
      obtain ⟨o1, v, o2, o3, o4⟩ := b4 e
      refine ⟨by rw [ui_self, opn_dec (by omega) o1], atW q.2.1 v, ?_, ?_, ?_⟩
      · rw [o2, iv_toInt (by omega)]
      · have := atW_bd hb.2.2.1 v
        omega
      · exact Val_un o4 (fun st => by
          unfold stp
          rw [if_neg (by decide), if_neg (by decide), if_neg (by decide), if_neg (by decide), if_neg (by decide), if_neg (by decide)]
          dsimp only
          rw [if_neg (by decide), if_pos rfl])
    · have h72 := e72 (l := l) (y := y) hX2 rb (d + 1)
      rw [← iv_self r1] at h72
      rw [if_neg (show ¬ iv ((15 : Nat) : Int) = 14 by decide), h72]
      simp only [am_bi_v]
      refine ⟨_, _, rfl, CZ_5 b2 _, hF2, fun e => ?_⟩
      obtain ⟨o1, v, o2, o3, o4⟩ := b4 e
      refine ⟨by rw [ui_self, opn_dec (by omega) o1], hasW q.2.1 v, ?_, ?_, ?_⟩
      · rw [o2, iv_toInt (by omega)]
      · have := hasW_bd hb.2.1 v
        omega
      · exact Val_un o4 (fun st => by
          unfold stp
          rw [if_neg (by decide), if_neg (by decide), if_neg (by decide), if_neg (by decide), if_neg (by decide), if_neg (by decide)]
          dsimp only
          rw [if_neg (by decide), if_neg (by decide), if_pos rfl])
theorem e73 (hX : CX c x K F q) {o : Nat} (ho : 10 ≤ o ∧ o ≤ 13) (d : Nat) : ∃ v : Int, E (d + 3) 73 [vr 44 0, vi (iv (o : Nat))] (c, l, x, y) = some (some (vi (iv v)), c, l, x, y) ∧ (-1000000 ≤ v ∧ v ≤ 1000000) ∧ Val q [30 + o] v := by
  have hb := CX_bd hX
  have h71 := e71 (l := l) (y := y) hX (d + 1)
  obtain ⟨g1, g2, g3, g4, g5, g6⟩ := hX
  rw [q_73]
  rcases (show o = 10 ∨ o = 11 ∨ o = 12 ∨ o = 13 by omega) with rfl | rfl | rfl | rfl
  · rw [if_pos (show iv ((10 : Nat) : Int) = 10 from rfl), g1]
    refine ⟨q.1, rfl, by omega, Val_one (fun st => ?_)⟩
    unfold stp
    rw [if_neg (by decide), if_neg (by decide), if_pos rfl]
  · rw [if_neg (show ¬ iv ((11 : Nat) : Int) = 10 by decide), if_pos (show iv ((11 : Nat) : Int) = 11 from rfl), h71]
    refine ⟨q.2.1.length, rfl, by omega, Val_one (fun st => ?_)⟩
    unfold stp
    rw [if_neg (by decide), if_neg (by decide), if_neg (by decide), if_pos rfl]
  · rw [if_neg (show ¬ iv ((12 : Nat) : Int) = 10 by decide), if_neg (show ¬ iv ((12 : Nat) : Int) = 11 by decide), if_pos (show iv ((12 : Nat) : Int) = 12 from rfl), g2]
    refine ⟨q.2.2.1, rfl, by omega, Val_one (fun st => ?_)⟩
    unfold stp
    rw [if_neg (by decide), if_neg (by decide), if_neg (by decide), if_neg (by decide), if_pos rfl]
  · have h23 := e23 (l := l) (y := y) g6 d
    have ht2 : tru K ≤ 2 := by
      unfold tru
      split
      · omega
      · split <;> omega
    rw [if_neg (show ¬ iv ((13 : Nat) : Int) = 10 by decide), if_neg (show ¬ iv ((13 : Nat) : Int) = 11 by decide), if_neg (show ¬ iv ((13 : Nat) : Int) = 12 by decide), if_pos (show iv ((13 : Nat) : Int) = 13 from rfl), h23]
    simp only [am_bi_v]
    rw [g2]
    refine ⟨q.2.2.2, ?_, by omega, Val_one (fun st => ?_)⟩
    · have he : (iv q.2.2.1 = iv (tru K : Nat)) = (q.2.2.1 = (tru K : Int)) := iv_eq (by omega) (by omega)
      rw [g5]
      unfold b01
      simp only [he]
      split <;> rfl
    · unfold stp
      rw [if_neg (by decide), if_neg (by decide), if_neg (by decide), if_neg (by decide), if_neg (by decide), if_pos rfl]
theorem e67 (hn : n ≤ 1600) (ht : ∀ i, tp i < 256) {D : Nat} {f : Option (Tz → List Nat × Tz)} (hD : 4 ≤ D) (hm : m ≤ 6) (hP : OP l x y tp n K F q m D f) : CT l x y tp n K F q m 67 (D + 4) (pcZ tp n f) := by
  intro d c z hd h hX h5
  obtain ⟨d, rfl⟩ : ∃ e, d = e + 5 := ⟨d - 5, by omega⟩
  have hs := sgn_bd (n := n) ht z.1
  have hp := CZ_le h
  unfold pcZ
  cases hz : z.2 with
  | some f =>
    have h0 : ¬ c 1 0 5 = 0 := by
      show ¬ c 1 0 5 = iv 0
      rw [CZ_flt h, hz]
      exact fun q => by cases q
    rw [q_67, if_neg h0, if_pos (show (some f).isSome = true from rfl)]
    exact ⟨c, 0, rfl, RC_bad h (FQ.refl c) (by rw [hz]; exact fun q => by cases q)⟩
  | none =>
    have h0 : c 1 0 5 = 0 := by
      show c 1 0 5 = iv 0
      rw [CZ_flt h]; exact hz
    have h5 := h5 hz
    have e48 : (iv (sgnT tp n z.1) = 48) = (sgnT tp n z.1 = 48) := iv_eq (b := 48) (by omega) (by omega)
    have e40 : (iv (sgnT tp n z.1) = 40) = (sgnT tp n z.1 = 40) := iv_eq (b := 40) (by omega) (by omega)
    rw [q_67, if_pos h0, CZ_sgn h, if_neg (show ¬ (none : Option (Nat × Nat)).isSome = true from Bool.false_ne_true)]
    by_cases s1 : sgnT tp n z.1 = 48
    · rw [if_pos (e48.mpr s1), if_pos s1]
      obtain ⟨c2, g1, g2, g3⟩ := e97 (l := l) (x := x) (y := y) h hn ht (most := 9999) (by omega) (d + 1)
      have g1 : E (d + 4) 97 [vr 1 0, vi 9999] (c, l, x, y) = _ := g1
      rw [g1]
      simp only [am_bi_v]
      refine ⟨c2, _, rfl, g2, FQ_FZ g3, fun e => ?_⟩
      have e : (tnZ tp n 9999 z).2.2 = none := e
      cases hv : (tnZ tp n 9999 z).1 with
      | none =>
        have := tnZ_none hv
        rw [e] at this
        cases this
      | some v =>
        have hv2 := tnZ_some hv
        refine ⟨by rw [FZ_5 g3]; exact h5, v, rfl, by omega, Val_one (fun st => ?_)⟩
        unfold stp
        rw [if_pos (show 1000 ≤ 1000 + (some v).getD 0 by omega)]
        show some ((((1000 + v) - 1000 : Nat) : Int) :: st) = _
        rw [show 1000 + v - 1000 = v by omega]
    · rw [if_neg (fun e => s1 (e48.mp e)), if_neg s1]
      by_cases s2 : sgnT tp n z.1 = 40
      · rw [if_pos (e40.mpr s2), if_pos s2]
        obtain ⟨c2, r, g1, g2⟩ := e68 hn ht hD hm hP (d := d + 4) (by omega) h hX hz h5 (Or.inl ⟨rfl, rfl⟩)
        rw [g1]
        exact ⟨c2, r, rfl, g2⟩
      · rw [if_neg (fun e => s2 (e40.mp e)), if_neg s2]
        have h94 := e94 (l := l) (x := x) (y := y) h hn ht (t := 1) (by decide) (d + 3)
        have h94 : E (d + 4) 94 [vr 1 0, vr 200 1] (c, l, x, y) = _ := h94
        obtain ⟨cf, f1, f2, f3⟩ := e95 (l := l) (x := x) (y := y) h (k := 1) (p := z.1.1) (by omega) (by omega) (d + 3)
        have f1 : E (d + 4) 95 [vr 1 0, vi 1, vi (iv (z.1.1 : Nat))] (c, l, x, y) = _ := f1
        rw [h94]
        simp only [am_bi_v]
        rw [CZ_at h]
        cases ho : lixT tp n 1 z.1 with
        | none =>
          rw [if_pos (show iv (oi none) < 10 by decide), f1]
          exact ⟨cf, 0, rfl, RC_bad f2 (FQ_FZ f3) (flZ_ns _ _ _)⟩
        | some o =>
          have hlt := lix_lt ho
          have hoi : oi (some o) = (o : Int) := rfl
          have eo : ∀ k : Nat, k < 100 → (iv (o : Nat) = iv (k : Nat)) = (o = k) := by
            intro k hk
            rw [iv_eq (by omega) (by omega)]
            exact propext Int.ofNat_inj
          have elt : (iv (o : Nat) < 10) = (o < 10) := by
            show (iv (o : Nat) < iv ((10 : Nat) : Int)) = _
            rw [iv_lt (by omega) (by omega)]
            exact propext Int.ofNat_lt
          rw [hoi]
          dsimp only
          by_cases o1 : o < 10
          · rw [if_pos (elt.mpr o1), if_pos o1, f1]
            exact ⟨cf, 0, rfl, RC_bad f2 (FQ_FZ f3) (flZ_ns _ _ _)⟩
          · rw [if_neg (fun e => o1 (elt.mp e)), if_neg o1]
            by_cases o2 : o = 14 ∨ o = 15
            · rw [if_pos o2]
              obtain ⟨c2, r, g1, g2⟩ := e69 hn ht hD hm hP (d := d + 4) (by omega) h hX hz h5 o2
              rw [g1]
              rcases o2 with rfl | rfl
              · rw [if_pos (show iv ((14 : Nat) : Int) = 14 from rfl)]
                exact ⟨c2, r, rfl, g2⟩
              · rw [if_neg (show ¬ iv ((15 : Nat) : Int) = 14 by decide), if_pos (show iv ((15 : Nat) : Int) = 15 from rfl)]
                exact ⟨c2, r, rfl, g2⟩
            · have n14 : ¬ iv (o : Nat) = 14 := fun e => o2 (Or.inl ((eo 14 (by omega)).mp e))
              have n15 : ¬ iv (o : Nat) = 15 := fun e => o2 (Or.inr ((eo 15 (by omega)).mp e))
              obtain ⟨c1, a1, a2, a3⟩ := e92 (l := l) (x := x) (y := y) h hn ht (d + 2)
              have a1 : E (d + 4) 92 [vr 1 0] (c, l, x, y) = _ := a1
              have hX1 := CX_FQ (FQ_FZ a3) hX
              have h51 : c1 44 0 5 = iv (6 - (m : Int)) := by rw [FZ_5 a3]; exact h5
              have hav : (avZ tp n z).2 = none := hz
              rw [if_neg n14, if_neg n15, a1, if_neg o2]
              simp only [am_bv_v]
              by_cases o3 : o = 16 ∨ o = 17
              · rw [if_pos o3]
                rcases o3 with rfl | rfl
                · obtain ⟨c2, r, g1, g2, g3, g4⟩ := e68 hn ht hD hm hP (d := d + 4) (by omega) a2 hX1 hav h51 (a := 16) (w := 5) (Or.inr (Or.inl ⟨rfl, rfl⟩))
                  have g1 : E (d + 4) 68 [vr 44 0, vi (iv ((16 : Nat) : Int))] (c1, l, x, y) = _ := g1
                  rw [if_pos (show iv ((16 : Nat) : Int) = 16 from rfl), g1]
                  exact ⟨c2, r, rfl, g2, (FQ_FZ a3).tr g3, g4⟩
                · obtain ⟨c2, r, g1, g2, g3, g4⟩ := e68 hn ht hD hm hP (d := d + 4) (by omega) a2 hX1 hav h51 (a := 17) (w := 6) (Or.inr (Or.inr ⟨rfl, rfl⟩))
                  have g1 : E (d + 4) 68 [vr 44 0, vi (iv ((17 : Nat) : Int))] (c1, l, x, y) = _ := g1
                  rw [if_neg (show ¬ iv ((17 : Nat) : Int) = 16 by decide), if_pos (show iv ((17 : Nat) : Int) = 17 from rfl), g1]
                  exact ⟨c2, r, rfl, g2, (FQ_FZ a3).tr g3, g4⟩
              · have n16 : ¬ iv (o : Nat) = 16 := fun e => o3 (Or.inl ((eo 16 (by omega)).mp e))
                have n17 : ¬ iv (o : Nat) = 17 := fun e => o3 (Or.inr ((eo 17 (by omega)).mp e))
                obtain ⟨v, g1, g2, g3⟩ := e73 (l := l) (y := y) hX1 (o := o) (by omega) (d + 1)
                have g1 : E (d + 4) 73 [vr 44 0, vi (iv (o : Nat))] (c1, l, x, y) = _ := g1
                rw [if_neg o3, if_neg n16, if_neg n17, g1]
                exact ⟨c1, iv v, rfl, a2, FQ_FZ a3, fun _ => ⟨h51, v, rfl, g2, g3⟩⟩
/-- a part -/
theorem partC (hn : n ≤ 1600) (ht : ∀ i, tp i < 256) : ∀ m, m ≤ 6 → CT l x y tp n K F q m 67 (8 + 4 * m) (partZ tp n m)
  | 0, _ => e67 hn ht (D := 4) (by omega) (by omega) (Or.inl ⟨rfl, rfl⟩)
  | m + 1, h => e67 hn ht (D := 8 + 4 * m) (by omega) h (Or.inr ⟨m, partZ tp n m, rfl, rfl, partC hn ht m (by omega), fun z hz => partZ_f m hz⟩)
end
