/-! the reference's ask: parts, sums -/
section
variable {c c2 : Nat → Nat → Nat → Int32} {l : Nat → Nat → Int64} {x y : Nat} {tp : Nat → Nat} {n : Nat} {z : Tz} {s : Ts} {S T C O : List Nat} {m b v d : Nat} {v1 : Int32} {f P : Tz → List Nat × Tz}
/-- the outcome of a part -/
def PO (d : Nat) (l : Nat → Nat → Int64) (x y : Nat) (v1 : Int32) (tp : Nat → Nat) (n m b : Nat) (S C : List Nat) (r : List Nat × Tz) (c : Nat → Nat → Nat → Int32) : Prop := ∃ c2 : Nat → Nat → Nat → Int32, FK c c2 ∧ if r.2.2 = none then sA d l x y v1 c = sG d l x y v1 c2 ∧ AS c2 tp n r.2 (d60 b S).2 (C ++ r.1 ++ (d60 b S).1) (m + (d60 b S).1.length) b else sA d l x y v1 c = sF d l x y v1 c2 ∧ AF c2 tp n r.2
theorem PO_F {r : List Nat × Tz} (hF : FK c c2) (h : sA d l x y v1 c = sF d l x y v1 c2) (hA : AF c2 tp n r.2) : PO d l x y v1 tp n m b S C r c := by
  refine ⟨c2, hF, ?_⟩
  rw [if_neg (fun q => by have := hA.2.1; rw [q] at this; cases this)]
  exact ⟨h, hA⟩
theorem PO_G {r : List Nat × Tz} (hF : FK c c2) (h : sA d l x y v1 c = sG d l x y v1 c2) (hA : AS c2 tp n r.2 (d60 b S).2 (C ++ r.1 ++ (d60 b S).1) (m + (d60 b S).1.length) b) : PO d l x y v1 tp n m b S C r c := by
  refine ⟨c2, hF, ?_⟩
  rw [if_pos hA.2.1]
  exact ⟨h, hA⟩
/-- a SUM in brackets: its end -/
theorem br_end {br : Nat} {cs : List Nat} (hbr : br = 20 ∨ br = 23 ∨ br = 24) (h : AS c tp n z (O ++ br :: S) T m b) (hO : ∀ v ∈ O, v < 20) (hb : b ≤ S.length) (hC : T ++ O = C ++ cs) (hs : sgnT tp n z.1 ≠ 42 ∧ sgnT tp n z.1 ≠ 47 ∧ sgnT tp n z.1 ≠ 43 ∧ sgnT tp n z.1 ≠ 45) : ∃ c2 : Nat → Nat → Nat → Int32, FK c c2 ∧ if (tkZ tp n 41 z).2 = none then sG d l x y v1 c = sG d l x y v1 c2 ∧ AS c2 tp n (tkZ tp n 41 z) (d60 b S).2 (C ++ (cs ++ clC br) ++ (d60 b S).1) (m + 1 + (d60 b S).1.length) b else sG d l x y v1 c = sF d l x y v1 c2 ∧ AF c2 tp n (tkZ tp n 41 z) := by
  unfold tkZ
  by_cases e : sgnT tp n z.1 = 41
  · obtain ⟨c2, a1, a2, a3⟩ := g_close (l := l) (x := x) (y := y) h hO hbr hb e (d + 2)
    refine ⟨c2, a3, ?_⟩
    rw [if_pos (show z.2 = none ∧ sgnT tp n z.1 = 41 from ⟨h.2.1, e⟩), if_pos (show (avZ tp n z).2 = none from h.2.1)]
    refine ⟨sG_G a1, ?_⟩
    rw [← List.append_assoc, ← hC]
    exact a2
  · have hin := inB_br (b := b) O S hO (show 20 ≤ br ∧ br ≤ 24 by omega) hb
    obtain ⟨c1, a1, a2, a3⟩ := g_61 (l := l) (x := x) (y := y) h (fun q => e q.1) (AS_in h) (d + 2)
    obtain ⟨c3, b1, b2, b3⟩ := g_no4 (l := l) (x := x) (y := y) a2 hs (AS_in a2) (d + 2)
    obtain ⟨c4, f1, f2, f3⟩ := g_err (l := l) (x := x) (y := y) b2 (d + 2)
    rw [hin, if_neg (by omega), if_neg (by omega)] at b1
    refine ⟨c4, ((FK_FR a3).tr (FK_FR b3)).tr f3, ?_⟩
    rw [if_neg (show ¬ (z.2 = none ∧ sgnT tp n z.1 = 41) from fun q => e q.2), if_neg (flZ_ns _ _ _)]
    exact ⟨sG_0 ((a1.trans b1).trans f1), f2⟩
theorem sums_lt (h : ∀ v ∈ O, v ∈ [3, 4, 1, 2]) : ∀ v ∈ O, v < 20 := by
  intro v hv
  have := h v hv
  simp only [List.mem_cons, List.not_mem_nil, or_false] at this
  omega
theorem hd_ok {w : Nat} (h1 : 5 ≤ w) (h2 : w < 60) : ∀ v, (w :: S).head? = some v → ¬ v ∈ [3, 4, 1, 2] ∧ v < 60 := by
  intro v hv
  have := Option.some.inj hv
  simp only [List.mem_cons, List.not_mem_nil, or_false]
  omega
theorem sum_flt {k : Nat} (h : z.2.isSome = true) : sumZ tp n (partZ tp n k) z = ([], z) := sumZ_f (fun _ q => partZ_f k q) h
/-- ( SUM ) -/
theorem part_br {k : Nat} (hk : k < 6) (hP : PT d l x y v1 tp n k b (partZ tp n k)) (h : AS c tp n z S C (k + 1) b) (hs : sgnT tp n z.1 = 40) : PO d l x y v1 tp n (k + 1) b S C (brZ tp n (some (partZ tp n k)) 0 z) c := by
  obtain ⟨c1, a1, a2, a3⟩ := p_paren_s (l := l) (x := x) (y := y) hk h hs d
  obtain ⟨c3, b1, b2, b3⟩ := sum_S hP (partZ_le k) a2 (hd_ok (by omega) (by omega))
  have hr : brZ tp n (some (partZ tp n k)) 0 z = ((sumZ tp n (partZ tp n k) (avZ tp n z)).1, tkZ tp n 41 (sumZ tp n (partZ tp n k) (avZ tp n z)).2) := by
    unfold brZ
    rw [if_neg (fun q => q hs)]
    dsimp only
    rw [if_pos rfl]
  rw [hr]
  unfold OV at b2
  by_cases hz : (sumZ tp n (partZ tp n k) (avZ tp n z)).2.2 = none
  · rw [if_pos hz] at b2
    obtain ⟨f1, O, C2, f2, f3, f4⟩ := b2
    obtain ⟨c4, g1, g2⟩ := br_end (d := d) (l := l) (x := x) (y := y) (v1 := v1) (br := 20) (Or.inl rfl) f2 (sums_lt f4) h.2.2.2.2 f3 (b3 hz)
    by_cases hz2 : (tkZ tp n 41 (sumZ tp n (partZ tp n k) (avZ tp n z)).2).2 = none
    · rw [if_pos hz2] at g2
      refine PO_G ((a3.tr b1).tr g1) ((sA_A a1).trans (f1.trans g2.1)) ?_
      have := g2.2
      rw [show clC 20 = [] from rfl, List.append_nil] at this
      exact this
    · rw [if_neg hz2] at g2
      exact PO_F ((a3.tr b1).tr g1) ((sA_A a1).trans (f1.trans g2.1)) g2.2
  · rw [if_neg hz] at b2
    have hzs : (sumZ tp n (partZ tp n k) (avZ tp n z)).2.2.isSome = true := b2.2.2.1
    refine PO_F (a3.tr b1) ((sA_A a1).trans b2.1) ?_
    dsimp only
    rw [tkZ_f hzs]
    exact b2.2
/-- min, max -/
theorem part_mm {k o : Nat} (hk : k < 6) (hP : PT d l x y v1 tp n k b (partZ tp n k)) (h : AS c tp n z S C (k + 1) b) (ho : o = 16 ∨ o = 17) (hs : lixT tp n 1 z.1 = some o) : PO d l x y v1 tp n (k + 1) b S C (brZ tp n (some (partZ tp n k)) (o - 11) (avZ tp n z)) c := by
  obtain ⟨c1, a1, a2, a3⟩ := p_min_w (l := l) (x := x) (y := y) h ho hs d
  by_cases e : sgnT tp n (avZ tp n z).1 = 40
  · obtain ⟨c3, b1, b2, b3⟩ := p_min_s (r := 17 - (o : Int)) (l := l) (x := x) (y := y) (by omega) hk a2 e d
    have hbr : (if 17 - (o : Int) = 0 then 22 else 21) = (if o = 17 then 22 else 21 : Nat) := by
      by_cases q : o = 17
      · rw [if_pos (by omega), if_pos q]
      · rw [if_neg (by omega), if_neg q]
    rw [hbr] at b2
    obtain ⟨w, hw, hw2⟩ : ∃ w, (if o = 17 then 22 else 21 : Nat) = w ∧ ((o = 17 ∧ w = 22) ∨ (o = 16 ∧ w = 21)) := by
      refine ⟨_, rfl, ?_⟩
      rcases ho with rfl | rfl
      · exact Or.inr ⟨rfl, rfl⟩
      · exact Or.inl ⟨rfl, rfl⟩
    rw [hw] at b2
    have hA : sA d l x y v1 c = sA d l x y v1 c3 := sA_A (a1.trans b1)
    have hFK := (FK_FR a3).tr b3
    have hr : brZ tp n (some (partZ tp n k)) (o - 11) (avZ tp n z) = ((sumZ tp n (partZ tp n k) (avZ tp n (avZ tp n z))).1 ++ (sumZ tp n (partZ tp n k) (tkZ tp n 44 (sumZ tp n (partZ tp n k) (avZ tp n (avZ tp n z))).2)).1 ++ [o - 11], tkZ tp n 41 (sumZ tp n (partZ tp n k) (tkZ tp n 44 (sumZ tp n (partZ tp n k) (avZ tp n (avZ tp n z))).2)).2) := by
      unfold brZ
      rw [if_neg (fun q => q e)]
      dsimp only
      rw [if_neg (by omega)]
    rw [hr]
    obtain ⟨c4, f1, f2, f3⟩ := sum_S hP (partZ_le k) b2 (hd_ok (by omega) (by omega))
    unfold OV at f2
    generalize hZ1 : sumZ tp n (partZ tp n k) (avZ tp n (avZ tp n z)) = r1 at f2 f3 ⊢
    by_cases hz : r1.2.2 = none
    · rw [if_pos hz] at f2
      obtain ⟨f4, O, C2, f5, f6, f7⟩ := f2
      have hin := inB_br (b := b) (v := w) O S (sums_lt f7) (by omega) h.2.2.2.2
      obtain ⟨c5, g1, g2, g3⟩ := g_61 (l := l) (x := x) (y := y) f5 (fun q => by omega) (AS_in f5) (d + 2)
      obtain ⟨c6, k1, k2, k3⟩ := g_no4 (l := l) (x := x) (y := y) g2 (f3 hz) (AS_in g2) (d + 2)
      rw [hin, if_pos (by omega)] at k1
      obtain ⟨c7, o1, o2⟩ := g_comma (l := l) (x := x) (y := y) k2 (sums_lt f7) (by omega) h.2.2.2.2 (d + 2)
      have hFK2 := (((hFK.tr f1).tr (FK_FR g3)).tr (FK_FR k3)).tr o1
      by_cases e4 : sgnT tp n r1.2.1 = 44
      · rw [if_pos e4] at o2
        have htk : tkZ tp n 44 r1.2 = avZ tp n r1.2 := by
          unfold tkZ
          rw [if_pos ⟨hz, e4⟩]
        rw [htk]
        have hA2 : sG d l x y v1 c4 = sA d l x y v1 c7 := sG_1 ((g1.trans k1).trans o2.1) o2.2
        obtain ⟨c8, u1, u2, u3⟩ := sum_S hP (partZ_le k) o2.2 (hd_ok (by omega) (by omega))
        unfold OV at u2
        generalize hZ2 : sumZ tp n (partZ tp n k) (avZ tp n r1.2) = r2 at u2 u3 ⊢
        by_cases hz2 : r2.2.2 = none
        · rw [if_pos hz2] at u2
          obtain ⟨u4, O2, C3, u5, u6, u7⟩ := u2
          obtain ⟨c9, t1, t2⟩ := br_end (d := d) (l := l) (x := x) (y := y) (v1 := v1) (br := w + 2) (by omega) u5 (sums_lt u7) h.2.2.2.2 (C := C) (cs := r1.1 ++ r2.1) (by rw [u6, f6]; simp only [List.append_assoc]) (u3 hz2)
          have hcl : clC (w + 2) = [o - 11] := by
            rcases hw2 with ⟨rfl, rfl⟩ | ⟨rfl, rfl⟩ <;> rfl
          rw [hcl] at t2
          by_cases hz3 : (tkZ tp n 41 r2.2).2 = none
          · rw [if_pos hz3] at t2
            exact PO_G ((hFK2.tr u1).tr t1) (((hA.trans f4).trans hA2).trans (u4.trans t2.1)) t2.2
          · rw [if_neg hz3] at t2
            exact PO_F ((hFK2.tr u1).tr t1) (((hA.trans f4).trans hA2).trans (u4.trans t2.1)) t2.2
        · rw [if_neg hz2] at u2
          have hzs : r2.2.2.isSome = true := u2.2.2.1
          refine PO_F (hFK2.tr u1) (((hA.trans f4).trans hA2).trans u2.1) ?_
          dsimp only
          rw [tkZ_f hzs]
          exact u2.2
      · rw [if_neg e4] at o2
        have htk : tkZ tp n 44 r1.2 = flZ 1 r1.2.1.1 r1.2 := by
          unfold tkZ
          rw [if_neg (fun q => e4 q.2)]
        rw [htk]
        have hA2 : sG d l x y v1 c4 = sF d l x y v1 c7 := sG_0 ((g1.trans k1).trans o2.1)
        refine PO_F hFK2 ((hA.trans f4).trans hA2) ?_
        dsimp only
        rw [sum_flt o2.2.2.1, tkZ_f o2.2.2.1]
        exact o2.2
    · rw [if_neg hz] at f2
      have hzs : r1.2.2.isSome = true := f2.2.2.1
      refine PO_F (hFK.tr f1) (hA.trans f2.1) ?_
      dsimp only
      rw [tkZ_f hzs, sum_flt hzs, tkZ_f hzs]
      exact f2.2
  · obtain ⟨c3, b1, b2, b3⟩ := p_min_b (r := 17 - (o : Int)) (l := l) (x := x) (y := y) (by omega) a2 e d
    have hr : brZ tp n (some (partZ tp n k)) (o - 11) (avZ tp n z) = ([], flZ 1 (avZ tp n z).1.1 (avZ tp n z)) := by
      unfold brZ
      rw [if_pos e]
    rw [hr]
    exact PO_F ((FK_FR a3).tr b3) (sA_F (a1.trans b1) b2) b2
theorem AS_len (h : AS c tp n z S C m b) : z.1.1 ≤ 1600 := by
  have h1 := RZ_le h.1 h.2.1
  have h2 := h.1.2.1.1
  omega
/-- a part, whatever it is -/
theorem part_one {f : Option (Tz → List Nat × Tz)} (hf : (m = 0 ∧ f = none) ∨ ∃ k, k < 6 ∧ m = k + 1 ∧ f = some (partZ tp n k) ∧ PT d l x y v1 tp n k b (partZ tp n k)) (h : AS c tp n z S C m b) : PO d l x y v1 tp n m b S C (pcZ tp n f z) c := by
  unfold pcZ
  rw [if_neg (show ¬ z.2.isSome = true by rw [h.2.1]; decide)]
  have hnum : sgnT tp n z.1 ≠ 40 → (∀ o, lixT tp n 1 z.1 = some o → ¬ (10 ≤ o ∧ o ≤ 17)) → ∀ r : List Nat × Tz, r.2 = (tnZ tp n 9999 z).2 → (∀ a, (tnZ tp n 9999 z).1 = some a → r.1 = [1000 + a]) → PO d l x y v1 tp n m b S C r c := by
    intro h40 hw r hr1 hr2
    obtain ⟨c2, a1, a2, a3⟩ := p_num (l := l) (x := x) (y := y) h h40 hw d
    cases hq : (tnZ tp n 9999 z).1 with
    | none =>
      rw [hq] at a3
      dsimp only at a3
      rw [← hr1] at a3
      exact PO_F a2 (sA_F a1 a3) a3
    | some a =>
      rw [hq] at a3
      dsimp only at a3
      rw [← hr1, ← hr2 a hq] at a3
      exact PO_G a2 (sA_G a1 a3) a3
  by_cases h48 : sgnT tp n z.1 = 48
  · rw [if_pos h48]
    refine hnum (by omega) (fun o ho => by have := lix_sgn ho; omega) _ rfl (fun a ha => ?_)
    rw [ha]
    rfl
  rw [if_neg h48]
  by_cases h40 : sgnT tp n z.1 = 40
  · rw [if_pos h40]
    rcases hf with ⟨rfl, rfl⟩ | ⟨k, hk, rfl, rfl, hP⟩
    · obtain ⟨c2, a1, a2, a3⟩ := p_paren_f (l := l) (x := x) (y := y) h h40 d
      have hr : brZ tp n none 0 z = ([], flZ 4 z.1.1 z) := by
        unfold brZ
        rw [if_neg (fun q => q h40)]
      rw [hr]
      exact PO_F a3 (sA_F a1 a2) a2
    · exact part_br hk hP h h40
  rw [if_neg h40]
  have htn : (tnZ tp n 9999 z) = (none, flZ 1 z.1.1 z) := by
    unfold tnZ
    rw [if_neg (show ¬ z.2.isSome = true by rw [h.2.1]; decide), if_pos h48]
  cases ho : lixT tp n 1 z.1 with
  | none =>
    dsimp only
    exact hnum h40 (fun o q => by rw [ho] at q; cases q) _ (by rw [htn]) (fun a q => by rw [htn] at q; cases q)
  | some o =>
    dsimp only
    have h18 : o < 18 := by
      have h97 := lix_sgn ho
      unfold lixT at ho
      rw [if_pos h97] at ho
      exact lixW_lt ho
    by_cases o1 : o < 10
    · rw [if_pos o1]
      exact hnum h40 (fun p q => by rw [ho] at q; have := Option.some.inj q; omega) _ (by rw [htn]) (fun a q => by rw [htn] at q; cases q)
    rw [if_neg o1]
    by_cases o2 : o = 14 ∨ o = 15
    · rw [if_pos o2]
      rcases hf with ⟨rfl, rfl⟩ | ⟨k, hk, rfl, rfl, hP⟩
      · obtain ⟨c2, a1, a2, a3⟩ := p_of_f (l := l) (x := x) (y := y) h o2 ho d
        exact PO_F (r := atZ tp n none (46 + o) z) a3 (sA_F a1 a2) a2
      · obtain ⟨c1, a1, a2, a3⟩ := p_of_s (l := l) (x := x) (y := y) hk h o2 ho d
        obtain ⟨c3, b1, b2⟩ := hP c1 (avZ tp n z) ((46 + o) :: S) C a2
        have hb := h.2.2.2.2
        have hd : d60 b ((46 + o) :: S) = ((46 + o) :: (d60 b S).1, (d60 b S).2) := by
          show (if b < S.length + 1 ∧ 60 ≤ 46 + o then ((46 + o) :: (d60 b S).1, (d60 b S).2) else ([], (46 + o) :: S)) = _
          rw [if_pos (by omega)]
        rw [hd] at b2
        have hr : atZ tp n (some (partZ tp n k)) (46 + o) z = ((partZ tp n k (avZ tp n z)).1 ++ [46 + o], (partZ tp n k (avZ tp n z)).2) := rfl
        rw [hr]
        by_cases hz : (partZ tp n k (avZ tp n z)).2.2 = none
        · rw [if_pos hz] at b2
          refine PO_G (a3.tr b1) ((sA_A a1).trans b2.1) ?_
          have hA := b2.2
          dsimp only at hA ⊢
          rw [show C ++ ((partZ tp n k (avZ tp n z)).1 ++ [46 + o]) ++ (d60 b S).1 = C ++ (partZ tp n k (avZ tp n z)).1 ++ ((46 + o) :: (d60 b S).1) by simp only [List.append_assoc, List.singleton_append], show k + 1 + (d60 b S).1.length = k + ((46 + o) :: (d60 b S).1).length by rw [List.length_cons]; omega]
          exact hA
        · rw [if_neg hz] at b2
          exact PO_F (a3.tr b1) ((sA_A a1).trans b2.1) b2.2
    rw [if_neg o2]
    by_cases o3 : o = 16 ∨ o = 17
    · rw [if_pos o3]
      rcases hf with ⟨rfl, rfl⟩ | ⟨k, hk, rfl, rfl, hP⟩
      · obtain ⟨c1, a1, a2, a3⟩ := p_min_w (l := l) (x := x) (y := y) h o3 ho d
        by_cases e : sgnT tp n (avZ tp n z).1 = 40
        · obtain ⟨c2, b1, b2, b3⟩ := p_min_f (r := 17 - (o : Int)) (l := l) (x := x) (y := y) (by omega) a2 e d
          have hr : brZ tp n none (o - 11) (avZ tp n z) = ([], flZ 4 (avZ tp n z).1.1 (avZ tp n z)) := by
            unfold brZ
            rw [if_neg (fun q => q e)]
          rw [hr]
          exact PO_F ((FK_FR a3).tr b3) (sA_F (a1.trans b1) b2) b2
        · obtain ⟨c2, b1, b2, b3⟩ := p_min_b (r := 17 - (o : Int)) (l := l) (x := x) (y := y) (by omega) a2 e d
          have hr : brZ tp n none (o - 11) (avZ tp n z) = ([], flZ 1 (avZ tp n z).1.1 (avZ tp n z)) := by
            unfold brZ
            rw [if_pos e]
          rw [hr]
          exact PO_F ((FK_FR a3).tr b3) (sA_F (a1.trans b1) b2) b2
      · exact part_mm hk hP h o3 ho
    rw [if_neg o3]
    obtain ⟨c2, a1, a2, a3⟩ := p_simple (l := l) (x := x) (y := y) h (by omega) ho d
    exact PO_G (r := ([30 + o], avZ tp n z)) a3 (sA_G a1 a2) a2
theorem part_T : ∀ m, m ≤ 6 → PT d l x y v1 tp n m b (partZ tp n m)
  | 0, _ => fun c z S C h => part_one (Or.inl ⟨rfl, rfl⟩) h
  | m + 1, hm => fun c z S C h => part_one (Or.inr ⟨m, by omega, rfl, rfl, part_T m (by omega)⟩) h
end
