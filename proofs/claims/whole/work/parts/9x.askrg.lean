/-! the reference's ask: tests -/
def TS (S : List Nat) : Prop := ∀ v ∈ S, v = 10 ∨ v = 11 ∨ v = 12 ∨ v = 25
def FO (d : Nat) (l : Nat → Nat → Int64) (x y : Nat) (tp : Nat → Nat) (n m : Nat) (S C : List Nat) (r : List Nat × Tz) (c : Nat → Nat → Nat → Int32) : Prop := ∃ c2 : Nat → Nat → Nat → Int32, FK c c2 ∧ if r.2.2 = none then tA d l x y c = tG d l x y c2 ∧ AS c2 tp n r.2 (dN S).2 (C ++ r.1 ++ (dN S).1) (m + (dN S).1.length) 0 else tA d l x y c = tF d l x y c2 ∧ AB c2 tp n r.2
def FY (d : Nat) (l : Nat → Nat → Int64) (x y : Nat) (tp : Nat → Nat) (n m : Nat) (f : Tz → List Nat × Tz) : Prop := ∀ (c : Nat → Nat → Nat → Int32) (z : Tz) (S C : List Nat), AS c tp n z S C m 0 → TS S → FO d l x y tp n m S C (f z) c
def OU (d : Nat) (l : Nat → Nat → Int64) (x y : Nat) (tp : Nat → Nat) (n m : Nat) (ok : List Nat) (T C : List Nat) (r : List Nat × Tz) (u : Option mr) (c2 : Nat → Nat → Nat → Int32) : Prop := if r.2.2 = none then u = tG d l x y c2 ∧ ∃ O C2, AS c2 tp n r.2 (O ++ T) C2 m 0 ∧ C2 ++ O = C ++ r.1 ∧ (∀ v ∈ O, v ∈ ok) else u = tF d l x y c2 ∧ AB c2 tp n r.2
section
variable {c c2 : Nat → Nat → Nat → Int32} {l : Nat → Nat → Int64} {x y : Nat} {tp : Nat → Nat} {n : Nat} {z : Tz} {s : Ts} {S T C O : List Nat} {m b v d : Nat} {F : Tz → List Nat × Tz}
theorem FO_F {r : List Nat × Tz} (hF : FK c c2) (h : tA d l x y c = tF d l x y c2) (hA : AB c2 tp n r.2) : FO d l x y tp n m S C r c := by
  refine ⟨c2, hF, ?_⟩
  rw [if_neg (fun q => by have := hA.2; rw [q] at this; cases this)]
  exact ⟨h, hA⟩
theorem FO_G {r : List Nat × Tz} (hF : FK c c2) (h : tA d l x y c = tG d l x y c2) (hA : AS c2 tp n r.2 (dN S).2 (C ++ r.1 ++ (dN S).1) (m + (dN S).1.length) 0) : FO d l x y tp n m S C r c := by
  refine ⟨c2, hF, ?_⟩
  rw [if_pos hA.2.1]
  exact ⟨h, hA⟩
theorem TS_cons {w : Nat} (hw : w = 10 ∨ w = 11 ∨ w = 12 ∨ w = 25) (h : TS S) : TS (w :: S) := by
  intro v hv
  rcases List.mem_cons.mp hv with q | q
  · rw [q]; exact hw
  · exact h v q
theorem TS_hd (h : TS S) : ∀ v, S.head? = some v → ¬ v ∈ [3, 4, 1, 2] ∧ v < 60 := by
  intro v hv
  have := h v (List.mem_of_head? hv)
  simp only [List.mem_cons, List.not_mem_nil, or_false]
  omega
theorem andO_some {op : Nat} (h : andO tp n s = some op) : lixT tp n 1 s = some 7 ∧ op = 10 := by
  unfold andO at h
  split at h
  · rename_i q
    exact ⟨q, (Option.some.inj h).symm⟩
  · cases h
theorem orO_some {op : Nat} (h : orO tp n s = some op) : lixT tp n 1 s = some 6 ∧ op = 11 := by
  unfold orO at h
  split at h
  · rename_i q
    exact ⟨q, (Option.some.inj h).symm⟩
  · cases h
theorem andO_none (h : andO tp n s = none) : lixT tp n 1 s ≠ some 7 := by
  intro q
  unfold andO at h
  rw [if_pos q] at h
  cases h
theorem orO_none (h : orO tp n s = none) : lixT tp n 1 s ≠ some 6 := by
  intro q
  unfold orO at h
  rw [if_pos q] at h
  cases h
theorem lix_end {o : Nat} (h : n ≤ s.1) : lixT tp n 1 s ≠ some o := by
  intro q
  have h1 := lix_sgn q
  rw [sgn_end h] at h1
  cases h1
theorem bth_G (hF : FY d l x y tp n m F) (hle : ∀ z : Tz, z.1.1 ≤ (F z).2.1.1) (hTS : TS T) (hT : ∀ v, T.head? = some v → ¬ v ∈ [10, 12]) : ∀ (k : Nat) (cs C' O : List Nat) (z : Tz) (c : Nat → Nat → Nat → Int32), n ≤ z.1.1 + k → AS c tp n z (O ++ T) C' m 0 → C' ++ O = C ++ cs → (∀ v ∈ O, v ∈ [10]) → ∃ c2 : Nat → Nat → Nat → Int32, FK c c2 ∧ OU d l x y tp n m [10] T C (lpZ F (andO tp n) tp n k cs z) (tG d l x y c) c2 ∧ ((lpZ F (andO tp n) tp n k cs z).2.2 = none → lixT tp n 1 (lpZ F (andO tp n) tp n k cs z).2.1 ≠ some 7) := by
  intro k
  induction k with
  | zero =>
    intro cs C' O z c hn h hC hO
    refine ⟨c, FK.refl c, ?_, fun _ => ?_⟩
    · unfold lpZ OU
      rw [if_pos h.2.1]
      exact ⟨rfl, O, C', h, hC, hO⟩
    · unfold lpZ
      exact lix_end (by omega)
  | succ k ih =>
    intro cs C' O z c hn h hC hO
    unfold lpZ
    rw [if_pos h.2.1]
    cases hop : andO tp n z.1 with
    | none =>
      refine ⟨c, FK.refl c, ?_, fun _ => andO_none hop⟩
      unfold OU
      rw [if_pos h.2.1]
      exact ⟨rfl, O, C', h, hC, hO⟩
    | some op =>
      dsimp only
      obtain ⟨hl7, rfl⟩ := andO_some hop
      have h97 := lix_sgn hl7
      obtain ⟨c1, a1, a2, a3⟩ := h_38 (l := l) (x := x) (y := y) h (fun q => by omega) (d + 4)
      obtain ⟨c3, b1, b2, b3⟩ := h_and (l := l) (x := x) (y := y) a2 (fun v hv => List.mem_singleton.mp (hO v hv)) (fun v hv q => hT v hv (by rw [q]; decide)) hl7 (d + 4)
      have hgo : tG d l x y c = tA d l x y c3 := tG_1 (a1.trans b1)
      have hlt := avZ_lt (tp := tp) (n := n) (z := z) (by omega)
      have hle2 := hle (avZ tp n z)
      obtain ⟨c4, f1, f2⟩ := hF c3 (avZ tp n z) (10 :: T) (C' ++ O) b2 (TS_cons (Or.inl rfl) hTS)
      have hd : dN (10 :: T) = ([], 10 :: T) := dN_no (fun v hv => by have := Option.some.inj hv; omega)
      rw [hd] at f2
      by_cases hz : (F (avZ tp n z)).2.2 = none
      · rw [if_pos hz] at f2
        obtain ⟨f3, f4⟩ := f2
        rw [List.append_nil] at f4
        obtain ⟨c5, g1, g2, g3⟩ := ih (cs ++ (F (avZ tp n z)).1 ++ [10]) (C' ++ O ++ (F (avZ tp n z)).1) [10] (F (avZ tp n z)).2 c4 (by omega) f4 (by rw [hC]; simp only [List.append_assoc]) (fun v hv => hv)
        refine ⟨c5, (((FK_FR a3).tr b3).tr f1).tr g1, ?_, g3⟩
        rw [hgo, f3]
        exact g2
      · rw [if_neg hz] at f2
        have hzs : (F (avZ tp n z)).2.2.isSome = true := f2.2.2
        rw [lpZ_f hzs]
        refine ⟨c4, ((FK_FR a3).tr b3).tr f1, ?_, fun q => absurd q hz⟩
        unfold OU
        rw [if_neg hz, hgo]
        exact f2
theorem bth_S (hF : FY d l x y tp n m F) (hle : ∀ z : Tz, z.1.1 ≤ (F z).2.1.1) (h : AS c tp n z T C m 0) (hTS : TS T) (hT : ∀ v, T.head? = some v → ¬ v ∈ [10, 12]) : ∃ c2 : Nat → Nat → Nat → Int32, FK c c2 ∧ OU d l x y tp n m [10] T C (bthZ tp n F z) (tA d l x y c) c2 ∧ ((bthZ tp n F z).2.2 = none → lixT tp n 1 (bthZ tp n F z).2.1 ≠ some 7) := by
  obtain ⟨c1, f1, f2⟩ := hF c z T C h hTS
  have hd : dN T = ([], T) := dN_no (fun v hv q => hT v hv (by rw [q]; decide))
  rw [hd] at f2
  have hn2 := h.1.2.1.1
  unfold bthZ
  by_cases hz : (F z).2.2 = none
  · rw [if_pos hz] at f2
    obtain ⟨f3, f4⟩ := f2
    rw [List.append_nil] at f4
    obtain ⟨c2, g1, g2, g3⟩ := bth_G hF hle hTS hT 1600 (F z).1 (C ++ (F z).1) [] (F z).2 c1 (by omega) f4 (List.append_nil _) (fun v hv => by cases hv)
    refine ⟨c2, f1.tr g1, ?_, g3⟩
    rw [f3]
    exact g2
  · rw [if_neg hz] at f2
    have hzs : (F z).2.2.isSome = true := f2.2.2
    rw [lpZ_f hzs]
    refine ⟨c1, f1, ?_, fun q => absurd q hz⟩
    unfold OU
    rw [if_neg hz]
    exact f2
theorem tst_G (hF : FY d l x y tp n m F) (hle : ∀ z : Tz, z.1.1 ≤ (F z).2.1.1) (hTS : TS T) (hT : ∀ v, T.head? = some v → ¬ v ∈ [10, 11, 12]) : ∀ (k : Nat) (cs C' O : List Nat) (z : Tz) (c : Nat → Nat → Nat → Int32), n ≤ z.1.1 + k → AS c tp n z (O ++ T) C' m 0 → C' ++ O = C ++ cs → (∀ v ∈ O, v ∈ [10, 11]) → lixT tp n 1 z.1 ≠ some 7 → ∃ c2 : Nat → Nat → Nat → Int32, FK c c2 ∧ OU d l x y tp n m [10, 11] T C (lpZ (bthZ tp n F) (orO tp n) tp n k cs z) (tG d l x y c) c2 ∧ ((lpZ (bthZ tp n F) (orO tp n) tp n k cs z).2.2 = none → lixT tp n 1 (lpZ (bthZ tp n F) (orO tp n) tp n k cs z).2.1 ≠ some 7 ∧ lixT tp n 1 (lpZ (bthZ tp n F) (orO tp n) tp n k cs z).2.1 ≠ some 6) := by
  intro k
  induction k with
  | zero =>
    intro cs C' O z c hn h hC hO hm
    refine ⟨c, FK.refl c, ?_, fun _ => ⟨hm, ?_⟩⟩
    · unfold lpZ OU
      rw [if_pos h.2.1]
      exact ⟨rfl, O, C', h, hC, hO⟩
    · unfold lpZ
      exact lix_end (by omega)
  | succ k ih =>
    intro cs C' O z c hn h hC hO hm
    unfold lpZ
    rw [if_pos h.2.1]
    cases hop : orO tp n z.1 with
    | none =>
      refine ⟨c, FK.refl c, ?_, fun _ => ⟨hm, orO_none hop⟩⟩
      unfold OU
      rw [if_pos h.2.1]
      exact ⟨rfl, O, C', h, hC, hO⟩
    | some op =>
      dsimp only
      obtain ⟨hl6, rfl⟩ := orO_some hop
      have h97 := lix_sgn hl6
      obtain ⟨c1, a1, a2, a3⟩ := h_38 (l := l) (x := x) (y := y) h (fun q => by omega) (d + 4)
      obtain ⟨c3, b1, b2, b3⟩ := h_or (l := l) (x := x) (y := y) a2 (fun v hv => by have := hO v hv; simp only [List.mem_cons, List.not_mem_nil, or_false] at this; exact this) (fun v hv => by have := hT v hv; simp only [List.mem_cons, List.not_mem_nil, or_false] at this; omega) hl6 (d + 4)
      have hgo : tG d l x y c = tA d l x y c3 := tG_1 (a1.trans b1)
      have hlt := avZ_lt (tp := tp) (n := n) (z := z) (by omega)
      have hle2 := bthZ_le (tp := tp) (n := n) hle (avZ tp n z)
      obtain ⟨c4, f1, f2, f5⟩ := bth_S hF hle b2 (TS_cons (Or.inr (Or.inl rfl)) hTS) (fun v hv => by have := Option.some.inj hv; simp only [List.mem_cons, List.not_mem_nil, or_false]; omega)
      unfold OU at f2
      by_cases hz : (bthZ tp n F (avZ tp n z)).2.2 = none
      · rw [if_pos hz] at f2
        obtain ⟨f3, O2, C2, f4, f6, f7⟩ := f2
        have f4 : AS c4 tp n (bthZ tp n F (avZ tp n z)).2 ((O2 ++ [11]) ++ T) C2 m 0 := by
          rw [List.append_assoc]
          exact f4
        obtain ⟨c5, g1, g2, g3⟩ := ih (cs ++ (bthZ tp n F (avZ tp n z)).1 ++ [11]) C2 (O2 ++ [11]) (bthZ tp n F (avZ tp n z)).2 c4 (by omega) f4 (by rw [← List.append_assoc, f6, hC]; simp only [List.append_assoc]) (fun v hv => by
          rcases List.mem_append.mp hv with q | q
          · have := f7 v q
            simp only [List.mem_cons, List.not_mem_nil, or_false] at this ⊢
            omega
          · have := List.mem_singleton.mp q
            simp only [List.mem_cons, List.not_mem_nil, or_false]
            omega) (f5 hz)
        refine ⟨c5, (((FK_FR a3).tr b3).tr f1).tr g1, ?_, g3⟩
        rw [hgo, f3]
        exact g2
      · rw [if_neg hz] at f2
        have hzs : (bthZ tp n F (avZ tp n z)).2.2.isSome = true := f2.2.2
        rw [lpZ_f hzs]
        refine ⟨c4, ((FK_FR a3).tr b3).tr f1, ?_, fun q => absurd q hz⟩
        unfold OU
        rw [if_neg hz, hgo]
        exact f2
theorem tst_S (hF : FY d l x y tp n m F) (hle : ∀ z : Tz, z.1.1 ≤ (F z).2.1.1) (h : AS c tp n z T C m 0) (hTS : TS T) (hT : ∀ v, T.head? = some v → ¬ v ∈ [10, 11, 12]) : ∃ c2 : Nat → Nat → Nat → Int32, FK c c2 ∧ OU d l x y tp n m [10, 11] T C (tstZ tp n F z) (tA d l x y c) c2 ∧ ((tstZ tp n F z).2.2 = none → lixT tp n 1 (tstZ tp n F z).2.1 ≠ some 7 ∧ lixT tp n 1 (tstZ tp n F z).2.1 ≠ some 6) := by
  obtain ⟨c1, f1, f2, f5⟩ := bth_S hF hle h hTS (fun v hv => by have := hT v hv; simp only [List.mem_cons, List.not_mem_nil, or_false] at this ⊢; omega)
  have hn2 := h.1.2.1.1
  unfold tstZ
  unfold OU at f2
  by_cases hz : (bthZ tp n F z).2.2 = none
  · rw [if_pos hz] at f2
    obtain ⟨f3, O2, C2, f4, f6, f7⟩ := f2
    obtain ⟨c2, g1, g2, g3⟩ := tst_G hF hle hTS hT 1600 (bthZ tp n F z).1 C2 O2 (bthZ tp n F z).2 c1 (by omega) f4 f6 (fun v hv => by have := f7 v hv; simp only [List.mem_cons, List.not_mem_nil, or_false] at this ⊢; omega) (f5 hz)
    exact ⟨c2, f1.tr g1, by rw [f3]; exact g2, g3⟩
  · rw [if_neg hz] at f2
    have hzs : (bthZ tp n F z).2.2.isSome = true := f2.2.2
    rw [lpZ_f hzs]
    refine ⟨c1, f1, ?_, fun q => absurd q hz⟩
    unfold OU
    rw [if_neg hz]
    exact f2
theorem no25 (h : ∀ v ∈ O, v ∈ [10, 11]) : ¬ 25 ∈ O := fun q => by
  have := h 25 q
  simp only [List.mem_cons, List.not_mem_nil, or_false] at this
  omega
/-- a fact, whatever it is -/
theorem fact_one {f : Option (Tz → List Nat × Tz)} (hm : m ≤ 6) (hf : (m = 0 ∧ f = none) ∨ ∃ k, k < 6 ∧ m = k + 1 ∧ f = some (factZ tp n k) ∧ FY d l x y tp n k (factZ tp n k)) (h : AS c tp n z S C m 0) (hTS : TS S) : FO d l x y tp n m S C (fcZ tp n (partZ tp n m) f z) c := by
  have hfa : sgnT tp n z.1 ≠ 91 → lixT tp n 1 z.1 ≠ some 8 → fcZ tp n (partZ tp n m) f z = faZ tp n (partZ tp n m) z → FO d l x y tp n m S C (fcZ tp n (partZ tp n m) f z) c := by
    intro h1 h2 h3
    rw [h3]
    exact t_fact hm h (TS_hd hTS) h1 h2 d
  by_cases h9 : lixT tp n 1 z.1 = some 9
  · have h97 := lix_sgn h9
    refine hfa (by omega) (by rw [h9]; decide) ?_
    unfold fcZ faZ
    rw [if_pos h9, if_pos h9]
  by_cases h8 : lixT tp n 1 z.1 = some 8
  · have hr : fcZ tp n (partZ tp n m) f z = atZ tp n f 12 z := by
      unfold fcZ
      rw [if_neg h9, if_pos h8]
    rw [hr]
    rcases hf with ⟨rfl, rfl⟩ | ⟨k, hk, rfl, rfl, hF⟩
    · obtain ⟨c2, a1, a2, a3⟩ := t_not_f (l := l) (x := x) (y := y) h h8 d
      exact FO_F (r := atZ tp n none 12 z) a3 a1 a2
    · obtain ⟨c1, a1, a2, a3⟩ := t_not_s (l := l) (x := x) (y := y) hk h h8 d
      obtain ⟨c3, b1, b2⟩ := hF c1 (avZ tp n z) (12 :: S) C a2 (TS_cons (Or.inr (Or.inr (Or.inl rfl))) hTS)
      have hd : dN (12 :: S) = (12 :: (dN S).1, (dN S).2) := rfl
      rw [hd] at b2
      have hr2 : atZ tp n (some (factZ tp n k)) 12 z = ((factZ tp n k (avZ tp n z)).1 ++ [12], (factZ tp n k (avZ tp n z)).2) := rfl
      rw [hr2]
      by_cases hz : (factZ tp n k (avZ tp n z)).2.2 = none
      · rw [if_pos hz] at b2
        refine FO_G (a3.tr b1) (a1.trans b2.1) ?_
        have hA := b2.2
        dsimp only at hA ⊢
        rw [show C ++ ((factZ tp n k (avZ tp n z)).1 ++ [12]) ++ (dN S).1 = C ++ (factZ tp n k (avZ tp n z)).1 ++ (12 :: (dN S).1) by simp only [List.append_assoc, List.singleton_append], show k + 1 + (dN S).1.length = k + (12 :: (dN S).1).length by rw [List.length_cons]; omega]
        exact hA
      · rw [if_neg hz] at b2
        exact FO_F (a3.tr b1) (a1.trans b2.1) b2.2
  by_cases h91 : sgnT tp n z.1 = 91
  · have hr : fcZ tp n (partZ tp n m) f z = sqZ tp n f z := by
      unfold fcZ
      rw [if_neg h9, if_neg h8, if_pos h91]
    rw [hr]
    rcases hf with ⟨rfl, rfl⟩ | ⟨k, hk, rfl, rfl, hF⟩
    · obtain ⟨c2, a1, a2, a3⟩ := t_sq_f (l := l) (x := x) (y := y) h h91 d
      exact FO_F (r := sqZ tp n none z) a3 a1 a2
    · obtain ⟨c1, a1, a2, a3⟩ := t_sq_s (l := l) (x := x) (y := y) hk h h91 d
      obtain ⟨c3, b1, b2, b3⟩ := tst_S hF (factZ_le k) a2 (TS_cons (Or.inr (Or.inr (Or.inr rfl))) hTS) (fun v hv => by have := Option.some.inj hv; simp only [List.mem_cons, List.not_mem_nil, or_false]; omega)
      have hr2 : sqZ tp n (some (factZ tp n k)) z = ((tstZ tp n (factZ tp n k) (avZ tp n z)).1, tkZ tp n 93 (tstZ tp n (factZ tp n k) (avZ tp n z)).2) := rfl
      rw [hr2]
      generalize hZ : tstZ tp n (factZ tp n k) (avZ tp n z) = r at b2 b3 ⊢
      unfold OU at b2
      by_cases hz : r.2.2 = none
      · rw [if_pos hz] at b2
        obtain ⟨f1, O, C2, f2, f3, f4⟩ := b2
        have hO : ∀ v ∈ O, v = 10 ∨ v = 11 := fun v hv => by have := f4 v hv; simp only [List.mem_cons, List.not_mem_nil, or_false] at this; exact this
        by_cases e : sgnT tp n r.2.1 = 93
        · have htk : tkZ tp n 93 r.2 = avZ tp n r.2 := by
            unfold tkZ
            rw [if_pos ⟨hz, e⟩]
          obtain ⟨c4, g1, g2, g3⟩ := h_close (l := l) (x := x) (y := y) f2 hO e (d + 4)
          rw [htk]
          refine FO_G ((a3.tr b1).tr g3) ((a1.trans f1).trans (tG_G g1)) ?_
          dsimp only
          rw [← f3]
          exact g2
        · have htk : tkZ tp n 93 r.2 = flZ 1 r.2.1.1 r.2 := by
            unfold tkZ
            rw [if_neg (fun q => e q.2)]
          obtain ⟨c4, g1, g2, g3⟩ := h_38 (l := l) (x := x) (y := y) f2 (fun q => e q.1) (d + 4)
          obtain ⟨c5, k1, k2, k3⟩ := h_no (l := l) (x := x) (y := y) g2 (b3 hz) (d + 4)
          rw [if_pos (List.mem_append_right _ (List.mem_cons_self ..))] at k3
          rw [htk]
          exact FO_F (((a3.tr b1).tr (FK_FR g3)).tr k2) ((a1.trans f1).trans (tG_0 (g1.trans k1))) k3
      · rw [if_neg hz] at b2
        have hzs : r.2.2.isSome = true := b2.2.2
        refine FO_F (a3.tr b1) (a1.trans b2.1) ?_
        dsimp only
        rw [tkZ_f hzs]
        exact b2.2
  · refine hfa h91 h8 ?_
    unfold fcZ faZ
    rw [if_neg h9, if_neg h9, if_neg h8, if_neg h91]
theorem fact_T : ∀ m, m ≤ 6 → FY d l x y tp n m (factZ tp n m)
  | 0, _ => fun c z S C h hTS => fact_one (by omega) (Or.inl ⟨rfl, rfl⟩) h hTS
  | m + 1, hm => fun c z S C h hTS => fact_one hm (Or.inr ⟨m, by omega, rfl, rfl, fact_T m (by omega)⟩) h hTS
theorem e260_55 (d : Nat) (hz : z.2 = none) : ∀ (O C : List Nat) (c : Nat → Nat → Nat → Int32), RZ c tp n z → QS c O C m b → ∃ c2 : Nat → Nat → Nat → Int32, X (d + 3) 260 55 [some (vr 48 0), none, none] [] (c, l, x, y) = some (none, c2, l, x, y) ∧ RZ c2 tp n z ∧ QS c2 [] (C ++ O) m b ∧ FK c c2 := by
  intro O
  induction O with
  | nil =>
    intro C c hr g
    have h0 : c 48 0 5 = 0 := (RZ_flt hr).mpr hz
    have h80 : c 48 0 80 = iv ((0 : Nat) : Int) := g.1.1
    refine ⟨c, ?_, hr, ?_, FK.refl c⟩
    · rw [q_260_55, if_pos h0, h80, if_neg (show ¬ 0 < iv ((0 : Nat) : Int) by decide)]
    · rw [List.append_nil]
      exact g
  | cons v O ih =>
    intro C c hr g
    have h0 : c 48 0 5 = 0 := (RZ_flt hr).mpr hz
    have hl := g.2.2.2.2.1
    rw [List.length_cons] at hl
    have h80 : c 48 0 80 = iv ((O.length + 1 : Nat) : Int) := g.1.1
    have e1 : (0 < iv ((O.length + 1 : Nat) : Int)) = ((0 : Int) < ((O.length + 1 : Nat) : Int)) := iv_lt (a := 0) (by omega) (by omega)
    obtain ⟨c1, a1, a2, a3, a4⟩ := e270 (l := l) (x := x) (y := y) g d
    obtain ⟨c2, b1, b2, b3, b4⟩ := ih (C ++ [v]) c1 (a4 tp n z hr) a2
    refine ⟨c2, ?_, b2, ?_, a3.tr b4⟩
    · rw [q_260_55, if_pos h0, h80, if_pos (by rw [e1]; omega), a1]
      simp only [am_bv_v]
      exact b1
    · rw [show C ++ (v :: O) = C ++ [v] ++ O by rw [List.append_assoc]; rfl]
      exact b3
/-- a whole test -/
theorem e260 (h : AS c tp n z [] C 6 0) (d : Nat) : ∃ c2 : Nat → Nat → Nat → Int32, E (d + 9) 260 [vr 48 0] (c, l, x, y) = some (none, c2, l, x, y) ∧ FK c c2 ∧ if (tstZ tp n (factZ tp n 6) z).2.2 = none then AS c2 tp n (tstZ tp n (factZ tp n 6) z).2 [] (C ++ (tstZ tp n (factZ tp n 6) z).1) 6 0 else AB c2 tp n (tstZ tp n (factZ tp n 6) z).2 := by
  obtain ⟨c3, b1, b2, b3⟩ := tst_S (d := d) (l := l) (x := x) (y := y) (fact_T 6 (by omega)) (factZ_le 6) h (fun v hv => by cases hv) (fun v hv => by cases hv)
  have hgo : E (d + 9) 260 [vr 48 0] (c, l, x, y) = tA d l x y c := by
    rw [q_260]
    rfl
  rw [hgo]
  generalize hZ : tstZ tp n (factZ tp n 6) z = r at b2 b3 ⊢
  unfold OU at b2
  by_cases hz : r.2.2 = none
  · rw [if_pos hz] at b2
    obtain ⟨f1, O, C2, f2, f3, f4⟩ := b2
    rw [List.append_nil] at f2
    obtain ⟨c4, g1, g2, g3⟩ := h_38 (l := l) (x := x) (y := y) f2 (fun q => no25 f4 q.2) (d + 4)
    obtain ⟨c5, k1, k2, k3⟩ := h_no (l := l) (x := x) (y := y) g2 (b3 hz) (d + 4)
    rw [if_neg (no25 f4)] at k3
    obtain ⟨c6, o1, o2, o3, o4⟩ := e260_55 (l := l) (x := x) (y := y) (d + 6) hz O C2 c5 k3.1 k3.2.2.1
    refine ⟨c6, ?_, ((b1.tr (FK_FR g3)).tr k2).tr o4, ?_⟩
    · rw [f1, tG_0 (g1.trans k1)]
      exact o1
    · rw [if_pos hz]
      rw [f3] at o3
      have hl := k3.2.2.2.1
      have hC := congrArg List.length f3
      rw [List.length_append] at hC
      exact ⟨o2, hz, o3, by show 0 + _ ≤ _; omega, Nat.zero_le _⟩
  · rw [if_neg hz] at b2
    refine ⟨c3, ?_, b1, ?_⟩
    · rw [b2.1]
      unfold tF
      rw [q_260_55, if_neg (AB_bad b2.2)]
    · rw [if_neg hz]
      exact b2.2
end
