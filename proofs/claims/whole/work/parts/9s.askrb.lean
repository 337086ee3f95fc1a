/-! the reference's ask: states reached -/
noncomputable def sF (d : Nat) (l : Nat → Nat → Int64) (x y : Nat) (v1 : Int32) (c : Nat → Nat → Nat → Int32) : Option mr := X (d + 7) 264 27 [some (vr 48 0), some (vi v1), none] [] (c, l, x, y)
noncomputable def sG (d : Nat) (l : Nat → Nat → Int64) (x y : Nat) (v1 : Int32) (c : Nat → Nat → Nat → Int32) : Option mr := am_bi (X (d + 6) 271 0 [some (vr 48 0), none] [] (c, l, x, y)) (fun r3 g2 => if r3 = 0 then X (d + 7) 264 9 [some (vr 48 0), some (vi v1), some (vi 0)] [] g2 else X (d + 7) 264 9 [some (vr 48 0), some (vi v1), some (vi 1)] [] g2)
noncomputable def sA (d : Nat) (l : Nat → Nat → Int64) (x y : Nat) (v1 : Int32) (c : Nat → Nat → Nat → Int32) : Option mr := am_bv (X (d + 6) 265 2 [some (vr 48 0), some (vi 1), none, none, none, none] [] (c, l, x, y)) (fun g1 => if (g1.1 48 0 5) = 0 then (am_bi (E (d + 6) 271 [vr 48 0] g1) (fun r3 g2 => if r3 = 0 then X (d + 7) 264 9 [some (vr 48 0), some (vi v1), some (vi 0)] [] g2 else X (d + 7) 264 9 [some (vr 48 0), some (vi v1), some (vi 1)] [] g2)) else X (d + 7) 264 9 [some (vr 48 0), some (vi v1), some (vi 0)] [] g1)
def PT (d : Nat) (l : Nat → Nat → Int64) (x y : Nat) (v1 : Int32) (tp : Nat → Nat) (n m b : Nat) (f : Tz → List Nat × Tz) : Prop := ∀ (c : Nat → Nat → Nat → Int32) (z : Tz) (S C : List Nat), AS c tp n z S C m b → ∃ c2 : Nat → Nat → Nat → Int32, FK c c2 ∧ if (f z).2.2 = none then sA d l x y v1 c = sG d l x y v1 c2 ∧ AS c2 tp n (f z).2 (d60 b S).2 (C ++ (f z).1 ++ (d60 b S).1) (m + (d60 b S).1.length) b else sA d l x y v1 c = sF d l x y v1 c2 ∧ AF c2 tp n (f z).2
/-- operators wait on top of what lay there -/
def OV (d : Nat) (l : Nat → Nat → Int64) (x y : Nat) (v1 : Int32) (tp : Nat → Nat) (n m b : Nat) (ok : List Nat) (T C : List Nat) (r : List Nat × Tz) (u : Option mr) (c2 : Nat → Nat → Nat → Int32) : Prop := if r.2.2 = none then u = sG d l x y v1 c2 ∧ ∃ O C2, AS c2 tp n r.2 (O ++ T) C2 m b ∧ C2 ++ O = C ++ r.1 ∧ (∀ v ∈ O, v ∈ ok) else u = sF d l x y v1 c2 ∧ AF c2 tp n r.2
section
variable {c c2 : Nat → Nat → Nat → Int32} {l : Nat → Nat → Int64} {x y : Nat} {tp : Nat → Nat} {n : Nat} {z : Tz} {s : Ts} {S T C O : List Nat} {m b v d : Nat} {v1 : Int32} {f P : Tz → List Nat × Tz}
theorem s_1 (h : AS c tp n z S C m b) : X (d + 7) 264 9 [some (vr 48 0), some (vi v1), some (vi 1)] [] (c, l, x, y) = sA d l x y v1 c := by
  rw [q_264_9, if_neg (show ¬ (1 : Int32) = 0 by decide), if_pos (AS_0 h), q_265]
  rfl
theorem s_0 : X (d + 7) 264 9 [some (vr 48 0), some (vi v1), some (vi 0)] [] (c, l, x, y) = sF d l x y v1 c := by
  rw [q_264_9, if_pos (show (0 : Int32) = 0 from rfl)]
  rfl
theorem sA_A (h : X (d + 6) 265 2 [some (vr 48 0), some (vi 1), none, none, none, none] [] (c, l, x, y) = X (d + 6) 265 2 [some (vr 48 0), some (vi 1), none, none, none, none] [] (c2, l, x, y)) : sA d l x y v1 c = sA d l x y v1 c2 := by
  unfold sA
  rw [h]
theorem sA_G (h : X (d + 6) 265 2 [some (vr 48 0), some (vi 1), none, none, none, none] [] (c, l, x, y) = some (none, c2, l, x, y)) (hA : AS c2 tp n z S C m b) : sA d l x y v1 c = sG d l x y v1 c2 := by
  unfold sA sG
  rw [h]
  simp only [am_bv_v]
  rw [if_pos (AS_0 hA), q_271]
theorem sA_F (h : X (d + 6) 265 2 [some (vr 48 0), some (vi 1), none, none, none, none] [] (c, l, x, y) = some (none, c2, l, x, y)) (hA : AF c2 tp n z) : sA d l x y v1 c = sF d l x y v1 c2 := by
  unfold sA
  rw [h]
  simp only [am_bv_v]
  rw [if_neg (AF_bad hA), s_0]
theorem sG_G (h : X (d + 6) 271 0 [some (vr 48 0), none] [] (c, l, x, y) = X (d + 6) 271 0 [some (vr 48 0), none] [] (c2, l, x, y)) : sG d l x y v1 c = sG d l x y v1 c2 := by
  unfold sG
  rw [h]
theorem sG_1 (h : X (d + 6) 271 0 [some (vr 48 0), none] [] (c, l, x, y) = some (some (vi 1), c2, l, x, y)) (hA : AS c2 tp n z S C m b) : sG d l x y v1 c = sA d l x y v1 c2 := by
  unfold sG
  rw [h]
  simp only [am_bi_v]
  rw [if_neg (show ¬ (1 : Int32) = 0 by decide), s_1 hA]
theorem sG_0 (h : X (d + 6) 271 0 [some (vr 48 0), none] [] (c, l, x, y) = some (some (vi 0), c2, l, x, y)) : sG d l x y v1 c = sF d l x y v1 c2 := by
  unfold sG
  rw [h]
  simp only [am_bi_v]
  rw [if_pos trivial, s_0]
theorem inB_bd (b : Nat) : ∀ S : List Nat, (∀ v ∈ S, v < 100) → -1 ≤ inB b S ∧ inB b S < 100
  | [], _ => by unfold inB; omega
  | v :: S, h => by
    have h1 := h v (List.mem_cons_self ..)
    have h2 := inB_bd b S (fun w hw => h w (List.mem_cons_of_mem _ hw))
    unfold inB
    split
    · omega
    · split
      · omega
      · exact h2
theorem AS_in (h : AS c tp n z S C m b) : -1 ≤ inB b S ∧ inB b S < 100 := inB_bd b S h.2.2.1.2.2.2.2.2.1
theorem mulO_sg {op : Nat} (h : mulO tp n s = some op) : (sgnT tp n s = 42 ∨ sgnT tp n s = 47) ∧ (op = 3 ∨ op = 4) := by
  unfold mulO at h
  split at h
  · have := Option.some.inj h; omega
  · split at h
    · have := Option.some.inj h; omega
    · cases h
theorem addO_sg {op : Nat} (h : addO tp n s = some op) : (sgnT tp n s = 43 ∨ sgnT tp n s = 45) ∧ (op = 1 ∨ op = 2) := by
  unfold addO at h
  split at h
  · have := Option.some.inj h; omega
  · split at h
    · have := Option.some.inj h; omega
    · cases h
theorem mulO_no (h : mulO tp n s = none) : sgnT tp n s ≠ 42 ∧ sgnT tp n s ≠ 47 := by
  unfold mulO at h
  split at h
  · cases h
  · split at h
    · cases h
    · omega
theorem addO_no (h : addO tp n s = none) : sgnT tp n s ≠ 43 ∧ sgnT tp n s ≠ 45 := by
  unfold addO at h
  split at h
  · cases h
  · split at h
    · cases h
    · omega
theorem sgn_end (h : n ≤ s.1) : sgnT tp n s = -1 := by
  unfold sgnT
  rw [if_neg (by omega)]
/-- factors -/
theorem prd_G (hP : PT d l x y v1 tp n m b P) (hle : ∀ z : Tz, z.1.1 ≤ (P z).2.1.1) (hT : ∀ v, T.head? = some v → ¬ v ∈ [3, 4] ∧ v < 60) (hb : b ≤ T.length) : ∀ (k : Nat) (cs C' O : List Nat) (z : Tz) (c : Nat → Nat → Nat → Int32), n ≤ z.1.1 + k → AS c tp n z (O ++ T) C' m b → C' ++ O = C ++ cs → (∀ v ∈ O, v ∈ [3, 4]) → ∃ c2 : Nat → Nat → Nat → Int32, FK c c2 ∧ OV d l x y v1 tp n m b [3, 4] T C (lpZ P (mulO tp n) tp n k cs z) (sG d l x y v1 c) c2 ∧ ((lpZ P (mulO tp n) tp n k cs z).2.2 = none → mulO tp n (lpZ P (mulO tp n) tp n k cs z).2.1 = none) := by
  intro k
  induction k with
  | zero =>
    intro cs C' O z c hn h hC hO
    refine ⟨c, FK.refl c, ?_, fun _ => ?_⟩
    · unfold lpZ OV
      rw [if_pos h.2.1]
      exact ⟨rfl, O, C', h, hC, hO⟩
    · unfold lpZ
      have := sgn_end (tp := tp) (s := z.1) (n := n) (by omega)
      unfold mulO
      rw [this]
      rfl
  | succ k ih =>
    intro cs C' O z c hn h hC hO
    unfold lpZ
    rw [if_pos h.2.1]
    cases hop : mulO tp n z.1 with
    | none =>
      refine ⟨c, FK.refl c, ?_, fun _ => hop⟩
      unfold OV
      rw [if_pos h.2.1]
      exact ⟨rfl, O, C', h, hC, hO⟩
    | some op =>
      dsimp only
      have hsg := mulO_sg hop
      obtain ⟨c1, a1, a2, a3⟩ := g_61 (l := l) (x := x) (y := y) h (fun q => by omega) (AS_in h) (d + 2)
      obtain ⟨c3, b1, b2, b3⟩ := g_mul (l := l) (x := x) (y := y) a2 (fun v hv => by have := hO v hv; simp only [List.mem_cons, List.not_mem_nil, or_false] at this; exact this) (fun v hv => by have := (hT v hv).1; simp only [List.mem_cons, List.not_mem_nil, or_false] at this; omega) hb hop (d + 2)
      have hgo : sG d l x y v1 c = sA d l x y v1 c3 := sG_1 (a1.trans b1) b2
      have hlt := avZ_lt (tp := tp) (n := n) (z := z) (by omega)
      have hle2 := hle (avZ tp n z)
      obtain ⟨c4, f1, f2⟩ := hP c3 (avZ tp n z) (op :: T) (C' ++ O) b2
      have hd : d60 b (op :: T) = ([], op :: T) := d60_no (fun v hv => by have := Option.some.inj hv; omega)
      rw [hd] at f2
      by_cases hz : (P (avZ tp n z)).2.2 = none
      · rw [if_pos hz] at f2
        obtain ⟨f3, f4⟩ := f2
        rw [List.append_nil] at f4
        obtain ⟨c5, g1, g2, g3⟩ := ih (cs ++ (P (avZ tp n z)).1 ++ [op]) (C' ++ O ++ (P (avZ tp n z)).1) [op] (P (avZ tp n z)).2 c4 (by omega) f4 (by rw [hC]; simp only [List.append_assoc]) (fun v hv => by have := List.mem_singleton.mp hv; rcases hsg.2 with e | e <;> rw [this, e] <;> decide)
        refine ⟨c5, (((FK_FR a3).tr b3).tr f1).tr g1, ?_, g3⟩
        rw [hgo, f3]
        exact g2
      · rw [if_neg hz] at f2
        have hzs : (P (avZ tp n z)).2.2.isSome = true := f2.2.2.1
        rw [lpZ_f hzs]
        refine ⟨c4, ((FK_FR a3).tr b3).tr f1, ?_, fun q => absurd q hz⟩
        unfold OV
        rw [if_neg hz, hgo]
        exact f2
theorem prd_S (hP : PT d l x y v1 tp n m b P) (hle : ∀ z : Tz, z.1.1 ≤ (P z).2.1.1) : ∀ (c : Nat → Nat → Nat → Int32) (z : Tz) (T C : List Nat), AS c tp n z T C m b → (∀ v, T.head? = some v → ¬ v ∈ [3, 4] ∧ v < 60) → ∃ c2 : Nat → Nat → Nat → Int32, FK c c2 ∧ OV d l x y v1 tp n m b [3, 4] T C (prdZ tp n P z) (sA d l x y v1 c) c2 ∧ ((prdZ tp n P z).2.2 = none → mulO tp n (prdZ tp n P z).2.1 = none) := by
  intro c z T C h hT
  obtain ⟨c1, f1, f2⟩ := hP c z T C h
  have hd : d60 b T = ([], T) := d60_no (fun v hv => (hT v hv).2)
  rw [hd] at f2
  have hn2 := h.1.2.1.1
  unfold prdZ
  by_cases hz : (P z).2.2 = none
  · rw [if_pos hz] at f2
    obtain ⟨f3, f4⟩ := f2
    rw [List.append_nil] at f4
    obtain ⟨c2, g1, g2, g3⟩ := prd_G hP hle hT h.2.2.2.2 1600 (P z).1 (C ++ (P z).1) [] (P z).2 c1 (by omega) f4 (List.append_nil _) (fun v hv => by cases hv)
    refine ⟨c2, f1.tr g1, ?_, g3⟩
    rw [f3]
    exact g2
  · rw [if_neg hz] at f2
    have hzs : (P z).2.2.isSome = true := f2.2.2.1
    rw [lpZ_f hzs]
    refine ⟨c1, f1, ?_, fun q => absurd q hz⟩
    unfold OV
    rw [if_neg hz]
    exact f2
/-- terms -/
theorem sum_G (hP : PT d l x y v1 tp n m b P) (hle : ∀ z : Tz, z.1.1 ≤ (P z).2.1.1) (hT : ∀ v, T.head? = some v → ¬ v ∈ [3, 4, 1, 2] ∧ v < 60) (hb : b ≤ T.length) : ∀ (k : Nat) (cs C' O : List Nat) (z : Tz) (c : Nat → Nat → Nat → Int32), n ≤ z.1.1 + k → AS c tp n z (O ++ T) C' m b → C' ++ O = C ++ cs → (∀ v ∈ O, v ∈ [3, 4, 1, 2]) → mulO tp n z.1 = none → ∃ c2 : Nat → Nat → Nat → Int32, FK c c2 ∧ OV d l x y v1 tp n m b [3, 4, 1, 2] T C (lpZ (prdZ tp n P) (addO tp n) tp n k cs z) (sG d l x y v1 c) c2 ∧ ((lpZ (prdZ tp n P) (addO tp n) tp n k cs z).2.2 = none → mulO tp n (lpZ (prdZ tp n P) (addO tp n) tp n k cs z).2.1 = none ∧ addO tp n (lpZ (prdZ tp n P) (addO tp n) tp n k cs z).2.1 = none) := by
  intro k
  induction k with
  | zero =>
    intro cs C' O z c hn h hC hO hm
    refine ⟨c, FK.refl c, ?_, fun _ => ⟨hm, ?_⟩⟩
    · unfold lpZ OV
      rw [if_pos h.2.1]
      exact ⟨rfl, O, C', h, hC, hO⟩
    · unfold lpZ
      have := sgn_end (tp := tp) (s := z.1) (n := n) (by omega)
      unfold addO
      rw [this]
      rfl
  | succ k ih =>
    intro cs C' O z c hn h hC hO hm
    unfold lpZ
    rw [if_pos h.2.1]
    cases hop : addO tp n z.1 with
    | none =>
      refine ⟨c, FK.refl c, ?_, fun _ => ⟨hm, hop⟩⟩
      unfold OV
      rw [if_pos h.2.1]
      exact ⟨rfl, O, C', h, hC, hO⟩
    | some op =>
      dsimp only
      have hsg := addO_sg hop
      obtain ⟨c1, a1, a2, a3⟩ := g_61 (l := l) (x := x) (y := y) h (fun q => by omega) (AS_in h) (d + 2)
      obtain ⟨c3, b1, b2, b3⟩ := g_add (l := l) (x := x) (y := y) a2 (fun v hv => by have := hO v hv; simp only [List.mem_cons, List.not_mem_nil, or_false] at this; exact this) (fun v hv => by have := (hT v hv).1; simp only [List.mem_cons, List.not_mem_nil, or_false] at this; omega) hb hop (d + 2)
      have hgo : sG d l x y v1 c = sA d l x y v1 c3 := sG_1 (a1.trans b1) b2
      have hlt := avZ_lt (tp := tp) (n := n) (z := z) (by omega)
      have hle2 := prdZ_le (tp := tp) (n := n) hle (avZ tp n z)
      obtain ⟨c4, f1, f2, f5⟩ := prd_S hP hle c3 (avZ tp n z) (op :: T) (C' ++ O) b2 (fun v hv => by have := Option.some.inj hv; simp only [List.mem_cons, List.not_mem_nil, or_false]; omega)
      unfold OV at f2
      by_cases hz : (prdZ tp n P (avZ tp n z)).2.2 = none
      · rw [if_pos hz] at f2
        obtain ⟨f3, O2, C2, f4, f6, f7⟩ := f2
        have f4 : AS c4 tp n (prdZ tp n P (avZ tp n z)).2 ((O2 ++ [op]) ++ T) C2 m b := by
          rw [List.append_assoc]
          exact f4
        obtain ⟨c5, g1, g2, g3⟩ := ih (cs ++ (prdZ tp n P (avZ tp n z)).1 ++ [op]) C2 (O2 ++ [op]) (prdZ tp n P (avZ tp n z)).2 c4 (by omega) f4 (by rw [← List.append_assoc, f6, hC]; simp only [List.append_assoc]) (fun v hv => by
          rcases List.mem_append.mp hv with q | q
          · have := f7 v q
            simp only [List.mem_cons, List.not_mem_nil, or_false] at this ⊢
            omega
          · have := List.mem_singleton.mp q
            simp only [List.mem_cons, List.not_mem_nil, or_false]
            omega) (f5 hz)
        refine ⟨c5, (((FK_FR a3).tr b3).tr f1).tr g1, ?_, g3⟩
        rw [hgo, f3]
        exact g2
      · rw [if_neg hz] at f2
        have hzs : (prdZ tp n P (avZ tp n z)).2.2.isSome = true := f2.2.2.1
        rw [lpZ_f hzs]
        refine ⟨c4, ((FK_FR a3).tr b3).tr f1, ?_, fun q => absurd q hz⟩
        unfold OV
        rw [if_neg hz, hgo]
        exact f2
theorem sum_S (hP : PT d l x y v1 tp n m b P) (hle : ∀ z : Tz, z.1.1 ≤ (P z).2.1.1) (h : AS c tp n z T C m b) (hT : ∀ v, T.head? = some v → ¬ v ∈ [3, 4, 1, 2] ∧ v < 60) : ∃ c2 : Nat → Nat → Nat → Int32, FK c c2 ∧ OV d l x y v1 tp n m b [3, 4, 1, 2] T C (sumZ tp n P z) (sA d l x y v1 c) c2 ∧ ((sumZ tp n P z).2.2 = none → sgnT tp n (sumZ tp n P z).2.1 ≠ 42 ∧ sgnT tp n (sumZ tp n P z).2.1 ≠ 47 ∧ sgnT tp n (sumZ tp n P z).2.1 ≠ 43 ∧ sgnT tp n (sumZ tp n P z).2.1 ≠ 45) := by
  obtain ⟨c1, f1, f2, f5⟩ := prd_S hP hle c z T C h (fun v hv => by have := hT v hv; simp only [List.mem_cons, List.not_mem_nil, or_false] at this ⊢; omega)
  have hn2 := h.1.2.1.1
  unfold sumZ
  unfold OV at f2
  by_cases hz : (prdZ tp n P z).2.2 = none
  · rw [if_pos hz] at f2
    obtain ⟨f3, O2, C2, f4, f6, f7⟩ := f2
    obtain ⟨c2, g1, g2, g3⟩ := sum_G hP hle hT h.2.2.2.2 1600 (prdZ tp n P z).1 C2 O2 (prdZ tp n P z).2 c1 (by omega) f4 f6 (fun v hv => by have := f7 v hv; simp only [List.mem_cons, List.not_mem_nil, or_false] at this ⊢; omega) (f5 hz)
    refine ⟨c2, f1.tr g1, by rw [f3]; exact g2, fun q => ?_⟩
    obtain ⟨g4, g5⟩ := g3 q
    have := mulO_no g4
    have := addO_no g5
    omega
  · rw [if_neg hz] at f2
    have hzs : (prdZ tp n P z).2.2.isSome = true := f2.2.2.1
    rw [lpZ_f hzs]
    refine ⟨c1, f1, ?_, fun q => absurd q hz⟩
    unfold OV
    rw [if_neg hz]
    exact f2
end
