/-! codes come to a value, numbers in bounds on the way -/
def BSk (st : List Int) : Prop := ∀ v ∈ st, -1000000 ≤ v ∧ v ≤ 1000000
def okQ (cd : Nat) : Prop := 1000 ≤ cd ∨ cd = 13 ∨ (40 ≤ cd ∧ cd ≤ 43) ∨ cd = 12 ∨ cd = 60 ∨ cd = 61 ∨ (1 ≤ cd ∧ cd ≤ 11)
def rb (x : Cx) : List Nat → List Int → Prop
  | [], _ => True
  | cd :: cs, st => okQ cd ∧ ∃ st1, stp x cd st = some st1 ∧ BSk st1 ∧ rb x cs st1
def VB (x : Cx) (cs : List Nat) (lo hi : Int) : Prop := ∃ v, (lo ≤ v ∧ v ≤ hi) ∧ ∀ st, BSk st → run x cs st = some (v :: st) ∧ rb x cs st
/-- numbers of a CASE in bounds -/
def CBk (x : Cx) : Prop := (0 ≤ x.1 ∧ x.1 ≤ 1000) ∧ (x.2.1.length ≤ 1000 ∧ ∀ w ∈ x.2.1, w ≤ 1000) ∧ (0 ≤ x.2.2.1 ∧ x.2.2.1 ≤ 1000) ∧ 0 ≤ x.2.2.2 ∧ x.2.2.2 ≤ 1
section
variable {tp : Nat → Nat} {n : Nat} {z : Tz} {x : Cx} {lo hi : Int}
theorem BSk_cons {v : Int} {st : List Int} (h : -1000000 ≤ v ∧ v ≤ 1000000) (g : BSk st) : BSk (v :: st) := by
  intro w hw
  rcases List.mem_cons.mp hw with q | q
  · rw [q]; exact h
  · exact g w q
theorem rb_app : ∀ (a b : List Nat) (st st1 : List Int), rb x a st → run x a st = some st1 → rb x b st1 → rb x (a ++ b) st
  | [], b, st, st1, _, h, hb => by
    have := Option.some.inj h
    rw [List.nil_append, this]
    exact hb
  | cd :: a, b, st, st1, ha, h, hb => by
    obtain ⟨g0, s2, g1, g2, g3⟩ := ha
    refine ⟨g0, s2, g1, g2, rb_app a b s2 st1 g3 ?_ hb⟩
    unfold run at h
    rw [g1] at h
    exact h
theorem VB_one {cd : Nat} {v : Int} (hk : okQ cd) (hv : lo ≤ v ∧ v ≤ hi) (hlo : -1000000 ≤ lo ∧ hi ≤ 1000000) (h : ∀ st, stp x cd st = some (v :: st)) : VB x [cd] lo hi := by
  refine ⟨v, hv, fun st hst => ⟨?_, hk, v :: st, h st, BSk_cons (by omega) hst, trivial⟩⟩
  unfold run
  rw [h]
  rfl
theorem VB_un {a : List Nat} {cd : Nat} {lo2 hi2 : Int} (hk : okQ cd) (hlo : -1000000 ≤ lo ∧ hi ≤ 1000000) (hlo2 : -1000000 ≤ lo2 ∧ hi2 ≤ 1000000) (f : Int → Int) (ha : VB x a lo hi) (hf : ∀ v, lo ≤ v ∧ v ≤ hi → lo2 ≤ f v ∧ f v ≤ hi2) (h : ∀ v st, stp x cd (v :: st) = some (f v :: st)) : VB x (a ++ [cd]) lo2 hi2 := by
  obtain ⟨v, hv, g⟩ := ha
  have hfv := hf v hv
  refine ⟨f v, hfv, fun st hst => ?_⟩
  obtain ⟨g1, g2⟩ := g st hst
  refine ⟨?_, rb_app a [cd] st _ g2 g1 ⟨hk, _, h v st, BSk_cons (by omega) hst, trivial⟩⟩
  rw [run_app, g1]
  show run x [cd] (v :: st) = _
  unfold run
  rw [h]
  rfl
theorem stp_bin {cd : Nat} (hc : 1 ≤ cd ∧ cd ≤ 11) (u v : Int) (st : List Int) : stp x cd (v :: u :: st) = some (binO cd u v :: st) := by
  unfold stp
  rw [if_neg (by omega), if_neg (by omega), if_neg (by omega), if_neg (by omega), if_neg (by omega), if_neg (by omega)]
  dsimp only
  rw [if_neg (by omega), if_neg (by omega), if_neg (by omega)]
theorem VB_bin {a b : List Nat} {cd : Nat} {lo2 hi2 : Int} (hlo : -1000000 ≤ lo ∧ hi ≤ 1000000) (hlo2 : -1000000 ≤ lo2 ∧ hi2 ≤ 1000000) (hc : 1 ≤ cd ∧ cd ≤ 11) (ha : VB x a lo hi) (hb : VB x b lo hi) (h : ∀ u v, lo ≤ u ∧ u ≤ hi → lo ≤ v ∧ v ≤ hi → lo2 ≤ binO cd u v ∧ binO cd u v ≤ hi2) : VB x (a ++ b ++ [cd]) lo2 hi2 := by
  obtain ⟨u, hu, ga⟩ := ha
  obtain ⟨v, hv, gb⟩ := hb
  have huv := h u v hu hv
  refine ⟨binO cd u v, huv, fun st hst => ?_⟩
  obtain ⟨g1, g2⟩ := ga st hst
  obtain ⟨g3, g4⟩ := gb (u :: st) (BSk_cons (by omega) hst)
  have hs := stp_bin (x := x) hc u v st
  have hab : run x (a ++ b) st = some (v :: u :: st) := by
    rw [run_app, g1]
    exact g3
  refine ⟨?_, rb_app _ [cd] st _ (rb_app a b st _ g2 g1 g4) hab ⟨by unfold okQ; omega, _, hs, BSk_cons (by omega) hst, trivial⟩⟩
  rw [run_app, hab]
  show run x [cd] (v :: u :: st) = _
  unfold run
  rw [hs]
  rfl
theorem b01_bd (p : Prop) [Decidable p] : 0 ≤ b01 p ∧ b01 p ≤ 1 := by
  unfold b01
  split <;> omega
theorem binO_e1 (a b : Int) : binO 1 a b = (clp (a + b)) := by
  unfold binO
  rw [if_pos rfl]
theorem binO_e2 (a b : Int) : binO 2 a b = (clp (a - b)) := by
  unfold binO
  rw [if_neg (by decide), if_pos rfl]
theorem binO_e3 (a b : Int) : binO 3 a b = (clp (a * b)) := by
  unfold binO
  rw [if_neg (by decide), if_neg (by decide), if_pos rfl]
theorem binO_e4 (a b : Int) : binO 4 a b = (if b = 0 then 0 else a.fdiv b) := by
  unfold binO
  rw [if_neg (by decide), if_neg (by decide), if_neg (by decide), if_pos rfl]
theorem binO_e5 (a b : Int) : binO 5 a b = (if a < b then a else b) := by
  unfold binO
  rw [if_neg (by decide), if_neg (by decide), if_neg (by decide), if_neg (by decide), if_pos rfl]
theorem binO_e6 (a b : Int) : binO 6 a b = (if b < a then a else b) := by
  unfold binO
  rw [if_neg (by decide), if_neg (by decide), if_neg (by decide), if_neg (by decide), if_neg (by decide), if_pos rfl]
theorem binO_e7 (a b : Int) : binO 7 a b = (b01 (a < b)) := by
  unfold binO
  rw [if_neg (by decide), if_neg (by decide), if_neg (by decide), if_neg (by decide), if_neg (by decide), if_neg (by decide), if_pos rfl]
theorem binO_e8 (a b : Int) : binO 8 a b = (b01 (b < a)) := by
  unfold binO
  rw [if_neg (by decide), if_neg (by decide), if_neg (by decide), if_neg (by decide), if_neg (by decide), if_neg (by decide), if_neg (by decide), if_pos rfl]
theorem binO_e9 (a b : Int) : binO 9 a b = (b01 (a = b)) := by
  unfold binO
  rw [if_neg (by decide), if_neg (by decide), if_neg (by decide), if_neg (by decide), if_neg (by decide), if_neg (by decide), if_neg (by decide), if_neg (by decide), if_pos rfl]
theorem binO_e10 (a b : Int) : binO 10 a b = (a * b) := by
  unfold binO
  rw [if_neg (by decide), if_neg (by decide), if_neg (by decide), if_neg (by decide), if_neg (by decide), if_neg (by decide), if_neg (by decide), if_neg (by decide), if_neg (by decide), if_pos rfl]
theorem binO_e11 (a b : Int) : binO 11 a b = (b01 (0 < a + b)) := by
  unfold binO
  rw [if_neg (by decide), if_neg (by decide), if_neg (by decide), if_neg (by decide), if_neg (by decide), if_neg (by decide), if_neg (by decide), if_neg (by decide), if_neg (by decide), if_neg (by decide)]
theorem binO_9 {cd : Nat} {u v : Int} (hc : 1 ≤ cd ∧ cd ≤ 9) (hu : -1000000 ≤ u ∧ u ≤ 1000000) (hv : -1000000 ≤ v ∧ v ≤ 1000000) : -1000000 ≤ binO cd u v ∧ binO cd u v ≤ 1000000 := by
  rcases (show cd = 1 ∨ cd = 2 ∨ cd = 3 ∨ cd = 4 ∨ cd = 5 ∨ cd = 6 ∨ cd = 7 ∨ cd = 8 ∨ cd = 9 by omega) with rfl | rfl | rfl | rfl | rfl | rfl | rfl | rfl | rfl
  · rw [binO_e1]; exact clp_bd (u + v)
  · rw [binO_e2]; exact clp_bd (u - v)
  · rw [binO_e3]; exact clp_bd (u * v)
  · rw [binO_e4]
    split
    · omega
    · exact fdv_bd u v hu
  · rw [binO_e5]
    split <;> omega
  · rw [binO_e6]
    split <;> omega
  · have := b01_bd (u < v)
    rw [binO_e7]
    omega
  · have := b01_bd (v < u)
    rw [binO_e8]
    omega
  · have := b01_bd (u = v)
    rw [binO_e9]
    omega
theorem binO_cmp {cd : Nat} {u v : Int} (hc : cd = 7 ∨ cd = 8 ∨ cd = 9) : 0 ≤ binO cd u v ∧ binO cd u v ≤ 1 := by
  rcases hc with rfl | rfl | rfl
  · rw [binO_e7]; exact b01_bd (u < v)
  · rw [binO_e8]; exact b01_bd (v < u)
  · rw [binO_e9]; exact b01_bd (u = v)
theorem binO_t {cd : Nat} {u v : Int} (hc : cd = 10 ∨ cd = 11) (hu : 0 ≤ u ∧ u ≤ 1) (hv : 0 ≤ v ∧ v ≤ 1) : 0 ≤ binO cd u v ∧ binO cd u v ≤ 1 := by
  rcases hc with rfl | rfl
  · rw [binO_e10]
    rcases (show u = 0 ∨ u = 1 by omega) with rfl | rfl
    · rw [Int.zero_mul]; omega
    · rw [Int.one_mul]; exact hv
  · rw [binO_e11]; exact b01_bd (0 < u + v)
theorem lpZ_n {f : Tz → List Nat × Tz} {op : Ts → Option Nat} {k : Nat} {cs : List Nat} (h : (lpZ f op tp n k cs z).2.2 = none) : z.2 = none := by
  cases k with
  | zero => exact h
  | succ k =>
    by_cases hz : z.2 = none
    · exact hz
    · unfold lpZ at h
      rw [if_neg hz] at h
      exact h
theorem lp_VB {f : Tz → List Nat × Tz} {op : Ts → Option Nat} (hlo : -1000000 ≤ lo ∧ hi ≤ 1000000) (hf : ∀ z, (f z).2.2 = none → VB x (f z).1 lo hi) (ho : ∀ s cd, op s = some cd → (1 ≤ cd ∧ cd ≤ 11) ∧ ∀ u v, lo ≤ u ∧ u ≤ hi → lo ≤ v ∧ v ≤ hi → lo ≤ binO cd u v ∧ binO cd u v ≤ hi) : ∀ (k : Nat) (cs : List Nat) (z : Tz), VB x cs lo hi → (lpZ f op tp n k cs z).2.2 = none → VB x (lpZ f op tp n k cs z).1 lo hi
  | 0, cs, z, hV, _ => hV
  | k + 1, cs, z, hV, h => by
    unfold lpZ at h ⊢
    by_cases hz : z.2 = none
    · rw [if_pos hz] at h ⊢
      cases hop : op z.1 with
      | none => exact hV
      | some cd =>
        rw [hop] at h
        dsimp only at h ⊢
        have h1 := ho _ _ hop
        exact lp_VB hlo hf ho k _ _ (VB_bin hlo hlo h1.1 hV (hf _ (lpZ_n h)) h1.2) h
    · rw [if_neg hz] at h
      exact absurd h hz
abbrev VP (x : Cx) (f : Tz → List Nat × Tz) (lo hi : Int) : Prop := ∀ z, (f z).2.2 = none → VB x (f z).1 lo hi
theorem prd_VB {P : Tz → List Nat × Tz} (hP : VP x P (-1000000) 1000000) : VP x (prdZ tp n P) (-1000000) 1000000 := by
  intro z h
  unfold prdZ at h ⊢
  exact lp_VB (by omega) hP (fun s cd q => by
    have := (mulO_sg q).2
    exact ⟨by omega, fun u v hu hv => binO_9 (by omega) hu hv⟩) _ _ _ (hP z (lpZ_n h)) h
theorem sum_VB {P : Tz → List Nat × Tz} (hP : VP x P (-1000000) 1000000) : VP x (sumZ tp n P) (-1000000) 1000000 := by
  intro z h
  unfold sumZ at h ⊢
  exact lp_VB (by omega) (prd_VB hP) (fun s cd q => by
    have := (addO_sg q).2
    exact ⟨by omega, fun u v hu hv => binO_9 (by omega) hu hv⟩) _ _ _ (prd_VB hP z (lpZ_n h)) h
theorem br_VB {f : Option (Tz → List Nat × Tz)} (hf : ∀ P, f = some P → VP x P (-1000000) 1000000 ∧ Cn P) {w : Nat} (hw : w = 0 ∨ w = 5 ∨ w = 6) (h : (brZ tp n f w z).2.2 = none) : VB x (brZ tp n f w z).1 (-1000000) 1000000 := by
  unfold brZ at h ⊢
  by_cases e : sgnT tp n z.1 ≠ 40
  · rw [if_pos e] at h
    exact absurd h (flZ_ns _ _ _)
  rw [if_neg e] at h ⊢
  cases f with
  | none => exact absurd h (flZ_ns _ _ _)
  | some P =>
    have hP := sum_VB (tp := tp) (n := n) (hf P rfl).1
    dsimp only at h ⊢
    by_cases hw0 : w = 0
    · rw [if_pos hw0] at h ⊢
      exact hP _ (tkZ_none h).1
    · rw [if_neg hw0] at h ⊢
      have h2 := (tkZ_none h).1
      have h1 := (tkZ_none (sum_cn (hf P rfl).2 _ h2).1).1
      exact VB_bin (by omega) (by omega) (by omega) (hP _ h1) (hP _ h2) (fun u v hu hv => binO_9 (by omega) hu hv)
theorem pc_VB (hx : CBk x) {f : Option (Tz → List Nat × Tz)} (hf : ∀ P, f = some P → VP x P (-1000000) 1000000 ∧ Cn P) : VP x (pcZ tp n f) (-1000000) 1000000 := by
  intro z h
  unfold pcZ at h ⊢
  by_cases h0 : z.2.isSome = true
  · rw [if_pos h0] at h
    dsimp only at h
    rw [h] at h0
    cases h0
  rw [if_neg h0] at h ⊢
  by_cases h48 : sgnT tp n z.1 = 48
  · rw [if_pos h48] at h ⊢
    dsimp only at h ⊢
    have hv : (tnZ tp n 9999 z).1.getD 0 ≤ 9999 := by
      unfold tnZ at h ⊢
      rw [if_neg h0, if_neg (fun q => q h48)] at h ⊢
      by_cases w3 : 4 < lenT tp n z.1.1
      · rw [if_pos w3] at h
        exact absurd h (flZ_ns _ _ _)
      rw [if_neg w3] at h ⊢
      by_cases w4 : 9999 < valT tp n z.1.1
      · rw [if_pos w4] at h
        exact absurd h (flZ_ns _ _ _)
      rw [if_neg w4]
      show valT tp n z.1.1 ≤ 9999
      omega
    generalize (tnZ tp n 9999 z).1.getD 0 = a at hv ⊢
    refine VB_one (by unfold okQ; omega) (v := ((1000 + a - 1000 : Nat) : Int)) (by omega) (by omega) (fun st => ?_)
    unfold stp
    rw [if_pos (by omega)]
  rw [if_neg h48] at h ⊢
  by_cases h40 : sgnT tp n z.1 = 40
  · rw [if_pos h40] at h ⊢
    exact br_VB hf (Or.inl rfl) h
  rw [if_neg h40] at h ⊢
  cases ho : lixT tp n 1 z.1 with
  | none =>
    rw [ho] at h
    exact absurd h (flZ_ns _ _ _)
  | some o =>
    rw [ho] at h
    dsimp only at h ⊢
    have h18 : o < 18 := by
      have h97 := lix_sgn ho
      unfold lixT at ho
      rw [if_pos h97] at ho
      exact lixW_lt ho
    by_cases o1 : o < 10
    · rw [if_pos o1] at h
      exact absurd h (flZ_ns _ _ _)
    rw [if_neg o1] at h ⊢
    by_cases o2 : o = 14 ∨ o = 15
    · rw [if_pos o2] at h ⊢
      cases f with
      | none => exact absurd h (flZ_ns _ _ _)
      | some P =>
        have h2 := (hf P rfl).1 (avZ tp n z) h
        show VB x ((P (avZ tp n z)).1 ++ [46 + o]) _ _
        rcases o2 with rfl | rfl
        · refine VB_un (by unfold okQ; omega) (by omega) (by omega) (atW x.2.1) h2 (fun v hv => ?_) (fun v st => rfl)
          unfold atW
          split
          · rename_i q
            have hlt : v.toNat < x.2.1.length := by omega
            have hm : x.2.1.getD v.toNat 0 ∈ x.2.1 := by
              rw [List.getD_eq_getElem?_getD, List.getElem?_eq_getElem hlt]
              exact List.getElem_mem hlt
            have := hx.2.1.2 _ hm
            omega
          · omega
        · refine VB_un (by unfold okQ; omega) (by omega) (by omega) (hasW x.2.1) h2 (fun v hv => ?_) (fun v st => rfl)
          unfold hasW
          have := List.countP_le_length (p := fun w : Nat => (w : Int) == v) (l := x.2.1)
          have := hx.2.1.1
          omega
    rw [if_neg o2] at h ⊢
    by_cases o3 : o = 16 ∨ o = 17
    · rw [if_pos o3] at h ⊢
      exact br_VB hf (by omega) h
    rw [if_neg o3]
    show VB x [30 + o] _ _
    rcases (show o = 10 ∨ o = 11 ∨ o = 12 ∨ o = 13 by omega) with rfl | rfl | rfl | rfl
    · exact VB_one (by unfold okQ; omega) (v := x.1) (by have := hx.1; omega) (by omega) (fun st => rfl)
    · exact VB_one (by unfold okQ; omega) (v := (x.2.1.length : Int)) (by have := hx.2.1.1; omega) (by omega) (fun st => rfl)
    · exact VB_one (by unfold okQ; omega) (v := x.2.2.1) (by have := hx.2.2.1; omega) (by omega) (fun st => rfl)
    · exact VB_one (by unfold okQ; omega) (v := x.2.2.2) (by have := hx.2.2.2; omega) (by omega) (fun st => rfl)
theorem part_VB (hx : CBk x) : ∀ m, VP x (partZ tp n m) (-1000000) 1000000
  | 0 => pc_VB hx (fun P q => by cases q)
  | m + 1 => pc_VB hx (fun P q => by cases q; exact ⟨part_VB hx m, part_cnt m⟩)
theorem fc_VB (hx : CBk x) {P : Tz → List Nat × Tz} {f : Option (Tz → List Nat × Tz)} (hP : VP x P (-1000000) 1000000) (hPf : ∀ z : Tz, z.2.isSome = true → P z = ([], z)) (hf : ∀ F, f = some F → VP x F 0 1) : VP x (fcZ tp n P f) 0 1 := by
  intro z h
  unfold fcZ at h ⊢
  by_cases h9 : lixT tp n 1 z.1 = some 9
  · rw [if_pos h9]
    exact VB_one (by unfold okQ; omega) (v := 1) (by omega) (by omega) (fun st => rfl)
  rw [if_neg h9] at h ⊢
  by_cases h8 : lixT tp n 1 z.1 = some 8
  · rw [if_pos h8] at h ⊢
    cases f with
    | none => exact absurd h (flZ_ns _ _ _)
    | some F =>
      have h2 := hf F rfl (avZ tp n z) h
      show VB x ((F (avZ tp n z)).1 ++ [12]) _ _
      exact VB_un (by unfold okQ; omega) (by omega) (by omega) (fun v => 1 - v) h2 (fun v hv => by omega) (fun v st => rfl)
  rw [if_neg h8] at h ⊢
  by_cases h91 : sgnT tp n z.1 = 91
  · rw [if_pos h91] at h ⊢
    cases f with
    | none => exact absurd h (flZ_ns _ _ _)
    | some F =>
      have hF := hf F rfl
      have hb : VP x (bthZ tp n F) 0 1 := by
        intro z h
        unfold bthZ at h ⊢
        exact lp_VB (by omega) hF (fun s cd q => by
          have := (andO_some q).2
          exact ⟨by omega, fun u v hu hv => binO_t (by omega) hu hv⟩) _ _ _ (hF z (lpZ_n h)) h
      have h := (tkZ_none h).1
      show VB x (tstZ tp n F (avZ tp n z)).1 _ _
      unfold tstZ at h ⊢
      exact lp_VB (by omega) hb (fun s cd q => by
        have := (orO_some q).2
        exact ⟨by omega, fun u v hu hv => binO_t (by omega) hu hv⟩) _ _ _ (hb _ (lpZ_n h)) h
  rw [if_neg h91] at h ⊢
  unfold cpZ at h ⊢
  have hS := sum_VB (tp := tp) (n := n) hP
  cases hc : cmpC (sgnT tp n (sumZ tp n P z).2.1) with
  | none =>
    rw [hc] at h
    exact absurd h (flZ_ns _ _ _)
  | some cd =>
    rw [hc] at h
    dsimp only at h ⊢
    have hsg := cmpC_sg hc
    have h1 : (sumZ tp n P z).2.2 = none := by
      cases q : (sumZ tp n P z).2.2 with
      | none => rfl
      | some e =>
        rw [tkZ_f (by rw [q]; rfl), sumZ_f hPf (by rw [q]; rfl)] at h
        dsimp only at h
        rw [q] at h
        cases h
    exact VB_bin (by omega) (by omega) (by omega) (hS z h1) (hS _ h) (fun u v hu hv => binO_cmp (by omega))
theorem fact_VB (hx : CBk x) : ∀ m, VP x (factZ tp n m) 0 1
  | 0 => fc_VB hx (part_VB hx 0) (fun z h => partZ_f 0 h) (fun P q => by cases q)
  | m + 1 => fc_VB hx (part_VB hx (m + 1)) (fun z h => partZ_f (m + 1) h) (fun P q => by cases q; exact fact_VB hx m)
theorem tst_VB {F : Tz → List Nat × Tz} (hF : VP x F 0 1) : VP x (tstZ tp n F) 0 1 := by
  have hb : VP x (bthZ tp n F) 0 1 := by
    intro z h
    unfold bthZ at h ⊢
    exact lp_VB (by omega) hF (fun s cd q => by
      have := (andO_some q).2
      exact ⟨by omega, fun u v hu hv => binO_t (by omega) hu hv⟩) _ _ _ (hF z (lpZ_n h)) h
  intro z h
  unfold tstZ at h ⊢
  exact lp_VB (by omega) hb (fun s cd q => by
    have := (orO_some q).2
    exact ⟨by omega, fun u v hu hv => binO_t (by omega) hu hv⟩) _ _ _ (hb _ (lpZ_n h)) h
end
