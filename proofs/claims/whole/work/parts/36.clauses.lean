/-! clauses of a row without its empty words -/
def bitS (a : Nat) : Nat := if a = 1 then 1 else 0
def runW (K : Ct) (r : List Nat) : List Nat := r.takeWhile (fun w => decide (knd K w ≤ 1))
def offW (K : Ct) (r : List Nat) : List Nat := r.dropWhile (fun w => decide (knd K w ≤ 1))
def endW (K : Ct) (r : List Nat) : Bool := match r with
  | [] => true
  | w :: _ => knd K w == 3 || knd K w == 4
/-- a line fits the words here -/
def mtA (K : Ct) : List Nat → List Nat → Bool
  | [], r => endW K r
  | _ :: _, [] => false
  | a :: sl, w :: r => knd K w == bitS a && mtA K sl r
/-- a clause from here on: its line, words, turns, what stands behind it -/
def clE (K : Ct) (F : Nat) : List Nat → Nat → List Nat → Option (Nat × List Nat × Nat × List Nat)
  | cur, t, [] => (fitL K F (patW K cur)).map (fun i => (i, cur, t, []))
  | cur, t, w :: r => if knd K w = 2 then (if cur = [] then clE K F cur (t + 1) r else none) else if knd K w ≤ 1 then clE K F (cur ++ [w]) t r else (fitL K F (patW K cur)).map (fun i => (i, cur, t, w :: r))
/-- from which place on it makes no sense: words with their places -/
def nosP (K : Ct) (F n : Nat) : List (Nat × Nat) → Sj → Int → Int
  | [], s, cl => if finS K F s = none then (if cl = -1 then (n : Int) else cl) else -1
  | (w, i) :: r, s, cl => match hearS K F s w with
    | none => if cl = -1 then (i : Int) else cl
    | some t => nosP K F n r t (if knd K w = 3 ∨ knd K w = 4 then -1 else if cl = -1 then (i : Int) else cl)
/-- the words that count, with their places -/
def plP (K : Ct) : List Nat → Nat → List (Nat × Nat)
  | [], _ => []
  | w :: ws, i => if knd K w = 5 then plP K ws (i + 1) else (w, i) :: plP K ws (i + 1)
section
variable {K : Ct} {F : Nat}
theorem nosR_nosP : ∀ (ws : List Nat) (i : Nat) (s : Sj) (cl : Int), nosR K F ws i s cl = nosP K F (i + ws.length) (plP K ws i) s cl
  | [], i, s, cl => rfl
  | w :: ws, i, s, cl => by
    have ih := nosR_nosP ws (i + 1)
    unfold nosR plP
    by_cases k5 : knd K w = 5
    · rw [if_pos k5]
      have : hearS K F s w = some s := by unfold hearS; rw [if_pos k5]
      rw [this]
      dsimp only
      rw [if_neg (by omega), if_neg (by omega), ih, List.length_cons, show i + 1 + ws.length = i + (ws.length + 1) by omega]
    · rw [if_neg k5]
      unfold nosP
      cases hearS K F s w with
      | none => simp only [k5, ne_eq, not_false_eq_true, and_true]
      | some t =>
        dsimp only
        rw [ih, List.length_cons, show i + 1 + ws.length = i + (ws.length + 1) by omega]
        simp only [k5, ne_eq, not_false_eq_true, and_true]
theorem fold_plP : ∀ (ws : List Nat) (i : Nat) (o : Option Sj), ws.foldl (hearO K F) o = ((plP K ws i).map (·.1)).foldl (hearO K F) o
  | [], _, _ => rfl
  | w :: ws, i, o => by
    unfold plP
    by_cases k5 : knd K w = 5
    · rw [if_pos k5, List.foldl_cons]
      have : hearO K F o w = o := by
        cases o with
        | none => rfl
        | some s => show hearS K F s w = some s; unfold hearS; rw [if_pos k5]
      rw [this]
      exact fold_plP ws (i + 1) o
    · rw [if_neg k5, List.map_cons, List.foldl_cons, List.foldl_cons]
      exact fold_plP ws (i + 1) _
theorem mtA_run : ∀ (sl r : List Nat), mtA K sl r = (decide (sl.map bitS = (runW K r).map (knd K)) && endW K (offW K r))
  | [], [] => rfl
  | [], w :: r => by
    unfold mtA runW offW
    by_cases h : knd K w ≤ 1
    · rw [List.takeWhile_cons_of_pos (by simpa using h), List.dropWhile_cons_of_pos (by simpa using h)]
      simp only [List.map_nil, List.map_cons]
      simp only [reduceCtorEq, decide_false, Bool.false_and]
      unfold endW
      simp only [Bool.or_eq_false_iff, beq_eq_false_iff_ne]
      omega
    · rw [List.takeWhile_cons_of_neg (by simpa using h), List.dropWhile_cons_of_neg (by simpa using h)]
      simp
  | a :: sl, [] => by simp [mtA, runW, offW]
  | a :: sl, w :: r => by
    have hb : bitS a ≤ 1 := by unfold bitS; split <;> omega
    unfold mtA
    rw [mtA_run sl r]
    by_cases h : knd K w ≤ 1
    · have e1 : runW K (w :: r) = w :: runW K r := by unfold runW; rw [List.takeWhile_cons_of_pos (by simpa using h)]
      have e2 : offW K (w :: r) = offW K r := by unfold offW; rw [List.dropWhile_cons_of_pos (by simpa using h)]
      rw [e1, e2, ← Bool.and_assoc]
      congr 1
      by_cases e : knd K w = bitS a
      · simp [e]
      · simp [e, Ne.symm e]
    · have e1 : runW K (w :: r) = [] := by unfold runW; rw [List.takeWhile_cons_of_neg (by simpa using h)]
      rw [e1]
      have : (knd K w == bitS a) = false := by simp; omega
      rw [this]
      simp
theorem pat_bits (s : List Nat) : patS s = (s.map bitS).foldl (fun p b => 2 * p + b) 1 := by
  unfold patS
  rw [List.foldl_map]
  rfl
theorem pat_kinds (ws : List Nat) : patW K ws = (ws.map (knd K)).foldl (fun p b => 2 * p + b) 1 := by
  unfold patW
  rw [List.foldl_map]
theorem bits_ge : ∀ (bs : List Nat) (p : Nat), 1 ≤ p → 1 ≤ bs.foldl (fun p b => 2 * p + b) p
  | [], _, h => h
  | b :: bs, p, h => bits_ge bs (2 * p + b) (by omega)
theorem bits_inj : ∀ (n : Nat) (as bs : List Nat), as.length = n → (∀ a ∈ as, a ≤ 1) → (∀ b ∈ bs, b ≤ 1) → as.foldl (fun p b => 2 * p + b) 1 = bs.foldl (fun p b => 2 * p + b) 1 → as = bs := by
  intro n
  induction n with
  | zero =>
    intro as bs ha _ hb h
    have := List.eq_nil_of_length_eq_zero ha
    subst this
    rcases List.eq_nil_or_concat bs with rfl | ⟨b', b, rfl⟩
    · rfl
    · rw [List.concat_eq_append, List.foldl_append] at h
      have h1 := bits_ge b' 1 (Nat.le_refl _)
      simp only [List.foldl_nil, List.foldl_cons] at h
      omega
  | succ n ih =>
    intro as bs ha h1 h2 h
    rcases List.eq_nil_or_concat as with rfl | ⟨a', a, rfl⟩
    · cases ha
    rcases List.eq_nil_or_concat bs with rfl | ⟨b', b, rfl⟩
    · rw [List.concat_eq_append, List.foldl_append] at h
      have h1 := bits_ge a' 1 (Nat.le_refl _)
      simp only [List.foldl_nil, List.foldl_cons] at h
      omega
    · rw [List.concat_eq_append, List.concat_eq_append, List.foldl_append, List.foldl_append] at h
      simp only [List.foldl_nil, List.foldl_cons] at h
      have qa := h1 a (by simp)
      have qb := h2 b (by simp)
      have e : a = b := by omega
      have := ih a' b' (by simpa using ha) (fun v hv => h1 v (by simp [hv])) (fun v hv => h2 v (by simp [hv])) (by omega)
      rw [List.concat_eq_append, List.concat_eq_append, this, e]
theorem runW_le (r : List Nat) : ∀ w ∈ runW K r, knd K w ≤ 1 := by
  intro w hw
  have := List.all_eq_true.mp (List.all_takeWhile (l := r) (p := fun w => decide (knd K w ≤ 1))) w hw
  simpa using this
theorem mtA_pat (sl r : List Nat) : mtA K sl r = (decide (patS sl = patW K (runW K r)) && endW K (offW K r)) := by
  rw [mtA_run]
  congr 1
  rw [pat_bits, pat_kinds]
  apply decide_eq_decide.mpr
  constructor
  · intro h; rw [h]
  · intro h
    refine bits_inj _ _ _ rfl ?_ ?_ h
    · intro a ha
      obtain ⟨b, -, rfl⟩ := List.mem_map.mp ha
      unfold bitS; split <;> omega
    · intro a ha
      obtain ⟨b, hb, rfl⟩ := List.mem_map.mp ha
      exact runW_le r b hb
theorem clE_run : ∀ (r cur : List Nat) (t : Nat), (cur = [] → ∀ w r2, r = w :: r2 → knd K w ≠ 2) → (∀ w ∈ r, knd K w ≠ 5) → (∀ w ∈ r, knd K w ≤ 5) → clE K F cur t r = if endW K (offW K r) then (fitL K F (patW K (cur ++ runW K r))).map (fun i => (i, cur ++ runW K r, t, offW K r)) else none
  | [], cur, t, _, _, _ => by
    show _ = if true = true then (fitL K F (patW K (cur ++ []))).map (fun i => (i, cur ++ [], t, [])) else none
    rw [if_pos rfl, List.append_nil]
    unfold clE
    rfl
  | w :: r, cur, t, h2, h5, h6 => by
    unfold clE
    have k5 := h5 w List.mem_cons_self
    have k6 := h6 w List.mem_cons_self
    by_cases h : knd K w ≤ 1
    · have e1 : runW K (w :: r) = w :: runW K r := by unfold runW; rw [List.takeWhile_cons_of_pos (by simpa using h)]
      have e2 : offW K (w :: r) = offW K r := by unfold offW; rw [List.dropWhile_cons_of_pos (by simpa using h)]
      rw [if_neg (by omega), if_pos h, clE_run r (cur ++ [w]) t (fun q => absurd q (by simp)) (fun v hv => h5 v (List.mem_cons_of_mem _ hv)) (fun v hv => h6 v (List.mem_cons_of_mem _ hv)), e1, e2, List.append_assoc, List.singleton_append]
    · have e1 : runW K (w :: r) = [] := by unfold runW; rw [List.takeWhile_cons_of_neg (by simpa using h)]
      have e2 : offW K (w :: r) = w :: r := by unfold offW; rw [List.dropWhile_cons_of_neg (by simpa using h)]
      rw [e1, e2, List.append_nil]
      by_cases k2 : knd K w = 2
      · rw [if_pos k2]
        have hc : cur ≠ [] := fun q => h2 q w r rfl k2
        rw [if_neg hc, if_neg]
        simp only [endW]
        simp
        omega
      · rw [if_neg k2, if_neg h, if_pos]
        simp only [endW]
        simp
        omega
/-- every beginning of a pattern of a line in force is begun -/
theorem begL_of {i : Nat} {a b : List Nat} (hK : VK K) (hf : fitL K F (patW K (a ++ b)) = some i) (hk : ∀ w ∈ a ++ b, knd K w ≤ 1) : begL K F (patW K a) = true := by
  obtain ⟨h1, h2, h3⟩ := fitL_some hf
  unfold begL
  rw [List.any_eq_true]
  refine ⟨i, List.mem_range.mpr h1, ?_⟩
  rw [h2, Bool.true_and, List.any_eq_true]
  have h4 := fitL_lt hK hf
  have hlen := patW_len (a ++ b) hk
  have hb : b.length < 4 := by
    apply Classical.byContradiction
    intro hn
    have h5 : 2 ^ 4 ≤ 2 ^ (a ++ b).length := Nat.pow_le_pow_right (by decide) (by rw [List.length_append]; omega)
    omega
  refine ⟨b.length, List.mem_range.mpr hb, ?_⟩
  rw [h3, beq_iff_eq]
  have e : patW K (a ++ b) = b.foldl (fun p w => 2 * p + knd K w) (patW K a) := by unfold patW; rw [List.foldl_append]
  have := patW_len2 (K := K) b (patW K a) (fun w hw => hk w (List.mem_append_right _ hw))
  rw [e]
  have hp : 0 < 2 ^ b.length := Nat.two_pow_pos _
  exact Nat.div_eq_of_lt_le this.1 this.2
theorem clE_cur : ∀ (r cur : List Nat) (t : Nat) (i : Nat) (cur2 : List Nat) (t2 : Nat) (rest : List Nat), clE K F cur t r = some (i, cur2, t2, rest) → ((∀ w ∈ cur, knd K w ≤ 1) → ∀ w ∈ cur2, knd K w ≤ 1) ∧ fitL K F (patW K cur2) = some i ∧ cur <+: cur2 ∧ rest.length ≤ r.length ∧ rest <:+ r
  | [], cur, t, i, cur2, t2, rest, h => by
    unfold clE at h
    cases hf : fitL K F (patW K cur) with
    | none => rw [hf] at h; cases h
    | some j => rw [hf] at h; cases h; exact ⟨fun q => q, hf, List.prefix_rfl, Nat.le_refl _, List.suffix_rfl⟩
  | w :: r, cur, t, i, cur2, t2, rest, h => by
    unfold clE at h
    split at h
    · split at h
      · obtain ⟨h1, h2, h3, h4, h5⟩ := clE_cur r cur (t + 1) i cur2 t2 rest h
        exact ⟨h1, h2, h3, by rw [List.length_cons]; omega, h5.trans (List.suffix_cons _ _)⟩
      · cases h
    split at h
    · rename_i _ hw
      obtain ⟨h1, h2, h3, h4, h5⟩ := clE_cur r (cur ++ [w]) t i cur2 t2 rest h
      refine ⟨fun q => h1 (fun v hv => ?_), h2, (List.prefix_append _ _).trans h3, by rw [List.length_cons]; omega, h5.trans (List.suffix_cons _ _)⟩
      rcases List.mem_append.mp hv with q2 | q2
      · exact q v q2
      · rw [List.mem_singleton.mp q2]; exact hw
    · cases hf : fitL K F (patW K cur) with
      | none => rw [hf] at h; cases h
      | some j => rw [hf] at h; cases h; exact ⟨fun q => q, hf, List.prefix_rfl, Nat.le_refl _, List.suffix_rfl⟩
/-- a clause that can be is heard -/
theorem clE_some (hK : VK K) {n : Nat} : ∀ (r : List (Nat × Nat)) (cur : List Nat) (t : Nat) (dn : List Cs) (b i : Nat) (cur2 : List Nat) (t2 : Nat) (rest : List Nat) (cl : Int), (∀ w ∈ r.map (·.1), knd K w ≠ 5) → (∀ w ∈ cur, knd K w ≤ 1) → clE K F cur t (r.map (·.1)) = some (i, cur2, t2, rest) → ∃ (r2 : List (Nat × Nat)) (cl2 : Int), r2.map (·.1) = rest ∧ r2 <:+ r ∧ (∀ o : Unit, (r.map (·.1)).foldl (hearO K F) (some (dn, b, t, cur)) = rest.foldl (hearO K F) (some (dn, b, t2, cur2))) ∧ nosP K F n r (dn, b, t, cur) cl = nosP K F n r2 (dn, b, t2, cur2) cl2
  | [], cur, t, dn, b, i, cur2, t2, rest, cl, _, _, h => by
    rw [List.map_nil] at h
    unfold clE at h
    cases hf : fitL K F (patW K cur) with
    | none => rw [hf] at h; cases h
    | some j => rw [hf] at h; cases h; exact ⟨[], cl, rfl, List.suffix_rfl, fun _ => rfl, rfl⟩
  | (w, p) :: r, cur, t, dn, b, i, cur2, t2, rest, cl, h5, hc, h => by
    have k5 : knd K w ≠ 5 := h5 w (by simp)
    have h5r : ∀ w ∈ r.map (·.1), knd K w ≠ 5 := fun v hv => h5 v (by rw [List.map_cons]; exact List.mem_cons_of_mem _ hv)
    rw [List.map_cons] at h
    dsimp only at h
    have h0 := clE_cur _ _ _ _ _ _ _ h
    unfold clE at h
    split at h
    · rename_i k2
      split at h
      · rename_i hcn
        subst hcn
        have hh : hearS K F (dn, b, t, []) w = some (dn, b, t + 1, []) := by
          unfold hearS
          rw [if_neg k5, if_pos k2, if_pos rfl]
        obtain ⟨r2, cl2, e1, e2, e3, e4⟩ := clE_some hK r [] (t + 1) dn b i cur2 t2 rest (if cl = -1 then (p : Int) else cl) h5r hc h
        refine ⟨r2, cl2, e1, e2.trans (List.suffix_cons _ _), fun u => ?_, ?_⟩
        · rw [List.map_cons, List.foldl_cons]
          show (r.map (·.1)).foldl (hearO K F) (hearS K F (dn, b, t, []) w) = _
          rw [hh]
          exact e3 u
        · rw [nosP, hh]
          dsimp only
          rw [if_neg (by omega)]
          exact e4
      · cases h
    split at h
    · rename_i k2 hw
      have h1 := clE_cur _ _ _ _ _ _ _ h
      have hc2 : ∀ v ∈ cur ++ [w], knd K v ≤ 1 := by
        intro v hv
        rcases List.mem_append.mp hv with q2 | q2
        · exact hc v q2
        · rw [List.mem_singleton.mp q2]; exact hw
      have hh : hearS K F (dn, b, t, cur) w = some (dn, b, t, cur ++ [w]) := by
        unfold hearS
        rw [if_neg k5, if_neg k2, if_pos (by omega), if_pos]
        obtain ⟨q, hq⟩ := h1.2.2.1
        refine begL_of (i := i) (b := q) hK ?_ ?_
        · rw [hq]; exact h1.2.1
        · rw [hq]; exact h1.1 hc2
      obtain ⟨r2, cl2, e1, e2, e3, e4⟩ := clE_some hK r (cur ++ [w]) t dn b i cur2 t2 rest (if cl = -1 then (p : Int) else cl) h5r hc2 h
      refine ⟨r2, cl2, e1, e2.trans (List.suffix_cons _ _), fun u => ?_, ?_⟩
      · rw [List.map_cons, List.foldl_cons]
        show (r.map (·.1)).foldl (hearO K F) (hearS K F (dn, b, t, cur) w) = _
        rw [hh]
        exact e3 u
      · rw [nosP, hh]
        dsimp only
        rw [if_neg (by omega)]
        exact e4
    · cases hf : fitL K F (patW K cur) with
      | none => rw [hf] at h; cases h
      | some j =>
        rw [hf] at h
        cases h
        exact ⟨(w, p) :: r, cl, rfl, List.suffix_rfl, fun _ => rfl, rfl⟩
theorem clE_none {n : Nat} : ∀ (r : List (Nat × Nat)) (cur : List Nat) (t : Nat) (dn : List Cs) (b : Nat) (cl : Int), (∀ w ∈ r.map (·.1), knd K w ≠ 5) → clE K F cur t (r.map (·.1)) = none → meanO K F ((r.map (·.1)).foldl (hearO K F) (some (dn, b, t, cur))) = none ∧ nosP K F n r (dn, b, t, cur) cl = if cl = -1 then (match r with
      | [] => (n : Int)
      | (_, p) :: _ => (p : Int)) else cl
  | [], cur, t, dn, b, cl, _, h => by
    rw [List.map_nil] at h
    unfold clE at h
    cases hf : fitL K F (patW K cur) with
    | none =>
      have : finS K F (dn, b, t, cur) = none := by unfold finS; rw [hf]; rfl
      refine ⟨this, ?_⟩
      unfold nosP
      rw [if_pos this]
    | some j => rw [hf] at h; cases h
  | (w, p) :: r, cur, t, dn, b, cl, h5, h => by
    have k5 : knd K w ≠ 5 := h5 w (by simp)
    have h5r : ∀ w ∈ r.map (·.1), knd K w ≠ 5 := fun v hv => h5 v (by rw [List.map_cons]; exact List.mem_cons_of_mem _ hv)
    have hcl : ∀ q : Int, (if (if cl = -1 then (p : Int) else cl) = -1 then q else (if cl = -1 then (p : Int) else cl)) = if cl = -1 then (p : Int) else cl := by
      intro q
      by_cases e : cl = -1
      · rw [if_pos e, if_neg (by omega)]
      · rw [if_neg e, if_neg e]
    have dead : hearS K F (dn, b, t, cur) w = none → meanO K F ((((w, p) :: r).map (·.1)).foldl (hearO K F) (some (dn, b, t, cur))) = none ∧ nosP K F n ((w, p) :: r) (dn, b, t, cur) cl = if cl = -1 then (p : Int) else cl := by
      intro hh
      constructor
      · rw [List.map_cons, List.foldl_cons]
        show meanO K F ((r.map (·.1)).foldl (hearO K F) (hearS K F (dn, b, t, cur) w)) = none
        rw [hh, fold_none]
        rfl
      · rw [nosP, hh]
    have goes : ∀ s2 : Sj, hearS K F (dn, b, t, cur) w = some s2 → ¬ (knd K w = 3 ∨ knd K w = 4) → (meanO K F ((r.map (·.1)).foldl (hearO K F) (some s2)) = none ∧ nosP K F n r s2 (if cl = -1 then (p : Int) else cl) = if cl = -1 then (p : Int) else cl) → meanO K F ((((w, p) :: r).map (·.1)).foldl (hearO K F) (some (dn, b, t, cur))) = none ∧ nosP K F n ((w, p) :: r) (dn, b, t, cur) cl = if cl = -1 then (p : Int) else cl := by
      intro s2 hh hk h2
      constructor
      · rw [List.map_cons, List.foldl_cons]
        show meanO K F ((r.map (·.1)).foldl (hearO K F) (hearS K F (dn, b, t, cur) w)) = none
        rw [hh]
        exact h2.1
      · rw [nosP, hh]
        dsimp only
        rw [if_neg hk]
        exact h2.2
    rw [List.map_cons] at h
    dsimp only at h
    unfold clE at h
    show _ ∧ _ = if cl = -1 then (p : Int) else cl
    split at h
    · rename_i k2
      split at h
      · rename_i hcn
        subst hcn
        refine goes (dn, b, t + 1, []) (by unfold hearS; rw [if_neg k5, if_pos k2, if_pos rfl]) (by omega) ?_
        have ih := clE_none (n := n) r [] (t + 1) dn b (if cl = -1 then (p : Int) else cl) h5r h
        exact ⟨ih.1, ih.2.trans (hcl _)⟩
      · rename_i hcn
        exact dead (by unfold hearS; rw [if_neg k5, if_pos k2, if_neg hcn])
    split at h
    · rename_i k2 hw
      by_cases hb : begL K F (patW K (cur ++ [w])) = true
      · refine goes (dn, b, t, cur ++ [w]) (by unfold hearS; rw [if_neg k5, if_neg k2, if_pos (by omega), if_pos hb]) (by omega) ?_
        have ih := clE_none (n := n) r (cur ++ [w]) t dn b (if cl = -1 then (p : Int) else cl) h5r h
        exact ⟨ih.1, ih.2.trans (hcl _)⟩
      · exact dead (by unfold hearS; rw [if_neg k5, if_neg k2, if_pos (by omega), if_neg hb])
    · rename_i k2 hw
      cases hf : fitL K F (patW K cur) with
      | none => exact dead (by unfold hearS; rw [if_neg k5, if_neg k2, if_neg (by omega)]; unfold finS; rw [hf]; rfl)
      | some j => rw [hf] at h; cases h
end
