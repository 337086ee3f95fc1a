/-! a text, statement by statement: what comes of the COURT that is told -/
def fndW (K : Ct) (s : List Nat) : Option Nat := (List.range (nW K)).find? (fun w => spK K w == s)
def givB (K : Ct) (s : List Nat) : Bool := (List.range (nB K)).any (fun b => (bnK K b).1 == s) || (fndW K s).isSome
def nsZ (tp : Nat → Nat) (n : Nat) (K : Ct) (z : Tz) : Option (List Nat) × Tz := match spZ tp n z with
  | (some s, z1) => if givB K s then (none, flZ 3 z1.1.1 z1) else (some s, avZ tp n z1)
  | (none, z1) => (none, z1)
/-- a WORD that there is, of a kind (-1: of any) -/
def twZ (tp : Nat → Nat) (n : Nat) (K : Ct) (kd : Int) (z : Tz) : Option Nat × Tz := match spZ tp n z with
  | (some s, z1) => (match fndW K s with
    | some w => if kd = -1 ∨ (knd K w : Int) = kd then (some w, avZ tp n z1) else (none, flZ 3 z1.1.1 z1)
    | none => (none, flZ 3 z1.1.1 z1))
  | (none, z1) => (none, z1)
def K0 : Ct := ([], [], [], [], [], -1, -1)
def addW (K : Ct) (s : List Nat) (k : Nat) : Ct := (K.1 ++ [(s, k)], K.2)
def addL (K : Ct) (sl : List Nat) : Ct := (K.1, K.2.1 ++ [sl], K.2.2)
def addF (K : Ct) (f : Int × Int × Int) : Ct := (K.1, K.2.1, K.2.2.1 ++ [f], K.2.2.2)
def addB (K : Ct) (b : List Nat × Nat × Nat × List Nat) : Ct := (K.1, K.2.1, K.2.2.1, K.2.2.2.1 ++ [b], K.2.2.2.2)
def addC (K : Ct) (ws : List Nat) : Ct := (K.1, K.2.1, K.2.2.1, K.2.2.2.1, K.2.2.2.2.1 ++ [ws], K.2.2.2.2.2)
def setA (K : Ct) (a b : Int) : Ct := (K.1, K.2.1, K.2.2.1, K.2.2.2.1, K.2.2.2.2.1, a, b)
/-- a word of a kind is given -/
def rwZ (tp : Nat → Nat) (n k : Nat) (K : Ct) (z : Tz) : Ct × Tz := if 20 ≤ nW K then (K, flZ 5 z.1.1 z) else match nsZ tp n K (avZ tp n z) with
  | (some s, z1) => (addW K s k, z1)
  | (none, z1) => (K, z1)
/-- slots of a line -/
def slZ (tp : Nat → Nat) (n : Nat) : Nat → List Nat → Tz → Option (List Nat) × Tz
  | 0, sl, z => (some sl, z)
  | m + 1, sl, z => if sl ≠ [] ∧ sgnT tp n z.1 = 59 then (some sl, z) else match lixT tp n 0 z.1 with
    | some o => if (7 ≤ o ∧ o ≤ 9) ∧ ¬ (o - 7) ∈ sl then slZ tp n m (sl ++ [o - 7]) (avZ tp n z) else (none, flZ 1 z.1.1 z)
    | none => (none, flZ 1 z.1.1 z)
def rlZ (tp : Nat → Nat) (n : Nat) (K : Ct) (z : Tz) : Ct × Tz := if 6 ≤ nL K then (K, flZ 5 z.1.1 z) else match slZ tp n 3 [] (avZ tp n z) with
  | (some sl, z1) => if 0 ∈ sl ∧ 1 ∈ sl then (addL K sl, z1) else (K, flZ 1 z1.1.1 z1)
  | (none, z1) => (K, z1)
/-- a fact's words: who, deed, whom -/
def fwZ (tp : Nat → Nat) (n : Nat) (K : Ct) (z : Tz) : (Int × Int × Int) × Tz :=
  let r1 := twZ tp n K 0 z
  let r2 := twZ tp n K 1 r1.2
  if sgnT tp n r2.2.1 = 97 then (let r3 := twZ tp n K 0 r2.2; ((oi r1.1, oi r2.1, oi r3.1), r3.2)) else ((oi r1.1, oi r2.1, -1), r2.2)
def rfZ (tp : Nat → Nat) (n : Nat) (K : Ct) (z : Tz) : Ct × Tz := if 16 ≤ nF K then (K, flZ 5 z.1.1 z) else
  let r := fwZ tp n K (avZ tp n z)
  if r.2.2 = none then (addF K r.1, r.2) else (K, r.2)
/-- words behind each other: so many at most; alike ones may (not) be -/
def wsZ (tp : Nat → Nat) (n : Nat) (K : Ct) (dup : Bool) : Nat → List Nat → Tz → List Nat × Tz
  | 0, ws, z => (ws, z)
  | m + 1, ws, z => if ws ≠ [] ∧ sgnT tp n z.1 ≠ 97 then (ws, z) else match twZ tp n K (-1) z with
    | (some w, z1) => if dup = false ∧ w ∈ ws then (ws, flZ 3 z.1.1 z1) else wsZ tp n K dup m (ws ++ [w]) z1
    | (none, z1) => (ws, z1)
/-- a witness: name, age, side, and the tape behind says -/
def whZ (tp : Nat → Nat) (n : Nat) (K : Ct) (z : Tz) : (Option (List Nat) × Option Nat × Option Nat) × Tz :=
  let r1 := nsZ tp n K z
  let r2 := tnZ tp n 99 (toZ tp n 12 r1.2)
  let r3 := tnZ tp n 1 (toZ tp n 13 r2.2)
  ((r1.1, r2.1, r3.1), toZ tp n 14 r3.2)
def rtZ (tp : Nat → Nat) (n : Nat) (K : Ct) (z : Tz) : Ct × Tz := if 7 ≤ nB K then (K, flZ 5 z.1.1 z) else
  let h := whZ tp n K (avZ tp n z)
  let r := wsZ tp n K false 4 [] h.2
  if r.2.2 = none then (addB K (h.1.1.getD [], h.1.2.1.getD 0, h.1.2.2.getD 0, r.1), r.2) else (K, r.2)
def rcZ (tp : Nat → Nat) (n : Nat) (K : Ct) (z : Tz) : Ct × Tz := if 8 ≤ nC K then (K, flZ 5 z.1.1 z) else
  let r := wsZ tp n K true 8 [] (avZ tp n z)
  if r.2.2 = none then (addC K r.1, r.2) else (K, r.2)
def raZ (tp : Nat → Nat) (n : Nat) (K : Ct) (z : Tz) : Ct × Tz :=
  let r1 := twZ tp n K 0 (avZ tp n z)
  let r2 := twZ tp n K 1 r1.2
  if r2.2.2 = none then (setA K (oi r1.1) (oi r2.1), r2.2) else (K, r2.2)
/-- a statement up to its ; -/
def rsZ (tp : Nat → Nat) (n : Nat) (K : Ct) (z : Tz) : Ct × Tz := match lixT tp n 0 z.1 with
  | some o => if o ≤ 5 then rwZ tp n o K z else if o = 6 then rlZ tp n K z else if o = 10 then rfZ tp n K z else if o = 11 then rtZ tp n K z else if o = 15 then raZ tp n K z else if o = 16 then rcZ tp n K z else (K, flZ 1 z.1.1 z)
  | none => (K, flZ 1 z.1.1 z)
def stZ (tp : Nat → Nat) (n : Nat) (K : Ct) (z : Tz) : Ct × Tz := ((rsZ tp n K z).1, tkZ tp n 59 (rsZ tp n K z).2)
/-- statements: how many (none with a fault), the COURT, the tape -/
def rdZ (tp : Nat → Nat) (n : Nat) : Nat → Nat → Ct → Tz → Option Nat × Ct × Tz
  | 0, cnt, K, z => if sgnT tp n z.1 = -1 then (some cnt, K, z) else (none, K, flZ 5 z.1.1 z)
  | m + 1, cnt, K, z => if sgnT tp n z.1 = -1 then (some cnt, K, z) else if (stZ tp n K z).2.2 = none then rdZ tp n m (cnt + 1) (stZ tp n K z).1 (stZ tp n K z).2 else (none, (stZ tp n K z).1, (stZ tp n K z).2)
def txtZ (tp : Nat → Nat) (n : Nat) : Option Nat × Ct × Tz := rdZ tp n 70 0 K0 (nxtQ tp n 0 false, none)
section
variable {tp : Nat → Nat} {n : Nat} {K : Ct} {z : Tz}
theorem getD_snoc {α : Type} (L : List α) (a d : α) (i : Nat) : (L ++ [a]).getD i d = if i < L.length then L.getD i d else if i = L.length then a else d := by
  rw [List.getD_eq_getElem?_getD, List.getD_eq_getElem?_getD]
  by_cases h : i < L.length
  · rw [if_pos h, List.getElem?_append_left h]
  · rw [if_neg h, List.getElem?_append_right (by omega)]
    by_cases e : i = L.length
    · rw [if_pos e, e, Nat.sub_self]; rfl
    · rw [if_neg e]
      obtain ⟨k, hk⟩ : ∃ k, i - L.length = k + 1 := ⟨i - L.length - 1, by omega⟩
      rw [hk]
      rfl
theorem letT_ok {s : Ts} (h : sgnT tp n s = 97) (hl : ¬ 6 < lenT tp n s.1) : isSp (letT tp n s.1) := by
  have h1 := sgn_97 h
  have h2 := lenT_pos (tp := tp) h1.1
  have hlen : (letT tp n s.1).length = lenT tp n s.1 := by unfold letT; rw [List.length_map, runT_len]
  refine ⟨by omega, by omega, fun a ha => ?_⟩
  obtain ⟨b, hb, rfl⟩ := List.mem_map.mp ha
  have := runT_let h b hb
  omega
theorem spZ_some {s : List Nat} (h : (spZ tp n z).1 = some s) : isSp s ∧ (spZ tp n z).2 = z ∧ z.2 = none ∧ sgnT tp n z.1 = 97 ∧ lixT tp n 0 z.1 = none ∧ s = letT tp n z.1.1 := by
  unfold spZ at h ⊢
  by_cases h1 : z.2.isSome = true
  · rw [if_pos h1] at h; cases h
  rw [if_neg h1] at h ⊢
  by_cases h2 : sgnT tp n z.1 ≠ 97 ∨ (lixT tp n 0 z.1).isSome = true
  · rw [if_pos h2] at h; cases h
  rw [if_neg h2] at h ⊢
  by_cases h3 : 6 < lenT tp n z.1.1
  · rw [if_pos h3] at h; cases h
  rw [if_neg h3] at h ⊢
  have h97 : sgnT tp n z.1 = 97 := Classical.byContradiction (fun q => h2 (Or.inl q))
  have hs := Option.some.inj h
  refine ⟨hs ▸ letT_ok h97 h3, rfl, ?_, h97, ?_, hs.symm⟩
  · cases q : z.2 with
    | none => rfl
    | some f => rw [q] at h1; exact absurd rfl h1
  · cases q : lixT tp n 0 z.1 with
    | none => rfl
    | some f => exact absurd (Or.inr (by rw [q]; rfl)) h2
theorem nsZ_eq (K : Ct) : (nsZ tp n K z) = match (spZ tp n z).1 with
    | some s => if givB K s then (none, flZ 3 z.1.1 z) else (some s, avZ tp n z)
    | none => (none, (spZ tp n z).2) := by
  unfold nsZ
  cases h : spZ tp n z with
  | mk o z1 =>
    cases o with
    | none => rfl
    | some s =>
      have := (spZ_some (z := z) (s := s) (by rw [h])).2.1
      rw [h] at this
      dsimp only at this ⊢
      rw [this]
theorem twZ_eq (K : Ct) (kd : Int) : (twZ tp n K kd z) = match (spZ tp n z).1 with
    | some s => (match fndW K s with
      | some w => if kd = -1 ∨ (knd K w : Int) = kd then (some w, avZ tp n z) else (none, flZ 3 z.1.1 z)
      | none => (none, flZ 3 z.1.1 z))
    | none => (none, (spZ tp n z).2) := by
  unfold twZ
  cases h : spZ tp n z with
  | mk o z1 =>
    cases o with
    | none => rfl
    | some s =>
      have := (spZ_some (z := z) (s := s) (by rw [h])).2.1
      rw [h] at this
      dsimp only at this ⊢
      rw [this]
theorem fndW_some {s : List Nat} {w : Nat} (h : fndW K s = some w) : w < nW K ∧ spK K w = s := by
  have h1 := List.find?_some h
  exact ⟨List.mem_range.mp (List.mem_of_find?_eq_some h), beq_iff_eq.mp h1⟩
theorem twZ_some {kd : Int} {w : Nat} (h : (twZ tp n K kd z).1 = some w) : w < nW K ∧ (kd = -1 ∨ (knd K w : Int) = kd) ∧ (twZ tp n K kd z).2 = avZ tp n z ∧ z.2 = none ∧ sgnT tp n z.1 = 97 := by
  rw [twZ_eq] at h ⊢
  cases hs : (spZ tp n z).1 with
  | none => rw [hs] at h; cases h
  | some s =>
    rw [hs] at h
    have h0 := spZ_some hs
    dsimp only at h ⊢
    cases hf : fndW K s with
    | none => rw [hf] at h; cases h
    | some v =>
      rw [hf] at h
      dsimp only at h ⊢
      split at h
      · rename_i hk
        cases h
        rw [if_pos hk]
        exact ⟨(fndW_some hf).1, hk, rfl, h0.2.2.1, h0.2.2.2.1⟩
      · cases h
theorem spZ_none (h : (spZ tp n z).1 = none) : (spZ tp n z).2.2.isSome = true := by
  unfold spZ at h ⊢
  split
  · rename_i h1; exact h1
  rename_i h1
  rw [if_neg h1] at h
  split
  · rfl
  rename_i h2
  rw [if_neg h2] at h
  split
  · rfl
  rename_i h3
  rw [if_neg h3] at h
  cases h
theorem twZ_none {kd : Int} (h : (twZ tp n K kd z).1 = none) : (twZ tp n K kd z).2.2.isSome = true := by
  rw [twZ_eq] at h ⊢
  cases hs : (spZ tp n z).1 with
  | none => exact spZ_none hs
  | some s =>
    rw [hs] at h
    dsimp only at h ⊢
    cases hf : fndW K s with
    | none => rfl
    | some v =>
      rw [hf] at h
      dsimp only at h ⊢
      split
      · rename_i hk; rw [if_pos hk] at h; cases h
      · rfl
theorem nsZ_some {s : List Nat} (h : (nsZ tp n K z).1 = some s) : isSp s ∧ givB K s = false ∧ (nsZ tp n K z).2 = avZ tp n z ∧ z.2 = none := by
  rw [nsZ_eq] at h ⊢
  cases hs : (spZ tp n z).1 with
  | none => rw [hs] at h; cases h
  | some s' =>
    rw [hs] at h
    have h0 := spZ_some hs
    dsimp only at h ⊢
    split at h
    · cases h
    · rename_i hk
      cases h
      rw [if_neg hk]
      exact ⟨h0.1, Bool.eq_false_iff.mpr hk, rfl, h0.2.2.1⟩
theorem nsZ_none (h : (nsZ tp n K z).1 = none) : (nsZ tp n K z).2.2.isSome = true := by
  rw [nsZ_eq] at h ⊢
  cases hs : (spZ tp n z).1 with
  | none => exact spZ_none hs
  | some s =>
    rw [hs] at h
    dsimp only at h ⊢
    split
    · rfl
    · rename_i hk; rw [if_neg hk] at h; cases h
/-! with a fault nothing more happens -/
theorem spZ_f (h : z.2.isSome = true) : spZ tp n z = (none, z) := by unfold spZ; rw [if_pos h]
theorem twZ_f {kd : Int} (h : z.2.isSome = true) : twZ tp n K kd z = (none, z) := by rw [twZ_eq, spZ_f h]
theorem nsZ_f (h : z.2.isSome = true) : nsZ tp n K z = (none, z) := by rw [nsZ_eq, spZ_f h]
theorem tnZ_f {m : Nat} (h : z.2.isSome = true) : tnZ tp n m z = (none, z) := by unfold tnZ; rw [if_pos h]
theorem toZ_f {m : Nat} (h : z.2.isSome = true) : toZ tp n m z = z := by unfold toZ; rw [if_pos h]
theorem tkZ_f {sg : Int} (h : z.2.isSome = true) : tkZ tp n sg z = z := by
  unfold tkZ
  rw [if_neg (fun q => by rw [q.1] at h; cases h), flZ_some h]
theorem tnZ_some {m v : Nat} (h : (tnZ tp n m z).1 = some v) : v ≤ m ∧ z.2 = none ∧ (tnZ tp n m z).2 = avZ tp n z := by
  unfold tnZ at h ⊢
  by_cases h1 : z.2.isSome = true
  · rw [if_pos h1] at h; cases h
  rw [if_neg h1] at h ⊢
  by_cases h2 : sgnT tp n z.1 ≠ 48
  · rw [if_pos h2] at h; cases h
  rw [if_neg h2] at h ⊢
  by_cases h3 : 4 < lenT tp n z.1.1
  · rw [if_pos h3] at h; cases h
  rw [if_neg h3] at h ⊢
  by_cases h4 : m < valT tp n z.1.1
  · rw [if_pos h4] at h; cases h
  rw [if_neg h4] at h ⊢
  cases h
  refine ⟨by omega, ?_, rfl⟩
  cases q : z.2 with
  | none => rfl
  | some f => rw [q] at h1; exact absurd rfl h1
theorem tnZ_none {m : Nat} (h : (tnZ tp n m z).1 = none) : (tnZ tp n m z).2.2.isSome = true := by
  unfold tnZ at h ⊢
  split
  · rename_i h1; exact h1
  rename_i h1
  rw [if_neg h1] at h
  split
  · rfl
  rename_i h2
  rw [if_neg h2] at h
  split
  · rfl
  rename_i h3
  rw [if_neg h3] at h
  split
  · rfl
  rename_i h4
  rw [if_neg h4] at h
  cases h
theorem toZ_ok {m : Nat} (h : (toZ tp n m z).2 = none) : z.2 = none := by
  cases q : z.2 with
  | none => rfl
  | some f =>
    rw [toZ_f (by rw [q]; rfl), q] at h
    cases h
/-! the COURT stays one -/
theorem nW_add (s : List Nat) (k : Nat) : nW (addW K s k) = nW K + 1 := by unfold nW addW; simp
theorem VK_0 : VK K0 := by
  refine ⟨⟨by decide, fun w hw => absurd hw (Nat.not_lt_zero _)⟩, ⟨by decide, fun w hw => absurd hw (Nat.not_lt_zero _)⟩, ⟨by decide, fun w hw => absurd hw (Nat.not_lt_zero _)⟩, ⟨by decide, fun w hw => absurd hw (Nat.not_lt_zero _)⟩, ⟨by decide, fun w hw => absurd hw (Nat.not_lt_zero _)⟩, Or.inl ⟨rfl, rfl⟩⟩
theorem VK_addW (hK : VK K) (h20 : nW K < 20) {s : List Nat} (hs : isSp s) {k : Nat} (hk : k ≤ 5) : VK (addW K s k) := by
  obtain ⟨h1, h2, h3, h4, h5, h6⟩ := hK
  have hn := nW_add (K := K) s k
  refine ⟨⟨by omega, fun w hw => ?_⟩, h2, ⟨h3.1, fun f hf => ?_⟩, ⟨h4.1, fun b hb => ?_⟩, ⟨h5.1, fun i hi => ?_⟩, ?_⟩
  · have e : (addW K s k).1.getD w ([], 5) = if w < nW K then K.1.getD w ([], 5) else if w = nW K then (s, k) else ([], 5) := getD_snoc K.1 (s, k) ([], 5) w
    unfold spK knd
    rw [e]
    by_cases hl : w < nW K
    · rw [if_pos hl]; exact h1.2 w hl
    · rw [if_neg hl, if_pos (by omega)]; exact ⟨hs, hk⟩
  · have := h3.2 f hf
    have hv : fcK (addW K s k) f = fcK K f := rfl
    rw [hv, hn]
    omega
  · have := h4.2 b hb
    have hv : bnK (addW K s k) b = bnK K b := rfl
    have hv2 : sayK (addW K s k) b = sayK K b := rfl
    rw [hv, hv2, hn]
    exact ⟨this.1, this.2.1, this.2.2.1, this.2.2.2.1, this.2.2.2.2.1, this.2.2.2.2.2.1, fun w hw => by have := this.2.2.2.2.2.2 w hw; omega⟩
  · have := h5.2 i hi
    have hv : csK (addW K s k) i = csK K i := rfl
    rw [hv, hn]
    exact ⟨this.1, this.2.1, fun w hw => by have := this.2.2 w hw; omega⟩
  · have hv : kAc (addW K s k) = kAc K := rfl
    have hv2 : kDe (addW K s k) = kDe K := rfl
    rw [hv, hv2, hn]
    omega
theorem VK_addL (hK : VK K) (h6 : nL K < 6) {sl : List Nat} (hs : sl ∈ slotLists) : VK (addL K sl) := by
  obtain ⟨h1, h2, h3⟩ := hK
  have hn : nL (addL K sl) = nL K + 1 := by unfold nL addL; simp
  refine ⟨h1, ⟨by omega, fun i hi => ?_⟩, h3⟩
  have e : (addL K sl).2.1.getD i [] = if i < nL K then K.2.1.getD i [] else if i = nL K then sl else [] := getD_snoc K.2.1 sl [] i
  unfold lnK
  rw [e]
  by_cases hl : i < nL K
  · rw [if_pos hl]; exact h2.2 i hl
  · rw [if_neg hl, if_pos (by omega)]; exact hs
theorem VK_addF (hK : VK K) (h16 : nF K < 16) {f : Int × Int × Int} (hf : (0 ≤ f.1 ∧ f.1 < nW K) ∧ (0 ≤ f.2.1 ∧ f.2.1 < nW K) ∧ (-1 ≤ f.2.2 ∧ f.2.2 < nW K)) : VK (addF K f) := by
  obtain ⟨h1, h2, h3, h4⟩ := hK
  have hn : nF (addF K f) = nF K + 1 := by unfold nF addF; simp
  refine ⟨h1, h2, ⟨by omega, fun i hi => ?_⟩, h4⟩
  have e : (addF K f).2.2.1.getD i (0, 0, 0) = if i < nF K then K.2.2.1.getD i (0, 0, 0) else if i = nF K then f else (0, 0, 0) := getD_snoc K.2.2.1 f (0, 0, 0) i
  unfold fcK
  rw [e]
  by_cases hl : i < nF K
  · rw [if_pos hl]; exact h3.2 i hl
  · rw [if_neg hl, if_pos (by omega)]; exact hf
theorem VK_addB (hK : VK K) (h7 : nB K < 7) {b : List Nat × Nat × Nat × List Nat} (hb : isSp b.1 ∧ b.2.1 ≤ 99 ∧ b.2.2.1 ≤ 1 ∧ 1 ≤ b.2.2.2.length ∧ b.2.2.2.length ≤ 4 ∧ b.2.2.2.Nodup ∧ ∀ w ∈ b.2.2.2, w < nW K) : VK (addB K b) := by
  obtain ⟨h1, h2, h3, h4, h5⟩ := hK
  have hn : nB (addB K b) = nB K + 1 := by unfold nB addB; simp
  refine ⟨h1, h2, h3, ⟨by omega, fun i hi => ?_⟩, h5⟩
  have e : (addB K b).2.2.2.1.getD i ([], 0, 0, []) = if i < nB K then K.2.2.2.1.getD i ([], 0, 0, []) else if i = nB K then b else ([], 0, 0, []) := getD_snoc K.2.2.2.1 b ([], 0, 0, []) i
  unfold sayK bnK
  rw [e]
  by_cases hl : i < nB K
  · rw [if_pos hl]; exact h4.2 i hl
  · rw [if_neg hl, if_pos (by omega)]; exact hb
theorem VK_addC (hK : VK K) (h8 : nC K < 8) {ws : List Nat} (hw : 1 ≤ ws.length ∧ ws.length ≤ 8 ∧ ∀ w ∈ ws, w < nW K) : VK (addC K ws) := by
  obtain ⟨h1, h2, h3, h4, h5, h6⟩ := hK
  have hn : nC (addC K ws) = nC K + 1 := by unfold nC addC; simp
  refine ⟨h1, h2, h3, h4, ⟨by omega, fun i hi => ?_⟩, h6⟩
  have e : (addC K ws).2.2.2.2.1.getD i [] = if i < nC K then K.2.2.2.2.1.getD i [] else if i = nC K then ws else [] := getD_snoc K.2.2.2.2.1 ws [] i
  unfold csK
  rw [e]
  by_cases hl : i < nC K
  · rw [if_pos hl]; exact h5.2 i hl
  · rw [if_neg hl, if_pos (by omega)]; exact hw
theorem VK_setA (hK : VK K) {a b : Int} (ha : 0 ≤ a ∧ a < nW K) (hb : 0 ≤ b ∧ b < nW K) : VK (setA K a b) := by
  obtain ⟨h1, h2, h3, h4, h5, h6⟩ := hK
  exact ⟨h1, h2, h3, h4, h5, Or.inr ⟨ha, hb⟩⟩
theorem sl_in : ∀ sl : List Nat, sl.length ≤ 3 → (∀ a ∈ sl, a < 3) → sl.Nodup → 0 ∈ sl → 1 ∈ sl → sl ∈ slotLists := by
  intro sl hl ha hn h0 h1
  match sl, hl, ha, hn, h0, h1 with
  | [], _, _, _, h0, _ => cases h0
  | [a], _, _, _, h0, h1 =>
    rw [List.mem_singleton] at h0 h1
    omega
  | [a, b], _, ha, hn, h0, h1 =>
    simp only [List.mem_cons, List.not_mem_nil, or_false] at h0 h1
    have qa := ha a (by simp)
    have qb := ha b (by simp)
    rcases (show a = 0 ∨ a = 1 ∨ a = 2 by omega) with rfl | rfl | rfl <;> rcases (show b = 0 ∨ b = 1 ∨ b = 2 by omega) with rfl | rfl | rfl <;> first | omega | decide
  | [a, b, e], _, ha, hn, h0, h1 =>
    simp only [List.mem_cons, List.not_mem_nil, or_false] at h0 h1
    simp only [List.nodup_cons, List.mem_cons, List.not_mem_nil, or_false, not_or, List.nodup_nil, and_true] at hn
    have qa := ha a (by simp)
    have qb := ha b (by simp)
    have qe := ha e (by simp)
    rcases (show a = 0 ∨ a = 1 ∨ a = 2 by omega) with rfl | rfl | rfl <;> rcases (show b = 0 ∨ b = 1 ∨ b = 2 by omega) with rfl | rfl | rfl <;> rcases (show e = 0 ∨ e = 1 ∨ e = 2 by omega) with rfl | rfl | rfl <;> first | omega | decide
  | _ :: _ :: _ :: _ :: _, hl, _, _, _, _ => simp only [List.length_cons] at hl; omega
theorem slZ_ok : ∀ (m : Nat) (sl : List Nat) (z : Tz) (r : List Nat), sl.Nodup → (∀ a ∈ sl, a < 3) → (slZ tp n m sl z).1 = some r → r.Nodup ∧ (∀ a ∈ r, a < 3) ∧ r.length ≤ sl.length + m ∧ ((slZ tp n m sl z).2.2 = z.2)
  | 0, sl, z, r, h1, h2, h => by cases h; exact ⟨h1, h2, Nat.le_refl _, rfl⟩
  | m + 1, sl, z, r, h1, h2, h => by
    unfold slZ at h ⊢
    split at h
    · rename_i hc
      cases h
      rw [if_pos hc]
      exact ⟨h1, h2, by omega, rfl⟩
    · rename_i hc
      rw [if_neg hc]
      cases ho : lixT tp n 0 z.1 with
      | none => rw [ho] at h; cases h
      | some o =>
        rw [ho] at h
        dsimp only at h ⊢
        split at h
        · rename_i hq
          rw [if_pos hq]
          have h3 : (sl ++ [o - 7]).Nodup := by
            rw [List.nodup_append]
            exact ⟨h1, by simp, fun a ha b hb => by rw [List.mem_singleton.mp hb]; intro q; rw [q] at ha; exact hq.2 ha⟩
          have := slZ_ok m (sl ++ [o - 7]) (avZ tp n z) r h3 (fun a ha => by
            rcases List.mem_append.mp ha with q | q
            · exact h2 a q
            · rw [List.mem_singleton.mp q]; omega) h
          rw [List.length_append] at this
          exact ⟨this.1, this.2.1, by simp at this; omega, this.2.2.2⟩
        · cases h
theorem wsZ_ok (dup : Bool) : ∀ (m : Nat) (ws : List Nat) (z : Tz), (∀ w ∈ ws, w < nW K) → (dup = false → ws.Nodup) → (∀ w ∈ (wsZ tp n K dup m ws z).1, w < nW K) ∧ (dup = false → (wsZ tp n K dup m ws z).1.Nodup) ∧ (wsZ tp n K dup m ws z).1.length ≤ ws.length + m ∧ (m ≠ 0 → (wsZ tp n K dup m ws z).2.2 = none → 1 ≤ (wsZ tp n K dup m ws z).1.length) ∧ ((wsZ tp n K dup m ws z).2.2 = none → z.2 = none) ∧ ws.length ≤ (wsZ tp n K dup m ws z).1.length
  | 0, ws, z, h1, h2 => ⟨h1, h2, Nat.le_refl _, fun q => absurd rfl q, fun q => q, Nat.le_refl _⟩
  | m + 1, ws, z, h1, h2 => by
    unfold wsZ
    by_cases hc : ws ≠ [] ∧ sgnT tp n z.1 ≠ 97
    · rw [if_pos hc]
      refine ⟨h1, h2, by dsimp only; omega, fun _ _ => ?_, fun q => q, Nat.le_refl _⟩
      cases ws with
      | nil => exact absurd rfl hc.1
      | cons a ws => simp
    · rw [if_neg hc]
      cases ht : twZ tp n K (-1) z with
      | mk o z1 =>
        cases o with
        | none =>
          have hn := twZ_none (tp := tp) (n := n) (K := K) (kd := -1) (z := z) (by rw [ht])
          rw [ht] at hn
          dsimp only at hn ⊢
          refine ⟨h1, h2, by omega, fun _ q => ?_, fun q => ?_, Nat.le_refl _⟩
          · rw [q] at hn; cases hn
          · rw [q] at hn; cases hn
        | some w =>
          have hw := twZ_some (tp := tp) (n := n) (K := K) (kd := -1) (z := z) (w := w) (by rw [ht])
          dsimp only
          by_cases hd : dup = false ∧ w ∈ ws
          · rw [if_pos hd]
            refine ⟨h1, h2, by dsimp only; omega, fun _ q => ?_, fun q => ?_, Nat.le_refl _⟩
            · cases q
            · cases q
          · rw [if_neg hd]
            have := wsZ_ok dup m (ws ++ [w]) z1 (fun v hv => by
              rcases List.mem_append.mp hv with q | q
              · exact h1 v q
              · rw [List.mem_singleton.mp q]; exact hw.1) (fun q => by
              rw [List.nodup_append]
              exact ⟨h2 q, by simp, fun a ha b hb => by rw [List.mem_singleton.mp hb]; intro e; rw [e] at ha; exact hd ⟨q, ha⟩⟩)
            rw [List.length_append, List.length_singleton] at this
            refine ⟨this.1, this.2.1, by omega, fun _ _ => by omega, fun _ => hw.2.2.2.1, by omega⟩
theorem flZ_ns (k p : Nat) (z : Tz) : (flZ k p z).2 ≠ none := by unfold flZ; simp
theorem fwZ_ok (h : (fwZ tp n K z).2.2 = none) : ((0 ≤ (fwZ tp n K z).1.1 ∧ (fwZ tp n K z).1.1 < nW K) ∧ (0 ≤ (fwZ tp n K z).1.2.1 ∧ (fwZ tp n K z).1.2.1 < nW K) ∧ (-1 ≤ (fwZ tp n K z).1.2.2 ∧ (fwZ tp n K z).1.2.2 < nW K)) ∧ z.2 = none := by
  have key : ∀ (kd : Int) (z : Tz), (twZ tp n K kd z).2.2 = none → (0 ≤ oi (twZ tp n K kd z).1 ∧ oi (twZ tp n K kd z).1 < nW K) ∧ z.2 = none := by
    intro kd z hz
    cases q : (twZ tp n K kd z).1 with
    | none =>
      have := twZ_none q
      rw [hz] at this
      cases this
    | some w =>
      have := twZ_some q
      exact ⟨⟨by show 0 ≤ (w : Int); omega, by show (w : Int) < nW K; omega⟩, this.2.2.2.1⟩
  unfold fwZ at h ⊢
  dsimp only at h ⊢
  split at h
  · rename_i hc
    rw [if_pos hc]
    dsimp only at h ⊢
    have k3 := key 0 _ h
    have k2 := key 1 _ k3.2
    have k1 := key 0 _ k2.2
    exact ⟨⟨k1.1, k2.1, by omega⟩, k1.2⟩
  · rename_i hc
    rw [if_neg hc]
    dsimp only at h ⊢
    have k2 := key 1 _ h
    have k1 := key 0 _ k2.2
    exact ⟨⟨k1.1, k2.1, by omega⟩, k1.2⟩
theorem whZ_ok (h : (whZ tp n K z).2.2 = none) : ∃ s a b, (whZ tp n K z).1 = (some s, some a, some b) ∧ isSp s ∧ givB K s = false ∧ a ≤ 99 ∧ b ≤ 1 ∧ z.2 = none := by
  have h14 : ((whZ tp n K z).1.2.2 ≠ none) := by
    intro q
    have h1 := tnZ_none q
    have h2 := toZ_ok h
    rw [h2] at h1
    cases h1
  obtain ⟨b, hb⟩ := Option.ne_none_iff_exists'.mp h14
  have hb2 := tnZ_some hb
  have hb3 := toZ_ok hb2.2.1
  have h13 : ((whZ tp n K z).1.2.1 ≠ none) := by
    intro q
    have h1 := tnZ_none q
    rw [hb3] at h1
    cases h1
  obtain ⟨a, ha⟩ := Option.ne_none_iff_exists'.mp h13
  have ha2 := tnZ_some ha
  have ha3 := toZ_ok ha2.2.1
  have h12 : ((whZ tp n K z).1.1 ≠ none) := by
    intro q
    have h1 := nsZ_none q
    rw [ha3] at h1
    cases h1
  obtain ⟨s, hs⟩ := Option.ne_none_iff_exists'.mp h12
  have hs2 := nsZ_some hs
  refine ⟨s, a, b, ?_, hs2.1, hs2.2.1, ha2.1, hb2.1, hs2.2.2.2⟩
  rw [← hs, ← ha, ← hb]
theorem rsZ_VK (hK : VK K) : VK (rsZ tp n K z).1 := by
  unfold rsZ
  cases lixT tp n 0 z.1 with
  | none => exact hK
  | some o =>
    dsimp only
    split
    · rename_i ho
      unfold rwZ
      split
      · exact hK
      · rename_i h20
        cases hs : nsZ tp n K (avZ tp n z) with
        | mk q z1 =>
          cases q with
          | none => exact hK
          | some s => exact VK_addW hK (by omega) (nsZ_some (tp := tp) (n := n) (K := K) (z := avZ tp n z) (by rw [hs])).1 ho
    split
    · unfold rlZ
      split
      · exact hK
      · rename_i h6
        cases hs : slZ tp n 3 [] (avZ tp n z) with
        | mk q z1 =>
          cases q with
          | none => exact hK
          | some sl =>
            have h1 := slZ_ok (tp := tp) (n := n) 3 [] (avZ tp n z) sl List.nodup_nil (fun a q => (by cases q)) (by rw [hs])
            dsimp only
            split
            · rename_i h01
              exact VK_addL hK (by omega) (sl_in sl (by simpa using h1.2.2.1) h1.2.1 h1.1 h01.1 h01.2)
            · exact hK
    split
    · unfold rfZ
      split
      · exact hK
      · rename_i h16
        dsimp only
        split
        · rename_i h
          exact VK_addF hK (by omega) (fwZ_ok h).1
        · exact hK
    split
    · unfold rtZ
      split
      · exact hK
      · rename_i h7
        dsimp only
        split
        · rename_i h
          have h1 := wsZ_ok (tp := tp) (n := n) (K := K) false 4 [] (whZ tp n K (avZ tp n z)).2 (fun w q => (by cases q)) (fun _ => List.nodup_nil)
          obtain ⟨s, a, b, h2, h3, h4, h5, h6, -⟩ := whZ_ok (h1.2.2.2.2.1 h)
          refine VK_addB hK (by omega) ?_
          rw [h2]
          exact ⟨h3, h5, h6, h1.2.2.2.1 (by decide) h, by simpa using h1.2.2.1, h1.2.1 rfl, h1.1⟩
        · exact hK
    split
    · unfold raZ
      dsimp only
      split
      · rename_i h
        have key : ∀ (kd : Int) (z : Tz), (twZ tp n K kd z).2.2 = none → (0 ≤ oi (twZ tp n K kd z).1 ∧ oi (twZ tp n K kd z).1 < nW K) ∧ z.2 = none := by
          intro kd z hz
          cases q : (twZ tp n K kd z).1 with
          | none =>
            have := twZ_none q
            rw [hz] at this
            cases this
          | some w =>
            have := twZ_some q
            exact ⟨⟨by show 0 ≤ (w : Int); omega, by show (w : Int) < nW K; omega⟩, this.2.2.2.1⟩
        have k2 := key 1 _ h
        have k1 := key 0 _ k2.2
        exact VK_setA hK k1.1 k2.1
      · exact hK
    split
    · unfold rcZ
      split
      · exact hK
      · rename_i h8
        dsimp only
        split
        · rename_i h
          have h1 := wsZ_ok (tp := tp) (n := n) (K := K) true 8 [] (avZ tp n z) (fun w q => (by cases q)) (fun q => (by cases q))
          exact VK_addC hK (by omega) ⟨h1.2.2.2.1 (by decide) h, by simpa using h1.2.2.1, h1.1⟩
        · exact hK
    · exact hK
theorem rdZ_VK : ∀ (m cnt : Nat) (K : Ct) (z : Tz), VK K → VK (rdZ tp n m cnt K z).2.1
  | 0, cnt, K, z, hK => by unfold rdZ; split <;> exact hK
  | m + 1, cnt, K, z, hK => by
    unfold rdZ
    split
    · exact hK
    split
    · exact rdZ_VK m (cnt + 1) _ _ (rsZ_VK hK)
    · exact rsZ_VK hK
end
