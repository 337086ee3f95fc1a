/-! what the document means, in lists: a COURT, rows of words, what they mean -/
/-- a COURT: words (letters, kind); lines (slots); facts (who, deed, whom or -1); witnesses (name, age, side, words); cases; accused, deed (-1, -1 without) -/
abbrev Ct : Type := List (List Nat × Nat) × List (List Nat) × List (Int × Int × Int) × List (List Nat × Nat × Nat × List Nat) × List (List Nat) × Int × Int
def nW (K : Ct) : Nat := K.1.length
def nL (K : Ct) : Nat := K.2.1.length
def nF (K : Ct) : Nat := K.2.2.1.length
def nB (K : Ct) : Nat := K.2.2.2.1.length
def nC (K : Ct) : Nat := K.2.2.2.2.1.length
def kAc (K : Ct) : Int := K.2.2.2.2.2.1
def kDe (K : Ct) : Int := K.2.2.2.2.2.2
def spK (K : Ct) (w : Nat) : List Nat := (K.1.getD w ([], 5)).1
def knd (K : Ct) (w : Nat) : Nat := (K.1.getD w ([], 5)).2
def lnK (K : Ct) (i : Nat) : List Nat := K.2.1.getD i []
def fcK (K : Ct) (i : Nat) : Int × Int × Int := K.2.2.1.getD i (0, 0, 0)
def bnK (K : Ct) (b : Nat) : List Nat × Nat × Nat × List Nat := K.2.2.2.1.getD b ([], 0, 0, [])
def sayK (K : Ct) (b : Nat) : List Nat := (bnK K b).2.2.2
def csK (K : Ct) (i : Nat) : List Nat := K.2.2.2.2.1.getD i []
def slotLists : List (List Nat) := [[0, 1], [1, 0], [0, 1, 2], [0, 2, 1], [1, 0, 2], [1, 2, 0], [2, 0, 1], [2, 1, 0]]
/-- letters of a word -/
def isSp (s : List Nat) : Prop := 1 ≤ s.length ∧ s.length ≤ 6 ∧ ∀ a ∈ s, 1 ≤ a ∧ a ≤ 26
/-- what every COURT keeps -/
def VK (K : Ct) : Prop :=
  (nW K ≤ 20 ∧ ∀ w, w < nW K → isSp (spK K w) ∧ knd K w ≤ 5) ∧
  (nL K ≤ 6 ∧ ∀ i, i < nL K → lnK K i ∈ slotLists) ∧
  (nF K ≤ 16 ∧ ∀ f, f < nF K → ((0 ≤ (fcK K f).1 ∧ (fcK K f).1 < nW K) ∧ (0 ≤ (fcK K f).2.1 ∧ (fcK K f).2.1 < nW K) ∧ (-1 ≤ (fcK K f).2.2 ∧ (fcK K f).2.2 < nW K))) ∧
  (nB K ≤ 7 ∧ ∀ b, b < nB K → (isSp (bnK K b).1 ∧ (bnK K b).2.1 ≤ 99 ∧ (bnK K b).2.2.1 ≤ 1 ∧ 1 ≤ (sayK K b).length ∧ (sayK K b).length ≤ 4 ∧ (sayK K b).Nodup ∧ ∀ w ∈ sayK K b, w < nW K)) ∧
  (nC K ≤ 8 ∧ ∀ i, i < nC K → (1 ≤ (csK K i).length ∧ (csK K i).length ≤ 8 ∧ ∀ w ∈ csK K i, w < nW K)) ∧
  ((kAc K = -1 ∧ kDe K = -1) ∨ ((0 ≤ kAc K ∧ kAc K < nW K) ∧ (0 ≤ kDe K ∧ kDe K < nW K)))
def oi (o : Option Nat) : Int := match o with
  | some n => n
  | none => -1
/-- a clause that was heard: who, deed, whom (-1), turns, line, binding -/
abbrev Cs : Type := Int × Int × Int × Nat × Nat × Nat
/-- what was heard so far: clauses, binding ahead, turns, words of the clause at hand -/
abbrev Sj : Type := List Cs × Nat × Nat × List Nat
def patS (s : List Nat) : Nat := s.foldl (fun p a => 2 * p + (if a = 1 then 1 else 0)) 1
def patW (K : Ct) (ws : List Nat) : Nat := ws.foldl (fun p w => 2 * p + knd K w) 1
def fitL (K : Ct) (F p : Nat) : Option Nat := (List.range (nL K)).find? (fun i => F.testBit i && patS (lnK K i) == p)
def begL (K : Ct) (F p : Nat) : Bool := (List.range (nL K)).any (fun i => F.testBit i && (List.range 4).any (fun m => patS (lnK K i) / 2 ^ m == p))
def slotAt (s : List Nat) (a : Nat) (ws : List Nat) : Int := match s.idxOf? a with
  | some k => (ws.getD k 0 : Nat)
  | none => -1
def mkCl (K : Ct) (i : Nat) (ws : List Nat) (t b : Nat) : Cs := (slotAt (lnK K i) 0 ws, slotAt (lnK K i) 1 ws, slotAt (lnK K i) 2 ws, t, i, b)
def finS (K : Ct) (F : Nat) (s : Sj) : Option (List Cs) := (fitL K F (patW K s.2.2.2)).map (fun i => s.1 ++ [mkCl K i s.2.2.2 s.2.2.1 s.2.1])
def hearS (K : Ct) (F : Nat) (s : Sj) (w : Nat) : Option Sj :=
  if knd K w = 5 then some s
  else if knd K w = 2 then (if s.2.2.2 = [] then some (s.1, s.2.1, s.2.2.1 + 1, []) else none)
  else if knd K w = 0 ∨ knd K w = 1 then (if begL K F (patW K (s.2.2.2 ++ [w])) then some (s.1, s.2.1, s.2.2.1, s.2.2.2 ++ [w]) else none)
  else (finS K F s).map (fun cs => (cs, knd K w, 0, []))
def startS : Sj := ([], 0, 0, [])
def hearO (K : Ct) (F : Nat) (o : Option Sj) (w : Nat) : Option Sj := o.bind (fun s => hearS K F s w)
def hearA (K : Ct) (F : Nat) (ws : List Nat) : Option Sj := ws.foldl (hearO K F) (some startS)
def isF (K : Ct) (who deed whom : Int) : Bool := (List.range (nF K)).any (fun f => (fcK K f).1 == who && (fcK K f).2.1 == deed && (whom == -1 || (fcK K f).2.2 == whom))
def isHis (K : Ct) (c : Cs) : Bool := c.1 == kAc K && c.2.1 == kDe K
/-- whether a clause is so: by facts (0), if he did (1), if he did not (2) -/
def soK (K : Ct) (by' : Nat) (c : Cs) : Bool := xor (c.2.2.2.1 % 2 == 1) (if by' = 0 then isF K c.1 c.2.1 c.2.2.1 else if isHis K c then by' == 1 else isF K c.1 c.2.1 c.2.2.1)
def soF (K : Ct) (by' : Nat) (is : Bool) (c : Cs) : Bool := if c.2.2.2.2.2 = 3 then is && soK K by' c else if c.2.2.2.2.2 = 4 then is || soK K by' c else soK K by' c
def allSo (K : Ct) (by' : Nat) (cs : List Cs) : Bool := cs.foldl (soF K by') false
def meanO (K : Ct) (F : Nat) (o : Option Sj) : Option (List Cs) := o.bind (finS K F)
def rulC (K : Ct) (cs : List Cs) : Nat := if allSo K 1 cs = allSo K 2 cs then 0 else if allSo K 1 cs then 1 else 2
def rulO (K : Ct) (o : Option (List Cs)) : Nat := match o with
  | some cs => rulC K cs
  | none => 0
def rul (K : Ct) (F : Nat) (ws : List Nat) : Nat := rulO K (meanO K F (hearA K F ws))
/-- three truths as a number -/
def nb (p q r : Bool) : Nat := p.toNat + 2 * q.toNat + 4 * r.toNat
def bitsC (K : Ct) (cs : List Cs) : Nat := nb (allSo K 0 cs) (allSo K 1 cs) (allSo K 2 cs)
/-- what was heard, as one number -/
def encS (K : Ct) (s : Sj) : Nat := s.2.2.2.getD 0 0 + 32 * s.2.2.2.getD 1 0 + 1024 * s.2.2.2.getD 2 0 + 32768 * patW K s.2.2.2 + 524288 * (s.2.2.1 % 2) + 1048576 * bitsC K s.1 + 8388608 * s.2.1
def encO (K : Ct) (o : Option Sj) : Int := match o with
  | some s => encS K s
  | none => -1
/-- what every state that can be heard keeps -/
def WS (K : Ct) (s : Sj) : Prop := s.2.2.2.length ≤ 3 ∧ (∀ w ∈ s.2.2.2, w < nW K ∧ knd K w ≤ 1) ∧ ((s.1 = [] ∧ s.2.1 = 0) ∨ (s.1 ≠ [] ∧ (s.2.1 = 3 ∨ s.2.1 = 4)))
def WO (K : Ct) (o : Option Sj) : Prop := ∀ s, o = some s → WS K s
theorem patS_slot : ∀ s ∈ slotLists, patS s = 5 ∨ patS s = 6 ∨ patS s = 9 ∨ patS s = 10 ∨ patS s = 12 := by decide
theorem begL_lt {K : Ct} {F p : Nat} (hK : VK K) (h : begL K F p = true) : p < 16 := by
  unfold begL at h
  obtain ⟨i, hi, h2⟩ := List.any_eq_true.mp h
  have hi := List.mem_range.mp hi
  rw [Bool.and_eq_true] at h2
  obtain ⟨m, hm, h3⟩ := List.any_eq_true.mp h2.2
  have h3 := beq_iff_eq.mp h3
  have h4 := patS_slot _ (hK.2.1.2 i hi)
  have h5 := Nat.div_le_self (patS (lnK K i)) (2 ^ m)
  omega
theorem fitL_some {K : Ct} {F p i : Nat} (h : fitL K F p = some i) : i < nL K ∧ F.testBit i = true ∧ patS (lnK K i) = p := by
  have h1 := List.find?_some h
  have h2 := List.mem_range.mp (List.mem_of_find?_eq_some h)
  rw [Bool.and_eq_true] at h1
  exact ⟨h2, h1.1, beq_iff_eq.mp h1.2⟩
theorem fitL_lt {K : Ct} {F p i : Nat} (hK : VK K) (h : fitL K F p = some i) : p = 5 ∨ p = 6 ∨ p = 9 ∨ p = 10 ∨ p = 12 := by
  obtain ⟨h1, h2, h3⟩ := fitL_some h
  have := patS_slot _ (hK.2.1.2 i h1)
  omega
theorem patW_nil (K : Ct) : patW K [] = 1 := rfl
theorem patW_snoc (K : Ct) (ws : List Nat) (w : Nat) : patW K (ws ++ [w]) = 2 * patW K ws + knd K w := by
  unfold patW
  rw [List.foldl_append]
  rfl
theorem patW_len2 {K : Ct} : ∀ (ws : List Nat) (p : Nat), (∀ w ∈ ws, knd K w ≤ 1) → p * 2 ^ ws.length ≤ ws.foldl (fun p w => 2 * p + knd K w) p ∧ ws.foldl (fun p w => 2 * p + knd K w) p < (p + 1) * 2 ^ ws.length
  | [], p, _ => ⟨by simp, by simp⟩
  | w :: ws, p, h => by
    have h1 := patW_len2 ws (2 * p + knd K w) (fun v hv => h v (List.mem_cons_of_mem _ hv))
    have h2 := h w List.mem_cons_self
    rw [List.length_cons, Nat.pow_succ, List.foldl_cons]
    generalize 2 ^ ws.length = q at h1 ⊢
    have h3 : 2 * p * q ≤ (2 * p + knd K w) * q := Nat.mul_le_mul_right _ (by omega)
    have h4 : (2 * p + knd K w + 1) * q ≤ (2 * p + 2) * q := Nat.mul_le_mul_right _ (by omega)
    rw [show p * (q * 2) = 2 * p * q by rw [Nat.mul_comm 2 p, Nat.mul_assoc, Nat.mul_comm q 2], show (p + 1) * (q * 2) = (2 * p + 2) * q by rw [show 2 * p + 2 = 2 * (p + 1) by omega, Nat.mul_comm 2 (p + 1), Nat.mul_assoc, Nat.mul_comm q 2]]
    omega
theorem patW_len {K : Ct} (ws : List Nat) (h : ∀ w ∈ ws, knd K w ≤ 1) : 2 ^ ws.length ≤ patW K ws ∧ patW K ws < 2 * 2 ^ ws.length := by
  have := patW_len2 ws 1 h
  rw [Nat.one_mul] at this
  exact this
theorem nb_lt (p q r : Bool) : nb p q r < 8 := by cases p <;> cases q <;> cases r <;> decide
theorem hearO_none (K : Ct) (F w : Nat) : hearO K F none w = none := rfl
theorem fold_none (K : Ct) (F : Nat) : ∀ ws : List Nat, ws.foldl (hearO K F) none = none
  | [] => rfl
  | _ :: ws => fold_none K F ws
theorem hearA_snoc (K : Ct) (F : Nat) (ws : List Nat) (w : Nat) : hearA K F (ws ++ [w]) = hearO K F (hearA K F ws) w := by
  unfold hearA
  rw [List.foldl_append]
  rfl
theorem WS_start (K : Ct) : WS K startS := ⟨by decide, fun w h => (by cases h), Or.inl ⟨rfl, rfl⟩⟩
theorem WS_hear {K : Ct} {F : Nat} {s t : Sj} {w : Nat} (hK : VK K) (hw : w < nW K) (h : WS K s) (he : hearS K F s w = some t) : WS K t := by
  unfold hearS at he
  have hk := (hK.1.2 w hw).2
  split at he
  · cases he; exact h
  split at he
  · split at he
    · cases he; exact ⟨by show ([] : List Nat).length ≤ 3; decide, fun w h => (by cases h), h.2.2⟩
    · cases he
  split at he
  · split at he
    · rename_i hb
      cases he
      refine ⟨?_, ?_, h.2.2⟩
      · have h1 := begL_lt hK hb
        have h2 := (patW_len (K := K) (s.2.2.2 ++ [w]) (by
          intro v hv
          rcases List.mem_append.mp hv with q | q
          · exact (h.2.1 v q).2
          · rw [List.mem_singleton.mp q]; omega)).1
        have h3 : (s.2.2.2 ++ [w]).length ≤ 3 := by
          apply Classical.byContradiction
          intro hn
          have h5 : 2 ^ 4 ≤ 2 ^ (s.2.2.2 ++ [w]).length := Nat.pow_le_pow_right (by decide) (by omega)
          omega
        exact h3
      · intro v hv
        rcases List.mem_append.mp hv with q | q
        · exact h.2.1 v q
        · rw [List.mem_singleton.mp q]; exact ⟨hw, by omega⟩
    · cases he
  · cases hf : finS K F s with
    | none => rw [hf] at he; cases he
    | some cs =>
      rw [hf] at he
      cases he
      refine ⟨by show ([] : List Nat).length ≤ 3; decide, fun w h => (by cases h), Or.inr ⟨?_, ?_⟩⟩
      · unfold finS at hf
        cases hg : fitL K F (patW K s.2.2.2) with
        | none => rw [hg] at hf; cases hf
        | some i =>
          rw [hg] at hf
          cases hf
          intro q
          exact absurd q (List.append_ne_nil_of_right_ne_nil _ (by simp))
      · show knd K w = 3 ∨ knd K w = 4
        omega
theorem WO_hear {K : Ct} {F : Nat} {o : Option Sj} {w : Nat} (hK : VK K) (hw : w < nW K) (h : WO K o) : WO K (hearO K F o w) := by
  intro t ht
  cases o with
  | none => cases ht
  | some s => exact WS_hear hK hw (h s rfl) ht
theorem WO_fold {K : Ct} {F : Nat} (hK : VK K) : ∀ (ws : List Nat) (o : Option Sj), (∀ w ∈ ws, w < nW K) → WO K o → WO K (ws.foldl (hearO K F) o)
  | [], _, _, h => h
  | w :: ws, o, hw, h => WO_fold hK ws _ (fun v hv => hw v (List.mem_cons_of_mem _ hv)) (WO_hear hK (hw w List.mem_cons_self) h)
theorem WO_start (K : Ct) : WO K (some startS) := fun s h => by cases h; exact WS_start K
theorem WO_hearA {K : Ct} {F : Nat} (hK : VK K) (ws : List Nat) (hw : ∀ w ∈ ws, w < nW K) : WO K (hearA K F ws) := WO_fold hK ws _ hw (WO_start K)
