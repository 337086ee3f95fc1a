/-! a line of witnesses by age, and by lot -/
def ageK (K : Ct) (b : Nat) : Nat := (bnK K b).2.1
/-- a comes before b -/
def bef (K : Ct) (o : Int) (a b : Nat) : Bool := if o = 1 ∧ ageK K a ≠ ageK K b then decide (ageK K b < ageK K a) else if o = 2 ∧ ageK K a ≠ ageK K b then decide (ageK K a < ageK K b) else decide (a < b)
def rnk (K : Ct) (o : Int) (m v : Nat) : Nat := (List.range m).countP (fun u => bef K o u v)
/-- the witnesses in a line -/
def ordK (K : Ct) (o : Int) : List Nat := (List.range (nB K)).map (fun p => ((List.range (nB K)).find? (fun v => rnk K o (nB K) v == p)).getD 0)
section
variable {K : Ct} {o : Int}
theorem bef_irr (a : Nat) : bef K o a a = false := by
  unfold bef
  rw [if_neg (fun q => q.2 rfl), if_neg (fun q => q.2 rfl)]
  exact decide_eq_false (Nat.lt_irrefl a)
theorem bef_as {a b : Nat} (h : bef K o a b = true) : bef K o b a = false := by
  unfold bef at h ⊢
  split at h
  · rename_i e
    rw [if_pos ⟨e.1, fun q => e.2 q.symm⟩]
    have := of_decide_eq_true h
    exact decide_eq_false (by omega)
  · rename_i e
    rw [if_neg (fun q => e ⟨q.1, fun r => q.2 r.symm⟩)]
    split at h
    · rename_i e2
      rw [if_pos ⟨e2.1, fun q => e2.2 q.symm⟩]
      have := of_decide_eq_true h
      exact decide_eq_false (by omega)
    · rename_i e2
      rw [if_neg (fun q => e2 ⟨q.1, fun r => q.2 r.symm⟩)]
      have := of_decide_eq_true h
      exact decide_eq_false (by omega)
theorem bef_lin {a b : Nat} (h : bef K o a b = false) (hn : a ≠ b) : bef K o b a = true := by
  unfold bef at h ⊢
  split at h
  · rename_i e
    rw [if_pos ⟨e.1, fun q => e.2 q.symm⟩]
    have := of_decide_eq_false h
    have := e.2
    exact decide_eq_true (by omega)
  · rename_i e
    rw [if_neg (fun q => e ⟨q.1, fun r => q.2 r.symm⟩)]
    split at h
    · rename_i e2
      rw [if_pos ⟨e2.1, fun q => e2.2 q.symm⟩]
      have := of_decide_eq_false h
      have := e2.2
      exact decide_eq_true (by omega)
    · rename_i e2
      rw [if_neg (fun q => e2 ⟨q.1, fun r => q.2 r.symm⟩)]
      have := of_decide_eq_false h
      exact decide_eq_true (by omega)
theorem bef_iff (a b : Nat) : bef K o a b = true ↔ ((o = 1 ∧ (ageK K b < ageK K a ∨ (ageK K a = ageK K b ∧ a < b))) ∨ (o = 2 ∧ (ageK K a < ageK K b ∨ (ageK K a = ageK K b ∧ a < b))) ∨ (o ≠ 1 ∧ o ≠ 2 ∧ a < b)) := by
  unfold bef
  split
  · rw [decide_eq_true_iff]; omega
  · split
    · rw [decide_eq_true_iff]; omega
    · rw [decide_eq_true_iff]; omega
theorem bef_tr {a b d : Nat} (h : bef K o a b = true) (g : bef K o b d = true) : bef K o a d = true := by
  rw [bef_iff] at h g ⊢
  omega
/-- a line of the first m -/
def Ln (K : Ct) (o : Int) (m : Nat) (L : List Nat) : Prop := L.Perm (List.range m) ∧ L.Pairwise (fun a b => bef K o a b = true)
theorem Ln_rnk {m : Nat} {L : List Nat} (h : Ln K o m L) {i : Nat} (hi : i < L.length) : rnk K o m (L.getD i 0) = i := by
  unfold rnk
  rw [← h.1.countP_eq]
  have hg : L.getD i 0 = L[i] := by rw [List.getD_eq_getElem?_getD, List.getElem?_eq_getElem hi]; rfl
  rw [hg]
  have hp := List.pairwise_iff_getElem.mp h.2
  have e : L = L.take i ++ L[i] :: L.drop (i + 1) := by rw [← List.drop_eq_getElem_cons hi, List.take_append_drop]
  generalize hv : L[i] = v at *
  have a1 : (L.take i).countP (fun u => bef K o u v) = i := by
    rw [List.countP_eq_length.mpr, List.length_take]
    · omega
    · intro u hu
      obtain ⟨j, hj, rfl⟩ := List.mem_iff_getElem.mp hu
      rw [List.length_take] at hj
      rw [List.getElem_take, ← hv]
      exact hp j i (by omega) hi (by omega)
  have a2 : (L.drop (i + 1)).countP (fun u => bef K o u v) = 0 := by
    rw [List.countP_eq_zero]
    intro u hu
    obtain ⟨j, hj, rfl⟩ := List.mem_iff_getElem.mp hu
    rw [List.length_drop] at hj
    rw [List.getElem_drop, ← hv, bef_as (hp i (i + 1 + j) hi (by omega) (by omega))]
    exact Bool.false_ne_true
  rw [e, List.countP_append, List.countP_cons, a1, a2, bef_irr]
  rfl
theorem Ln_len {m : Nat} {L : List Nat} (h : Ln K o m L) : L.length = m := by rw [h.1.length_eq, List.length_range]
theorem Ln_rk {m : Nat} {L : List Nat} (h : Ln K o m L) {v : Nat} (hv : v < m) : rnk K o m v < L.length ∧ L.getD (rnk K o m v) 0 = v := by
  have hm : v ∈ L := h.1.mem_iff.mpr (List.mem_range.mpr hv)
  obtain ⟨i, hi, he⟩ := List.mem_iff_getElem.mp hm
  have hg : L.getD i 0 = v := by rw [List.getD_eq_getElem?_getD, List.getElem?_eq_getElem hi]; exact he
  have hr := Ln_rnk h hi
  rw [hg] at hr
  rw [hr]
  exact ⟨hi, hg⟩
theorem Ln_ord {L : List Nat} (h : Ln K o (nB K) L) : L = ordK K o := by
  have hl := Ln_len h
  unfold ordK
  apply List.ext_getElem
  · rw [List.length_map, List.length_range, hl]
  · intro i h1 h2
    rw [List.getElem_map, List.getElem_range]
    have hr := Ln_rnk h h1
    have hg : L.getD i 0 = L[i] := by rw [List.getD_eq_getElem?_getD, List.getElem?_eq_getElem h1]; rfl
    rw [hg] at hr
    have hm : L[i] < nB K := List.mem_range.mp (h.1.mem_iff.mp (List.getElem_mem h1))
    cases hf : (List.range (nB K)).find? (fun v => rnk K o (nB K) v == i) with
    | none =>
      have := List.find?_eq_none.mp hf _ (List.mem_range.mpr hm)
      rw [hr] at this
      simp at this
    | some v =>
      have h3 : rnk K o (nB K) v = i := by
        have h6 := List.find?_some hf
        exact beq_iff_eq.mp h6
      have h4 := List.mem_range.mp (List.mem_of_find?_eq_some hf)
      have h5 := Ln_rk h h4
      rw [h3, hg] at h5
      exact h5.2
/-- one more witness, whose place is found from behind -/
theorem Ln_ins {m : Nat} {L : List Nat} (h : Ln K o m L) {p : Nat} (hp : p ≤ m) (hb : ∀ u ∈ L.drop p, bef K o m u = true) (ha : p = 0 ∨ bef K o m (L.getD (p - 1) 0) = false) : Ln K o (m + 1) (L.take p ++ m :: L.drop p) := by
  have hl := Ln_len h
  have hlt : ∀ u ∈ L, u < m := fun u hu => List.mem_range.mp (h.1.mem_iff.mp hu)
  refine ⟨?_, ?_⟩
  · rw [List.range_succ]
    refine List.Perm.trans List.perm_middle ?_
    rw [List.take_append_drop]
    exact List.Perm.trans (List.Perm.cons m h.1) (List.perm_append_singleton m (List.range m)).symm
  · have hp2 := h.2
    have hpw := List.pairwise_iff_getElem.mp h.2
    rw [← List.take_append_drop p L] at hp2
    rw [List.pairwise_append] at hp2 ⊢
    refine ⟨hp2.1, List.pairwise_cons.mpr ⟨hb, hp2.2.1⟩, ?_⟩
    intro a hA b hB
    rcases List.mem_cons.mp hB with rfl | q
    · rcases ha with rfl | ha
      · rw [List.take_zero] at hA; cases hA
      · obtain ⟨j, hj, rfl⟩ := List.mem_iff_getElem.mp hA
        rw [List.length_take] at hj
        rw [List.getElem_take]
        have hj2 : p - 1 < L.length := by omega
        have hg : L.getD (p - 1) 0 = L[p - 1] := by rw [List.getD_eq_getElem?_getD, List.getElem?_eq_getElem hj2]; rfl
        rw [hg] at ha
        have hx : L[p - 1] < b := hlt _ (List.getElem_mem hj2)
        have h1 := bef_lin ha (by omega)
        by_cases e : j = p - 1
        · subst e; exact h1
        · exact bef_tr (hpw j (p - 1) (by omega) hj2 (by omega)) h1
    · exact hp2.2.2 a hA b q
theorem Ln_ex : ∀ m, ∃ L, Ln K o m L
  | 0 => ⟨[], List.Perm.refl _, List.Pairwise.nil⟩
  | m + 1 => by
    obtain ⟨L, h⟩ := Ln_ex m
    have key : ∀ p, p ≤ m → (∀ u ∈ L.drop p, bef K o m u = true) → ∃ L2, Ln K o (m + 1) L2 := by
      intro p
      induction p with
      | zero => intro hp hb; exact ⟨_, Ln_ins h hp hb (Or.inl rfl)⟩
      | succ p ih =>
        intro hp hb
        cases e : bef K o m (L.getD p 0) with
        | false => exact ⟨_, Ln_ins h hp hb (Or.inr e)⟩
        | true =>
          refine ih (by omega) ?_
          intro u hu
          rw [drop_getD (by rw [Ln_len h]; omega)] at hu
          rcases List.mem_cons.mp hu with rfl | q
          · exact e
          · exact hb u q
    exact key m (Nat.le_refl _) (fun u hu => by rw [List.drop_of_length_le (by rw [Ln_len h]; omega)] at hu; cases hu)
theorem ordK_Ln : Ln K o (nB K) (ordK K o) := by
  obtain ⟨L, h⟩ := Ln_ex (K := K) (o := o) (nB K)
  rw [← Ln_ord h]
  exact h
theorem ordK_len : (ordK K o).length = nB K := Ln_len ordK_Ln
theorem ordK_lt : ∀ b ∈ ordK K o, b < nB K := fun _ hb => List.mem_range.mp (ordK_Ln.1.mem_iff.mp hb)
end
