/-! the reference's ask: operators put by, codes told -/
def StA (c : Nat → Nat → Nat → Int32) : List Nat → Prop
  | [] => True
  | v :: S => c 109 0 S.length = iv (v : Nat) ∧ StA c S
/-- S put by (the top first), C told, m more may be opened, b the floor -/
def QS (c : Nat → Nat → Nat → Int32) (S C : List Nat) (m b : Nat) : Prop := (c 48 0 80 = iv (S.length : Nat) ∧ StA c S) ∧ (c 48 0 78 = iv (C.length : Nat) ∧ RowAt c 108 0 C) ∧ c 48 0 81 = iv (6 - (m : Int)) ∧ c 48 0 82 = iv (b : Nat) ∧ S.length + C.length ≤ 1600 ∧ (∀ v ∈ S, v < 100) ∧ ∀ v ∈ C, v < 20000
/-- what the reading of a QUESTION writes -/
def FK (c c2 : Nat → Nat → Nat → Int32) : Prop := (∀ k, k ≠ 48 → k ≠ 108 → k ≠ 109 → c2 k = c k) ∧ ∀ i j, j ≠ 2 → j ≠ 4 → j ≠ 5 → j ≠ 6 → j ≠ 27 → j ≠ 78 → j ≠ 80 → j ≠ 81 → j ≠ 82 → c2 48 i j = c 48 i j
section
variable {c : Nat → Nat → Nat → Int32} {l : Nat → Nat → Int64} {x y : Nat} {tp : Nat → Nat} {n : Nat} {z : Tz} {s : Ts} {S C : List Nat} {m b : Nat}
theorem FK.refl (c : Nat → Nat → Nat → Int32) : FK c c := ⟨fun _ _ _ _ => rfl, fun _ _ _ _ _ _ _ _ _ _ _ => rfl⟩
theorem FK.tr {c1 c2 c3 : Nat → Nat → Nat → Int32} (h : FK c1 c2) (g : FK c2 c3) : FK c1 c3 := ⟨fun k h1 h2 h3 => (g.1 k h1 h2 h3).trans (h.1 k h1 h2 h3), fun i j a1 a2 a3 a4 a5 a6 a7 a8 a9 => (g.2 i j a1 a2 a3 a4 a5 a6 a7 a8 a9).trans (h.2 i j a1 a2 a3 a4 a5 a6 a7 a8 a9)⟩
theorem FK_FR {c2 : Nat → Nat → Nat → Int32} (h : FR c c2) : FK c c2 := ⟨fun k h1 _ _ => h.1 k h1, fun i j a1 a2 a3 a4 a5 _ _ _ _ => h.2 i j a1 a2 a3 a4 a5⟩
theorem FK.ui (k j : Nat) (v : Int32) (h : (k = 48 ∧ (j = 2 ∨ j = 78 ∨ j = 80 ∨ j = 81 ∨ j = 82)) ∨ k = 108 ∨ k = 109) : FK c (am_ui c k 0 j v) := ⟨fun k2 h1 h2 h3 => ui_nk _ _ _ _ (by omega), fun i j2 a1 a2 a3 a4 a5 a6 a7 a8 a9 => ui_ne _ _ _ _ (by omega)⟩
theorem StA_fr {c2 : Nat → Nat → Nat → Int32} : ∀ (S : List Nat), StA c S → (∀ j, j < S.length → c2 109 0 j = c 109 0 j) → StA c2 S
  | [], _, _ => trivial
  | v :: S, h, hf => ⟨by rw [hf S.length (by rw [List.length_cons]; omega)]; exact h.1, StA_fr S h.2 (fun j hj => hf j (by rw [List.length_cons]; omega))⟩
/-- the tape stands still -/
theorem RZ_q {c2 : Nat → Nat → Nat → Int32} (h : RZ c tp n z) (h48 : ∀ j, j < 7 → c2 48 0 j = c 48 0 j) (hf : ∀ k, (49 ≤ k ∧ k ≤ 67) ∨ (90 ≤ k ∧ k ≤ 107) → c2 k = c k) : RZ c2 tp n z := by
  obtain ⟨h1, h2, h3, h4⟩ := h
  refine ⟨⟨by rw [h48 3 (by omega)]; exact h1.1, by rw [hf 49 (by omega)]; exact h1.2⟩, h2, CH_fr h3 (fun k hk => hf k (by omega)), ?_⟩
  unfold RP at h4 ⊢
  rw [h48 2 (by omega), h48 4 (by omega), h48 5 (by omega), h48 6 (by omega)]
  exact h4
theorem QS_FR {c2 : Nat → Nat → Nat → Int32} (h : FR c c2) (g : QS c S C m b) : QS c2 S C m b := by
  obtain ⟨g1, g2, g3, g4, g5⟩ := g
  have r : ∀ j, 70 < j → c2 48 0 j = c 48 0 j := fun j hj => h.2 0 j (by omega) (by omega) (by omega) (by omega) (by omega)
  exact ⟨⟨by rw [r 80 (by omega)]; exact g1.1, StA_fr S g1.2 (fun j _ => by rw [h.1 109 (by omega)])⟩, ⟨by rw [r 78 (by omega)]; exact g2.1, RowAt_fr g2.2 (h.1 108 (by omega))⟩, by rw [r 81 (by omega)]; exact g3, by rw [r 82 (by omega)]; exact g4, g5⟩
/-- a code is told -/
theorem e263 {k : Nat} (hk : k < 1700) (h78 : c 48 0 78 = iv (k : Nat)) (v : Int32) (d : Nat) : E (d + 1) 263 [vr 48 0, vi v] (c, l, x, y) = some (none, am_ui (am_ui c 108 0 k v) 48 0 78 (iv ((k + 1 : Nat) : Int)), l, x, y) := by
  rw [q_263]
  simp (disch := omega) only [iv_add, iv_sub, iv_mul, iv_neg, iv_lt, iv_le, iv_eq, iv_nat, iv_L, iv_L2, am_bi_v, am_bv_v, am_bl_v, if_pos, if_neg, Int.toNat_natCast, Int.toNat_add, Int.toNat_mul, Int.reduceToNat, h78]
  rfl
theorem QS_tell (g : QS c S C m b) {v : Nat} (hv : v < 20000) (hl : S.length + C.length < 1600) : QS (am_ui (am_ui c 108 0 C.length (iv (v : Nat))) 48 0 78 (iv ((C.length + 1 : Nat) : Int))) S (C ++ [v]) m b := by
  obtain ⟨g1, g2, g3, g4, g5, g6, g7⟩ := g
  refine ⟨⟨?_, StA_fr S g1.2 (fun j _ => by rw [ui_nk _ _ _ _ (by omega), ui_nk _ _ _ _ (by omega)])⟩, ⟨?_, ?_⟩, ?_, ?_, ?_, g6, ?_⟩
  · rw [ui_ne _ _ _ _ (by omega), ui_nk _ _ _ _ (by omega)]; exact g1.1
  · rw [ui_self, List.length_append]; rfl
  · refine RowAt_fr ?_ (ui_nk _ _ _ _ (by omega))
    intro k hk
    rw [List.length_append, List.length_singleton] at hk
    by_cases e : k = C.length
    · rw [e, ui_self, getD_app_new]
    · rw [ui_ne _ _ _ _ (by omega), getD_app_old (by omega)]; exact g2.2 k (by omega)
  · rw [ui_ne _ _ _ _ (by omega), ui_nk _ _ _ _ (by omega)]; exact g3
  · rw [ui_ne _ _ _ _ (by omega), ui_nk _ _ _ _ (by omega)]; exact g4
  · rw [List.length_append, List.length_singleton]; omega
  · intro w hw
    rcases List.mem_append.mp hw with q | q
    · exact g7 w q
    · rw [List.mem_singleton.mp q]; exact hv
end
