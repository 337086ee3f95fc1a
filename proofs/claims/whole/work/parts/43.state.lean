/-! the whole state, in lists and numbers, and what class and reference make of it -/
/-- a byte as Java keeps it -/
def sb (b : Nat) : Int := if b < 128 then (b : Int) else (b : Int) - 256
def wds (row : List (Nat × Nat)) : List Nat := row.map (·.2)
def whs (row : List (Nat × Nat)) : List Nat := row.map (·.1)
/-- the class: COURT, lines in force, row (who, word), tape, its length, fault, its place, refusals, seed, image -/
def AC (c : Nat → Nat → Nat → Int32) (x y : Nat) (K : Ct) (F : Nat) (row : List (Nat × Nat)) (tp : Nat → Nat) (n : Nat) (fa fp : Int) (rf : Nat → Int32) (sd : Int) (oc : List Nat) : Prop :=
  JR c x K F ∧ (x < 2 ∧ y < 2 ∧ x ≠ y) ∧
  (c 23 0 3 = iv row.length ∧ RowAt c 24 0 (wds row) ∧ RowAt c 25 0 (whs row)) ∧
  (c 23 0 4 = iv oc.length ∧ RowAt c 26 0 oc) ∧
  (c 1 0 1 = iv n ∧ c 1 0 5 = iv fa ∧ c 1 0 6 = iv fp ∧ ∀ i, i < 1600 → c 2 0 i = iv (sb (tp i))) ∧
  (∀ k, k < 6 → c 46 0 k = rf k) ∧ c 34 0 2 = iv sd
def chs : List (Nat × List Nat) := [(51, [110, 97, 109, 101]), (52, [100, 101, 101, 100]), (53, [116, 117, 114, 110]), (54, [98, 111, 116, 104]), (55, [101, 105, 116, 104, 101, 114]), (56, [101, 109, 112, 116, 121]), (57, [108, 105, 110, 101]), (58, [119, 104, 111]), (59, [100, 105, 100]), (60, [119, 104, 111, 109]), (61, [102, 97, 99, 116]), (62, [119, 105, 116, 110, 101, 115, 115]), (63, [97, 103, 101]), (64, [115, 105, 100, 101]), (65, [115, 97, 121, 115]), (66, [97, 99, 99, 117, 115, 101, 100]), (67, [99, 97, 115, 101]), (90, [102, 105, 114, 115, 116]), (91, [108, 97, 115, 116]), (92, [111, 102, 116, 101, 110]), (93, [116, 111, 116, 97, 108]), (94, [109, 111, 115, 116]), (95, [108, 101, 97, 115, 116]), (96, [110, 111, 116]), (97, [97, 110, 100]), (98, [111, 114]), (99, [97, 108, 108]), (100, [109, 105, 110]), (101, [109, 97, 120]), (102, [110, 117, 109, 98, 101, 114]), (103, [119, 111, 114, 100, 115]), (104, [114, 117, 108, 105, 110, 103]), (105, [102, 97, 105, 114]), (106, [97, 116]), (107, [104, 97, 115])]
/-- the reference's own words stand -/
def CH (c : Nat → Nat → Nat → Int32) : Prop := ∀ p ∈ chs, RowAt c p.1 0 p.2
/-- the reference -/
def AR (c : Nat → Nat → Nat → Int32) (l : Nat → Nat → Int64) (K : Ct) (F : Nat) (row : List (Nat × Nat)) (tp : Nat → Nat) (n : Nat) (fa fp : Int) (rf : Nat → Int32) (sd : Int) (oc : List Nat) : Prop :=
  RR c l K F ∧
  (c 48 0 42 = iv row.length ∧ RowAt c 77 0 (wds row) ∧ RowAt c 78 0 (whs row)) ∧
  (c 48 0 88 = iv oc.length ∧ RowAt c 111 0 oc) ∧
  (c 48 0 1 = iv n ∧ c 48 0 7 = iv fa ∧ c 48 0 8 = iv fp ∧ ∀ i, i < 1600 → c 49 0 i = iv (tp i)) ∧
  (∀ k, k < 6 → c 50 0 k = rf k) ∧ l 48 57 = jv sd ∧ CH c
/-- what every state keeps -/
def VS (K : Ct) (F : Nat) (row : List (Nat × Nat)) (tp : Nat → Nat) (n : Nat) (fa fp : Int) (sd : Int) (oc : List Nat) : Prop :=
  VK K ∧ F < 2 ^ nL K ∧
  (row.length ≤ nB K ∧ (whs row).Nodup ∧ ∀ p ∈ row, p.1 < nB K ∧ p.2 ∈ sayK K p.1) ∧
  (n ≤ 1600 ∧ ∀ i, tp i < 256) ∧ (0 ≤ fa ∧ fa ≤ 5) ∧ (-1 ≤ fp ∧ fp ≤ 1600) ∧ (0 ≤ sd ∧ sd < 2147483648) ∧
  (oc.length ≤ 17 ∧ ∀ b ∈ oc, b < 256)
section
variable {c : Nat → Nat → Nat → Int32} {l : Nat → Nat → Int64} {x y : Nat} {K : Ct} {F : Nat} {row : List (Nat × Nat)} {tp : Nat → Nat} {n : Nat} {fa fp : Int} {rf : Nat → Int32} {sd : Int} {oc : List Nat}
theorem RowAt_fr {c2 : Nat → Nat → Nat → Int32} {kd ki : Nat} {ws : List Nat} (h : RowAt c kd ki ws) (hf : c2 kd = c kd) : RowAt c2 kd ki ws := fun k hk => by rw [hf]; exact h k hk
theorem AC_fr {c2 : Nat → Nat → Nat → Int32} (h : AC c x y K F row tp n fa fp rf sd oc) (hf : ∀ k, k < 27 ∨ k = 34 ∨ k = 46 → c2 k = c k) : AC c2 x y K F row tp n fa fp rf sd oc := by
  obtain ⟨h1, h2, h3, h4, h5, h6, h7⟩ := h
  refine ⟨JR_fr h1 (fun k _ _ => hf k (by omega)), h2, ⟨?_, RowAt_fr h3.2.1 (hf 24 (by omega)), RowAt_fr h3.2.2 (hf 25 (by omega))⟩, ⟨?_, RowAt_fr h4.2 (hf 26 (by omega))⟩, ?_, ?_, ?_⟩
  · rw [hf 23 (by omega)]; exact h3.1
  · rw [hf 23 (by omega)]; exact h4.1
  · rw [hf 1 (by omega), hf 2 (by omega)]; exact h5
  · rw [hf 46 (by omega)]; exact h6
  · rw [hf 34 (by omega)]; exact h7
/-- what the reference's thinking may write -/
def Sy (c c2 : Nat → Nat → Nat → Int32) : Prop := (∀ k, k ≠ 48 → (k < 79 ∨ 89 < k) → c2 k = c k) ∧ ∀ i s, s ≠ 44 → s ≠ 47 → s ≠ 48 → s ≠ 50 → c2 48 i s = c 48 i s
theorem Sy.refl (c : Nat → Nat → Nat → Int32) : Sy c c := ⟨fun _ _ _ => rfl, fun _ _ _ _ _ _ => rfl⟩
theorem Sy.tr {c1 c2 c3 : Nat → Nat → Nat → Int32} (h : Sy c1 c2) (g : Sy c2 c3) : Sy c1 c3 := ⟨fun k h1 h2 => (g.1 k h1 h2).trans (h.1 k h1 h2), fun i s h1 h2 h3 h4 => (g.2 i s h1 h2 h3 h4).trans (h.2 i s h1 h2 h3 h4)⟩
theorem Sy.ui (k i j : Nat) (v : Int32) (h : 79 ≤ k ∧ k ≤ 89) : Sy c (am_ui c k i j v) := ⟨fun k2 h1 h2 => ui_nk _ _ _ _ (by omega), fun i2 s h1 h2 h3 h4 => ui_ne _ _ _ _ (by omega)⟩
theorem Sx_Sy {c2 : Nat → Nat → Nat → Int32} (h : Sx c c2) : Sy c c2 := ⟨fun k h1 h2 => h.1 k h1 (by omega), h.2⟩
theorem Sy_RR {c2 : Nat → Nat → Nat → Int32} (h : Sy c c2) (g : RR c l K F) : RR c2 l K F := by
  unfold RR RS at g ⊢
  rw [h.1 68 (by decide) (by decide), h.1 70 (by decide) (by decide), h.1 72 (by decide) (by decide), h.1 73 (by decide) (by decide), h.1 74 (by decide) (by decide), h.1 75 (by decide) (by decide), h.1 76 (by decide) (by decide), h.2 0 38 (by decide) (by decide) (by decide) (by decide), h.2 0 39 (by decide) (by decide) (by decide) (by decide)]
  exact g
theorem chs_fam : ∀ p ∈ chs, (51 ≤ p.1 ∧ p.1 ≤ 67) ∨ (90 ≤ p.1 ∧ p.1 ≤ 107) := by decide
theorem CH_fr {c2 : Nat → Nat → Nat → Int32} (h : CH c) (hf : ∀ k, (51 ≤ k ∧ k ≤ 67) ∨ (90 ≤ k ∧ k ≤ 107) → c2 k = c k) : CH c2 := fun p hp => RowAt_fr (h p hp) (hf _ (chs_fam p hp))
theorem AR_Sy {c2 : Nat → Nat → Nat → Int32} (h : Sy c c2) (g : AR c l K F row tp n fa fp rf sd oc) : AR c2 l K F row tp n fa fp rf sd oc := by
  obtain ⟨g1, g2, g3, g4, g5, g6, g7⟩ := g
  have f48 : ∀ s, s ≠ 44 → s ≠ 47 → s ≠ 48 → s ≠ 50 → c2 48 0 s = c 48 0 s := fun s => h.2 0 s
  refine ⟨Sy_RR h g1, ⟨?_, RowAt_fr g2.2.1 (h.1 77 (by decide) (by decide)), RowAt_fr g2.2.2 (h.1 78 (by decide) (by decide))⟩, ⟨?_, RowAt_fr g3.2 (h.1 111 (by decide) (by decide))⟩, ?_, ?_, g6, CH_fr g7 (fun k hk => h.1 k (by omega) (by omega))⟩
  · rw [f48 42 (by decide) (by decide) (by decide) (by decide)]; exact g2.1
  · rw [f48 88 (by decide) (by decide) (by decide) (by decide)]; exact g3.1
  · rw [f48 1 (by decide) (by decide) (by decide) (by decide), f48 7 (by decide) (by decide) (by decide) (by decide), f48 8 (by decide) (by decide) (by decide) (by decide), h.1 49 (by decide) (by decide)]; exact g4
  · rw [h.1 50 (by decide) (by decide)]; exact g5
theorem wds_len (row : List (Nat × Nat)) : (wds row).length = row.length := List.length_map ..
theorem whs_len (row : List (Nat × Nat)) : (whs row).length = row.length := List.length_map ..
theorem wds_lt (h : VS K F row tp n fa fp sd oc) : ∀ w ∈ wds row, w < nW K := by
  intro w hw
  obtain ⟨p, hp, rfl⟩ := List.mem_map.mp hw
  have h3 := h.2.2.1.2.2 p hp
  exact (h.1.2.2.2.1.2 p.1 h3.1).2.2.2.2.2.2 _ h3.2
theorem row7 (h : VS K F row tp n fa fp sd oc) : row.length ≤ 7 := Nat.le_trans h.2.2.1.1 h.1.2.2.2.1.1
theorem F64 (h : VS K F row tp n fa fp sd oc) : F < 64 := by
  have h1 := h.2.1
  have h2 : 2 ^ nL K ≤ 2 ^ 6 := Nat.pow_le_pow_right (by decide) h.1.2.1.1
  omega
/-- the row makes sense, or does not: what a row means -/
def mnR (K : Ct) (F : Nat) (ws : List Nat) : Option (List Cs) := meanO K F (hearA K F ws)
theorem nosR_iff : ∀ (ws : List Nat) (i : Nat) (s : Sj) (cl : Int), -1 ≤ cl → (nosR K F ws i s cl = -1 ↔ (meanO K F (ws.foldl (hearO K F) (some s))).isSome = true) ∧ -1 ≤ nosR K F ws i s cl
  | [], i, s, cl, h => by
    show (nosR K F [] i s cl = -1 ↔ (finS K F s).isSome = true) ∧ _
    unfold nosR
    cases hf : finS K F s with
    | none =>
      rw [if_pos rfl]
      constructor
      · constructor
        · intro q; split at q <;> omega
        · intro q; cases q
      · split <;> omega
    | some cs =>
      rw [if_neg (by simp)]
      exact ⟨⟨fun _ => rfl, fun _ => rfl⟩, by omega⟩
  | w :: ws, i, s, cl, h => by
    rw [List.foldl_cons]
    show (_ ↔ (meanO K F (ws.foldl (hearO K F) (hearS K F s w))).isSome = true) ∧ _
    unfold nosR
    cases ht : hearS K F s w with
    | none =>
      have hk : knd K w ≠ 5 := by
        intro q
        unfold hearS at ht
        rw [if_pos q] at ht
        cases ht
      rw [fold_none]
      dsimp only
      refine ⟨⟨fun q => ?_, fun q => by cases q⟩, ?_⟩
      · split at q
        · omega
        · rename_i hh; exact absurd ⟨q, hk⟩ hh
      · split <;> omega
    | some t =>
      dsimp only
      refine nosR_iff ws (i + 1) t _ ?_
      split
      · omega
      split <;> omega
/-- from which place on a row makes no sense -/
def senR (K : Ct) (F : Nat) (ws : List Nat) : Int := nosR K F ws 0 startS (-1)
theorem senR_iff (ws : List Nat) : (senR K F ws = -1 ↔ (mnR K F ws).isSome = true) ∧ -1 ≤ senR K F ws := nosR_iff ws 0 startS (-1) (by omega)
theorem nosR_hi : ∀ (ws : List Nat) (i : Nat) (s : Sj) (cl : Int), cl ≤ i → nosR K F ws i s cl ≤ i + ws.length
  | [], i, s, cl, h => by
    unfold nosR
    split
    · split
      · simp
      · simp only [List.length_nil]; omega
    · simp only [List.length_nil]; omega
  | w :: ws, i, s, cl, h => by
    unfold nosR
    rw [List.length_cons]
    cases ht : hearS K F s w with
    | none =>
      dsimp only
      split <;> omega
    | some t =>
      dsimp only
      have := nosR_hi ws (i + 1) t (if knd K w = 3 ∨ knd K w = 4 then -1 else if cl = -1 ∧ knd K w ≠ 5 then (i : Int) else cl) (by split <;> (try split) <;> omega)
      omega
end
