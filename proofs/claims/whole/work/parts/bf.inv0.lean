/-! the invariant holds behind the constructors -/
def K00 : Ct := ([], [], [], [], [], -1, -1)
theorem VK0 : VK K00 := by
  refine ⟨⟨by decide, fun w h => absurd h (Nat.not_lt_zero w)⟩, ⟨by decide, fun i h => absurd h (Nat.not_lt_zero i)⟩, ⟨by decide, fun f h => absurd h (Nat.not_lt_zero f)⟩, ⟨by decide, fun b h => absurd h (Nat.not_lt_zero b)⟩, ⟨by decide, fun i h => absurd h (Nat.not_lt_zero i)⟩, Or.inl ⟨rfl, rfl⟩⟩
theorem c0_court : c0 4 1 9 = iv 0 ∧ c0 4 1 10 = iv 0 ∧ c0 4 1 11 = iv 0 ∧ c0 4 1 12 = iv 0 ∧ c0 4 1 13 = iv 0 ∧ c0 4 1 14 = iv (-1) ∧ c0 4 1 15 = iv (-1) ∧ c0 20 0 3 = iv 0 := by decide +kernel
theorem c0_fit : ((List.range 16).all fun p => decide (c0 21 0 p = iv (oi (fitL K00 0 p))) && decide (c0 22 0 p = iv (if begL K00 0 p then 1 else 0))) = true := by decide +kernel
theorem c0_nums : c0 23 0 3 = iv 0 ∧ c0 23 0 4 = iv 0 ∧ c0 1 0 1 = iv 0 ∧ c0 1 0 5 = iv 0 ∧ c0 1 0 6 = iv (-1) ∧ c0 34 0 2 = iv 1 ∧ c0 36 0 6 = 0 ∧ l0 48 57 = jv 1 := by decide +kernel
theorem c0_ref : c0 68 0 5 = iv 0 ∧ c0 68 0 6 = iv 0 ∧ c0 68 0 7 = iv 0 ∧ c0 68 0 8 = iv 0 ∧ c0 68 0 9 = iv 0 ∧ c0 48 0 38 = 0 ∧ c0 48 0 39 = iv 0 ∧ c0 48 0 42 = iv 0 ∧ c0 48 0 88 = iv 0 ∧ c0 48 0 1 = iv 0 ∧ c0 48 0 7 = iv 0 ∧ c0 48 0 8 = iv (-1) := by decide +kernel
theorem c0_chs : (chs.all fun p => (List.range p.2.length).all fun k => decide (c0 p.1 0 k = iv (p.2.getD k 0 : Nat))) = true := by decide +kernel
theorem c0_plan : ((List.range 6).all fun p => decide (c0 28 0 p = iv (-2))) = true := by decide +kernel
theorem c0_ref6 : ((List.range 6).all fun k => decide (c0 46 0 k = 0 ∧ c0 50 0 k = 0)) = true := by decide +kernel
theorem kH2_2 : @decide (kH2[2]? = some (.inr (22, 1600, []))) (@Option.instDecidableEq _ kdq6 _ _) = true := by decide +kernel
theorem kH2_167 : @decide (kH2[167]? = some (.inr (20, 1600, []))) (@Option.instDecidableEq _ kdq6 _ _) = true := by decide +kernel
theorem c0_off : am_off 2 0 = 2 ∧ am_off 49 0 = 167 := by decide +kernel
theorem c0_tape (i : Nat) : c0 2 0 i = 0 := by
  show kI (am_off 2 0) i = 0
  rw [c0_off.1]
  unfold kI
  rw [@of_decide_eq_true _ (@Option.instDecidableEq _ kdq6 _ _) kH2_2]
  rfl
theorem c0_tape2 (i : Nat) : c0 49 0 i = 0 := by
  show kI (am_off 49 0) i = 0
  rw [c0_off.2]
  unfold kI
  rw [@of_decide_eq_true _ (@Option.instDecidableEq _ kdq6 _ _) kH2_167]
  rfl
theorem CR0 : CR c0 1 K00 := by
  obtain ⟨a1, a2, a3, a4, a5, a6, a7, -⟩ := c0_court
  exact ⟨⟨a1, fun w h => absurd h (Nat.not_lt_zero w)⟩, ⟨a2, fun i h => absurd h (Nat.not_lt_zero i)⟩, ⟨a3, fun f h => absurd h (Nat.not_lt_zero f)⟩, ⟨a4, fun b h => absurd h (Nat.not_lt_zero b)⟩, ⟨a5, fun i h => absurd h (Nat.not_lt_zero i)⟩, a6, a7⟩
theorem JR0 : JR c0 1 K00 0 := by
  refine ⟨CR0, VK0, by decide, c0_court.2.2.2.2.2.2.2, fun p hp => ?_⟩
  have h := List.all_eq_true.mp c0_fit p (List.mem_range.mpr hp)
  obtain ⟨h1, h2⟩ := Bool.and_eq_true_iff.mp h
  exact ⟨of_decide_eq_true h1, fun _ => of_decide_eq_true h2⟩
theorem AC0 : AC c0 1 0 K00 0 [] (fun _ => 0) 0 0 (-1) (fun _ => 0) 1 [] := by
  obtain ⟨a1, a2, a3, a4, a5, a6, -, -⟩ := c0_nums
  refine ⟨JR0, ⟨by decide, by decide, by decide⟩, ⟨a1, fun k h => absurd h (Nat.not_lt_zero k), fun k h => absurd h (Nat.not_lt_zero k)⟩, ⟨a2, fun k h => absurd h (Nat.not_lt_zero k)⟩, ⟨a3, a4, a5, fun i _ => c0_tape i⟩, fun k hk => ?_, a6⟩
  exact (of_decide_eq_true (List.all_eq_true.mp c0_ref6 k (List.mem_range.mpr hk))).1
theorem RS0 : RS c0 l0 K00 := by
  obtain ⟨a1, a2, a3, a4, a5, a6, -⟩ := c0_ref
  refine ⟨⟨a1, fun w h => absurd h (Nat.not_lt_zero w)⟩, ⟨a2, fun i h => absurd h (Nat.not_lt_zero i)⟩, ⟨a3, fun f h => absurd h (Nat.not_lt_zero f)⟩, ⟨a4, fun b h => absurd h (Nat.not_lt_zero b)⟩, ⟨a5, fun i h => absurd h (Nat.not_lt_zero i)⟩, ?_, fun h => absurd rfl h⟩
  rw [if_pos a6]
  rfl
theorem AR0 : AR c0 l0 K00 0 [] (fun _ => 0) 0 0 (-1) (fun _ => 0) 1 [] := by
  obtain ⟨-, -, -, -, -, -, b1, b2, b3, b4, b5, b6⟩ := c0_ref
  refine ⟨⟨RS0, VK0, by decide, b1⟩, ⟨b2, fun k h => absurd h (Nat.not_lt_zero k), fun k h => absurd h (Nat.not_lt_zero k)⟩, ⟨b3, fun k h => absurd h (Nat.not_lt_zero k)⟩, ⟨b4, b5, b6, fun i _ => c0_tape2 i⟩, fun k hk => ?_, c0_nums.2.2.2.2.2.2.2, fun p hp k hk => ?_⟩
  · exact (of_decide_eq_true (List.all_eq_true.mp c0_ref6 k (List.mem_range.mpr hk))).2
  · exact of_decide_eq_true (List.all_eq_true.mp (List.all_eq_true.mp c0_chs p hp) k (List.mem_range.mpr hk))
theorem VS0 : VS K00 0 [] (fun _ => 0) 0 0 (-1) 1 [] := by
  refine ⟨VK0, by decide, ⟨by decide, List.nodup_nil, fun p h => absurd h List.not_mem_nil⟩, ⟨by decide, fun _ => (by decide : 0 < 256)⟩, ⟨by decide, by decide⟩, ⟨by decide, by decide⟩, ⟨by decide, by decide⟩, ⟨by decide, fun b h => absurd h List.not_mem_nil⟩⟩
theorem INV0 : INV g0 := by
  refine ⟨K00, 0, [], fun _ => 0, 0, 0, -1, fun _ => 0, 1, [], AC0, AR0, VS0, ⟨fun h => absurd c0_nums.2.2.2.2.2.2.1 h, fun b h => absurd h (Nat.not_lt_zero b)⟩, fun p hp => Or.inl ?_⟩
  exact of_decide_eq_true (List.all_eq_true.mp c0_plan p (List.mem_range.mpr hp))
