/-! the limit of the runs, an equation an op, many ops at once -/
theorem am_cx_mono {f f2 : Nat → Nat → Nat → ml → List mv → mg → Option mr} (h : ∀ d m k ls st g r, f d m k ls st g = some r → f2 d m k ls st g = some r) : ∀ d y as g r, am_cx f d y as g = some r → am_cx f2 d y as g = some r
  | 0, _, _, _, _, h1 => by cases h1
  | d + 1, _, _, _, _, h1 => h _ _ _ _ _ _ _ h1
theorem am_x_succ : ∀ n d m k ls st g r, am_x n d m k ls st g = some r → am_x (n + 1) d m k ls st g = some r := by
  intro n
  induction n with
  | zero => intro d m k ls st g r h; cases h
  | succ n ih =>
    intro d m k ls st g r h
    unfold am_x at h ⊢
    try dsimp only at h ⊢
    cases hp : am_nth (am_prog m) k with
    | none => rw [hp] at h; cases h
    | some o =>
      rw [hp] at h
      try dsimp only at h ⊢
      rcases am_do_use h with h1 | ⟨k1, l1, s1, g1, h1, h2⟩ | ⟨y, as, g0, rc, k1, l1, s1, g1, h0, h1, h2⟩
      · exact h1 _ _
      · exact h2 _ _ (ih _ _ _ _ _ _ _ h1)
      · exact h2 _ _ (am_cx_mono ih _ _ _ _ _ h0) (ih _ _ _ _ _ _ _ h1)
theorem am_x_le {n n2 d m k ls st g r} (h : am_x n d m k ls st g = some r) (hn : n ≤ n2) : am_x n2 d m k ls st g = some r := by
  induction hn with
  | refl => exact h
  | step _ ih => exact am_x_succ _ _ _ _ _ _ _ _ ih
noncomputable def X (d m k : Nat) (ls : ml) (st : List mv) (g : mg) : Option mr :=
  @dite _ (∃ r, ∃ n, am_x n d m k ls st g = some r) (Classical.propDecidable _) (fun h => some h.choose) (fun _ => none)
theorem X_iff {d m k ls st g r} : X d m k ls st g = some r ↔ ∃ n, am_x n d m k ls st g = some r := by
  unfold X
  by_cases h : ∃ r, ∃ n, am_x n d m k ls st g = some r
  · rw [dif_pos h]
    obtain ⟨n, hn⟩ := h.choose_spec
    constructor
    · intro e
      have e := Option.some.inj e
      exact ⟨n, e ▸ hn⟩
    · rintro ⟨n2, h2⟩
      have a := am_x_le hn (Nat.le_max_left n n2)
      have b := am_x_le h2 (Nat.le_max_right n n2)
      exact a.symm.trans b
  · rw [dif_neg h]
    constructor
    · intro e; cases e
    · rintro ⟨n, hn⟩; exact absurd ⟨r, n, hn⟩ h
/-- a call, with d levels below it -/
noncomputable def E (d y : Nat) (as : List mv) (g : mg) : Option mr := X d y 0 (am_ent y as) [] g
theorem X_eq {d m k ls st g} : X (d + 1) m k ls st g = match am_nth (am_prog m) k with
    | none => none
    | some o => am_do (X (d + 1) m) (E d) o k (am_msk m k ls) st g := by
  apply Option.ext
  intro r
  cases hp : am_nth (am_prog m) k with
  | none =>
    try dsimp only
    constructor
    · intro h
      obtain ⟨n, hn⟩ := X_iff.mp h
      cases n with
      | zero => cases hn
      | succ n => unfold am_x at hn; rw [hp] at hn; cases hn
    · intro h; cases h
  | some o =>
    try dsimp only
    constructor
    · intro h
      obtain ⟨n, hn⟩ := X_iff.mp h
      cases n with
      | zero => cases hn
      | succ n =>
        unfold am_x at hn
        try dsimp only at hn
        rw [hp] at hn
        try dsimp only at hn
        rcases am_do_use hn with h1 | ⟨k1, l1, s1, g1, h1, h2⟩ | ⟨y, as, g0, rc, k1, l1, s1, g1, h0, h1, h2⟩
        · exact h1 _ _
        · exact h2 _ _ (X_iff.mpr ⟨_, h1⟩)
        · exact h2 _ _ (X_iff.mpr ⟨_, h0⟩) (X_iff.mpr ⟨_, h1⟩)
    · intro h
      rcases am_do_use h with h1 | ⟨k1, l1, s1, g1, h1, h2⟩ | ⟨y, as, g0, rc, k1, l1, s1, g1, h0, h1, h2⟩
      · refine X_iff.mpr ⟨1, ?_⟩
        unfold am_x
        try dsimp only
        rw [hp]
        exact h1 _ _
      · obtain ⟨n, hn⟩ := X_iff.mp h1
        refine X_iff.mpr ⟨n + 1, ?_⟩
        unfold am_x
        try dsimp only
        rw [hp]
        exact h2 _ _ hn
      · obtain ⟨n, hn⟩ := X_iff.mp h1
        obtain ⟨n2, hn2⟩ := X_iff.mp h0
        refine X_iff.mpr ⟨max n n2 + 1, ?_⟩
        unfold am_x
        try dsimp only
        rw [hp]
        exact h2 _ _ (am_x_le hn2 (Nat.le_max_right n n2)) (am_x_le hn (Nat.le_max_left n n2))
theorem am_mask_mask : ∀ (b : List Bool) (ls : ml), am_mask b (am_mask b ls) = am_mask b ls
  | [], ls => by cases ls <;> rfl
  | b :: bs, [] => rfl
  | b :: bs, v :: vs => by
    show _ :: am_mask bs (am_mask bs vs) = _ :: am_mask bs vs
    rw [am_mask_mask bs vs]
    cases b <;> rfl
theorem X_mask {d m k ls st g b} (h : am_cut m k = some b) : X (d + 1) m k ls st g = X (d + 1) m k (am_mask b ls) st g := by
  rw [X_eq, X_eq]
  have e1 : am_msk m k ls = am_mask b ls := by unfold am_msk; rw [h]
  have e2 : am_msk m k (am_mask b ls) = am_mask b ls := by unfold am_msk; rw [h]; exact am_mask_mask b ls
  rw [e1, e2]
def am_drop {α : Type} : List α → Nat → List α
  | l, 0 => l
  | [], _ + 1 => []
  | _ :: l, n + 1 => am_drop l n
theorem am_drop_nth {α : Type} : ∀ (l : List α) (k : Nat), am_nth l k = (match am_drop l k with | [] => none | a :: _ => some a)
  | [], 0 => rfl
  | [], _ + 1 => rfl
  | _ :: _, 0 => rfl
  | _ :: l, k + 1 => am_drop_nth l k
theorem am_drop_tail {α : Type} : ∀ (l : List α) (k : Nat) (a : α) (t : List α), am_drop l k = a :: t → am_drop l (k + 1) = t
  | [], 0, _, _, h => by cases h
  | [], _ + 1, _, _, h => by cases h
  | b :: l, 0, a, t, h => by
    cases h
    cases l <;> rfl
  | b :: l, k + 1, a, t, h => am_drop_tail l k a t h
/-- n ops at once, up to a cut; the code from here on is in hand -/
def am_sx (K : Nat → ml → List mv → mg → Option mr) (C : Nat → List mv → mg → Option mr) (cd : List mo) (ct : List (Nat × List Bool)) : Nat → List mo → Nat → ml → List mv → mg → Option mr
  | 0 => fun _ => K
  | n + 1 => fun rest k ls st g => match rest with
    | [] => none
    | o :: tl => am_do (fun k2 ls st g => match am_asc ct k2 with
      | some b => K k2 (am_mask b ls) st g
      | none => am_sx K C cd ct n (bif Nat.beq k2 (k + 1) then tl else am_drop cd k2) k2 ls st g) C o k ls st g
theorem am_sx_eq {d m : Nat} : ∀ (n : Nat) (rest : List mo) (k : Nat) (ls : ml) (st : List mv) (g : mg), rest = am_drop (am_prog m) k → am_msk m k ls = ls → X (d + 1) m k ls st g = am_sx (X (d + 1) m) (E d) (am_prog m) (am_kuts m) n rest k ls st g := by
  intro n
  induction n with
  | zero => intro rest k ls st g _ _; rfl
  | succ n ih =>
    intro rest k ls st g hr hm
    rw [X_eq, am_drop_nth, ← hr, hm]
    cases rest with
    | nil => rfl
    | cons o tl =>
      show am_do (X (d + 1) m) (E d) o k ls st g = am_do (fun k2 ls st g => match am_asc (am_kuts m) k2 with
        | some b => X (d + 1) m k2 (am_mask b ls) st g
        | none => am_sx (X (d + 1) m) (E d) (am_prog m) (am_kuts m) n (bif Nat.beq k2 (k + 1) then tl else am_drop (am_prog m) k2) k2 ls st g) (E d) o k ls st g
      congr 1
      funext k2 ls2 st2 g2
      cases hc : am_asc (am_kuts m) k2 with
      | some b =>
        show X (d + 1) m k2 ls2 st2 g2 = X (d + 1) m k2 (am_mask b ls2) st2 g2
        exact X_mask (show am_cut m k2 = some b from hc)
      | none =>
        show X (d + 1) m k2 ls2 st2 g2 = am_sx _ _ _ _ n _ k2 ls2 st2 g2
        refine ih _ k2 ls2 st2 g2 ?_ (by unfold am_msk; rw [show am_cut m k2 = none from hc])
        cases hb : Nat.beq k2 (k + 1) with
        | true =>
          have e := Nat.eq_of_beq_eq_true hb
          subst e
          exact (am_drop_tail _ _ _ _ hr.symm).symm
        | false => rfl
theorem X_run {d m k : Nat} {ls : ml} {st : List mv} {g : mg} (n : Nat) (cd : List mo) (ct : List (Nat × List Bool)) {r : Option mr} (h1 : am_prog m = cd) (h2 : am_kuts m = ct) (h3 : am_msk m k ls = ls) (h : am_sx (X (d + 1) m) (E d) cd ct n (am_drop cd k) k ls st g = r) : X (d + 1) m k ls st g = r := by
  subst h1
  subst h2
  rw [← h]
  exact am_sx_eq n _ k ls st g rfl h3
