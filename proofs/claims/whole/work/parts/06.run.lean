/-! runs of the small machine; their limit X; many ops at once -/
def am_asc {α : Type} : List (Nat × α) → Nat → Option α
  | [], _ => none
  | (k, v) :: l, n => match Nat.beq k n with
    | true => some v
    | false => am_asc l n
def am_cut (m k : Nat) : Option (List Bool) := am_asc (am_kuts m) k
def am_msk (m k : Nat) (ls : ml) : ml := match am_cut m k with
  | some b => am_mask b ls
  | none => ls
def am_entA : List mv → ml
  | [] => []
  | .inr (.inl w) :: l => some (.inr (.inl w)) :: none :: am_entA l
  | .inl w :: l => some (.inl w) :: am_entA l
  | .inr (.inr w) :: l => some (.inr (.inr w)) :: am_entA l
def am_pad : Nat → ml → ml
  | 0, _ => []
  | n + 1, [] => none :: am_pad n []
  | n + 1, v :: l => v :: am_pad n l
def am_ent (m : Nat) (args : List mv) : ml := am_pad (am_head m).2.1 (am_entA args)
def am_cx (f : Nat → Nat → Nat → ml → List mv → mg → Option mr) : Nat → Nat → List mv → mg → Option mr
  | 0 => fun _ _ _ => none
  | d + 1 => fun y args g => f d y 0 (am_ent y args) [] g
def am_x : Nat → Nat → Nat → Nat → ml → List mv → mg → Option mr
  | 0 => fun _ _ _ _ _ _ => none
  | n + 1 => fun d m k ls st g => match am_nth (am_prog m) k with
    | none => none
    | some o => am_do (am_x n d m) (am_cx (am_x n) d) o k (am_msk m k ls) st g
/-- what a use of one op rests on -/
def am_Use (K : Nat → ml → List mv → mg → Option mr) (C : Nat → List mv → mg → Option mr) (r : mr) (f : (Nat → ml → List mv → mg → Option mr) → (Nat → List mv → mg → Option mr) → Option mr) : Prop :=
  (∀ K2 C2, f K2 C2 = some r) ∨ (∃ k ls st g, K k ls st g = some r ∧ ∀ K2 C2, K2 k ls st g = some r → f K2 C2 = some r) ∨
  (∃ y as g0 rc k ls st g, C y as g0 = some rc ∧ K k ls st g = some r ∧ ∀ K2 C2, C2 y as g0 = some rc → K2 k ls st g = some r → f K2 C2 = some r)
theorem am_Use.k {K C r f} (k : Nat) (ls : ml) (st : List mv) (g : mg) (h : K k ls st g = some r) (hf : ∀ K2 C2, f K2 C2 = K2 k ls st g) : am_Use K C r f :=
  Or.inr (Or.inl ⟨k, ls, st, g, h, fun K2 C2 h2 => (hf K2 C2).trans h2⟩)
theorem am_Use.r {K C r f} (hf : ∀ K2 C2, f K2 C2 = some r) : am_Use K C r f := Or.inl hf
theorem am_Use.eq {K C r f f2} (h : am_Use K C r f) (he : ∀ K2 C2, f2 K2 C2 = f K2 C2) : am_Use K C r f2 := by
  rcases h with h | ⟨k, ls, st, g, h1, h2⟩ | ⟨y, as, g0, rc, k, ls, st, g, h0, h1, h2⟩
  · exact Or.inl fun K2 C2 => (he K2 C2).trans (h K2 C2)
  · exact Or.inr (Or.inl ⟨k, ls, st, g, h1, fun K2 C2 h3 => (he K2 C2).trans (h2 K2 C2 h3)⟩)
  · exact Or.inr (Or.inr ⟨y, as, g0, rc, k, ls, st, g, h0, h1, fun K2 C2 h3 h4 => (he K2 C2).trans (h2 K2 C2 h3 h4)⟩)
theorem am_Use.ite {K C r} {p : Prop} [Decidable p] {f1 f2 : (Nat → ml → List mv → mg → Option mr) → (Nat → List mv → mg → Option mr) → Option mr} (h : (if p then f1 K C else f2 K C) = some r) (h1 : f1 K C = some r → am_Use K C r f1) (h2 : f2 K C = some r → am_Use K C r f2) : am_Use K C r (fun K C => if p then f1 K C else f2 K C) := by
  by_cases hp : p
  · rw [if_pos hp] at h
    exact (h1 h).eq fun K2 C2 => if_pos hp
  · rw [if_neg hp] at h
    exact (h2 h).eq fun K2 C2 => if_neg hp
theorem am_Use.swf {K C r} {x : Int32} {ls : ml} {st : List mv} {g : mg} : ∀ (l : List (Int32 × Nat)) (d : Nat), am_swf x l d (fun t => K t ls st g) = some r → am_Use K C r (fun K _ => am_swf x l d (fun t => K t ls st g))
  | [], d, h => am_Use.k d ls st g h (fun _ _ => rfl)
  | (v, t) :: l, d, h => by
    refine am_Use.ite (p := x = v) (f1 := fun K _ => K t ls st g) (f2 := fun K _ => am_swf x l d (fun t => K t ls st g)) h (fun h1 => am_Use.k t ls st g h1 (fun _ _ => rfl)) (fun h1 => am_Use.swf l d h1)
theorem am_bv_some {o : Option mr} {f : mg → Option mr} {r : mr} (h : am_bv o f = some r) : ∃ g, o = some (none, g) ∧ f g = some r := by
  unfold am_bv at h
  split at h
  · exact ⟨_, rfl, h⟩
  · cases h
theorem am_bi_some {o : Option mr} {f : Int32 → mg → Option mr} {r : mr} (h : am_bi o f = some r) : ∃ v g, o = some (some (vi v), g) ∧ f v g = some r := by
  unfold am_bi at h
  split at h
  · exact ⟨_, _, rfl, h⟩
  · cases h
theorem am_bl_some {o : Option mr} {f : Int64 → mg → Option mr} {r : mr} (h : am_bl o f = some r) : ∃ v g, o = some (some (vl v), g) ∧ f v g = some r := by
  unfold am_bl at h
  split at h
  · exact ⟨_, _, rfl, h⟩
  · cases h
theorem am_Use.inv {K C r} {a b c k : Nat} {ls : ml} {st : List mv} {g : mg} (h : am_inv K C a b c k ls st g = some r) : am_Use K C r (fun K C => am_inv K C a b c k ls st g) := by
  unfold am_inv at h ⊢
  by_cases hp : b ≤ st.length ∧ am_cat (st.drop b) ≤ 8 ∧ am_cat (st.take b).reverse ≤ (am_head a).2.1
  · rw [if_pos hp] at h
    refine am_Use.eq (f := fun K C => match (generalizing := false) c with
      | 0 => am_bv (C a (st.take b).reverse g) (fun g => K (k + 1) ls (st.drop b) g)
      | 1 => am_bi (C a (st.take b).reverse g) (fun v g => K (k + 1) ls (vi v :: st.drop b) g)
      | 2 => am_bl (C a (st.take b).reverse g) (fun v g => K (k + 1) ls (vl v :: st.drop b) g)
      | _ => none) ?_ (fun K2 C2 => if_pos hp)
    match c, h with
    | 0, h =>
      obtain ⟨g2, h1, h2⟩ := am_bv_some h
      exact Or.inr (Or.inr ⟨_, _, _, _, _, _, _, _, h1, h2, fun K2 C2 h3 h4 => by simp only [h3, am_bv]; exact h4⟩)
    | 1, h =>
      obtain ⟨v, g2, h1, h2⟩ := am_bi_some h
      exact Or.inr (Or.inr ⟨_, _, _, _, _, _, _, _, h1, h2, fun K2 C2 h3 h4 => by simp only [h3, am_bi]; exact h4⟩)
    | 2, h =>
      obtain ⟨v, g2, h1, h2⟩ := am_bl_some h
      exact Or.inr (Or.inr ⟨_, _, _, _, _, _, _, _, h1, h2, fun K2 C2 h3 h4 => by simp only [h3, am_bl]; exact h4⟩)
    | n + 3, h => cases h
  · rw [if_neg hp] at h
    cases h
theorem am_Use.math {K C r} {a k : Nat} {ls : ml} {st : List mv} {g : mg} (h : am_math K a k ls st g = some r) : am_Use K C r (fun K _ => am_math K a k ls st g) := by
  have i2 : ∀ f : Int32 → Int32 → Int32, am_m2i f K k ls st g = some r → am_Use K C r (fun K _ => am_m2i f K k ls st g) := by
    intro f h
    match st, h with
    | .inl y :: .inl x :: st, h => exact am_Use.ite h (fun h => am_Use.k _ _ _ _ h (fun _ _ => rfl)) (fun h => by cases h)
    | [], h => cases h
    | [.inl _], h => cases h
    | .inl _ :: .inr _ :: _, h => cases h
    | .inr _ :: _, h => cases h
  have l2 : ∀ f : Int64 → Int64 → Int64, am_m2l f K k ls st g = some r → am_Use K C r (fun K _ => am_m2l f K k ls st g) := by
    intro f h
    match st, h with
    | .inr (.inl y) :: .inr (.inl x) :: st, h => exact am_Use.ite h (fun h => am_Use.k _ _ _ _ h (fun _ _ => rfl)) (fun h => by cases h)
    | [], h => cases h
    | .inl _ :: _, h => cases h
    | [.inr (.inl _)], h => cases h
    | .inr (.inr _) :: _, h => cases h
    | .inr (.inl _) :: .inl _ :: _, h => cases h
    | .inr (.inl _) :: .inr (.inr _) :: _, h => cases h
  refine am_Use.ite h (fun h => i2 _ h) (fun h => am_Use.ite h (fun h => i2 _ h) (fun h => am_Use.ite h (fun h => l2 _ h) (fun h => am_Use.ite h (fun h => l2 _ h) (fun h => ?_))))
  match st, h with
  | .inl y :: .inl x :: st, h => exact am_Use.ite h (fun h => by cases h) (fun h => am_Use.ite h (fun h => am_Use.k _ _ _ _ h (fun _ _ => rfl)) (fun h => by cases h))
  | [], h => cases h
  | [.inl _], h => cases h
  | .inl _ :: .inr _ :: _, h => cases h
  | .inr _ :: _, h => cases h
set_option maxHeartbeats 4000000 in
theorem am_do_use {K C r} {o : mo} {k : Nat} {ls : ml} {st : List mv} {g : mg} (h : am_do K C o k ls st g = some r) : am_Use K C r (fun K C => am_do K C o k ls st g) := by
  obtain ⟨i, a, b, c, z⟩ := o
  cases i
  case invokestatic => exact am_Use.ite h (fun h => am_Use.math h) (fun h => am_Use.inv h)
  case invokevirtual =>
    refine am_Use.ite (p := a = 900) h (fun h => ?_) (fun h => am_Use.ite (p := a = 901) h (fun h => ?_) (fun h => am_Use.ite h (fun h => am_Use.inv h) (fun h => by cases h)))
    · split at h
      · refine am_Use.ite h (fun h => am_Use.k _ _ _ _ h (fun _ _ => rfl)) (fun h => by cases h)
      · cases h
    · split at h
      · refine am_Use.ite h (fun h => am_Use.ite h (fun h => by cases h) (fun h => am_Use.k _ _ _ _ h (fun _ _ => rfl))) (fun h => by cases h)
      · cases h
  case tableswitch =>
    match st, h with
    | .inl x :: st, h =>
      show am_Use K C r (fun K C => match am_nth am_sws a with | some (l, d) => am_swf x l d (fun t => K t ls st g) | none => none)
      change (match am_nth am_sws a with | some (l, d) => am_swf x l d (fun t => K t ls st g) | none => none) = some r at h
      cases hs : am_nth am_sws a with
      | none => rw [hs] at h; cases h
      | some q =>
        rw [hs] at h
        exact am_Use.swf _ _ h
    | [], h => cases h
    | .inr _ :: _, h => cases h
  case lookupswitch =>
    match st, h with
    | .inl x :: st, h =>
      show am_Use K C r (fun K C => match am_nth am_sws a with | some (l, d) => am_swf x l d (fun t => K t ls st g) | none => none)
      change (match am_nth am_sws a with | some (l, d) => am_swf x l d (fun t => K t ls st g) | none => none) = some r at h
      cases hs : am_nth am_sws a with
      | none => rw [hs] at h; cases h
      | some q =>
        rw [hs] at h
        exact am_Use.swf _ _ h
    | [], h => cases h
    | .inr _ :: _, h => cases h
  case ifCond cond off =>
    cases cond <;> (
      match st, h with
      | .inl x :: st, h => exact am_Use.ite h (fun h => am_Use.k _ _ _ _ h (fun _ _ => rfl)) (fun h => am_Use.k _ _ _ _ h (fun _ _ => rfl))
      | [], h => cases h
      | .inr _ :: _, h => cases h)
  case if_icmp cond off =>
    cases cond <;> (
      match st, h with
      | .inl y :: .inl x :: st, h => exact am_Use.ite h (fun h => am_Use.k _ _ _ _ h (fun _ _ => rfl)) (fun h => am_Use.k _ _ _ _ h (fun _ _ => rfl))
      | [], h => cases h
      | [.inl _], h => cases h
      | .inl _ :: .inr _ :: _, h => cases h
      | .inr _ :: _, h => cases h)
  case bastore =>
    match st, h with
    | .inl v :: .inl j :: .inr (.inr (kd, i)) :: st, h =>
      exact am_Use.ite h (fun h => am_Use.ite h (fun h => by cases h) (fun h => am_Use.k _ _ _ _ h (fun _ _ => rfl))) (fun h => am_Use.ite h (fun h => am_Use.ite h (fun h => by cases h) (fun h => am_Use.k _ _ _ _ h (fun _ _ => rfl))) (fun h => by cases h))
    | [], h => cases h
    | [.inl _], h => cases h
    | [.inl _, .inl _], h => cases h
    | .inl _ :: .inl _ :: .inl _ :: _, h => cases h
    | .inl _ :: .inl _ :: .inr (.inl _) :: _, h => cases h
    | .inl _ :: .inr _ :: _, h => cases h
    | .inr _ :: _, h => cases h
  all_goals first
    | (change none = some r at h; cases h; done)
    | exact am_Use.k _ _ _ _ h (fun _ _ => rfl)
    | skip
  all_goals
    simp only [am_do] at h ⊢
    (repeat' split at h) <;> first
      | (change none = some r at h; cases h; done)
      | (refine am_Use.k _ _ _ _ h (fun _ _ => ?_); simp only [*, and_self, ↓reduceIte]; done)
      | (refine am_Use.r (fun _ _ => ?_); simp only [*, and_self, ↓reduceIte]; done)
      | skip
