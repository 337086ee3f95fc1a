/-! the heap behind the constructors, as the small machine has it -/
def kI (q j : Nat) : Int32 := match kH2[q]? with
  | some (.inl (_, fs)) => (match fs[j]? with
    | some (some (.inl v)) => v
    | _ => 0)
  | some (.inr (_, _, u)) => kui u j
  | none => 0
def kL (q j : Nat) : Int64 := match kH2[q]? with
  | some (.inl (_, fs)) => (match fs[j]? with
    | some (some (.inr (.inl v))) => v
    | _ => 0)
  | _ => 0
def c0 : Nat → Nat → Nat → Int32 := fun k i j => kI (am_off k i) j
def l0 : Nat → Nat → Int64 := fun k j => kL (am_off k 0) j
def g0 : mg := (c0, l0, 1, 0)
def kmf (k i C : Nat) (fs : List (Option mv)) (s : Nat) : Bool := match am_fty C s with
  | 1 => (match fs[s]? with
    | some (some (.inr (.inl _))) => Nat.beq i 0
    | _ => false)
  | 2 => (match fs[s]?, ar k s i 1 0 with
    | some (some (.inr (.inr (t, r)))), some r2 => Nat.beq t 200 && Nat.beq (am_off r2.1 r2.2) r
    | some none, none => true
    | _, _ => false)
  | _ => (match fs[s]? with
    | some (some (.inl _)) => true
    | _ => false)
def kmat1 (k i : Nat) (e : kcell) : Bool := match e with
  | .inl (C, fs) => Nat.beq (af k).1 C && (Nat.blt C 13 && (Nat.beq fs.length (af k).2 && (List.range fs.length).all (kmf k i C fs)))
  | .inr (t, n, u) => Nat.beq (af k).1 t && (Nat.ble 20 t && (Nat.beq n (af k).2 && (bif Nat.beq t 25 || Nat.beq t 26 then (List.range n).all (fun j => decide (kur 0 u j = (ae k i j).map (fun r => am_off r.1 r.2))) else true)))
def kmat (q : Nat) : Bool := match am_cells[q]?, kH2[q]? with
  | some (k, i), some e => kmat1 k i e
  | none, none => true
  | _, _ => false
theorem kmat_all : ((List.range 230).all kmat) = true := by decide +kernel
theorem kH2_len : kH2.length = 230 := by decide +kernel
theorem kur_base (base : Nat) : ∀ (u : List (Nat × mv)) (j : Nat), kur base u j = (kur 0 u j).map (fun r => base + r)
  | [], _ => rfl
  | (j0, .inr (.inr r)) :: l, j => by
    show va_up (kur base l) j0 (some (base + r.2)) j = (va_up (kur 0 l) j0 (some (0 + r.2)) j).map (fun r => base + r)
    unfold va_up
    by_cases h : j = j0
    · rw [if_pos h, if_pos h]
      show some (base + r.2) = some (base + (0 + r.2))
      rw [Nat.zero_add]
    · rw [if_neg h, if_neg h]
      exact kur_base base l j
  | (_, .inl _) :: l, j => kur_base base l j
  | (_, .inr (.inl _)) :: l, j => kur_base base l j
theorem arrV_congr {cA : ClassId} {n : Nat} {f h : Nat → Value} (hh : ∀ j, j < n → f j = h j) : arrV cA n f = arrV cA n h := by
  unfold arrV
  congr 2
  funext j
  exact hh j.val j.isLt
theorem kmf_1 {k i C s : Nat} {fs : List (Option mv)} (h : am_fty C s = 1) (hm : kmf k i C fs s = true) : ∃ v, fs[s]? = some (some (.inr (.inl v))) ∧ i = 0 := by
  unfold kmf at hm
  rw [h] at hm
  have hm : (match fs[s]? with
    | some (some (.inr (.inl _))) => Nat.beq i 0
    | _ => false) = true := hm
  split at hm
  next v hv => exact ⟨v, hv, Nat.eq_of_beq_eq_true hm⟩
  next => cases hm
theorem kmf_2 {k i C s : Nat} {fs : List (Option mv)} (h : am_fty C s = 2) (hm : kmf k i C fs s = true) : (∃ r2, fs[s]? = some (some (vr 200 (am_off r2.1 r2.2))) ∧ ar k s i 1 0 = some r2) ∨ (fs[s]? = some none ∧ ar k s i 1 0 = none) := by
  unfold kmf at hm
  rw [h] at hm
  have hm : (match fs[s]?, ar k s i 1 0 with
    | some (some (.inr (.inr (t, r)))), some r2 => Nat.beq t 200 && Nat.beq (am_off r2.1 r2.2) r
    | some none, none => true
    | _, _ => false) = true := hm
  split at hm
  next t r r2 hv hr =>
    obtain ⟨h1, h2⟩ := Bool.and_eq_true_iff.mp hm
    have e1 := Nat.eq_of_beq_eq_true h1
    have e2 := Nat.eq_of_beq_eq_true h2
    subst e1
    subst e2
    exact Or.inl ⟨r2, hv, hr⟩
  next hv hr => exact Or.inr ⟨hv, hr⟩
  next => cases hm
theorem kmf_0 {k i C s : Nat} {fs : List (Option mv)} (h1 : am_fty C s ≠ 1) (h2 : am_fty C s ≠ 2) (hm : kmf k i C fs s = true) : ∃ v, fs[s]? = some (some (.inl v)) := by
  unfold kmf at hm
  split at hm
  next q => exact absurd q h1
  next q => exact absurd q h2
  next =>
    split at hm
    next v hv => exact ⟨v, hv⟩
    next => cases hm
theorem fv_1 {base : Nat} {f : Nat → Int32} {h : Nat → Int64} {x y k i C s : Nat} (q : am_fty C s = 1) : am_fv base f h x y k i C s = .long (h s) := by
  unfold am_fv
  rw [q]
  rfl
theorem fv_2 {base : Nat} {f : Nat → Int32} {h : Nat → Int64} {x y k i C s : Nat} (q : am_fty C s = 2) : am_fv base f h x y k i C s = (match ar k s i x y with
    | some r => .ref (base + am_off r.1 r.2)
    | none => .null) := by
  unfold am_fv
  rw [q]
  rfl
theorem fv_0 {base : Nat} {f : Nat → Int32} {h : Nat → Int64} {x y k i C s : Nat} (q1 : am_fty C s ≠ 1) (q2 : am_fty C s ≠ 2) : am_fv base f h x y k i C s = .int (f s) := by
  unfold am_fv
  split
  next q => exact absurd q q1
  next q => exact absurd q q2
  next => rfl
theorem g0_field {base k i C q : Nat} {fs : List (Option mv)} (hq : am_off k i = q) (he : kH2[q]? = some (.inl (C, fs))) {s : Nat} (hm : kmf k i C fs s = true) : fs[s]?.map (kv base) = some (am_fv base (c0 k i) (l0 k) 1 0 k i C s) := by
  have hc : ∀ v, fs[s]? = some (some (.inl v)) → c0 k i s = v := by
    intro v hv
    show kI (am_off k i) s = v
    unfold kI
    rw [hq, he]
    dsimp only
    rw [hv]
  have hl : ∀ v, i = 0 → fs[s]? = some (some (.inr (.inl v))) → l0 k s = v := by
    intro v hi hv
    subst hi
    show kL (am_off k 0) s = v
    unfold kL
    rw [hq, he]
    dsimp only
    rw [hv]
  by_cases q1 : am_fty C s = 1
  · obtain ⟨v, hv, hi⟩ := kmf_1 q1 hm
    rw [fv_1 q1, hl v hi hv, hv]
    rfl
  · by_cases q2 : am_fty C s = 2
    · rw [fv_2 q2]
      rcases kmf_2 q2 hm with ⟨r2, hv, hr⟩ | ⟨hv, hr⟩
      · rw [hv, hr]
        rfl
      · rw [hv, hr]
        rfl
    · obtain ⟨v, hv⟩ := kmf_0 q1 q2 hm
      rw [fv_0 q1 q2, hc v hv, hv]
      rfl
theorem ec_l {base : Nat} {f : Nat → Int32} {h : Nat → Int64} {k i : Nat} (q : (af k).1 = 21) : am_ec base f h k i = .inr (.inl h) := by
  unfold am_ec
  rw [q]
  rfl
theorem ec_q {base : Nat} {f : Nat → Int32} {h : Nat → Int64} {k i : Nat} (q : (af k).1 = 25 ∨ (af k).1 = 26) : am_ec base f h k i = .inr (.inr (.inr (.inr (fun j => (ae k i j).map (fun r => base + am_off r.1 r.2))))) := by
  unfold am_ec
  rcases q with q | q
  · rw [q]
    rfl
  · rw [q]
    rfl
theorem ec_i {base : Nat} {f : Nat → Int32} {h : Nat → Int64} {k i : Nat} (q1 : (af k).1 ≠ 21) (q2 : (af k).1 ≠ 25) (q3 : (af k).1 ≠ 26) : am_ec base f h k i = .inl f := by
  unfold am_ec
  split
  next q => exact absurd q q1
  next q => exact absurd q q2
  next q => exact absurd q q3
  next => rfl
theorem kec_i {base t : Nat} {u : List (Nat × mv)} (q1 : t ≠ 21) (q2 : t ≠ 25) (q3 : t ≠ 26) : kec base t u = .inl (kui u) := by
  unfold kec
  split
  next => exact absurd rfl q1
  next => exact absurd rfl q2
  next => exact absurd rfl q3
  next => rfl
theorem g0_at {dC : Nat → ClassId} {dI : Nat → Nat → Nat} {aC : Nat → ClassId} {base k i q : Nat} {e : kcell} {H : Heap} (hk : k < 112) (hi : i < am_cnt k) (hq : am_off k i = q) (he : kH2[q]? = some e) (hm : kmat1 k i e = true) (h : va_at (dC, dI) classes (base + q, kE aC base e) H) : va_at (dC, dI) classes (base + q, am_e aC base (c0 k i) (l0 k) 1 0 k i) H := by
  match e, he, hm, h with
  | .inl (C, fs), he, hm, h =>
    obtain ⟨h1, h2⟩ := Bool.and_eq_true_iff.mp hm
    obtain ⟨h3, h4⟩ := Bool.and_eq_true_iff.mp h2
    obtain ⟨h5, h6⟩ := Bool.and_eq_true_iff.mp h4
    have e1 : (af k).1 = C := Nat.eq_of_beq_eq_true h1
    have e2 : C < 13 := Nat.le_of_ble_eq_true h3
    have e3 : fs.length = (af k).2 := Nat.eq_of_beq_eq_true h5
    have hE : am_e aC base (c0 k i) (l0 k) 1 0 k i = kE aC base (.inl (C, fs)) := by
      unfold am_e
      rw [if_pos (by rw [e1]; exact e2), e1, ← e3]
      show Sum.inr (C, _) = Sum.inr (C, _)
      refine congrArg (fun z => Sum.inr (C, z)) ?_
      apply List.ext_getElem?
      intro s
      rw [List.getElem?_map, List.getElem?_map]
      by_cases hs : s < fs.length
      · rw [List.getElem?_range hs]
        exact (g0_field hq he (List.all_eq_true.mp h6 s (List.mem_range.mpr hs))).symm
      · rw [List.getElem?_eq_none (by rw [List.length_range]; omega), List.getElem?_eq_none (by omega)]
        rfl
    rw [hE]
    exact h
  | .inr (t, n, u), he, hm, h =>
    obtain ⟨h1, h2⟩ := Bool.and_eq_true_iff.mp hm
    obtain ⟨h3, h4⟩ := Bool.and_eq_true_iff.mp h2
    obtain ⟨h5, h6⟩ := Bool.and_eq_true_iff.mp h4
    have e1 : (af k).1 = t := Nat.eq_of_beq_eq_true h1
    have e2 : 20 ≤ t := Nat.le_of_ble_eq_true h3
    have e3 : n = (af k).2 := Nat.eq_of_beq_eq_true h5
    have hc : ∀ j, c0 k i j = kui u j := by
      intro j
      show kI (am_off k i) j = _
      unfold kI
      rw [hq, he]
    have hE : am_e aC base (c0 k i) (l0 k) 1 0 k i = .inl (aC t, n, am_ec base (c0 k i) (l0 k) k i) := by
      unfold am_e
      rw [if_neg (by rw [e1]; omega), e1, ← e3]
    rw [hE]
    have h : H[base + q]? = some (vp_cell (aC t) (n, kec base t u)) := h
    show H[base + q]? = some (vp_cell (aC t) (n, am_ec base (c0 k i) (l0 k) k i))
    rw [h]
    refine congrArg some ?_
    by_cases t21 : t = 21
    · subst t21
      have hi0 : i = 0 := by
        have := af_long k hk (Or.inl e1)
        omega
      subst hi0
      have hl : ∀ j, l0 k j = 0 := by
        intro j
        show kL (am_off k 0) j = 0
        unfold kL
        rw [hq, he]
      rw [ec_l e1]
      show vp_cell (aC 21) (n, .inr (.inl (fun _ => 0))) = vp_cell (aC 21) (n, .inr (.inl (l0 k)))
      rw [vp_cell_l, vp_cell_l]
      refine arrV_congr (fun j _ => ?_)
      show Value.long 0 = Value.long (l0 k j)
      rw [hl j]
    · by_cases t2 : t = 25 ∨ t = 26
      · have hb : (Nat.beq t 25 || Nat.beq t 26) = true := by rcases t2 with rfl | rfl <;> rfl
        rw [hb, cond_true] at h6
        have hk2 : kec base t u = .inr (.inr (.inr (.inr (kur base u)))) := by rcases t2 with rfl | rfl <;> rfl
        rw [ec_q (by rw [e1]; exact t2), hk2, vp_cell_q, vp_cell_q]
        refine arrV_congr (fun j hj => ?_)
        have h8 := of_decide_eq_true (List.all_eq_true.mp h6 j (List.mem_range.mpr hj))
        rw [kur_base, h8, Option.map_map]
        rfl
      · rw [ec_i (by rw [e1]; exact t21) (by rw [e1]; exact fun q => t2 (Or.inl q)) (by rw [e1]; exact fun q => t2 (Or.inr q)), kec_i t21 (fun q => t2 (Or.inl q)) (fun q => t2 (Or.inr q)), vp_cell_i, vp_cell_i]
        refine arrV_congr (fun j _ => ?_)
        rw [hc j]
/-- the world behind the two constructors is g0's -/
theorem g0_world {dC : Nat → ClassId} {dI : Nat → Nat → Nat} {aC : Nat → ClassId} {base : Nat} {H : Heap} (h : va_P (dC, dI) classes (kw aC base kH2) H) : va_P (dC, dI) classes (am_w aC base g0) H := by
  intro q p hp
  obtain ⟨k, i, hc, rfl⟩ := am_w_get hp
  obtain ⟨o1, o2, o3⟩ := am_cells_off hc
  have hq : q < 230 := (List.getElem?_eq_some_iff.mp hc).1
  have hm := List.all_eq_true.mp kmat_all q (List.mem_range.mpr hq)
  unfold kmat at hm
  rw [hc] at hm
  cases he : kH2[q]? with
  | none => rw [he] at hm; cases hm
  | some e =>
    rw [he] at hm
    exact g0_at o1 o2 o3 he hm (h q _ (kw_at he))
