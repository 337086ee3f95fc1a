/-! one theorem an instruction: arrays, putfield -/
theorem am_ec_i {base : Nat} {f : Nat → Int32} {h : Nat → Int64} {k i : Nat} (h1 : (af k).1 ≠ 21) (h2 : (af k).1 ≠ 25) (h3 : (af k).1 ≠ 26) : am_ec base f h k i = .inl f := by
  unfold am_ec
  split
  · rename_i q; exact absurd q h1
  · rename_i q; exact absurd q h2
  · rename_i q; exact absurd q h3
  · rfl
theorem am_ec_l {base : Nat} {f : Nat → Int32} {h : Nat → Int64} {k i : Nat} (h1 : (af k).1 = 21) : am_ec base f h k i = .inr (.inl h) := by
  unfold am_ec
  rw [h1]
  rfl
theorem am_ec_r {base : Nat} {f : Nat → Int32} {h : Nat → Int64} {k i : Nat} (h1 : (af k).1 = 25 ∨ (af k).1 = 26) : am_ec base f h k i = .inr (.inr (.inr (.inr (fun j => (ae k i j).map (fun r => base + am_off r.1 r.2))))) := by
  unfold am_ec
  rcases h1 with h1 | h1 <;> rw [h1] <;> rfl
theorem am_e_x {aC : Nat → ClassId} {base : Nat} {f : Nat → Int32} {h : Nat → Int64} {x y x2 y2 k i : Nat} (hk : k < 112) (hx : k = 20 → x = x2) (hy : k = 3 → y = y2) : am_e aC base f h x y k i = am_e aC base f h x2 y2 k i := by
  have key : ∀ s, ar k s i x y = ar k s i x2 y2 := by
    intro s
    unfold ar
    split
    · rfl
    · rfl
    · rename_i k2 q
      rw [hx (am_rf_ent hk q).2.1.2]
    · rename_i k2 q
      rw [hy (am_rf_ent hk q).2.1.2]
    · rfl
  have e2 : am_fv base f h x y k i (af k).1 = am_fv base f h x2 y2 k i (af k).1 := by
    funext s
    unfold am_fv
    rw [key s]
  unfold am_e
  rw [e2]
theorem am_not_in {n : Nat} {j : Int32} (h : ¬ (j < 0 ∨ n ≤ j.toNatClampNeg)) : vp_in j n := h
section AMA
variable {l : Launch} {dC : Nat → ClassId} {dI : Nat → Nat → Nat} {aC : Nat → ClassId} {base : Nat} {adK adV : Nat → Nat} {p : Program} {e : Env} {s : State} {m : MethodId} {args : Array Value} {below : List Frame} {meth : Method} {c : Code} {mi d : Nat} {r : Option mv} {g2 : mg} {K : Nat → ml → List mv → mg → Option mr} {C : Nat → List mv → mg → Option mr} {k : Nat} {ls : ml} {st : List mv} {g : mg} {H : Heap} {locs : List Loc} {b : Nat} {LS : Array Slot} {a bb cc : Nat} {z : mv}
theorem am_r_iaload (X : am_X l dC dI aC base adK adV p e s m args below meth c mi d r g2 K k ls st g H locs b LS) (hd : decode (am_B mi) b = .ok (.iaload, 1)) (hn : am_nth (am_bp mi) (k + 1) = some (b + 1)) (h : am_do K C (.iaload, a, bb, cc, z) k ls st g = some (r, g2)) : am_Go l dC dI aC base adK p e s m args below meth c mi d r g2 H locs b LS st := by
  obtain ⟨hmi, ⟨hx, hb, hml, hown, hts, hret, hlk, hS⟩, hK, hL, hP, hV, ok, hbk⟩ := X
  change (match (generalizing := false) st with
      | .inl j :: .inr (.inr (kd, i)) :: st => if (af kd).1 = 20 then (if j < 0 ∨ (af kd).2 ≤ j.toNatClampNeg then none else K (k + 1) ls (vi (g.1 kd i j.toNatClampNeg) :: st) g) else none
      | _ => none) = some (r, g2) at h
  split at h
  next j kd i st1 =>
    by_cases hf0 : (af kd).1 = 20
    · rw [if_pos hf0] at h
      by_cases hj : j < 0 ∨ (af kd).2 ≤ j.toNatClampNeg
      · rw [if_pos hj] at h; cases h
      · rw [if_neg hj] at h
        have hf := hf0
        obtain ⟨hk, hi⟩ := am_okv_ref (am_ok_h (am_ok_t ok.2.1)) (by omega)
        have he := am_w_at aC base g hk hi
        rw [am_e_arr (C := 20) (by omega) hf, am_ec_i (by omega) (by omega) (by omega)] at he
        unfold am_Go
        show W _ _ _ _ _ _ _ _ _ _ _ _ _ _ _ (F0 m b LS (Value.int j :: Value.ref (am_ad base adK kd i) :: _))
        rw [am_ad_eq hk]
        exact va_iald hx hb hS.1 hP (am_off kd i) 0 he rfl (am_not_in hj) hd (hK _ _ _ _ h (ok.st (am_ok_c (am_ok_i _) (am_ok_t (am_ok_t ok.2.1)))) _ _ _ _ hL hP hV hn)
    · rw [if_neg hf0] at h; cases h
  next => cases h
theorem am_r_caload (X : am_X l dC dI aC base adK adV p e s m args below meth c mi d r g2 K k ls st g H locs b LS) (hd : decode (am_B mi) b = .ok (.caload, 1)) (hn : am_nth (am_bp mi) (k + 1) = some (b + 1)) (h : am_do K C (.caload, a, bb, cc, z) k ls st g = some (r, g2)) : am_Go l dC dI aC base adK p e s m args below meth c mi d r g2 H locs b LS st := by
  obtain ⟨hmi, ⟨hx, hb, hml, hown, hts, hret, hlk, hS⟩, hK, hL, hP, hV, ok, hbk⟩ := X
  change (match (generalizing := false) st with
      | .inl j :: .inr (.inr (kd, i)) :: st => if (af kd).1 = 24 then (if j < 0 ∨ (af kd).2 ≤ j.toNatClampNeg then none else K (k + 1) ls (vi (g.1 kd i j.toNatClampNeg) :: st) g) else none
      | _ => none) = some (r, g2) at h
  split at h
  next j kd i st1 =>
    by_cases hf0 : (af kd).1 = 24
    · rw [if_pos hf0] at h
      by_cases hj : j < 0 ∨ (af kd).2 ≤ j.toNatClampNeg
      · rw [if_pos hj] at h; cases h
      · rw [if_neg hj] at h
        have hf := hf0
        obtain ⟨hk, hi⟩ := am_okv_ref (am_ok_h (am_ok_t ok.2.1)) (by omega)
        have he := am_w_at aC base g hk hi
        rw [am_e_arr (C := 24) (by omega) hf, am_ec_i (by omega) (by omega) (by omega)] at he
        unfold am_Go
        show W _ _ _ _ _ _ _ _ _ _ _ _ _ _ _ (F0 m b LS (Value.int j :: Value.ref (am_ad base adK kd i) :: _))
        rw [am_ad_eq hk]
        exact va_cald hx hb hS.1 hP (am_off kd i) 4 he rfl (am_not_in hj) hd (hK _ _ _ _ h (ok.st (am_ok_c (am_ok_i _) (am_ok_t (am_ok_t ok.2.1)))) _ _ _ _ hL hP hV hn)
    · rw [if_neg hf0] at h; cases h
  next => cases h
theorem am_r_laload (X : am_X l dC dI aC base adK adV p e s m args below meth c mi d r g2 K k ls st g H locs b LS) (hd : decode (am_B mi) b = .ok (.laload, 1)) (hn : am_nth (am_bp mi) (k + 1) = some (b + 1)) (h : am_do K C (.laload, a, bb, cc, z) k ls st g = some (r, g2)) : am_Go l dC dI aC base adK p e s m args below meth c mi d r g2 H locs b LS st := by
  obtain ⟨hmi, ⟨hx, hb, hml, hown, hts, hret, hlk, hS⟩, hK, hL, hP, hV, ok, hbk⟩ := X
  change (match (generalizing := false) st with
      | .inl j :: .inr (.inr (kd, i)) :: st => if (af kd).1 = 21 then (if j < 0 ∨ (af kd).2 ≤ j.toNatClampNeg then none else K (k + 1) ls (vl (g.2.1 kd j.toNatClampNeg) :: st) g) else none
      | _ => none) = some (r, g2) at h
  split at h
  next j kd i st1 =>
    by_cases hf0 : (af kd).1 = 21
    · rw [if_pos hf0] at h
      by_cases hj : j < 0 ∨ (af kd).2 ≤ j.toNatClampNeg
      · rw [if_pos hj] at h; cases h
      · rw [if_neg hj] at h
        have hf := hf0
        obtain ⟨hk, hi⟩ := am_okv_ref (am_ok_h (am_ok_t ok.2.1)) (by omega)
        have he := am_w_at aC base g hk hi
        rw [am_e_arr (C := 21) (by omega) hf, am_ec_l hf] at he
        unfold am_Go
        show W _ _ _ _ _ _ _ _ _ _ _ _ _ _ _ (F0 m b LS (Value.int j :: Value.ref (am_ad base adK kd i) :: _))
        rw [am_ad_eq hk]
        exact va_lald hx hb hS.1 hP (am_off kd i) 1 he rfl (am_not_in hj) hd (hK _ _ _ _ h (ok.st (am_ok_c (am_ok_l _) (am_ok_t (am_ok_t ok.2.1)))) _ _ _ _ hL hP hV hn)
    · rw [if_neg hf0] at h; cases h
  next => cases h
theorem am_r_baload (X : am_X l dC dI aC base adK adV p e s m args below meth c mi d r g2 K k ls st g H locs b LS) (hd : decode (am_B mi) b = .ok (.baload, 1)) (hn : am_nth (am_bp mi) (k + 1) = some (b + 1)) (h : am_do K C (.baload, a, bb, cc, z) k ls st g = some (r, g2)) : am_Go l dC dI aC base adK p e s m args below meth c mi d r g2 H locs b LS st := by
  obtain ⟨hmi, ⟨hx, hb, hml, hown, hts, hret, hlk, hS⟩, hK, hL, hP, hV, ok, hbk⟩ := X
  change (match (generalizing := false) st with
      | .inl j :: .inr (.inr (kd, i)) :: st => if (af kd).1 = 22 ∨ (af kd).1 = 23 then (if j < 0 ∨ (af kd).2 ≤ j.toNatClampNeg then none else K (k + 1) ls (vi (g.1 kd i j.toNatClampNeg) :: st) g) else none
      | _ => none) = some (r, g2) at h
  split at h
  next j kd i st1 =>
    by_cases hf0 : (af kd).1 = 22 ∨ (af kd).1 = 23
    · rw [if_pos hf0] at h
      by_cases hj : j < 0 ∨ (af kd).2 ≤ j.toNatClampNeg
      · rw [if_pos hj] at h; cases h
      · rw [if_neg hj] at h
        rcases hf0 with hf | hf
        · obtain ⟨hk, hi⟩ := am_okv_ref (am_ok_h (am_ok_t ok.2.1)) (by omega)
          have he := am_w_at aC base g hk hi
          rw [am_e_arr (C := 22) (by omega) hf, am_ec_i (by omega) (by omega) (by omega)] at he
          unfold am_Go
          show W _ _ _ _ _ _ _ _ _ _ _ _ _ _ _ (F0 m b LS (Value.int j :: Value.ref (am_ad base adK kd i) :: _))
          rw [am_ad_eq hk]
          exact va_bald hx hb hS.1 hP (am_off kd i) 2 he rfl (am_not_in hj) hd (hK _ _ _ _ h (ok.st (am_ok_c (am_ok_i _) (am_ok_t (am_ok_t ok.2.1)))) _ _ _ _ hL hP hV hn)
        · obtain ⟨hk, hi⟩ := am_okv_ref (am_ok_h (am_ok_t ok.2.1)) (by omega)
          have he := am_w_at aC base g hk hi
          rw [am_e_arr (C := 23) (by omega) hf, am_ec_i (by omega) (by omega) (by omega)] at he
          unfold am_Go
          show W _ _ _ _ _ _ _ _ _ _ _ _ _ _ _ (F0 m b LS (Value.int j :: Value.ref (am_ad base adK kd i) :: _))
          rw [am_ad_eq hk]
          exact va_zald hx hb hS.1 hP (am_off kd i) 3 he rfl (am_not_in hj) hd (hK _ _ _ _ h (ok.st (am_ok_c (am_ok_i _) (am_ok_t (am_ok_t ok.2.1)))) _ _ _ _ hL hP hV hn)
    · rw [if_neg hf0] at h; cases h
  next => cases h
theorem am_r_aaload (X : am_X l dC dI aC base adK adV p e s m args below meth c mi d r g2 K k ls st g H locs b LS) (hd : decode (am_B mi) b = .ok (.aaload, 1)) (hn : am_nth (am_bp mi) (k + 1) = some (b + 1)) (h : am_do K C (.aaload, a, bb, cc, z) k ls st g = some (r, g2)) : am_Go l dC dI aC base adK p e s m args below meth c mi d r g2 H locs b LS st := by
  obtain ⟨hmi, ⟨hx, hb, hml, hown, hts, hret, hlk, hS⟩, hK, hL, hP, hV, ok, hbk⟩ := X
  change (match (generalizing := false) st with
      | .inl j :: .inr (.inr (kd, i)) :: st => if (af kd).1 = 25 ∨ (af kd).1 = 26 then (if j < 0 ∨ (af kd).2 ≤ j.toNatClampNeg then none else
          match (generalizing := false) ae kd i j.toNatClampNeg with
          | some r => K (k + 1) ls (.inr (.inr r) :: st) g
          | none => none) else none
      | _ => none) = some (r, g2) at h
  split at h
  next j kd i st1 =>
    by_cases hf : (af kd).1 = 25 ∨ (af kd).1 = 26
    · rw [if_pos hf] at h
      by_cases hj : j < 0 ∨ (af kd).2 ≤ j.toNatClampNeg
      · rw [if_pos hj] at h; cases h
      · rw [if_neg hj] at h
        have hjl : j.toNatClampNeg < (af kd).2 := Nat.not_le.mp fun q => hj (Or.inr q)
        obtain ⟨hk, hi⟩ := am_okv_ref (am_ok_h (am_ok_t ok.2.1)) (by rcases hf with q | q <;> omega)
        cases hre : ae kd i j.toNatClampNeg with
        | none => rw [hre] at h; cases h
        | some r1 =>
          rw [hre] at h
          dsimp only at h
          have hok := am_re_ok hk hi hjl hre
          have he := am_w_at aC base g hk hi
          rw [am_e_arr (C := (af kd).1) (by rcases hf with q | q <;> omega) rfl, am_ec_r hf] at he
          have hcell := hP _ _ he
          obtain ⟨ty, hty1, hty2⟩ : ∃ ty : FieldType, ty.isReference = true ∧ ArrOfT s (aC (af kd).1) ty := by
            rcases hf with q | q
            · rw [q]; exact ⟨_, rfl, (hS.1.2 5 _ rfl).1⟩
            · rw [q]; exact ⟨_, rfl, (hS.1.2 6 _ rfl).1⟩
          unfold am_Go
          show W _ _ _ _ _ _ _ _ _ _ _ _ _ _ _ (F0 m b LS (Value.int j :: Value.ref (am_ad base adK kd i) :: _))
          rw [am_ad_eq hk]
          refine W.aald (v := am_t base adK (.inr (.inr r1))) (ty := ty) hx hb hcell (hty2 (af kd).2 (fun j => va_rf ((ae kd i j).map (fun r => base + am_off r.1 r.2)))) hty1 (fun q => by cases q) (by show ¬ (j < 0 ∨ (arrV _ _ _).slots.size ≤ _); rw [arrV_size]; exact hj) ?_ rfl rfl hd (hK _ _ _ _ h (ok.st (am_ok_c (Or.inr hok) (am_ok_t (am_ok_t ok.2.1)))) _ _ _ _ hL hP hV hn)
          show (arrV _ _ _).slots[_]? = _
          rw [arrV_read _ _ hjl]
          dsimp only
          rw [hre]
          show some (Value.ref _) = some (Value.ref (am_ad base adK r1.1 r1.2))
          rw [am_ad_eq hok.1]
    · rw [if_neg hf] at h; cases h
  next => cases h
theorem am_r_arraylength (X : am_X l dC dI aC base adK adV p e s m args below meth c mi d r g2 K k ls st g H locs b LS) (hd : decode (am_B mi) b = .ok (.arraylength, 1)) (hn : am_nth (am_bp mi) (k + 1) = some (b + 1)) (h : am_do K C (.arraylength, a, bb, cc, z) k ls st g = some (r, g2)) : am_Go l dC dI aC base adK p e s m args below meth c mi d r g2 H locs b LS st := by
  obtain ⟨hmi, ⟨hx, hb, hml, hown, hts, hret, hlk, hS⟩, hK, hL, hP, hV, ok, hbk⟩ := X
  change (match (generalizing := false) st with
      | .inr (.inr (kd, _)) :: st => if 20 ≤ (af kd).1 ∧ (af kd).1 ≤ 26 then K (k + 1) ls (vi (Int32.ofNat (af kd).2) :: st) g else none
      | _ => none) = some (r, g2) at h
  split at h
  next kd i st1 =>
    by_cases hf : 20 ≤ (af kd).1 ∧ (af kd).1 ≤ 26
    · rw [if_pos hf] at h
      obtain ⟨hk, hi⟩ := am_okv_ref (am_ok_h ok.2.1) (by omega)
      have he := am_w_at aC base g hk hi
      rw [am_e_arr (C := (af kd).1) (by omega) rfl] at he
      obtain ⟨t0, ty, ht⟩ : ∃ (t0 : Nat) (ty : FieldType), (am_tys aC)[t0]? = some (aC (af kd).1, ty) := by
        have hc : (af kd).1 = 20 ∨ (af kd).1 = 21 ∨ (af kd).1 = 22 ∨ (af kd).1 = 23 ∨ (af kd).1 = 24 ∨ (af kd).1 = 25 ∨ (af kd).1 = 26 := by omega
        rcases hc with q | q | q | q | q | q | q <;> rw [q]
        · exact ⟨0, _, rfl⟩
        · exact ⟨1, _, rfl⟩
        · exact ⟨2, _, rfl⟩
        · exact ⟨3, _, rfl⟩
        · exact ⟨4, _, rfl⟩
        · exact ⟨5, _, rfl⟩
        · exact ⟨6, _, rfl⟩
      unfold am_Go
      show W _ _ _ _ _ _ _ _ _ _ _ _ _ _ _ (F0 m b LS (Value.ref (am_ad base adK kd i) :: _))
      rw [am_ad_eq hk]
      exact va_alen hx hb hS.1 hP _ t0 he ht rfl hd (hK _ _ _ _ h (ok.st (am_ok_c (am_ok_i _) (am_ok_t ok.2.1))) _ _ _ _ hL hP hV hn)
    · rw [if_neg hf] at h; cases h
  next => cases h
/-- an int cell of an array or object is written -/
theorem am_w_ui {kd i j : Nat} {v : Int32} {E : va_E} (hk : kd < 112) (hi : i < am_cnt kd) (hE : am_e aC base (am_ui g.1 kd i j v kd i) (g.2.1 kd) g.2.2.1 g.2.2.2 kd i = E) : (am_w aC base g).set (am_off kd i) (base + am_off kd i, E) = am_w aC base (am_ui g.1 kd i j v, g.2) :=
  am_w_set (g2 := (am_ui g.1 kd i j v, g.2)) hk hi hE (fun k2 i2 _ _ hne => by
    show am_e aC base (am_ui g.1 kd i j v k2 i2) (g.2.1 k2) g.2.2.1 g.2.2.2 k2 i2 = _
    rw [am_ui_ne hne])
theorem am_w_ul {kd i j : Nat} {v : Int64} {E : va_E} (hk : kd < 112) (hi : i < am_cnt kd) (h1 : am_cnt kd = 1) (hE : am_e aC base (g.1 kd i) (am_ul g.2.1 kd j v kd) g.2.2.1 g.2.2.2 kd i = E) : (am_w aC base g).set (am_off kd i) (base + am_off kd i, E) = am_w aC base (g.1, am_ul g.2.1 kd j v, g.2.2) :=
  am_w_set (g2 := (g.1, am_ul g.2.1 kd j v, g.2.2)) hk hi hE (fun k2 i2 _ hi2 hne => by
    show am_e aC base (g.1 k2 i2) (am_ul g.2.1 kd j v k2) g.2.2.1 g.2.2.2 k2 i2 = _
    rw [am_ul_ne]
    intro q
    subst q
    rcases hne with q | q
    · exact q rfl
    · omega)
theorem am_r_iastore (X : am_X l dC dI aC base adK adV p e s m args below meth c mi d r g2 K k ls st g H locs b LS) (hd : decode (am_B mi) b = .ok (.iastore, 1)) (hn : am_nth (am_bp mi) (k + 1) = some (b + 1)) (h : am_do K C (.iastore, a, bb, cc, z) k ls st g = some (r, g2)) : am_Go l dC dI aC base adK p e s m args below meth c mi d r g2 H locs b LS st := by
  obtain ⟨hmi, ⟨hx, hb, hml, hown, hts, hret, hlk, hS⟩, hK, hL, hP, hV, ok, hbk⟩ := X
  change (match (generalizing := false) st with
      | .inl v :: .inl j :: .inr (.inr (kd, i)) :: st => if (af kd).1 = 20 then (if j < 0 ∨ (af kd).2 ≤ j.toNatClampNeg then none else K (k + 1) ls st (am_ui g.1 kd i j.toNatClampNeg v, g.2)) else none
      | _ => none) = some (r, g2) at h
  split at h
  next v j kd i st1 =>
    by_cases hf : (af kd).1 = 20
    · rw [if_pos hf] at h
      by_cases hj : j < 0 ∨ (af kd).2 ≤ j.toNatClampNeg
      · rw [if_pos hj] at h; cases h
      · rw [if_neg hj] at h
        obtain ⟨hk, hi⟩ := am_okv_ref (am_ok_h (am_ok_t (am_ok_t ok.2.1))) (by omega)
        have he := am_w_at aC base g hk hi
        rw [am_e_arr (C := 20) (by omega) hf, am_ec_i (by omega) (by omega) (by omega)] at he
        unfold am_Go
        show W _ _ _ _ _ _ _ _ _ _ _ _ _ _ _ (F0 m b LS (Value.int v :: Value.int j :: Value.ref (am_ad base adK kd i) :: _))
        rw [am_ad_eq hk]
        refine va_iast hx hb hS.1 hP (am_w_D aC base g) hV (am_off kd i) 0 he rfl (am_not_in hj) hd (fun H1 locs1 hP1 hD1 hV1 => ?_)
        rw [am_w_ui (g := g) (v := v) (j := j.toNatClampNeg) hk hi (by rw [am_e_arr (C := 20) (by omega) hf, am_ec_i (by omega) (by omega) (by omega), am_ui_self])] at hP1
        exact hK _ _ _ _ h ⟨ok.1, am_ok_t (am_ok_t (am_ok_t ok.2.1)), ok.2.2⟩ _ _ _ _ hL hP1 hV1 hn
    · rw [if_neg hf] at h; cases h
  next => cases h
theorem am_r_bastore (X : am_X l dC dI aC base adK adV p e s m args below meth c mi d r g2 K k ls st g H locs b LS) (hd : decode (am_B mi) b = .ok (.bastore, 1)) (hn : am_nth (am_bp mi) (k + 1) = some (b + 1)) (h : am_do K C (.bastore, a, bb, cc, z) k ls st g = some (r, g2)) : am_Go l dC dI aC base adK p e s m args below meth c mi d r g2 H locs b LS st := by
  obtain ⟨hmi, ⟨hx, hb, hml, hown, hts, hret, hlk, hS⟩, hK, hL, hP, hV, ok, hbk⟩ := X
  change (match (generalizing := false) st with
      | .inl v :: .inl j :: .inr (.inr (kd, i)) :: st =>
        if (af kd).1 = 22 then (if j < 0 ∨ (af kd).2 ≤ j.toNatClampNeg then none else K (k + 1) ls st (am_ui g.1 kd i j.toNatClampNeg (vp_nar .byte v), g.2))
        else if (af kd).1 = 23 then (if j < 0 ∨ (af kd).2 ≤ j.toNatClampNeg then none else K (k + 1) ls st (am_ui g.1 kd i j.toNatClampNeg (vp_nar .boolean v), g.2)) else none
      | _ => none) = some (r, g2) at h
  split at h
  next v j kd i st1 =>
    by_cases hf : (af kd).1 = 22
    · rw [if_pos hf] at h
      by_cases hj : j < 0 ∨ (af kd).2 ≤ j.toNatClampNeg
      · rw [if_pos hj] at h; cases h
      · rw [if_neg hj] at h
        obtain ⟨hk, hi⟩ := am_okv_ref (am_ok_h (am_ok_t (am_ok_t ok.2.1))) (by omega)
        have he := am_w_at aC base g hk hi
        rw [am_e_arr (C := 22) (by omega) hf, am_ec_i (by omega) (by omega) (by omega)] at he
        unfold am_Go
        show W _ _ _ _ _ _ _ _ _ _ _ _ _ _ _ (F0 m b LS (Value.int v :: Value.int j :: Value.ref (am_ad base adK kd i) :: _))
        rw [am_ad_eq hk]
        refine va_bast hx hb hS.1 hP (am_w_D aC base g) hV (am_off kd i) 2 he rfl (am_not_in hj) hd (fun H1 locs1 hP1 hD1 hV1 => ?_)
        rw [am_w_ui (g := g) (v := vp_nar .byte v) (j := j.toNatClampNeg) hk hi (by rw [am_e_arr (C := 22) (by omega) hf, am_ec_i (by omega) (by omega) (by omega), am_ui_self])] at hP1
        exact hK _ _ _ _ h ⟨ok.1, am_ok_t (am_ok_t (am_ok_t ok.2.1)), ok.2.2⟩ _ _ _ _ hL hP1 hV1 hn
    · rw [if_neg hf] at h
      by_cases hf : (af kd).1 = 23
      · rw [if_pos hf] at h
        by_cases hj : j < 0 ∨ (af kd).2 ≤ j.toNatClampNeg
        · rw [if_pos hj] at h; cases h
        · rw [if_neg hj] at h
          obtain ⟨hk, hi⟩ := am_okv_ref (am_ok_h (am_ok_t (am_ok_t ok.2.1))) (by omega)
          have he := am_w_at aC base g hk hi
          rw [am_e_arr (C := 23) (by omega) hf, am_ec_i (by omega) (by omega) (by omega)] at he
          unfold am_Go
          show W _ _ _ _ _ _ _ _ _ _ _ _ _ _ _ (F0 m b LS (Value.int v :: Value.int j :: Value.ref (am_ad base adK kd i) :: _))
          rw [am_ad_eq hk]
          refine va_zast hx hb hS.1 hP (am_w_D aC base g) hV (am_off kd i) 3 he rfl (am_not_in hj) hd (fun H1 locs1 hP1 hD1 hV1 => ?_)
          rw [am_w_ui (g := g) (v := vp_nar .boolean v) (j := j.toNatClampNeg) hk hi (by rw [am_e_arr (C := 23) (by omega) hf, am_ec_i (by omega) (by omega) (by omega), am_ui_self])] at hP1
          exact hK _ _ _ _ h ⟨ok.1, am_ok_t (am_ok_t (am_ok_t ok.2.1)), ok.2.2⟩ _ _ _ _ hL hP1 hV1 hn
      · rw [if_neg hf] at h; cases h
  next => cases h
theorem am_r_lastore (X : am_X l dC dI aC base adK adV p e s m args below meth c mi d r g2 K k ls st g H locs b LS) (hd : decode (am_B mi) b = .ok (.lastore, 1)) (hn : am_nth (am_bp mi) (k + 1) = some (b + 1)) (h : am_do K C (.lastore, a, bb, cc, z) k ls st g = some (r, g2)) : am_Go l dC dI aC base adK p e s m args below meth c mi d r g2 H locs b LS st := by
  obtain ⟨hmi, ⟨hx, hb, hml, hown, hts, hret, hlk, hS⟩, hK, hL, hP, hV, ok, hbk⟩ := X
  change (match (generalizing := false) st with
      | .inr (.inl v) :: .inl j :: .inr (.inr (kd, _)) :: st => if (af kd).1 = 21 then (if j < 0 ∨ (af kd).2 ≤ j.toNatClampNeg then none else K (k + 1) ls st (g.1, am_ul g.2.1 kd j.toNatClampNeg v, g.2.2)) else none
      | _ => none) = some (r, g2) at h
  split at h
  next v j kd i st1 =>
    by_cases hf : (af kd).1 = 21
    · rw [if_pos hf] at h
      by_cases hj : j < 0 ∨ (af kd).2 ≤ j.toNatClampNeg
      · rw [if_pos hj] at h; cases h
      · rw [if_neg hj] at h
        obtain ⟨hk, hi⟩ := am_okv_ref (am_ok_h (am_ok_t (am_ok_t ok.2.1))) (by omega)
        have he := am_w_at aC base g hk hi
        rw [am_e_arr (C := 21) (by omega) hf, am_ec_l hf] at he
        unfold am_Go
        show W _ _ _ _ _ _ _ _ _ _ _ _ _ _ _ (F0 m b LS (Value.long v :: Value.int j :: Value.ref (am_ad base adK kd i) :: _))
        rw [am_ad_eq hk]
        refine va_last hx hb hS.1 hP (am_w_D aC base g) hV (am_off kd i) 1 he rfl (am_not_in hj) hd (fun H1 locs1 hP1 hD1 hV1 => ?_)
        rw [am_w_ul (g := g) (v := v) (j := j.toNatClampNeg) hk hi (af_long kd hk (Or.inl hf)) (by rw [am_e_arr (C := 21) (by omega) hf, am_ec_l hf, am_ul_self])] at hP1
        exact hK _ _ _ _ h ⟨ok.1, am_ok_t (am_ok_t (am_ok_t ok.2.1)), ok.2.2⟩ _ _ _ _ hL hP1 hV1 hn
    · rw [if_neg hf] at h; cases h
  next => cases h
end AMA
