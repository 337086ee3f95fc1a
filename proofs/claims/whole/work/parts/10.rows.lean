/-! one theorem an instruction: values, locals, branches -/
section AMR
variable {l : Launch} {dC : Nat → ClassId} {dI : Nat → Nat → Nat} {aC : Nat → ClassId} {base : Nat} {adK adV : Nat → Nat} {p : Program} {e : Env} {s : State} {m : MethodId} {args : Array Value} {below : List Frame} {meth : Method} {c : Code} {mi d : Nat} {r : Option mv} {g2 : mg} {K : Nat → ml → List mv → mg → Option mr} {C : Nat → List mv → mg → Option mr} {k : Nat} {ls : ml} {st : List mv} {g : mg} {H : Heap} {locs : List Loc} {b : Nat} {LS : Array Slot} {a bb cc : Nat} {z : mv}
theorem am_r_iadd (X : am_X l dC dI aC base adK adV p e s m args below meth c mi d r g2 K k ls st g H locs b LS) (hd : decode (am_B mi) b = .ok (.iadd, 1)) (hn : am_nth (am_bp mi) (k + 1) = some (b + 1)) (h : am_do K C (.iadd, a, bb, cc, z) k ls st g = some (r, g2)) : am_Go l dC dI aC base adK p e s m args below meth c mi d r g2 H locs b LS st := by
  obtain ⟨hmi, ⟨hx, hb, hml, hown, hts, hret, hlk, hS⟩, hK, hL, hP, hV, ok, hbk⟩ := X
  change (match (generalizing := false) st with | .inl y :: .inl x :: st => K (k + 1) ls (.inl (x + y) :: st) g | _ => none) = some (r, g2) at h
  split at h
  next y x st1 => exact lv_iadd hx hb hd (hK _ _ _ _ h (ok.st (am_ok_c (am_ok_i _) (am_ok_t (am_ok_t ok.2.1)))) _ _ _ _ hL hP hV hn)
  next => cases h
theorem am_r_isub (X : am_X l dC dI aC base adK adV p e s m args below meth c mi d r g2 K k ls st g H locs b LS) (hd : decode (am_B mi) b = .ok (.isub, 1)) (hn : am_nth (am_bp mi) (k + 1) = some (b + 1)) (h : am_do K C (.isub, a, bb, cc, z) k ls st g = some (r, g2)) : am_Go l dC dI aC base adK p e s m args below meth c mi d r g2 H locs b LS st := by
  obtain ⟨hmi, ⟨hx, hb, hml, hown, hts, hret, hlk, hS⟩, hK, hL, hP, hV, ok, hbk⟩ := X
  change (match (generalizing := false) st with | .inl y :: .inl x :: st => K (k + 1) ls (.inl (x - y) :: st) g | _ => none) = some (r, g2) at h
  split at h
  next y x st1 => exact lv_isub hx hb hd (hK _ _ _ _ h (ok.st (am_ok_c (am_ok_i _) (am_ok_t (am_ok_t ok.2.1)))) _ _ _ _ hL hP hV hn)
  next => cases h
theorem am_r_imul (X : am_X l dC dI aC base adK adV p e s m args below meth c mi d r g2 K k ls st g H locs b LS) (hd : decode (am_B mi) b = .ok (.imul, 1)) (hn : am_nth (am_bp mi) (k + 1) = some (b + 1)) (h : am_do K C (.imul, a, bb, cc, z) k ls st g = some (r, g2)) : am_Go l dC dI aC base adK p e s m args below meth c mi d r g2 H locs b LS st := by
  obtain ⟨hmi, ⟨hx, hb, hml, hown, hts, hret, hlk, hS⟩, hK, hL, hP, hV, ok, hbk⟩ := X
  change (match (generalizing := false) st with | .inl y :: .inl x :: st => K (k + 1) ls (.inl (x * y) :: st) g | _ => none) = some (r, g2) at h
  split at h
  next y x st1 => exact lv_imul hx hb hd (hK _ _ _ _ h (ok.st (am_ok_c (am_ok_i _) (am_ok_t (am_ok_t ok.2.1)))) _ _ _ _ hL hP hV hn)
  next => cases h
theorem am_r_iand (X : am_X l dC dI aC base adK adV p e s m args below meth c mi d r g2 K k ls st g H locs b LS) (hd : decode (am_B mi) b = .ok (.iand, 1)) (hn : am_nth (am_bp mi) (k + 1) = some (b + 1)) (h : am_do K C (.iand, a, bb, cc, z) k ls st g = some (r, g2)) : am_Go l dC dI aC base adK p e s m args below meth c mi d r g2 H locs b LS st := by
  obtain ⟨hmi, ⟨hx, hb, hml, hown, hts, hret, hlk, hS⟩, hK, hL, hP, hV, ok, hbk⟩ := X
  change (match (generalizing := false) st with | .inl y :: .inl x :: st => K (k + 1) ls (.inl (x &&& y) :: st) g | _ => none) = some (r, g2) at h
  split at h
  next y x st1 => exact lv_iand hx hb hd (hK _ _ _ _ h (ok.st (am_ok_c (am_ok_i _) (am_ok_t (am_ok_t ok.2.1)))) _ _ _ _ hL hP hV hn)
  next => cases h
theorem am_r_ior (X : am_X l dC dI aC base adK adV p e s m args below meth c mi d r g2 K k ls st g H locs b LS) (hd : decode (am_B mi) b = .ok (.ior, 1)) (hn : am_nth (am_bp mi) (k + 1) = some (b + 1)) (h : am_do K C (.ior, a, bb, cc, z) k ls st g = some (r, g2)) : am_Go l dC dI aC base adK p e s m args below meth c mi d r g2 H locs b LS st := by
  obtain ⟨hmi, ⟨hx, hb, hml, hown, hts, hret, hlk, hS⟩, hK, hL, hP, hV, ok, hbk⟩ := X
  change (match (generalizing := false) st with | .inl y :: .inl x :: st => K (k + 1) ls (.inl (x ||| y) :: st) g | _ => none) = some (r, g2) at h
  split at h
  next y x st1 => exact lv_ior hx hb hd (hK _ _ _ _ h (ok.st (am_ok_c (am_ok_i _) (am_ok_t (am_ok_t ok.2.1)))) _ _ _ _ hL hP hV hn)
  next => cases h
theorem am_r_ixor (X : am_X l dC dI aC base adK adV p e s m args below meth c mi d r g2 K k ls st g H locs b LS) (hd : decode (am_B mi) b = .ok (.ixor, 1)) (hn : am_nth (am_bp mi) (k + 1) = some (b + 1)) (h : am_do K C (.ixor, a, bb, cc, z) k ls st g = some (r, g2)) : am_Go l dC dI aC base adK p e s m args below meth c mi d r g2 H locs b LS st := by
  obtain ⟨hmi, ⟨hx, hb, hml, hown, hts, hret, hlk, hS⟩, hK, hL, hP, hV, ok, hbk⟩ := X
  change (match (generalizing := false) st with | .inl y :: .inl x :: st => K (k + 1) ls (.inl (x ^^^ y) :: st) g | _ => none) = some (r, g2) at h
  split at h
  next y x st1 => exact lv_ixor hx hb hd (hK _ _ _ _ h (ok.st (am_ok_c (am_ok_i _) (am_ok_t (am_ok_t ok.2.1)))) _ _ _ _ hL hP hV hn)
  next => cases h
theorem am_r_ishl (X : am_X l dC dI aC base adK adV p e s m args below meth c mi d r g2 K k ls st g H locs b LS) (hd : decode (am_B mi) b = .ok (.ishl, 1)) (hn : am_nth (am_bp mi) (k + 1) = some (b + 1)) (h : am_do K C (.ishl, a, bb, cc, z) k ls st g = some (r, g2)) : am_Go l dC dI aC base adK p e s m args below meth c mi d r g2 H locs b LS st := by
  obtain ⟨hmi, ⟨hx, hb, hml, hown, hts, hret, hlk, hS⟩, hK, hL, hP, hV, ok, hbk⟩ := X
  change (match (generalizing := false) st with | .inl y :: .inl x :: st => K (k + 1) ls (.inl (x <<< (y &&& 31)) :: st) g | _ => none) = some (r, g2) at h
  split at h
  next y x st1 => exact lv_ishl hx hb hd (hK _ _ _ _ h (ok.st (am_ok_c (am_ok_i _) (am_ok_t (am_ok_t ok.2.1)))) _ _ _ _ hL hP hV hn)
  next => cases h
theorem am_r_ishr (X : am_X l dC dI aC base adK adV p e s m args below meth c mi d r g2 K k ls st g H locs b LS) (hd : decode (am_B mi) b = .ok (.ishr, 1)) (hn : am_nth (am_bp mi) (k + 1) = some (b + 1)) (h : am_do K C (.ishr, a, bb, cc, z) k ls st g = some (r, g2)) : am_Go l dC dI aC base adK p e s m args below meth c mi d r g2 H locs b LS st := by
  obtain ⟨hmi, ⟨hx, hb, hml, hown, hts, hret, hlk, hS⟩, hK, hL, hP, hV, ok, hbk⟩ := X
  change (match (generalizing := false) st with | .inl y :: .inl x :: st => K (k + 1) ls (.inl (x >>> (y &&& 31)) :: st) g | _ => none) = some (r, g2) at h
  split at h
  next y x st1 => exact lv_ishr hx hb hd (hK _ _ _ _ h (ok.st (am_ok_c (am_ok_i _) (am_ok_t (am_ok_t ok.2.1)))) _ _ _ _ hL hP hV hn)
  next => cases h
theorem am_r_iushr (X : am_X l dC dI aC base adK adV p e s m args below meth c mi d r g2 K k ls st g H locs b LS) (hd : decode (am_B mi) b = .ok (.iushr, 1)) (hn : am_nth (am_bp mi) (k + 1) = some (b + 1)) (h : am_do K C (.iushr, a, bb, cc, z) k ls st g = some (r, g2)) : am_Go l dC dI aC base adK p e s m args below meth c mi d r g2 H locs b LS st := by
  obtain ⟨hmi, ⟨hx, hb, hml, hown, hts, hret, hlk, hS⟩, hK, hL, hP, hV, ok, hbk⟩ := X
  change (match (generalizing := false) st with | .inl y :: .inl x :: st => K (k + 1) ls (.inl ((x.toUInt32 >>> (y.toUInt32 &&& Int32.toUInt32 31)).toInt32) :: st) g | _ => none) = some (r, g2) at h
  split at h
  next y x st1 => exact lv_iushr hx hb hd rfl (hK _ _ _ _ h (ok.st (am_ok_c (am_ok_i _) (am_ok_t (am_ok_t ok.2.1)))) _ _ _ _ hL hP hV hn)
  next => cases h
theorem am_r_idiv (X : am_X l dC dI aC base adK adV p e s m args below meth c mi d r g2 K k ls st g H locs b LS) (hd : decode (am_B mi) b = .ok (.idiv, 1)) (hn : am_nth (am_bp mi) (k + 1) = some (b + 1)) (h : am_do K C (.idiv, a, bb, cc, z) k ls st g = some (r, g2)) : am_Go l dC dI aC base adK p e s m args below meth c mi d r g2 H locs b LS st := by
  obtain ⟨hmi, ⟨hx, hb, hml, hown, hts, hret, hlk, hS⟩, hK, hL, hP, hV, ok, hbk⟩ := X
  change (match (generalizing := false) st with | .inl y :: .inl x :: st => if y = 0 then none else K (k + 1) ls (.inl (x / y) :: st) g | _ => none) = some (r, g2) at h
  split at h
  next y x st1 =>
    by_cases hy : y = 0
    · rw [if_pos hy] at h; cases h
    · rw [if_neg hy] at h
      exact lv_idiv hx hb hd hy (hK _ _ _ _ h (ok.st (am_ok_c (am_ok_i _) (am_ok_t (am_ok_t ok.2.1)))) _ _ _ _ hL hP hV hn)
  next => cases h
theorem am_r_irem (X : am_X l dC dI aC base adK adV p e s m args below meth c mi d r g2 K k ls st g H locs b LS) (hd : decode (am_B mi) b = .ok (.irem, 1)) (hn : am_nth (am_bp mi) (k + 1) = some (b + 1)) (h : am_do K C (.irem, a, bb, cc, z) k ls st g = some (r, g2)) : am_Go l dC dI aC base adK p e s m args below meth c mi d r g2 H locs b LS st := by
  obtain ⟨hmi, ⟨hx, hb, hml, hown, hts, hret, hlk, hS⟩, hK, hL, hP, hV, ok, hbk⟩ := X
  change (match (generalizing := false) st with | .inl y :: .inl x :: st => if y = 0 then none else K (k + 1) ls (.inl (x - x / y * y) :: st) g | _ => none) = some (r, g2) at h
  split at h
  next y x st1 =>
    by_cases hy : y = 0
    · rw [if_pos hy] at h; cases h
    · rw [if_neg hy] at h
      exact lv_irem hx hb hd hy (hK _ _ _ _ h (ok.st (am_ok_c (am_ok_i _) (am_ok_t (am_ok_t ok.2.1)))) _ _ _ _ hL hP hV hn)
  next => cases h
theorem am_r_ladd (X : am_X l dC dI aC base adK adV p e s m args below meth c mi d r g2 K k ls st g H locs b LS) (hd : decode (am_B mi) b = .ok (.ladd, 1)) (hn : am_nth (am_bp mi) (k + 1) = some (b + 1)) (h : am_do K C (.ladd, a, bb, cc, z) k ls st g = some (r, g2)) : am_Go l dC dI aC base adK p e s m args below meth c mi d r g2 H locs b LS st := by
  obtain ⟨hmi, ⟨hx, hb, hml, hown, hts, hret, hlk, hS⟩, hK, hL, hP, hV, ok, hbk⟩ := X
  change (match (generalizing := false) st with | .inr (.inl y) :: .inr (.inl x) :: st => K (k + 1) ls (.inr (.inl (x + y)) :: st) g | _ => none) = some (r, g2) at h
  split at h
  next y x st1 => exact lv_ladd hx hb hd (hK _ _ _ _ h (ok.st (am_ok_c (am_ok_l _) (am_ok_t (am_ok_t ok.2.1)))) _ _ _ _ hL hP hV hn)
  next => cases h
theorem am_r_lsub (X : am_X l dC dI aC base adK adV p e s m args below meth c mi d r g2 K k ls st g H locs b LS) (hd : decode (am_B mi) b = .ok (.lsub, 1)) (hn : am_nth (am_bp mi) (k + 1) = some (b + 1)) (h : am_do K C (.lsub, a, bb, cc, z) k ls st g = some (r, g2)) : am_Go l dC dI aC base adK p e s m args below meth c mi d r g2 H locs b LS st := by
  obtain ⟨hmi, ⟨hx, hb, hml, hown, hts, hret, hlk, hS⟩, hK, hL, hP, hV, ok, hbk⟩ := X
  change (match (generalizing := false) st with | .inr (.inl y) :: .inr (.inl x) :: st => K (k + 1) ls (.inr (.inl (x - y)) :: st) g | _ => none) = some (r, g2) at h
  split at h
  next y x st1 => exact lv_lsub hx hb hd (hK _ _ _ _ h (ok.st (am_ok_c (am_ok_l _) (am_ok_t (am_ok_t ok.2.1)))) _ _ _ _ hL hP hV hn)
  next => cases h
theorem am_r_lmul (X : am_X l dC dI aC base adK adV p e s m args below meth c mi d r g2 K k ls st g H locs b LS) (hd : decode (am_B mi) b = .ok (.lmul, 1)) (hn : am_nth (am_bp mi) (k + 1) = some (b + 1)) (h : am_do K C (.lmul, a, bb, cc, z) k ls st g = some (r, g2)) : am_Go l dC dI aC base adK p e s m args below meth c mi d r g2 H locs b LS st := by
  obtain ⟨hmi, ⟨hx, hb, hml, hown, hts, hret, hlk, hS⟩, hK, hL, hP, hV, ok, hbk⟩ := X
  change (match (generalizing := false) st with | .inr (.inl y) :: .inr (.inl x) :: st => K (k + 1) ls (.inr (.inl (x * y)) :: st) g | _ => none) = some (r, g2) at h
  split at h
  next y x st1 => exact lv_lmul hx hb hd (hK _ _ _ _ h (ok.st (am_ok_c (am_ok_l _) (am_ok_t (am_ok_t ok.2.1)))) _ _ _ _ hL hP hV hn)
  next => cases h
theorem am_r_land (X : am_X l dC dI aC base adK adV p e s m args below meth c mi d r g2 K k ls st g H locs b LS) (hd : decode (am_B mi) b = .ok (.land, 1)) (hn : am_nth (am_bp mi) (k + 1) = some (b + 1)) (h : am_do K C (.land, a, bb, cc, z) k ls st g = some (r, g2)) : am_Go l dC dI aC base adK p e s m args below meth c mi d r g2 H locs b LS st := by
  obtain ⟨hmi, ⟨hx, hb, hml, hown, hts, hret, hlk, hS⟩, hK, hL, hP, hV, ok, hbk⟩ := X
  change (match (generalizing := false) st with | .inr (.inl y) :: .inr (.inl x) :: st => K (k + 1) ls (.inr (.inl (x &&& y)) :: st) g | _ => none) = some (r, g2) at h
  split at h
  next y x st1 => exact lv_land hx hb hd (hK _ _ _ _ h (ok.st (am_ok_c (am_ok_l _) (am_ok_t (am_ok_t ok.2.1)))) _ _ _ _ hL hP hV hn)
  next => cases h
theorem am_r_ldiv (X : am_X l dC dI aC base adK adV p e s m args below meth c mi d r g2 K k ls st g H locs b LS) (hd : decode (am_B mi) b = .ok (.ldiv, 1)) (hn : am_nth (am_bp mi) (k + 1) = some (b + 1)) (h : am_do K C (.ldiv, a, bb, cc, z) k ls st g = some (r, g2)) : am_Go l dC dI aC base adK p e s m args below meth c mi d r g2 H locs b LS st := by
  obtain ⟨hmi, ⟨hx, hb, hml, hown, hts, hret, hlk, hS⟩, hK, hL, hP, hV, ok, hbk⟩ := X
  change (match (generalizing := false) st with | .inr (.inl y) :: .inr (.inl x) :: st => if y = 0 then none else K (k + 1) ls (.inr (.inl (x / y)) :: st) g | _ => none) = some (r, g2) at h
  split at h
  next y x st1 =>
    by_cases hy : y = 0
    · rw [if_pos hy] at h; cases h
    · rw [if_neg hy] at h
      exact lv_ldiv hx hb hd hy (hK _ _ _ _ h (ok.st (am_ok_c (am_ok_l _) (am_ok_t (am_ok_t ok.2.1)))) _ _ _ _ hL hP hV hn)
  next => cases h
theorem am_r_lrem (X : am_X l dC dI aC base adK adV p e s m args below meth c mi d r g2 K k ls st g H locs b LS) (hd : decode (am_B mi) b = .ok (.lrem, 1)) (hn : am_nth (am_bp mi) (k + 1) = some (b + 1)) (h : am_do K C (.lrem, a, bb, cc, z) k ls st g = some (r, g2)) : am_Go l dC dI aC base adK p e s m args below meth c mi d r g2 H locs b LS st := by
  obtain ⟨hmi, ⟨hx, hb, hml, hown, hts, hret, hlk, hS⟩, hK, hL, hP, hV, ok, hbk⟩ := X
  change (match (generalizing := false) st with | .inr (.inl y) :: .inr (.inl x) :: st => if y = 0 then none else K (k + 1) ls (.inr (.inl (x - x / y * y)) :: st) g | _ => none) = some (r, g2) at h
  split at h
  next y x st1 =>
    by_cases hy : y = 0
    · rw [if_pos hy] at h; cases h
    · rw [if_neg hy] at h
      exact lv_lrem hx hb hd hy (hK _ _ _ _ h (ok.st (am_ok_c (am_ok_l _) (am_ok_t (am_ok_t ok.2.1)))) _ _ _ _ hL hP hV hn)
  next => cases h
theorem am_r_i2l (X : am_X l dC dI aC base adK adV p e s m args below meth c mi d r g2 K k ls st g H locs b LS) (hd : decode (am_B mi) b = .ok (.i2l, 1)) (hn : am_nth (am_bp mi) (k + 1) = some (b + 1)) (h : am_do K C (.i2l, a, bb, cc, z) k ls st g = some (r, g2)) : am_Go l dC dI aC base adK p e s m args below meth c mi d r g2 H locs b LS st := by
  obtain ⟨hmi, ⟨hx, hb, hml, hown, hts, hret, hlk, hS⟩, hK, hL, hP, hV, ok, hbk⟩ := X
  change (match (generalizing := false) st with | .inl x :: st => K (k + 1) ls (.inr (.inl x.toInt64) :: st) g | _ => none) = some (r, g2) at h
  split at h
  next x st1 => exact lv_i2l hx hb hd rfl (hK _ _ _ _ h (ok.st (am_ok_c (am_ok_l _) (am_ok_t ok.2.1))) _ _ _ _ hL hP hV hn)
  next => cases h
theorem am_r_l2i (X : am_X l dC dI aC base adK adV p e s m args below meth c mi d r g2 K k ls st g H locs b LS) (hd : decode (am_B mi) b = .ok (.l2i, 1)) (hn : am_nth (am_bp mi) (k + 1) = some (b + 1)) (h : am_do K C (.l2i, a, bb, cc, z) k ls st g = some (r, g2)) : am_Go l dC dI aC base adK p e s m args below meth c mi d r g2 H locs b LS st := by
  obtain ⟨hmi, ⟨hx, hb, hml, hown, hts, hret, hlk, hS⟩, hK, hL, hP, hV, ok, hbk⟩ := X
  change (match (generalizing := false) st with | .inr (.inl x) :: st => K (k + 1) ls (.inl x.toInt32 :: st) g | _ => none) = some (r, g2) at h
  split at h
  next x st1 => exact lv_l2i hx hb hd rfl (hK _ _ _ _ h (ok.st (am_ok_c (am_ok_i _) (am_ok_t ok.2.1))) _ _ _ _ hL hP hV hn)
  next => cases h
theorem am_r_i2b (X : am_X l dC dI aC base adK adV p e s m args below meth c mi d r g2 K k ls st g H locs b LS) (hd : decode (am_B mi) b = .ok (.i2b, 1)) (hn : am_nth (am_bp mi) (k + 1) = some (b + 1)) (h : am_do K C (.i2b, a, bb, cc, z) k ls st g = some (r, g2)) : am_Go l dC dI aC base adK p e s m args below meth c mi d r g2 H locs b LS st := by
  obtain ⟨hmi, ⟨hx, hb, hml, hown, hts, hret, hlk, hS⟩, hK, hL, hP, hV, ok, hbk⟩ := X
  change (match (generalizing := false) st with | .inl x :: st => K (k + 1) ls (.inl x.toInt8.toInt32 :: st) g | _ => none) = some (r, g2) at h
  split at h
  next x st1 => exact lv_i2b hx hb hd rfl (hK _ _ _ _ h (ok.st (am_ok_c (am_ok_i _) (am_ok_t ok.2.1))) _ _ _ _ hL hP hV hn)
  next => cases h
theorem am_r_lcmp (X : am_X l dC dI aC base adK adV p e s m args below meth c mi d r g2 K k ls st g H locs b LS) (hd : decode (am_B mi) b = .ok (.lcmp, 1)) (hn : am_nth (am_bp mi) (k + 1) = some (b + 1)) (h : am_do K C (.lcmp, a, bb, cc, z) k ls st g = some (r, g2)) : am_Go l dC dI aC base adK p e s m args below meth c mi d r g2 H locs b LS st := by
  obtain ⟨hmi, ⟨hx, hb, hml, hown, hts, hret, hlk, hS⟩, hK, hL, hP, hV, ok, hbk⟩ := X
  change (match (generalizing := false) st with | .inr (.inl y) :: .inr (.inl x) :: st => K (k + 1) ls (.inl (lg_cmp x y) :: st) g | _ => none) = some (r, g2) at h
  split at h
  next y x st1 => exact W.lcmp hx hb hd (hK _ _ _ _ h (ok.st (am_ok_c (am_ok_i _) (am_ok_t (am_ok_t ok.2.1)))) _ _ _ _ hL hP hV hn)
  next => cases h
theorem am_r_pop (X : am_X l dC dI aC base adK adV p e s m args below meth c mi d r g2 K k ls st g H locs b LS) (hd : decode (am_B mi) b = .ok (.pop, 1)) (hn : am_nth (am_bp mi) (k + 1) = some (b + 1)) (h : am_do K C (.pop, a, bb, cc, z) k ls st g = some (r, g2)) : am_Go l dC dI aC base adK p e s m args below meth c mi d r g2 H locs b LS st := by
  obtain ⟨hmi, ⟨hx, hb, hml, hown, hts, hret, hlk, hS⟩, hK, hL, hP, hV, ok, hbk⟩ := X
  change (match (generalizing := false) st with | .inl _ :: st => K (k + 1) ls st g | _ => none) = some (r, g2) at h
  split at h
  next x st1 => exact lv_pop hx hb hd rfl (hK _ _ _ _ h (ok.st (am_ok_t ok.2.1)) _ _ _ _ hL hP hV hn)
  next => cases h
theorem am_r_dup (X : am_X l dC dI aC base adK adV p e s m args below meth c mi d r g2 K k ls st g H locs b LS) (hd : decode (am_B mi) b = .ok (.dup, 1)) (hn : am_nth (am_bp mi) (k + 1) = some (b + 1)) (h : am_do K C (.dup, a, bb, cc, z) k ls st g = some (r, g2)) : am_Go l dC dI aC base adK p e s m args below meth c mi d r g2 H locs b LS st := by
  obtain ⟨hmi, ⟨hx, hb, hml, hown, hts, hret, hlk, hS⟩, hK, hL, hP, hV, ok, hbk⟩ := X
  change (match (generalizing := false) st with | .inl v :: st => K (k + 1) ls (.inl v :: .inl v :: st) g | .inr (.inr v) :: st => K (k + 1) ls (.inr (.inr v) :: .inr (.inr v) :: st) g | _ => none) = some (r, g2) at h
  split at h
  next x st1 => exact lv_dup hx hb hd rfl (hK _ _ _ _ h (ok.st (am_ok_c (am_ok_i _) ok.2.1)) _ _ _ _ hL hP hV hn)
  next x st1 => exact lv_dup hx hb hd rfl (hK _ _ _ _ h (ok.st (am_ok_c (am_ok_h ok.2.1) ok.2.1)) _ _ _ _ hL hP hV hn)
  next => cases h
theorem am_r_dup2 (X : am_X l dC dI aC base adK adV p e s m args below meth c mi d r g2 K k ls st g H locs b LS) (hd : decode (am_B mi) b = .ok (.dup2, 1)) (hn : am_nth (am_bp mi) (k + 1) = some (b + 1)) (h : am_do K C (.dup2, a, bb, cc, z) k ls st g = some (r, g2)) : am_Go l dC dI aC base adK p e s m args below meth c mi d r g2 H locs b LS st := by
  obtain ⟨hmi, ⟨hx, hb, hml, hown, hts, hret, hlk, hS⟩, hK, hL, hP, hV, ok, hbk⟩ := X
  change (match (generalizing := false) st with | .inl v :: .inr (.inr r) :: st => K (k + 1) ls (.inl v :: .inr (.inr r) :: .inl v :: .inr (.inr r) :: st) g | _ => none) = some (r, g2) at h
  split at h
  next x y st1 => exact lv_dup2_11 hx hb hd rfl rfl (hK _ _ _ _ h (ok.st (am_ok_c (am_ok_i _) (am_ok_c (am_ok_h (am_ok_t ok.2.1)) ok.2.1))) _ _ _ _ hL hP hV hn)
  next => cases h
theorem am_r_iconst (X : am_X l dC dI aC base adK adV p e s m args below meth c mi d r g2 K k ls st g H locs b LS) {n : Int} (hz : z = vi (Int32.ofInt n)) (hd : decode (am_B mi) b = .ok (.iconst n, 1)) (hn : am_nth (am_bp mi) (k + 1) = some (b + 1)) (h : am_do K C (.iconst n, a, bb, cc, z) k ls st g = some (r, g2)) : am_Go l dC dI aC base adK p e s m args below meth c mi d r g2 H locs b LS st := by
  obtain ⟨hmi, ⟨hx, hb, hml, hown, hts, hret, hlk, hS⟩, hK, hL, hP, hV, ok, hbk⟩ := X
  change K (k + 1) ls (z :: st) g = some (r, g2) at h
  subst hz
  exact lv_iconst hx hb hd rfl (hK _ _ _ _ h (ok.st (am_ok_c (am_ok_i _) ok.2.1)) _ _ _ _ hL hP hV hn)
theorem am_r_bipush (X : am_X l dC dI aC base adK adV p e s m args below meth c mi d r g2 K k ls st g H locs b LS) {n : Int} (hz : z = vi (Int8.ofInt n).toInt32) (hd : decode (am_B mi) b = .ok (.bipush n, 2)) (hn : am_nth (am_bp mi) (k + 1) = some (b + 2)) (h : am_do K C (.bipush n, a, bb, cc, z) k ls st g = some (r, g2)) : am_Go l dC dI aC base adK p e s m args below meth c mi d r g2 H locs b LS st := by
  obtain ⟨hmi, ⟨hx, hb, hml, hown, hts, hret, hlk, hS⟩, hK, hL, hP, hV, ok, hbk⟩ := X
  change K (k + 1) ls (z :: st) g = some (r, g2) at h
  subst hz
  exact lv_bipush hx hb hd rfl (hK _ _ _ _ h (ok.st (am_ok_c (am_ok_i _) ok.2.1)) _ _ _ _ hL hP hV hn)
theorem am_r_sipush (X : am_X l dC dI aC base adK adV p e s m args below meth c mi d r g2 K k ls st g H locs b LS) {n : Int} (hz : z = vi (Int16.ofInt n).toInt32) (hd : decode (am_B mi) b = .ok (.sipush n, 3)) (hn : am_nth (am_bp mi) (k + 1) = some (b + 3)) (h : am_do K C (.sipush n, a, bb, cc, z) k ls st g = some (r, g2)) : am_Go l dC dI aC base adK p e s m args below meth c mi d r g2 H locs b LS st := by
  obtain ⟨hmi, ⟨hx, hb, hml, hown, hts, hret, hlk, hS⟩, hK, hL, hP, hV, ok, hbk⟩ := X
  change K (k + 1) ls (z :: st) g = some (r, g2) at h
  subst hz
  exact lv_sipush hx hb hd rfl (hK _ _ _ _ h (ok.st (am_ok_c (am_ok_i _) ok.2.1)) _ _ _ _ hL hP hV hn)
theorem am_r_lconst (X : am_X l dC dI aC base adK adV p e s m args below meth c mi d r g2 K k ls st g H locs b LS) {n : Fin 2} (hz : z = vl (Int64.ofNat n.val)) (hd : decode (am_B mi) b = .ok (.lconst n, 1)) (hn : am_nth (am_bp mi) (k + 1) = some (b + 1)) (h : am_do K C (.lconst n, a, bb, cc, z) k ls st g = some (r, g2)) : am_Go l dC dI aC base adK p e s m args below meth c mi d r g2 H locs b LS st := by
  obtain ⟨hmi, ⟨hx, hb, hml, hown, hts, hret, hlk, hS⟩, hK, hL, hP, hV, ok, hbk⟩ := X
  change K (k + 1) ls (z :: st) g = some (r, g2) at h
  subst hz
  exact lv_lconst hx hb hd rfl (hK _ _ _ _ h (ok.st (am_ok_c (am_ok_l _) ok.2.1)) _ _ _ _ hL hP hV hn)
theorem am_r_ldc (X : am_X l dC dI aC base adK adV p e s m args below meth c mi d r g2 K k ls st g H locs b LS) {n q : Nat} {v : Int32} (hz : z = vi v) (hq : tables_1[q]? = some (Cond.constant (am_R (am_head mi).1) n v)) (hd : decode (am_B mi) b = .ok (.ldc n, 2)) (hn : am_nth (am_bp mi) (k + 1) = some (b + 2)) (h : am_do K C (.ldc n, a, bb, cc, z) k ls st g = some (r, g2)) : am_Go l dC dI aC base adK p e s m args below meth c mi d r g2 H locs b LS st := by
  obtain ⟨hmi, ⟨hx, hb, hml, hown, hts, hret, hlk, hS⟩, hK, hL, hP, hV, ok, hbk⟩ := X
  change K (k + 1) ls (z :: st) g = some (r, g2) at h
  subst hz
  exact lv_ldc hx hb hown (hts _ (am_in_W hq rfl)) hd (hK _ _ _ _ h (ok.st (am_ok_c (am_ok_i _) ok.2.1)) _ _ _ _ hL hP hV hn)
theorem am_r_ldc_w (X : am_X l dC dI aC base adK adV p e s m args below meth c mi d r g2 K k ls st g H locs b LS) {n q : Nat} {v : Int32} (hz : z = vi v) (hq : tables_1[q]? = some (Cond.constant (am_R (am_head mi).1) n v)) (hd : decode (am_B mi) b = .ok (.ldc_w n, 3)) (hn : am_nth (am_bp mi) (k + 1) = some (b + 3)) (h : am_do K C (.ldc_w n, a, bb, cc, z) k ls st g = some (r, g2)) : am_Go l dC dI aC base adK p e s m args below meth c mi d r g2 H locs b LS st := by
  obtain ⟨hmi, ⟨hx, hb, hml, hown, hts, hret, hlk, hS⟩, hK, hL, hP, hV, ok, hbk⟩ := X
  change K (k + 1) ls (z :: st) g = some (r, g2) at h
  subst hz
  exact lv_ldcw hx hb hown (hts _ (am_in_W hq rfl)) hd (hK _ _ _ _ h (ok.st (am_ok_c (am_ok_i _) ok.2.1)) _ _ _ _ hL hP hV hn)
theorem am_r_ldc2_w (X : am_X l dC dI aC base adK adV p e s m args below meth c mi d r g2 K k ls st g H locs b LS) {n q : Nat} {v : Int64} (hz : z = vl v) (hq : tables_1[q]? = some (Cond.constantLong (am_R (am_head mi).1) n v)) (hd : decode (am_B mi) b = .ok (.ldc2_w n, 3)) (hn : am_nth (am_bp mi) (k + 1) = some (b + 3)) (h : am_do K C (.ldc2_w n, a, bb, cc, z) k ls st g = some (r, g2)) : am_Go l dC dI aC base adK p e s m args below meth c mi d r g2 H locs b LS st := by
  obtain ⟨hmi, ⟨hx, hb, hml, hown, hts, hret, hlk, hS⟩, hK, hL, hP, hV, ok, hbk⟩ := X
  change K (k + 1) ls (z :: st) g = some (r, g2) at h
  subst hz
  exact lv_ldc2 hx hb hown (hts _ (am_in_W hq rfl)) hd (hK _ _ _ _ h (ok.st (am_ok_c (am_ok_l _) ok.2.1)) _ _ _ _ hL hP hV hn)
theorem am_r_ldcS (X : am_X l dC dI aC base adK adV p e s m args below meth c mi d r g2 K k ls st g H locs b LS) {n : Nat} {q : Nat × Nat × Nat × Nat} (hq : q ∈ am_srs) (h1 : q.1 = (am_head mi).1) (h2 : q.2.1 = n) (hz : z = vr 200 q.2.2.1) (hd : decode (am_B mi) b = .ok (.ldc n, 2)) (hn : am_nth (am_bp mi) (k + 1) = some (b + 2)) (h : am_do K C (.ldc n, a, bb, cc, z) k ls st g = some (r, g2)) : am_Go l dC dI aC base adK p e s m args below meth c mi d r g2 H locs b LS st := by
  obtain ⟨hmi, ⟨hx, hb, hml, hown, hts, hret, hlk, hS⟩, hK, hL, hP, hV, ok, hbk⟩ := X
  change K (k + 1) ls (z :: st) g = some (r, g2) at h
  subst hz
  have hR := hS.2.2.1 q hq
  rw [h1, h2] at hR
  have h3 : q.2.2.1 < 2 := of_decide_eq_true (List.all_eq_true.mp (show am_srs.all (fun q => decide (q.2.2.1 < 2)) = true by decide) q hq)
  exact va_ldcS hx hb hown hR hd (hK _ _ _ _ h (ok.st (am_ok_c (Or.inl ⟨rfl, h3⟩) ok.2.1)) _ _ _ _ hL hP hV hn)
theorem am_r_iload (X : am_X l dC dI aC base adK adV p e s m args below meth c mi d r g2 K k ls st g H locs b LS) {i : Nat} (ha : i = a) (hd : decode (am_B mi) b = .ok (.iload i, 2)) (hn : am_nth (am_bp mi) (k + 1) = some (b + 2)) (h : am_do K C (.iload i, a, bb, cc, z) k ls st g = some (r, g2)) : am_Go l dC dI aC base adK p e s m args below meth c mi d r g2 H locs b LS st := by
  obtain ⟨hmi, ⟨hx, hb, hml, hown, hts, hret, hlk, hS⟩, hK, hL, hP, hV, ok, hbk⟩ := X
  change (match (generalizing := false) am_ld ls a with | some (.inl v) => K (k + 1) ls (.inl v :: st) g | _ => none) = some (r, g2) at h
  split at h
  next v hld =>
    subst ha
    exact lv_iload hx hb hd (hL.2.2 _ _ hld) (hK _ _ _ _ h (ok.st (am_ok_c (am_ok_i _) ok.2.1)) _ _ _ _ hL hP hV hn)
  next => cases h
theorem am_r_iload_n (X : am_X l dC dI aC base adK adV p e s m args below meth c mi d r g2 K k ls st g H locs b LS) {i : Fin 4} (ha : i.val = a) (hd : decode (am_B mi) b = .ok (.iload_n i, 1)) (hn : am_nth (am_bp mi) (k + 1) = some (b + 1)) (h : am_do K C (.iload_n i, a, bb, cc, z) k ls st g = some (r, g2)) : am_Go l dC dI aC base adK p e s m args below meth c mi d r g2 H locs b LS st := by
  obtain ⟨hmi, ⟨hx, hb, hml, hown, hts, hret, hlk, hS⟩, hK, hL, hP, hV, ok, hbk⟩ := X
  change (match (generalizing := false) am_ld ls a with | some (.inl v) => K (k + 1) ls (.inl v :: st) g | _ => none) = some (r, g2) at h
  split at h
  next v hld =>
    subst ha
    exact lv_iload_n hx hb hd rfl (hL.2.2 _ _ hld) (hK _ _ _ _ h (ok.st (am_ok_c (am_ok_i _) ok.2.1)) _ _ _ _ hL hP hV hn)
  next => cases h
theorem am_r_lload (X : am_X l dC dI aC base adK adV p e s m args below meth c mi d r g2 K k ls st g H locs b LS) {i : Nat} (ha : i = a) (hd : decode (am_B mi) b = .ok (.lload i, 2)) (hn : am_nth (am_bp mi) (k + 1) = some (b + 2)) (h : am_do K C (.lload i, a, bb, cc, z) k ls st g = some (r, g2)) : am_Go l dC dI aC base adK p e s m args below meth c mi d r g2 H locs b LS st := by
  obtain ⟨hmi, ⟨hx, hb, hml, hown, hts, hret, hlk, hS⟩, hK, hL, hP, hV, ok, hbk⟩ := X
  change (match (generalizing := false) am_ld ls a with | some (.inr (.inl v)) => K (k + 1) ls (.inr (.inl v) :: st) g | _ => none) = some (r, g2) at h
  split at h
  next v hld =>
    subst ha
    exact lv_lload hx hb hd (hL.2.2 _ _ hld) (hK _ _ _ _ h (ok.st (am_ok_c (am_ok_l _) ok.2.1)) _ _ _ _ hL hP hV hn)
  next => cases h
theorem am_r_lload_n (X : am_X l dC dI aC base adK adV p e s m args below meth c mi d r g2 K k ls st g H locs b LS) {i : Fin 4} (ha : i.val = a) (hd : decode (am_B mi) b = .ok (.lload_n i, 1)) (hn : am_nth (am_bp mi) (k + 1) = some (b + 1)) (h : am_do K C (.lload_n i, a, bb, cc, z) k ls st g = some (r, g2)) : am_Go l dC dI aC base adK p e s m args below meth c mi d r g2 H locs b LS st := by
  obtain ⟨hmi, ⟨hx, hb, hml, hown, hts, hret, hlk, hS⟩, hK, hL, hP, hV, ok, hbk⟩ := X
  change (match (generalizing := false) am_ld ls a with | some (.inr (.inl v)) => K (k + 1) ls (.inr (.inl v) :: st) g | _ => none) = some (r, g2) at h
  split at h
  next v hld =>
    subst ha
    exact lv_lload_n hx hb hd rfl (hL.2.2 _ _ hld) (hK _ _ _ _ h (ok.st (am_ok_c (am_ok_l _) ok.2.1)) _ _ _ _ hL hP hV hn)
  next => cases h
theorem am_r_aload (X : am_X l dC dI aC base adK adV p e s m args below meth c mi d r g2 K k ls st g H locs b LS) {i : Nat} (ha : i = a) (hd : decode (am_B mi) b = .ok (.aload i, 2)) (hn : am_nth (am_bp mi) (k + 1) = some (b + 2)) (h : am_do K C (.aload i, a, bb, cc, z) k ls st g = some (r, g2)) : am_Go l dC dI aC base adK p e s m args below meth c mi d r g2 H locs b LS st := by
  obtain ⟨hmi, ⟨hx, hb, hml, hown, hts, hret, hlk, hS⟩, hK, hL, hP, hV, ok, hbk⟩ := X
  change (match (generalizing := false) am_ld ls a with | some (.inr (.inr v)) => K (k + 1) ls (.inr (.inr v) :: st) g | _ => none) = some (r, g2) at h
  split at h
  next v hld =>
    subst ha
    exact lv_aload hx hb hd (hL.2.2 _ _ hld) (hK _ _ _ _ h (ok.st (am_ok_c (ok.1 _ _ hld) ok.2.1)) _ _ _ _ hL hP hV hn)
  next => cases h
theorem am_r_aload_n (X : am_X l dC dI aC base adK adV p e s m args below meth c mi d r g2 K k ls st g H locs b LS) {i : Fin 4} (ha : i.val = a) (hd : decode (am_B mi) b = .ok (.aload_n i, 1)) (hn : am_nth (am_bp mi) (k + 1) = some (b + 1)) (h : am_do K C (.aload_n i, a, bb, cc, z) k ls st g = some (r, g2)) : am_Go l dC dI aC base adK p e s m args below meth c mi d r g2 H locs b LS st := by
  obtain ⟨hmi, ⟨hx, hb, hml, hown, hts, hret, hlk, hS⟩, hK, hL, hP, hV, ok, hbk⟩ := X
  change (match (generalizing := false) am_ld ls a with | some (.inr (.inr v)) => K (k + 1) ls (.inr (.inr v) :: st) g | _ => none) = some (r, g2) at h
  split at h
  next v hld =>
    subst ha
    exact lv_aload_n hx hb hd rfl (hL.2.2 _ _ hld) (hK _ _ _ _ h (ok.st (am_ok_c (ok.1 _ _ hld) ok.2.1)) _ _ _ _ hL hP hV hn)
  next => cases h
theorem am_r_istore (X : am_X l dC dI aC base adK adV p e s m args below meth c mi d r g2 K k ls st g H locs b LS) {i : Nat} (ha : i = a) (hnl : a < (am_head mi).2.1) (hd : decode (am_B mi) b = .ok (.istore i, 2)) (hn : am_nth (am_bp mi) (k + 1) = some (b + 2)) (h : am_do K C (.istore i, a, bb, cc, z) k ls st g = some (r, g2)) : am_Go l dC dI aC base adK p e s m args below meth c mi d r g2 H locs b LS st := by
  obtain ⟨hmi, ⟨hx, hb, hml, hown, hts, hret, hlk, hS⟩, hK, hL, hP, hV, ok, hbk⟩ := X
  change (match (generalizing := false) st with | .inl v :: st => K (k + 1) (am_s1 ls a (.inl v)) st g | _ => none) = some (r, g2) at h
  split at h
  next v st1 =>
    subst ha
    exact lv_istore hx hb hd hL.has hnl rfl (fun LS2 h2 => hK _ _ _ _ h ⟨am_vok_s1 ok.1 (am_ok_i _), am_ok_t ok.2.1, ok.2.2⟩ _ _ _ _ (am_lv.s1 h2) hP hV hn)
  next => cases h
theorem am_r_istore_n (X : am_X l dC dI aC base adK adV p e s m args below meth c mi d r g2 K k ls st g H locs b LS) {i : Fin 4} (ha : i.val = a) (hnl : a < (am_head mi).2.1) (hd : decode (am_B mi) b = .ok (.istore_n i, 1)) (hn : am_nth (am_bp mi) (k + 1) = some (b + 1)) (h : am_do K C (.istore_n i, a, bb, cc, z) k ls st g = some (r, g2)) : am_Go l dC dI aC base adK p e s m args below meth c mi d r g2 H locs b LS st := by
  obtain ⟨hmi, ⟨hx, hb, hml, hown, hts, hret, hlk, hS⟩, hK, hL, hP, hV, ok, hbk⟩ := X
  change (match (generalizing := false) st with | .inl v :: st => K (k + 1) (am_s1 ls a (.inl v)) st g | _ => none) = some (r, g2) at h
  split at h
  next v st1 =>
    subst ha
    exact lv_istore_n hx hb hd rfl hL.has hnl rfl (fun LS2 h2 => hK _ _ _ _ h ⟨am_vok_s1 ok.1 (am_ok_i _), am_ok_t ok.2.1, ok.2.2⟩ _ _ _ _ (am_lv.s1 h2) hP hV hn)
  next => cases h
theorem am_r_astore (X : am_X l dC dI aC base adK adV p e s m args below meth c mi d r g2 K k ls st g H locs b LS) {i : Nat} (ha : i = a) (hnl : a < (am_head mi).2.1) (hd : decode (am_B mi) b = .ok (.astore i, 2)) (hn : am_nth (am_bp mi) (k + 1) = some (b + 2)) (h : am_do K C (.astore i, a, bb, cc, z) k ls st g = some (r, g2)) : am_Go l dC dI aC base adK p e s m args below meth c mi d r g2 H locs b LS st := by
  obtain ⟨hmi, ⟨hx, hb, hml, hown, hts, hret, hlk, hS⟩, hK, hL, hP, hV, ok, hbk⟩ := X
  change (match (generalizing := false) st with | .inr (.inr v) :: st => K (k + 1) (am_s1 ls a (.inr (.inr v))) st g | _ => none) = some (r, g2) at h
  split at h
  next v st1 =>
    subst ha
    exact lv_astore hx hb hd hL.has hnl rfl (fun LS2 h2 => hK _ _ _ _ h ⟨am_vok_s1 ok.1 (am_ok_h ok.2.1), am_ok_t ok.2.1, ok.2.2⟩ _ _ _ _ (am_lv.s1 h2) hP hV hn)
  next => cases h
theorem am_r_astore_n (X : am_X l dC dI aC base adK adV p e s m args below meth c mi d r g2 K k ls st g H locs b LS) {i : Fin 4} (ha : i.val = a) (hnl : a < (am_head mi).2.1) (hd : decode (am_B mi) b = .ok (.astore_n i, 1)) (hn : am_nth (am_bp mi) (k + 1) = some (b + 1)) (h : am_do K C (.astore_n i, a, bb, cc, z) k ls st g = some (r, g2)) : am_Go l dC dI aC base adK p e s m args below meth c mi d r g2 H locs b LS st := by
  obtain ⟨hmi, ⟨hx, hb, hml, hown, hts, hret, hlk, hS⟩, hK, hL, hP, hV, ok, hbk⟩ := X
  change (match (generalizing := false) st with | .inr (.inr v) :: st => K (k + 1) (am_s1 ls a (.inr (.inr v))) st g | _ => none) = some (r, g2) at h
  split at h
  next v st1 =>
    subst ha
    exact lv_astore_n hx hb hd rfl hL.has hnl rfl (fun LS2 h2 => hK _ _ _ _ h ⟨am_vok_s1 ok.1 (am_ok_h ok.2.1), am_ok_t ok.2.1, ok.2.2⟩ _ _ _ _ (am_lv.s1 h2) hP hV hn)
  next => cases h
theorem am_r_lstore (X : am_X l dC dI aC base adK adV p e s m args below meth c mi d r g2 K k ls st g H locs b LS) {i : Nat} (ha : i = a) (hnl : a + 1 < (am_head mi).2.1) (hd : decode (am_B mi) b = .ok (.lstore i, 2)) (hn : am_nth (am_bp mi) (k + 1) = some (b + 2)) (h : am_do K C (.lstore i, a, bb, cc, z) k ls st g = some (r, g2)) : am_Go l dC dI aC base adK p e s m args below meth c mi d r g2 H locs b LS st := by
  obtain ⟨hmi, ⟨hx, hb, hml, hown, hts, hret, hlk, hS⟩, hK, hL, hP, hV, ok, hbk⟩ := X
  change (match (generalizing := false) st with | .inr (.inl v) :: st => K (k + 1) (am_s2 ls a (.inr (.inl v))) st g | _ => none) = some (r, g2) at h
  split at h
  next v st1 =>
    subst ha
    exact lv_lstore hx hb hd hL.has hnl rfl (fun LS2 h2 => hK _ _ _ _ h ⟨am_vok_s2 ok.1 (am_ok_l _), am_ok_t ok.2.1, ok.2.2⟩ _ _ _ _ (am_lv.s2 h2) hP hV hn)
  next => cases h
theorem am_r_lstore_n (X : am_X l dC dI aC base adK adV p e s m args below meth c mi d r g2 K k ls st g H locs b LS) {i : Fin 4} (ha : i.val = a) (hnl : a + 1 < (am_head mi).2.1) (hd : decode (am_B mi) b = .ok (.lstore_n i, 1)) (hn : am_nth (am_bp mi) (k + 1) = some (b + 1)) (h : am_do K C (.lstore_n i, a, bb, cc, z) k ls st g = some (r, g2)) : am_Go l dC dI aC base adK p e s m args below meth c mi d r g2 H locs b LS st := by
  obtain ⟨hmi, ⟨hx, hb, hml, hown, hts, hret, hlk, hS⟩, hK, hL, hP, hV, ok, hbk⟩ := X
  change (match (generalizing := false) st with | .inr (.inl v) :: st => K (k + 1) (am_s2 ls a (.inr (.inl v))) st g | _ => none) = some (r, g2) at h
  split at h
  next v st1 =>
    subst ha
    exact lv_lstore_n hx hb hd rfl hL.has hnl rfl (fun LS2 h2 => hK _ _ _ _ h ⟨am_vok_s2 ok.1 (am_ok_l _), am_ok_t ok.2.1, ok.2.2⟩ _ _ _ _ (am_lv.s2 h2) hP hV hn)
  next => cases h
theorem am_r_iinc (X : am_X l dC dI aC base adK adV p e s m args below meth c mi d r g2 K k ls st g H locs b LS) {i : Nat} {n : Int} (ha : i = a) (hz : z = vi (Int32.ofInt n)) (hd : decode (am_B mi) b = .ok (.iinc i n, 3)) (hn : am_nth (am_bp mi) (k + 1) = some (b + 3)) (h : am_do K C (.iinc i n, a, bb, cc, z) k ls st g = some (r, g2)) : am_Go l dC dI aC base adK p e s m args below meth c mi d r g2 H locs b LS st := by
  obtain ⟨hmi, ⟨hx, hb, hml, hown, hts, hret, hlk, hS⟩, hK, hL, hP, hV, ok, hbk⟩ := X
  subst hz
  subst ha
  change (match (generalizing := false) am_ld ls i, vi (Int32.ofInt n) with | some (.inl v), .inl n => K (k + 1) (am_s1 ls i (.inl (v + n))) st g | _, _ => none) = some (r, g2) at h
  cases hld : am_ld ls i with
  | none => rw [hld] at h; cases h
  | some w =>
    rw [hld] at h
    match w, hld, h with
    | .inr _, hld, h => cases h
    | .inl v, hld, h =>
      have hi : i < (am_head mi).2.1 := by have q := (Array.getElem?_eq_some_iff.mp (hL.2.2 _ _ hld)).1; rwa [hL.1] at q
      obtain ⟨q, hq⟩ := List.getElem?_of_mem ((am_as_mem base adK ls 0 _).mpr ⟨i, _, hld, rfl⟩)
      rw [Nat.zero_add] at hq
      exact lv_iinc hx hb hd hL.has hq rfl hi rfl (fun LS2 h2 => hK _ _ _ _ h ⟨am_vok_s1 ok.1 (am_ok_i _), ok.2.1, ok.2.2⟩ _ _ _ _ (am_lv.s1 (v := .inl (v + Int32.ofInt n)) h2) hP hV hn)
theorem am_r_if_eq (X : am_X l dC dI aC base adK adV p e s m args below meth c mi d r g2 K k ls st g H locs b LS) {off : Int} {t : Nat} (ht : (b : Int) + off = (t : Int)) (hta : am_nth (am_bp mi) a = some t) (hd : decode (am_B mi) b = .ok (.ifCond .eq off, 3)) (hn : am_nth (am_bp mi) (k + 1) = some (b + 3)) (h : am_do K C (.ifCond .eq off, a, bb, cc, z) k ls st g = some (r, g2)) : am_Go l dC dI aC base adK p e s m args below meth c mi d r g2 H locs b LS st := by
  obtain ⟨hmi, ⟨hx, hb, hml, hown, hts, hret, hlk, hS⟩, hK, hL, hP, hV, ok, hbk⟩ := X
  change (match (generalizing := false) st with | .inl x :: st => if x = 0 then K a ls st g else K (k + 1) ls st g | _ => none) = some (r, g2) at h
  split at h
  next x st1 => exact lv_if_eq hx hb hd ht (fun q => hK _ _ _ _ (by rw [if_pos q] at h; exact h) (ok.st (am_ok_t ok.2.1)) _ _ _ _ hL hP hV hta) (fun q => hK _ _ _ _ (by rw [if_neg q] at h; exact h) (ok.st (am_ok_t ok.2.1)) _ _ _ _ hL hP hV hn)
  next => cases h
theorem am_r_icmp_eq (X : am_X l dC dI aC base adK adV p e s m args below meth c mi d r g2 K k ls st g H locs b LS) {off : Int} {t : Nat} (ht : (b : Int) + off = (t : Int)) (hta : am_nth (am_bp mi) a = some t) (hd : decode (am_B mi) b = .ok (.if_icmp .eq off, 3)) (hn : am_nth (am_bp mi) (k + 1) = some (b + 3)) (h : am_do K C (.if_icmp .eq off, a, bb, cc, z) k ls st g = some (r, g2)) : am_Go l dC dI aC base adK p e s m args below meth c mi d r g2 H locs b LS st := by
  obtain ⟨hmi, ⟨hx, hb, hml, hown, hts, hret, hlk, hS⟩, hK, hL, hP, hV, ok, hbk⟩ := X
  change (match (generalizing := false) st with | .inl y :: .inl x :: st => if x = y then K a ls st g else K (k + 1) ls st g | _ => none) = some (r, g2) at h
  split at h
  next y x st1 => exact lv_icmp_eq hx hb hd ht (fun q => hK _ _ _ _ (by rw [if_pos q] at h; exact h) (ok.st (am_ok_t (am_ok_t ok.2.1))) _ _ _ _ hL hP hV hta) (fun q => hK _ _ _ _ (by rw [if_neg q] at h; exact h) (ok.st (am_ok_t (am_ok_t ok.2.1))) _ _ _ _ hL hP hV hn)
  next => cases h
theorem am_r_if_ne (X : am_X l dC dI aC base adK adV p e s m args below meth c mi d r g2 K k ls st g H locs b LS) {off : Int} {t : Nat} (ht : (b : Int) + off = (t : Int)) (hta : am_nth (am_bp mi) a = some t) (hd : decode (am_B mi) b = .ok (.ifCond .ne off, 3)) (hn : am_nth (am_bp mi) (k + 1) = some (b + 3)) (h : am_do K C (.ifCond .ne off, a, bb, cc, z) k ls st g = some (r, g2)) : am_Go l dC dI aC base adK p e s m args below meth c mi d r g2 H locs b LS st := by
  obtain ⟨hmi, ⟨hx, hb, hml, hown, hts, hret, hlk, hS⟩, hK, hL, hP, hV, ok, hbk⟩ := X
  change (match (generalizing := false) st with | .inl x :: st => if x = 0 then K (k + 1) ls st g else K a ls st g | _ => none) = some (r, g2) at h
  split at h
  next x st1 => exact lv_if_ne hx hb hd ht (fun q => hK _ _ _ _ (by rw [if_neg q] at h; exact h) (ok.st (am_ok_t ok.2.1)) _ _ _ _ hL hP hV hta) (fun q => hK _ _ _ _ (by rw [if_pos q] at h; exact h) (ok.st (am_ok_t ok.2.1)) _ _ _ _ hL hP hV hn)
  next => cases h
theorem am_r_icmp_ne (X : am_X l dC dI aC base adK adV p e s m args below meth c mi d r g2 K k ls st g H locs b LS) {off : Int} {t : Nat} (ht : (b : Int) + off = (t : Int)) (hta : am_nth (am_bp mi) a = some t) (hd : decode (am_B mi) b = .ok (.if_icmp .ne off, 3)) (hn : am_nth (am_bp mi) (k + 1) = some (b + 3)) (h : am_do K C (.if_icmp .ne off, a, bb, cc, z) k ls st g = some (r, g2)) : am_Go l dC dI aC base adK p e s m args below meth c mi d r g2 H locs b LS st := by
  obtain ⟨hmi, ⟨hx, hb, hml, hown, hts, hret, hlk, hS⟩, hK, hL, hP, hV, ok, hbk⟩ := X
  change (match (generalizing := false) st with | .inl y :: .inl x :: st => if x = y then K (k + 1) ls st g else K a ls st g | _ => none) = some (r, g2) at h
  split at h
  next y x st1 => exact lv_icmp_ne hx hb hd ht (fun q => hK _ _ _ _ (by rw [if_neg q] at h; exact h) (ok.st (am_ok_t (am_ok_t ok.2.1))) _ _ _ _ hL hP hV hta) (fun q => hK _ _ _ _ (by rw [if_pos q] at h; exact h) (ok.st (am_ok_t (am_ok_t ok.2.1))) _ _ _ _ hL hP hV hn)
  next => cases h
theorem am_r_if_lt (X : am_X l dC dI aC base adK adV p e s m args below meth c mi d r g2 K k ls st g H locs b LS) {off : Int} {t : Nat} (ht : (b : Int) + off = (t : Int)) (hta : am_nth (am_bp mi) a = some t) (hd : decode (am_B mi) b = .ok (.ifCond .lt off, 3)) (hn : am_nth (am_bp mi) (k + 1) = some (b + 3)) (h : am_do K C (.ifCond .lt off, a, bb, cc, z) k ls st g = some (r, g2)) : am_Go l dC dI aC base adK p e s m args below meth c mi d r g2 H locs b LS st := by
  obtain ⟨hmi, ⟨hx, hb, hml, hown, hts, hret, hlk, hS⟩, hK, hL, hP, hV, ok, hbk⟩ := X
  change (match (generalizing := false) st with | .inl x :: st => if x < 0 then K a ls st g else K (k + 1) ls st g | _ => none) = some (r, g2) at h
  split at h
  next x st1 => exact lv_if_lt hx hb hd ht (fun q => hK _ _ _ _ (by rw [if_pos q] at h; exact h) (ok.st (am_ok_t ok.2.1)) _ _ _ _ hL hP hV hta) (fun q => hK _ _ _ _ (by rw [if_neg q] at h; exact h) (ok.st (am_ok_t ok.2.1)) _ _ _ _ hL hP hV hn)
  next => cases h
theorem am_r_icmp_lt (X : am_X l dC dI aC base adK adV p e s m args below meth c mi d r g2 K k ls st g H locs b LS) {off : Int} {t : Nat} (ht : (b : Int) + off = (t : Int)) (hta : am_nth (am_bp mi) a = some t) (hd : decode (am_B mi) b = .ok (.if_icmp .lt off, 3)) (hn : am_nth (am_bp mi) (k + 1) = some (b + 3)) (h : am_do K C (.if_icmp .lt off, a, bb, cc, z) k ls st g = some (r, g2)) : am_Go l dC dI aC base adK p e s m args below meth c mi d r g2 H locs b LS st := by
  obtain ⟨hmi, ⟨hx, hb, hml, hown, hts, hret, hlk, hS⟩, hK, hL, hP, hV, ok, hbk⟩ := X
  change (match (generalizing := false) st with | .inl y :: .inl x :: st => if x < y then K a ls st g else K (k + 1) ls st g | _ => none) = some (r, g2) at h
  split at h
  next y x st1 => exact lv_icmp_lt hx hb hd ht (fun q => hK _ _ _ _ (by rw [if_pos q] at h; exact h) (ok.st (am_ok_t (am_ok_t ok.2.1))) _ _ _ _ hL hP hV hta) (fun q => hK _ _ _ _ (by rw [if_neg q] at h; exact h) (ok.st (am_ok_t (am_ok_t ok.2.1))) _ _ _ _ hL hP hV hn)
  next => cases h
theorem am_r_if_ge (X : am_X l dC dI aC base adK adV p e s m args below meth c mi d r g2 K k ls st g H locs b LS) {off : Int} {t : Nat} (ht : (b : Int) + off = (t : Int)) (hta : am_nth (am_bp mi) a = some t) (hd : decode (am_B mi) b = .ok (.ifCond .ge off, 3)) (hn : am_nth (am_bp mi) (k + 1) = some (b + 3)) (h : am_do K C (.ifCond .ge off, a, bb, cc, z) k ls st g = some (r, g2)) : am_Go l dC dI aC base adK p e s m args below meth c mi d r g2 H locs b LS st := by
  obtain ⟨hmi, ⟨hx, hb, hml, hown, hts, hret, hlk, hS⟩, hK, hL, hP, hV, ok, hbk⟩ := X
  change (match (generalizing := false) st with | .inl x :: st => if x < 0 then K (k + 1) ls st g else K a ls st g | _ => none) = some (r, g2) at h
  split at h
  next x st1 => exact lv_if_ge hx hb hd ht (fun q => hK _ _ _ _ (by rw [if_neg (Int32.not_lt.mpr q)] at h; exact h) (ok.st (am_ok_t ok.2.1)) _ _ _ _ hL hP hV hta) (fun q => hK _ _ _ _ (by rw [if_pos (Int32.not_le.mp q)] at h; exact h) (ok.st (am_ok_t ok.2.1)) _ _ _ _ hL hP hV hn)
  next => cases h
theorem am_r_icmp_ge (X : am_X l dC dI aC base adK adV p e s m args below meth c mi d r g2 K k ls st g H locs b LS) {off : Int} {t : Nat} (ht : (b : Int) + off = (t : Int)) (hta : am_nth (am_bp mi) a = some t) (hd : decode (am_B mi) b = .ok (.if_icmp .ge off, 3)) (hn : am_nth (am_bp mi) (k + 1) = some (b + 3)) (h : am_do K C (.if_icmp .ge off, a, bb, cc, z) k ls st g = some (r, g2)) : am_Go l dC dI aC base adK p e s m args below meth c mi d r g2 H locs b LS st := by
  obtain ⟨hmi, ⟨hx, hb, hml, hown, hts, hret, hlk, hS⟩, hK, hL, hP, hV, ok, hbk⟩ := X
  change (match (generalizing := false) st with | .inl y :: .inl x :: st => if x < y then K (k + 1) ls st g else K a ls st g | _ => none) = some (r, g2) at h
  split at h
  next y x st1 => exact lv_icmp_ge hx hb hd ht (fun q => hK _ _ _ _ (by rw [if_neg (Int32.not_lt.mpr q)] at h; exact h) (ok.st (am_ok_t (am_ok_t ok.2.1))) _ _ _ _ hL hP hV hta) (fun q => hK _ _ _ _ (by rw [if_pos (Int32.not_le.mp q)] at h; exact h) (ok.st (am_ok_t (am_ok_t ok.2.1))) _ _ _ _ hL hP hV hn)
  next => cases h
theorem am_r_if_gt (X : am_X l dC dI aC base adK adV p e s m args below meth c mi d r g2 K k ls st g H locs b LS) {off : Int} {t : Nat} (ht : (b : Int) + off = (t : Int)) (hta : am_nth (am_bp mi) a = some t) (hd : decode (am_B mi) b = .ok (.ifCond .gt off, 3)) (hn : am_nth (am_bp mi) (k + 1) = some (b + 3)) (h : am_do K C (.ifCond .gt off, a, bb, cc, z) k ls st g = some (r, g2)) : am_Go l dC dI aC base adK p e s m args below meth c mi d r g2 H locs b LS st := by
  obtain ⟨hmi, ⟨hx, hb, hml, hown, hts, hret, hlk, hS⟩, hK, hL, hP, hV, ok, hbk⟩ := X
  change (match (generalizing := false) st with | .inl x :: st => if 0 < x then K a ls st g else K (k + 1) ls st g | _ => none) = some (r, g2) at h
  split at h
  next x st1 => exact lv_if_gt hx hb hd ht (fun q => hK _ _ _ _ (by rw [if_pos q] at h; exact h) (ok.st (am_ok_t ok.2.1)) _ _ _ _ hL hP hV hta) (fun q => hK _ _ _ _ (by rw [if_neg q] at h; exact h) (ok.st (am_ok_t ok.2.1)) _ _ _ _ hL hP hV hn)
  next => cases h
theorem am_r_icmp_gt (X : am_X l dC dI aC base adK adV p e s m args below meth c mi d r g2 K k ls st g H locs b LS) {off : Int} {t : Nat} (ht : (b : Int) + off = (t : Int)) (hta : am_nth (am_bp mi) a = some t) (hd : decode (am_B mi) b = .ok (.if_icmp .gt off, 3)) (hn : am_nth (am_bp mi) (k + 1) = some (b + 3)) (h : am_do K C (.if_icmp .gt off, a, bb, cc, z) k ls st g = some (r, g2)) : am_Go l dC dI aC base adK p e s m args below meth c mi d r g2 H locs b LS st := by
  obtain ⟨hmi, ⟨hx, hb, hml, hown, hts, hret, hlk, hS⟩, hK, hL, hP, hV, ok, hbk⟩ := X
  change (match (generalizing := false) st with | .inl y :: .inl x :: st => if y < x then K a ls st g else K (k + 1) ls st g | _ => none) = some (r, g2) at h
  split at h
  next y x st1 => exact lv_icmp_gt hx hb hd ht (fun q => hK _ _ _ _ (by rw [if_pos q] at h; exact h) (ok.st (am_ok_t (am_ok_t ok.2.1))) _ _ _ _ hL hP hV hta) (fun q => hK _ _ _ _ (by rw [if_neg q] at h; exact h) (ok.st (am_ok_t (am_ok_t ok.2.1))) _ _ _ _ hL hP hV hn)
  next => cases h
theorem am_r_if_le (X : am_X l dC dI aC base adK adV p e s m args below meth c mi d r g2 K k ls st g H locs b LS) {off : Int} {t : Nat} (ht : (b : Int) + off = (t : Int)) (hta : am_nth (am_bp mi) a = some t) (hd : decode (am_B mi) b = .ok (.ifCond .le off, 3)) (hn : am_nth (am_bp mi) (k + 1) = some (b + 3)) (h : am_do K C (.ifCond .le off, a, bb, cc, z) k ls st g = some (r, g2)) : am_Go l dC dI aC base adK p e s m args below meth c mi d r g2 H locs b LS st := by
  obtain ⟨hmi, ⟨hx, hb, hml, hown, hts, hret, hlk, hS⟩, hK, hL, hP, hV, ok, hbk⟩ := X
  change (match (generalizing := false) st with | .inl x :: st => if 0 < x then K (k + 1) ls st g else K a ls st g | _ => none) = some (r, g2) at h
  split at h
  next x st1 => exact lv_if_le hx hb hd ht (fun q => hK _ _ _ _ (by rw [if_neg (Int32.not_lt.mpr q)] at h; exact h) (ok.st (am_ok_t ok.2.1)) _ _ _ _ hL hP hV hta) (fun q => hK _ _ _ _ (by rw [if_pos (Int32.not_le.mp q)] at h; exact h) (ok.st (am_ok_t ok.2.1)) _ _ _ _ hL hP hV hn)
  next => cases h
theorem am_r_icmp_le (X : am_X l dC dI aC base adK adV p e s m args below meth c mi d r g2 K k ls st g H locs b LS) {off : Int} {t : Nat} (ht : (b : Int) + off = (t : Int)) (hta : am_nth (am_bp mi) a = some t) (hd : decode (am_B mi) b = .ok (.if_icmp .le off, 3)) (hn : am_nth (am_bp mi) (k + 1) = some (b + 3)) (h : am_do K C (.if_icmp .le off, a, bb, cc, z) k ls st g = some (r, g2)) : am_Go l dC dI aC base adK p e s m args below meth c mi d r g2 H locs b LS st := by
  obtain ⟨hmi, ⟨hx, hb, hml, hown, hts, hret, hlk, hS⟩, hK, hL, hP, hV, ok, hbk⟩ := X
  change (match (generalizing := false) st with | .inl y :: .inl x :: st => if y < x then K (k + 1) ls st g else K a ls st g | _ => none) = some (r, g2) at h
  split at h
  next y x st1 => exact lv_icmp_le hx hb hd ht (fun q => hK _ _ _ _ (by rw [if_neg (Int32.not_lt.mpr q)] at h; exact h) (ok.st (am_ok_t (am_ok_t ok.2.1))) _ _ _ _ hL hP hV hta) (fun q => hK _ _ _ _ (by rw [if_pos (Int32.not_le.mp q)] at h; exact h) (ok.st (am_ok_t (am_ok_t ok.2.1))) _ _ _ _ hL hP hV hn)
  next => cases h
theorem am_r_goto (X : am_X l dC dI aC base adK adV p e s m args below meth c mi d r g2 K k ls st g H locs b LS) {off : Int} {t : Nat} (ht : (b : Int) + off = (t : Int)) (hta : am_nth (am_bp mi) a = some t) (hd : decode (am_B mi) b = .ok (.goto off, 3)) (h : am_do K C (.goto off, a, bb, cc, z) k ls st g = some (r, g2)) : am_Go l dC dI aC base adK p e s m args below meth c mi d r g2 H locs b LS st := by
  obtain ⟨hmi, ⟨hx, hb, hml, hown, hts, hret, hlk, hS⟩, hK, hL, hP, hV, ok, hbk⟩ := X
  exact lv_goto hx hb hd ht (hK _ _ _ _ h ok _ _ _ _ hL hP hV hta)
theorem am_r_ireturn (X : am_X l dC dI aC base adK adV p e s m args below meth c mi d r g2 K k ls st g H locs b LS) (hrt : ((am_head mi).2.2 = 1 ∧ a = 0) ∨ ((am_head mi).2.2 = 2 ∧ a = 1)) (hd : decode (am_B mi) b = .ok (.ireturn, 1)) (h : am_do K C (.ireturn, a, bb, cc, z) k ls st g = some (r, g2)) : am_Go l dC dI aC base adK p e s m args below meth c mi d r g2 H locs b LS st := by
  obtain ⟨hmi, ⟨hx, hb, hml, hown, hts, hret, hlk, hS⟩, hK, hL, hP, hV, ok, hbk⟩ := X
  change (match (generalizing := false) st with | [.inl v] => if a = 1 then (if v = 0 ∨ v = 1 then some (some (vi v), g) else none) else some (some (vi v), g) | _ => none) = some (r, g2) at h
  split at h
  next v =>
    rcases hrt with ⟨h1, h2⟩ | ⟨h1, h2⟩
    · subst h2
      rw [if_neg (by decide)] at h
      cases h
      exact W.iret hx hb (by rw [hret]; unfold am_ret; rw [h1]; rfl) (fun t ht hW => ⟨rfl, by rw [ht]; exact hP, hV.F ht, ok.2.2⟩) hV.2.2 hd hlk
    · subst h2
      rw [if_pos rfl] at h
      by_cases hv : v = 0 ∨ v = 1
      · rw [if_pos hv] at h
        cases h
        exact W.zret (ty := .boolean) hx hb (by rw [hret]; unfold am_ret; rw [h1]; rfl) (by rcases hv with rfl | rfl <;> rfl) (fun t ht hW => ⟨rfl, by rw [ht]; exact hP, hV.F ht, ok.2.2⟩) hV.2.2 hd hlk
      · rw [if_neg hv] at h; cases h
  next => cases h
theorem am_r_lreturn (X : am_X l dC dI aC base adK adV p e s m args below meth c mi d r g2 K k ls st g H locs b LS) (hrt : (am_head mi).2.2 = 3) (hd : decode (am_B mi) b = .ok (.lreturn, 1)) (h : am_do K C (.lreturn, a, bb, cc, z) k ls st g = some (r, g2)) : am_Go l dC dI aC base adK p e s m args below meth c mi d r g2 H locs b LS st := by
  obtain ⟨hmi, ⟨hx, hb, hml, hown, hts, hret, hlk, hS⟩, hK, hL, hP, hV, ok, hbk⟩ := X
  change (match (generalizing := false) st with | [.inr (.inl v)] => some (some (vl v), g) | _ => none) = some (r, g2) at h
  split at h
  next v =>
    cases h
    exact W.lret hx hb (by rw [hret]; unfold am_ret; rw [hrt]; rfl) (fun t ht hW => ⟨rfl, by rw [ht]; exact hP, hV.F ht, ok.2.2⟩) hV.2.2 hd hlk
  next => cases h
theorem am_r_return (X : am_X l dC dI aC base adK adV p e s m args below meth c mi d r g2 K k ls st g H locs b LS) (hrt : (am_head mi).2.2 = 0) (hd : decode (am_B mi) b = .ok (.return_, 1)) (h : am_do K C (.return_, a, bb, cc, z) k ls st g = some (r, g2)) : am_Go l dC dI aC base adK p e s m args below meth c mi d r g2 H locs b LS st := by
  obtain ⟨hmi, ⟨hx, hb, hml, hown, hts, hret, hlk, hS⟩, hK, hL, hP, hV, ok, hbk⟩ := X
  change (match (generalizing := false) st with | [] => some (none, g) | _ => none) = some (r, g2) at h
  split at h
  next =>
    cases h
    exact W.vret hx hb (by rw [hret]; unfold am_ret; rw [hrt]; rfl) (fun t ht hW => ⟨rfl, by rw [ht]; exact hP, hV.F ht, ok.2.2⟩) hV.2.2 hd hlk
  next => cases h
end AMR
