/-! switches, texts, and the whole of it -/
theorem am_tsw_spec {bps : List Nat} {b d : Nat} {x : Int32} {α : Type} {f : Nat → Option α} {r : α} : ∀ (offs : List Int) (l : List (Int32 × Nat)) (v : Int), am_tsw bps b v offs l = true → am_swf x l d f = some r →
    (∃ j off t, offs[j]? = some off ∧ x.toInt = v + (j : Nat) ∧ am_tgt bps b off t = true ∧ f t = some r) ∨ ((x.toInt < v ∨ v + offs.length ≤ x.toInt) ∧ f d = some r)
  | [], [], v, _, h => Or.inr ⟨by simp only [List.length_nil]; omega, h⟩
  | [], _ :: _, _, h, _ => by cases h
  | _ :: _, [], _, h, _ => by cases h
  | off :: offs, (w, t) :: l, v, h, h2 => by
    unfold am_tsw at h
    simp only [Bool.and_eq_true, decide_eq_true_eq] at h
    obtain ⟨h3, h4, h5⟩ := h
    change (if x = w then f t else am_swf x l d f) = some r at h2
    by_cases hx : x = w
    · rw [if_pos hx] at h2
      exact Or.inl ⟨0, off, t, rfl, by rw [hx, h3]; simp, h4, h2⟩
    · rw [if_neg hx] at h2
      have hne : ¬ x.toInt = v := lv_neT hx h3
      rcases am_tsw_spec offs l (v + 1) h5 h2 with ⟨j, off2, t2, q1, q2, q3, q4⟩ | ⟨q1, q2⟩
      · exact Or.inl ⟨j + 1, off2, t2, q1, by rw [q2]; push_cast; omega, q3, q4⟩
      · refine Or.inr ⟨?_, q2⟩
        simp only [List.length_cons]
        push_cast
        omega
theorem am_lsw_spec {bps : List Nat} {b d : Nat} {x : Int32} {α : Type} {f : Nat → Option α} {r : α} {dv : Int} (hdv : am_tgt bps b dv d = true) : ∀ (ps : List (Int × Int)) (l : List (Int32 × Nat)), am_lsw bps b ps l = true → am_swf x l d f = some r →
    ∃ off t, Op.lookupswitch.offset ps dv x.toInt = off ∧ am_tgt bps b off t = true ∧ f t = some r
  | [], [], _, h => ⟨dv, d, rfl, hdv, h⟩
  | [], _ :: _, h, _ => by cases h
  | _ :: _, [], h, _ => by cases h
  | (v, off) :: ps, (w, t) :: l, h, h2 => by
    unfold am_lsw at h
    simp only [Bool.and_eq_true, decide_eq_true_eq] at h
    obtain ⟨h3, h4, h5⟩ := h
    change (if x = w then f t else am_swf x l d f) = some r at h2
    by_cases hx : x = w
    · rw [if_pos hx] at h2
      refine ⟨off, t, ?_, h4, h2⟩
      rw [Op.lookupswitch.offset_cons, if_pos (by rw [hx, h3])]
    · rw [if_neg hx] at h2
      rw [lv_osw hx h3]
      exact am_lsw_spec hdv ps l h5 h2
def am_yL : MethodName := ⟨"java/lang/String", "length", "()I"⟩
def am_yA : MethodName := ⟨"java/lang/String", "charAt", "(I)C"⟩
def am_WL : List Cond := Cond.code am_yL prog_17_method_54_code 1 (some .int) :: am_good
def am_WA : List Cond := Cond.code am_yA prog_17_method_56_code 2 (some .char) :: am_good
def am_rmS : Room := { frames := 6, cells := 0, slots := 0, locals := 200 }
def am_PcS (dC : Nat → ClassId) (dI : Nat → Nat → Nat) (aC : Nat → ClassId) (base : Nat) (adK adV : Nat → Nat) (i : Nat) (as : List Value) : Array Value → State → Prop := va_Pc (.ref (adK i) :: as) (fun U => am_S dC dI aC base adK adV U)
def am_SL (l : Launch) (dC : Nat → ClassId) (dI : Nat → Nat → Nat) (aC : Nat → ClassId) (base : Nat) (adK adV : Nat → Nat) : Prop := ∀ i, i < 2 → Met l am_yL am_WL am_rmS (am_PcS dC dI aC base adK adV i []) (QcRead (Int32.ofNat (am_str i).length)) 0 0 (fun _ => False)
def am_SA (l : Launch) (dC : Nat → ClassId) (dI : Nat → Nat → Nat) (aC : Nat → ClassId) (base : Nat) (adK adV : Nat → Nat) : Prop := ∀ i (j : Int32), i < 2 → ¬ (j < 0 ∨ (am_str i).length ≤ j.toNatClampNeg) → Met l am_yA am_WA am_rmS (am_PcS dC dI aC base adK adV i [.int j]) (QcRead ((am_str i).getD j.toNatClampNeg 0)) 0 0 (fun _ => False)
theorem am_str_words : tables_1[492]? = some (Cond.methodLink "WordEach$Tape" 45 am_yL) ∧ tables_1[493]? = some (Cond.instanceMethod am_yL) ∧ tables_1[494]? = some (Cond.selects "java/lang/String" am_yL am_yL) ∧ tables_1[14]? = some (Cond.initialized "java/lang/String") ∧ tables_1[502]? = some (Cond.methodLink "WordEach$Tape" 50 am_yA) ∧ tables_1[503]? = some (Cond.instanceMethod am_yA) ∧ tables_1[504]? = some (Cond.selects "java/lang/String" am_yA am_yA) := by decide +kernel
theorem am_str_code : tables_1[495]? = some (Cond.code am_yL prog_17_method_54_code 1 (some .int)) ∧ tables_1[505]? = some (Cond.code am_yA prog_17_method_56_code 2 (some .char)) := by decide +kernel
theorem am_WS_good {mi : Nat} {w0 : Cond} {q : Nat} (h : tables_1[q]? = some w0) (hg : goodWord w0 = true) : GoodIn (am_W mi) (w0 :: am_good) := by
  intro w hw
  rcases List.mem_cons.mp hw with rfl | hw
  · exact ⟨am_in_W h hg, good_of_word hg⟩
  · exact ⟨List.mem_cons_of_mem _ hw, good_of_word (List.mem_filter.mp hw).2⟩
theorem am_PcS_blind (dC : Nat → ClassId) (dI : Nat → Nat → Nat) (aC : Nat → ClassId) (base : Nat) (adK adV : Nat → Nat) (i : Nat) (as : List Value) : FrameBlind (am_PcS dC dI aC base adK adV i as) := fun _ _ _ _ q => ⟨q.1, am_S_calling q.2⟩
section AMS
variable {l : Launch} {dC : Nat → ClassId} {dI : Nat → Nat → Nat} {aC : Nat → ClassId} {base : Nat} {adK adV : Nat → Nat} {p : Program} {e : Env} {s : State} {m : MethodId} {args : Array Value} {below : List Frame} {meth : Method} {c : Code} {mi d : Nat} {r : Option mv} {g2 : mg} {K : Nat → ml → List mv → mg → Option mr} {C : Nat → List mv → mg → Option mr} {k : Nat} {ls : ml} {st : List mv} {g : mg} {H : Heap} {locs : List Loc} {b : Nat} {LS : Array Slot} {a bb cc : Nat} {z : mv}
theorem am_r_tableswitch (X : am_X l dC dI aC base adK adV p e s m args below meth c mi d r g2 K k ls st g H locs b LS) {dv lo hi : Int} {offs : Array Int} {len t : Nat} {sl : List (Int32 × Nat)} (hsw : am_nth am_sws a = some (sl, t)) (h1 : am_tgt (am_bp mi) b dv t = true) (h2 : (offs.size : Int) = hi - lo + 1) (h3 : am_tsw (am_bp mi) b lo offs.toList sl = true) (hd : decode (am_B mi) b = .ok (.tableswitch dv lo hi offs, len)) (h : am_do K C (.tableswitch dv lo hi offs, a, bb, cc, z) k ls st g = some (r, g2)) : am_Go l dC dI aC base adK p e s m args below meth c mi d r g2 H locs b LS st := by
  obtain ⟨hmi, ⟨hx, hb, hml, hown, hts, hret, hlk, hS⟩, hK, hL, hP, hV, ok, hbk⟩ := X
  change (match (generalizing := false) st with
      | .inl x :: st => match (generalizing := false) am_nth am_sws a with
        | some (l, d) => am_swf x l d (fun t => K t ls st g)
        | none => none
      | _ => none) = some (r, g2) at h
  split at h
  next x st1 =>
    rw [hsw] at h
    dsimp only at h
    rcases am_tsw_spec _ _ _ h3 h with ⟨j, off, t2, q1, q2, q3, q4⟩ | ⟨q1, q2⟩
    · obtain ⟨bt, q5, q6⟩ := am_tgt_some q3
      have hj : j < offs.size := by
        have := (List.getElem?_eq_some_iff.mp q1).1
        simpa using this
      refine lv_tableIn hx hb hd (by omega) (by omega) (off := off) ?_ q6 (hK _ _ _ _ q4 (ok.st (am_ok_t ok.2.1)) _ _ _ _ hL hP hV q5)
      rw [show (x.toInt - lo).toNat = j by omega]
      simpa using q1
    · obtain ⟨bt, q5, q6⟩ := am_tgt_some h1
      refine lv_tableOut hx hb hd ?_ q6 (hK _ _ _ _ q2 (ok.st (am_ok_t ok.2.1)) _ _ _ _ hL hP hV q5)
      have e : (offs.toList.length : Int) = offs.size := by simp
      rw [e] at q1
      omega
  next => cases h
theorem am_r_lookupswitch (X : am_X l dC dI aC base adK adV p e s m args below meth c mi d r g2 K k ls st g H locs b LS) {dv : Int} {ps : Array (Int × Int)} {len t : Nat} {sl : List (Int32 × Nat)} (hsw : am_nth am_sws a = some (sl, t)) (h1 : am_tgt (am_bp mi) b dv t = true) (h2 : (ps.toList.zip (ps.toList.drop 1)).all (fun (a, next) => a.1 < next.1) = true) (h3 : am_lsw (am_bp mi) b ps.toList sl = true) (hd : decode (am_B mi) b = .ok (.lookupswitch dv ps, len)) (h : am_do K C (.lookupswitch dv ps, a, bb, cc, z) k ls st g = some (r, g2)) : am_Go l dC dI aC base adK p e s m args below meth c mi d r g2 H locs b LS st := by
  obtain ⟨hmi, ⟨hx, hb, hml, hown, hts, hret, hlk, hS⟩, hK, hL, hP, hV, ok, hbk⟩ := X
  change (match (generalizing := false) st with
      | .inl x :: st => match (generalizing := false) am_nth am_sws a with
        | some (l, d) => am_swf x l d (fun t => K t ls st g)
        | none => none
      | _ => none) = some (r, g2) at h
  split at h
  next x st1 =>
    rw [hsw] at h
    dsimp only at h
    obtain ⟨off, t2, q1, q2, q3⟩ := am_lsw_spec h1 _ _ h3 h
    obtain ⟨bt, q5, q6⟩ := am_tgt_some q2
    exact lv_lookup hx hb hd h2 q1 q6 (hK _ _ _ _ q3 (ok.st (am_ok_t ok.2.1)) _ _ _ _ hL hP hV q5)
  next => cases h
theorem am_r_strlen (X : am_X l dC dI aC base adK adV p e s m args below meth c mi d r g2 K k ls st g H locs b LS) (hSL : am_SL l dC dI aC base adK adV) (ha : a = 900) (hown9 : (am_head mi).1 = 9) (hd : decode (am_B mi) b = .ok (.invokevirtual 45, 3)) (hn : am_nth (am_bp mi) (k + 1) = some (b + 3)) (h : am_do K C (.invokevirtual 45, a, bb, cc, z) k ls st g = some (r, g2)) : am_Go l dC dI aC base adK p e s m args below meth c mi d r g2 H locs b LS st := by
  obtain ⟨hmi, ⟨hx, hb, hml, hown, hts, hret, hlk, hS⟩, hK, hL, hP, hV, ok, hbk⟩ := X
  subst ha
  change (match (generalizing := false) st with
        | .inr (.inr (kd, i)) :: st => if kd = 200 ∧ am_cat st ≤ 8 then K (k + 1) ls (vi (Int32.ofNat (am_str i).length) :: st) g else none
        | _ => none) = some (r, g2) at h
  split at h
  next kd i st1 =>
    by_cases hk : kd = 200 ∧ am_cat st1 ≤ 8
    · rw [if_pos hk] at h
      obtain ⟨rfl, hcat⟩ := hk
      have hi : i < 2 := by
        rcases am_ok_h ok.2.1 with ⟨-, q⟩ | ⟨q, -⟩
        · exact q
        · omega
      obtain ⟨w1, w2, w3, w4, -⟩ := am_str_words
      rw [hown9] at hown
      refine W.callR (W.runV (own := "WordEach$Tape") (C := "java/lang/String") (b := adK i) (As := []) (rest := st1.map (am_t base adK)) ⟨hx, hb, hml, hown, hts⟩ (hSL i hi) ⟨⟨rfl, rfl, ?_, ?_, pay_in hts (am_WS_good am_str_code.1 rfl), List.mem_cons_self, hts _ (am_in_W am_str_code.1 rfl), hts _ (am_in_W w4 rfl), by decide, fun sig hs => ?_, hts _ (am_in_W w1 rfl)⟩, hts _ (am_in_W w2 rfl), hts _ (am_in_W w3 rfl)⟩ ⟨am_PcS_blind _ _ _ _ _ _ _ _, vk_recv hS.2.1 hi hV, fun U hU hW => ⟨rfl, am_S_moved hS hV hU hW⟩⟩ rfl rfl hL.1 rfl ?_ hd ⟨Nat.le_refl _, Nat.le_refl _⟩) (hK _ _ _ _ h (ok.st (am_ok_c (am_ok_i _) (am_ok_t ok.2.1))) _ _ _ _ hL hP hV hn)
      · show 6 + 1 ≤ d + 10; omega
      · show 8 + (1 + 11) + 200 ≤ 40 * d + 400; omega
      · have e : (parseMethodDescriptor am_yL.desc).map (fun d => d.parameters.length) = some 0 := by decide +kernel
        rw [hs] at e
        exact (Option.some.inj e).symm
      · refine lv_room ?_
        rw [am_t_cats]
        exact hcat
    · rw [if_neg hk] at h; cases h
  next => cases h
theorem am_r_charAt (X : am_X l dC dI aC base adK adV p e s m args below meth c mi d r g2 K k ls st g H locs b LS) (hSA : am_SA l dC dI aC base adK adV) (ha : a = 901) (hown9 : (am_head mi).1 = 9) (hd : decode (am_B mi) b = .ok (.invokevirtual 50, 3)) (hn : am_nth (am_bp mi) (k + 1) = some (b + 3)) (h : am_do K C (.invokevirtual 50, a, bb, cc, z) k ls st g = some (r, g2)) : am_Go l dC dI aC base adK p e s m args below meth c mi d r g2 H locs b LS st := by
  obtain ⟨hmi, ⟨hx, hb, hml, hown, hts, hret, hlk, hS⟩, hK, hL, hP, hV, ok, hbk⟩ := X
  subst ha
  change (match (generalizing := false) st with
        | .inl j :: .inr (.inr (kd, i)) :: st => if kd = 200 ∧ am_cat st ≤ 8 then (if j < 0 ∨ (am_str i).length ≤ j.toNatClampNeg then none else K (k + 1) ls (vi ((am_str i).getD j.toNatClampNeg 0) :: st) g) else none
        | _ => none) = some (r, g2) at h
  split at h
  next j kd i st1 =>
    by_cases hk : kd = 200 ∧ am_cat st1 ≤ 8
    · rw [if_pos hk] at h
      obtain ⟨rfl, hcat⟩ := hk
      by_cases hj : j < 0 ∨ (am_str i).length ≤ j.toNatClampNeg
      · rw [if_pos hj] at h; cases h
      · rw [if_neg hj] at h
        have hi : i < 2 := by
          rcases am_ok_h (am_ok_t ok.2.1) with ⟨-, q⟩ | ⟨q, -⟩
          · exact q
          · omega
        obtain ⟨-, -, -, w4, w1, w2, w3⟩ := am_str_words
        rw [hown9] at hown
        refine W.callR (W.runV (own := "WordEach$Tape") (C := "java/lang/String") (b := adK i) (As := [.int j]) (rest := st1.map (am_t base adK)) ⟨hx, hb, hml, hown, hts⟩ (hSA i j hi hj) ⟨⟨rfl, rfl, ?_, ?_, pay_in hts (am_WS_good am_str_code.2 rfl), List.mem_cons_self, hts _ (am_in_W am_str_code.2 rfl), hts _ (am_in_W w4 rfl), by decide, fun sig hs => ?_, hts _ (am_in_W w1 rfl)⟩, hts _ (am_in_W w2 rfl), hts _ (am_in_W w3 rfl)⟩ ⟨am_PcS_blind _ _ _ _ _ _ _ _, vk_recv hS.2.1 hi hV, fun U hU hW => ⟨rfl, am_S_moved hS hV hU hW⟩⟩ rfl rfl hL.1 rfl ?_ hd ⟨Nat.le_refl _, Nat.le_refl _⟩) (hK _ _ _ _ h (ok.st (am_ok_c (am_ok_i _) (am_ok_t (am_ok_t ok.2.1)))) _ _ _ _ hL hP hV hn)
        · show 6 + 1 ≤ d + 10; omega
        · show 8 + (2 + 11) + 200 ≤ 40 * d + 400; omega
        · have e : (parseMethodDescriptor am_yA.desc).map (fun d => d.parameters.length) = some 1 := by decide +kernel
          rw [hs] at e
          exact (Option.some.inj e).symm
        · refine lv_room ?_
          rw [am_t_cats]
          exact hcat
    · rw [if_neg hk] at h; cases h
  next => cases h
theorem am_math_words : am_Y 294 = Lib.Math.min.name ∧ am_Y 295 = Lib.Math.max.name ∧ am_Y 296 = Lib.MathLoose.min_long.x ∧ am_Y 297 = Lib.MathLoose.max_long.x ∧ am_B 294 = Lib.Math.min.code ∧ am_B 295 = Lib.Math.max.code ∧ am_B 296 = Lib.MathLoose.min_long.code ∧ am_B 297 = Lib.MathLoose.max_long.code := by decide +kernel
/-- floorDiv, as a row (proved elsewhere) -/
def am_FD (l : Launch) : Prop := ∀ (p : Program) (e : Env) (R : Room) (s : State) (m : MethodId) (args : Array Value) (below : List Frame) (meth : Method) (c : Code) (H : Heap) (locs : List Loc) (Q : State → Prop) (mi b x : Nat) (LS : Array Slot) (u w : Int32) (rest : List Value), p.tables.exec = Jvm.exec → c.code = am_B mi → c.maxLocals = LS.size → s.vm.findClass (am_R (am_head mi).1) = some m.cls → (Cond.methodLink (am_R (am_head mi).1) x (am_Y 298)).before args s = true → (Cond.static (am_Y 298)).before args s = true → (Cond.initialized "java/lang/Math").before args s = true → (Cond.code (am_Y 298) (am_B 298) 3 (some .int)).before args s = true → 1 ≤ R.frames → (rest.map fun v => v.category).sum + 20 ≤ R.locals → ¬ w = 0 → decode (am_B mi) b = .ok (.invokestatic x, 3) → W p l e R s m args below meth c H locs 0 0 Q (F0 m (b + 3) LS (.int (am_fd u w) :: rest)) → W p l e R s m args below meth c H locs 0 0 Q (F0 m b LS (.int w :: .int u :: rest))
theorem am_r_math (X : am_X l dC dI aC base adK adV p e s m args below meth c mi d r g2 K k ls st g H locs b LS) (hFD : am_FD l) {x : Nat} (hm : 294 ≤ a ∧ a ≤ 298) (hlk2 : ∃ q, ((am_head mi).1, x, a, q) ∈ am_mls) (hd : decode (am_B mi) b = .ok (.invokestatic x, 3)) (hn : am_nth (am_bp mi) (k + 1) = some (b + 3)) (h : am_do K C (.invokestatic x, a, bb, cc, z) k ls st g = some (r, g2)) : am_Go l dC dI aC base adK p e s m args below meth c mi d r g2 H locs b LS st := by
  obtain ⟨hmi, ⟨hx, hb, hml, hown, hts, hret, hlk, hS⟩, hK, hL, hP, hV, ok, hbk⟩ := X
  obtain ⟨q, hq⟩ := hlk2
  have hw := hts _ (am_in_W (of_decide_eq_true (List.all_eq_true.mp am_ml_ok _ hq)) rfl)
  dsimp only at hw
  have hy : a < 300 := by omega
  obtain ⟨w1, w2, w3, w4, w5, w6, w7⟩ := am_words hy
  have hcls : ∀ y, 294 ≤ y ∧ y ≤ 298 → (am_P y).1 = true ∧ (am_Y y).cls = "java/lang/Math" := by
    intro y hy
    have : y = 294 ∨ y = 295 ∨ y = 296 ∨ y = 297 ∨ y = 298 := by omega
    rcases this with rfl | rfl | rfl | rfl | rfl <;> exact ⟨rfl, rfl⟩
  obtain ⟨s1, s2⟩ := hcls a hm
  rw [if_pos s1] at w2
  have hst := hts _ (am_in_W w2 rfl)
  have hco := hts _ (am_in_W w1 rfl)
  have hin := hts _ (am_in_W w4 rfl)
  rw [s2] at hin
  have hml2 : c.maxLocals = LS.size := by rw [hml, hL.1]
  have hr : ∀ st1 : List mv, am_cat st1 ≤ 8 → ((st1.map (am_t base adK)).map fun v => v.category).sum + 20 ≤ (am_rm d).locals := by
    intro st1 h8
    rw [am_t_cats]
    show am_cat st1 + 20 ≤ 40 * d + 400
    omega
  have h0 : (if 294 ≤ a ∧ a ≤ 298 then am_math K a k ls st g else am_inv K C a bb cc k ls st g) = some (r, g2) := h
  rw [if_pos hm] at h0
  unfold am_math at h0
  obtain ⟨m1, m2, m3, m4, m5, m6, m7, m8⟩ := am_math_words
  by_cases a1 : a = 294
  · rw [if_pos a1] at h0
    subst a1
    unfold am_m2i at h0
    split at h0
    next y1 x1 st1 =>
      by_cases h8 : am_cat st1 ≤ 8
      · rw [if_pos h8] at h0
        rw [m1] at hw hst
        rw [m1, m5] at hco
        exact va_mmin hx hb hml2 hown hw hst hin hco (by show 1 ≤ d + 10; omega) (by have := hr st1 h8; omega) (Nat.le_refl _) (Nat.le_refl _) hd (hK _ _ _ _ h0 (ok.st (am_ok_c (am_ok_i _) (am_ok_t (am_ok_t ok.2.1)))) _ _ _ _ hL hP hV hn)
      · rw [if_neg h8] at h0; cases h0
    next => cases h0
  · rw [if_neg a1] at h0
    by_cases a2 : a = 295
    · rw [if_pos a2] at h0
      subst a2
      unfold am_m2i at h0
      split at h0
      next y1 x1 st1 =>
        by_cases h8 : am_cat st1 ≤ 8
        · rw [if_pos h8] at h0
          rw [m2] at hw hst
          rw [m2, m6] at hco
          exact va_mmax hx hb hml2 hown hw hst hin hco (by show 1 ≤ d + 10; omega) (by have := hr st1 h8; omega) (Nat.le_refl _) (Nat.le_refl _) hd (hK _ _ _ _ h0 (ok.st (am_ok_c (am_ok_i _) (am_ok_t (am_ok_t ok.2.1)))) _ _ _ _ hL hP hV hn)
        · rw [if_neg h8] at h0; cases h0
      next => cases h0
    · rw [if_neg a2] at h0
      by_cases a3 : a = 296
      · rw [if_pos a3] at h0
        subst a3
        unfold am_m2l at h0
        split at h0
        next y1 x1 st1 =>
          by_cases h8 : am_cat st1 ≤ 8
          · rw [if_pos h8] at h0
            rw [m3] at hw hst
            rw [m3, m7] at hco
            exact va_mmin_long hx hb hml2 hown hw hst hin hco (by show 1 ≤ d + 10; omega) (by have := hr st1 h8; omega) (Nat.le_refl _) (Nat.le_refl _) hd (hK _ _ _ _ h0 (ok.st (am_ok_c (am_ok_l _) (am_ok_t (am_ok_t ok.2.1)))) _ _ _ _ hL hP hV hn)
          · rw [if_neg h8] at h0; cases h0
        next => cases h0
      · rw [if_neg a3] at h0
        by_cases a4 : a = 297
        · rw [if_pos a4] at h0
          subst a4
          unfold am_m2l at h0
          split at h0
          next y1 x1 st1 =>
            by_cases h8 : am_cat st1 ≤ 8
            · rw [if_pos h8] at h0
              rw [m4] at hw hst
              rw [m4, m8] at hco
              exact va_mmax_long hx hb hml2 hown hw hst hin hco (by show 1 ≤ d + 10; omega) (by have := hr st1 h8; omega) (Nat.le_refl _) (Nat.le_refl _) hd (hK _ _ _ _ h0 (ok.st (am_ok_c (am_ok_l _) (am_ok_t (am_ok_t ok.2.1)))) _ _ _ _ hL hP hV hn)
            · rw [if_neg h8] at h0; cases h0
          next => cases h0
        · rw [if_neg a4] at h0
          have a5 : a = 298 := by omega
          subst a5
          split at h0
          next y1 x1 st1 =>
            by_cases hy0 : y1 = 0
            · rw [if_pos hy0] at h0; cases h0
            · rw [if_neg hy0] at h0
              by_cases h8 : am_cat st1 ≤ 8
              · rw [if_pos h8] at h0
                exact hFD p e _ s m args below meth c H locs _ mi b x LS x1 y1 _ hx hb hml2 hown hw hst hin hco (by show 1 ≤ d + 10; omega) (hr st1 h8) hy0 hd (hK _ _ _ _ h0 (ok.st (am_ok_c (am_ok_i _) (am_ok_t (am_ok_t ok.2.1)))) _ _ _ _ hL hP hV hn)
              · rw [if_neg h8] at h0; cases h0
          next => cases h0
end AMS
