/-! putfield, switches, calls -/
theorem am_fv_upd {base : Nat} {f : Nat → Int32} {h : Nat → Int64} {x y k i C s j : Nat} {v : Int32} (hs : s ≠ j) : am_fv base (upd f j v) h x y k i C s = am_fv base f h x y k i C s := by
  unfold am_fv
  split
  · rfl
  · rfl
  · show Value.int (upd f j v s) = _
    unfold upd
    rw [if_neg hs]
theorem am_fv_updL {base : Nat} {f : Nat → Int32} {h : Nat → Int64} {x y k i C s j : Nat} {v : Int64} (hs : s ≠ j) : am_fv base f (vp_updL h j v) x y k i C s = am_fv base f h x y k i C s := by
  unfold am_fv
  split
  · show Value.long (vp_updL h j v s) = _
    unfold vp_updL
    rw [if_neg hs]
  · rfl
  · rfl
theorem am_fty_desc {C s : Nat} : (am_fty C s = 0 → (am_T C s).2.2.1 = "I") ∧ (am_fty C s = 3 → (am_T C s).2.2.1 = "Z") ∧ (am_fty C s = 1 → (am_T C s).2.2.1 = "J") := by
  unfold am_fty
  refine ⟨?_, ?_, ?_⟩
  · split
    · rename_i q; exact fun _ => q
    · intro h; cases h
    · intro h; cases h
    · intro h; cases h
  · split
    · intro h; cases h
    · rename_i q; exact fun _ => q
    · intro h; cases h
    · intro h; cases h
  · split
    · intro h; cases h
    · intro h; cases h
    · rename_i q; exact fun _ => q
    · intro h; cases h
theorem am_fty_ref : ∀ C, C < 13 → ∀ s, s < am_N C → am_fty C s = 2 → (match parseFieldDescriptor (am_T C s).2.2.1 with | some ty => ty.isReference | none => false) = true := by decide +kernel
theorem am_parse_I : parseFieldDescriptor "I" = some .int := by decide +kernel
theorem am_parse_Z : parseFieldDescriptor "Z" = some .boolean := by decide +kernel
theorem am_parse_J : parseFieldDescriptor "J" = some .long := by decide +kernel
theorem am_rf_20 {s i X Y X2 : Nat} (hs : s ≠ 2) : ar 20 s i X2 Y = ar 20 s i X Y := by
  unfold ar
  split
  · rfl
  · rfl
  · rename_i k2 q
    exact absurd ((am_rf_ent (by decide) q).2.2.1 rfl) hs
  · rfl
  · rfl
theorem am_rf_3 {s i X Y Y2 : Nat} (hs : s ≠ 1) : ar 3 s i X Y2 = ar 3 s i X Y := by
  unfold ar
  split
  · rfl
  · rfl
  · rfl
  · rename_i k2 q
    exact absurd ((am_rf_ent (by decide) q).2.2.2 rfl) hs
  · rfl
section AMP
variable {l : Launch} {dC : Nat → ClassId} {dI : Nat → Nat → Nat} {aC : Nat → ClassId} {base : Nat} {adK adV : Nat → Nat} {p : Program} {e : Env} {s : State} {m : MethodId} {args : Array Value} {below : List Frame} {meth : Method} {c : Code} {mi d : Nat} {r : Option mv} {g2 : mg} {K : Nat → ml → List mv → mg → Option mr} {C : Nat → List mv → mg → Option mr} {k : Nat} {ls : ml} {st : List mv} {g : mg} {H : Heap} {locs : List Loc} {b : Nat} {LS : Array Slot} {a bb cc : Nat} {z : mv}
theorem am_r_putfield (X : am_X l dC dI aC base adK adV p e s m args below meth c mi d r g2 K k ls st g H locs b LS) {x q : Nat} (hq : ((am_head mi).1, x, a, bb, q) ∈ am_fls) (hty : am_fty a bb = cc) (hfin : (am_T a bb).2.2.2 = false) (hd : decode (am_B mi) b = .ok (.putfield x, 3)) (hn : am_nth (am_bp mi) (k + 1) = some (b + 3)) (h : am_do K C (.putfield x, a, bb, cc, z) k ls st g = some (r, g2)) : am_Go l dC dI aC base adK p e s m args below meth c mi d r g2 H locs b LS st := by
  obtain ⟨hmi, ⟨hx, hb, hml, hown, hts, hret, hlk, hS⟩, hK, hL, hP, hV, ok, hbk⟩ := X
  have hlt := of_decide_eq_true (List.all_eq_true.mp am_fls_lt _ hq)
  have hw := of_decide_eq_true (List.all_eq_true.mp am_fl_ok _ hq)
  dsimp only at hlt hw
  obtain ⟨ha, hbN, hb89⟩ := hlt
  obtain ⟨c1, c2, ⟨ty0, c3⟩, c4, c5⟩ := am_ci ha
  have hts2 := fun x hx => am_inW (C := a) (mi := mi) c1 x hx
  have hlen : ∀ F : Nat → Value, bb < ((List.range (am_N a)).map F).length := fun F => by simpa using hbN
  have hcc : cc = 0 ∨ cc = 3 ∨ cc = 1 ∨ cc = 2 ∨ ∃ n, cc = n + 4 := by
    have q : cc = 0 ∨ cc = 3 ∨ cc = 1 ∨ cc = 2 ∨ 4 ≤ cc := by omega
    rcases q with q | q | q | q | q
    · exact Or.inl q
    · exact Or.inr (Or.inl q)
    · exact Or.inr (Or.inr (Or.inl q))
    · exact Or.inr (Or.inr (Or.inr (Or.inl q)))
    · exact Or.inr (Or.inr (Or.inr (Or.inr ⟨cc - 4, by omega⟩)))
  rcases hcc with rfl | rfl | rfl | rfl | ⟨n, rfl⟩
  ·
    change (match (generalizing := false) st with
        | .inl v :: .inr (.inr (kd, i)) :: st => if (af kd).1 = a then K (k + 1) ls st (am_ui g.1 kd i bb v, g.2) else none
        | _ => none) = some (r, g2) at h
    split at h
    next v kd i st1 =>
      by_cases hf : (af kd).1 = a
      · rw [if_pos hf] at h
        obtain ⟨hk, hi⟩ := am_okv_ref (am_ok_h (am_ok_t ok.2.1)) (by omega)
        have he := am_w_at aC base g hk hi
        rw [am_e_obj hk ha hf] at he
        unfold am_Go
        show W _ _ _ _ _ _ _ _ _ _ _ _ _ _ _ (F0 m b LS (Value.int v :: Value.ref (am_ad base adK kd i) :: _))
        rw [am_ad_eq hk]
        refine va_put hx hb (ref := am_R a) (C := am_R a) (T := am_T a) (N := am_N a) hts hts2 ty0 c3 c4 hown hS.1 hP (am_w_D aC base g) hV (am_off kd i) he c2 bb hbN (hts _ (am_in_W hw rfl)) (by rw [c5 bb hbN]; exact fun _ q => q) hfin (ty := .int) (by rw [am_fty_desc.1 hty]; exact am_parse_I) rfl rfl (hlen _) hd (fun H1 locs1 hP1 hD1 hV1 => ?_)
        rw [am_w_ui (g := g) (v := v) (j := bb) hk hi (by
          rw [am_e_obj hk ha hf, am_ui_self]
          refine congrArg (fun q => Sum.inr (a, q)) (am_map_set hbN ?_ (fun s hs => am_fv_upd hs))
          unfold am_fv
          rw [hty]
          show Value.int (upd (g.1 kd i) bb v bb) = _
          unfold upd
          rw [if_pos rfl])] at hP1
        exact hK _ _ _ _ h ⟨ok.1, am_ok_t (am_ok_t ok.2.1), ok.2.2⟩ _ _ _ _ hL hP1 hV1 hn
      · rw [if_neg hf] at h; cases h
    next => cases h
  ·
    change (match (generalizing := false) st with
        | .inl v :: .inr (.inr (kd, i)) :: st => if (af kd).1 = a then (if v = 0 ∨ v = 1 then K (k + 1) ls st (am_ui g.1 kd i bb v, g.2) else none) else none
        | _ => none) = some (r, g2) at h
    split at h
    next v kd i st1 =>
      by_cases hf : (af kd).1 = a
      · rw [if_pos hf] at h
        by_cases hv : v = 0 ∨ v = 1
        · rw [if_pos hv] at h
          obtain ⟨hk, hi⟩ := am_okv_ref (am_ok_h (am_ok_t ok.2.1)) (by omega)
          have he := am_w_at aC base g hk hi
          rw [am_e_obj hk ha hf] at he
          unfold am_Go
          show W _ _ _ _ _ _ _ _ _ _ _ _ _ _ _ (F0 m b LS (Value.int v :: Value.ref (am_ad base adK kd i) :: _))
          rw [am_ad_eq hk]
          refine va_put hx hb (ref := am_R a) (C := am_R a) (T := am_T a) (N := am_N a) hts hts2 ty0 c3 c4 hown hS.1 hP (am_w_D aC base g) hV (am_off kd i) he c2 bb hbN (hts _ (am_in_W hw rfl)) (by rw [c5 bb hbN]; exact fun _ q => q) hfin (ty := .boolean) (by rw [am_fty_desc.2.1 hty]; exact am_parse_Z) (by rcases hv with rfl | rfl <;> rfl) (by rcases hv with rfl | rfl <;> rfl) (hlen _) hd (fun H1 locs1 hP1 hD1 hV1 => ?_)
          rw [am_w_ui (g := g) (v := v) (j := bb) hk hi (by
            rw [am_e_obj hk ha hf, am_ui_self]
            refine congrArg (fun q => Sum.inr (a, q)) (am_map_set hbN ?_ (fun s hs => am_fv_upd hs))
            unfold am_fv
            rw [hty]
            show Value.int (upd (g.1 kd i) bb v bb) = _
            unfold upd
            rw [if_pos rfl])] at hP1
          exact hK _ _ _ _ h ⟨ok.1, am_ok_t (am_ok_t ok.2.1), ok.2.2⟩ _ _ _ _ hL hP1 hV1 hn
        · rw [if_neg hv] at h; cases h
      · rw [if_neg hf] at h; cases h
    next => cases h
  ·
    change (match (generalizing := false) st with
        | .inr (.inl v) :: .inr (.inr (kd, _)) :: st => if (af kd).1 = a then K (k + 1) ls st (g.1, am_ul g.2.1 kd bb v, g.2.2) else none
        | _ => none) = some (r, g2) at h
    split at h
    next v kd i st1 =>
      by_cases hf : (af kd).1 = a
      · rw [if_pos hf] at h
        obtain ⟨hk, hi⟩ := am_okv_ref (am_ok_h (am_ok_t ok.2.1)) (by omega)
        have he := am_w_at aC base g hk hi
        rw [am_e_obj hk ha hf] at he
        unfold am_Go
        show W _ _ _ _ _ _ _ _ _ _ _ _ _ _ _ (F0 m b LS (Value.long v :: Value.ref (am_ad base adK kd i) :: _))
        rw [am_ad_eq hk]
        refine va_put hx hb (ref := am_R a) (C := am_R a) (T := am_T a) (N := am_N a) hts hts2 ty0 c3 c4 hown hS.1 hP (am_w_D aC base g) hV (am_off kd i) he c2 bb hbN (hts _ (am_in_W hw rfl)) (by rw [c5 bb hbN]; exact fun _ q => q) hfin (ty := .long) (by rw [am_fty_desc.2.2 hty]; exact am_parse_J) rfl rfl (hlen _) hd (fun H1 locs1 hP1 hD1 hV1 => ?_)
        rw [am_w_ul (g := g) (v := v) (j := bb) hk hi (af_long kd hk (Or.inr (hf.trans (am_fty_long a ha bb hb89 hty)))) (by
          rw [am_e_obj hk ha hf, am_ul_self]
          refine congrArg (fun q => Sum.inr (a, q)) (am_map_set hbN ?_ (fun s hs => am_fv_updL hs))
          unfold am_fv
          rw [hty]
          show Value.long (vp_updL (g.2.1 kd) bb v bb) = _
          unfold vp_updL
          rw [if_pos rfl])] at hP1
        exact hK _ _ _ _ h ⟨ok.1, am_ok_t (am_ok_t ok.2.1), ok.2.2⟩ _ _ _ _ hL hP1 hV1 hn
      · rw [if_neg hf] at h; cases h
    next => cases h
  ·
    change (match (generalizing := false) st with
        | .inr (.inr (kv, j)) :: .inr (.inr (kd, _)) :: st => if (af kd).1 = a ∧ kv = 4 then
            match (generalizing := false) art kd bb with
            | some (_, 2) => K (k + 1) ls st (g.1, g.2.1, j, g.2.2.2)
            | some (_, 3) => K (k + 1) ls st (g.1, g.2.1, g.2.2.1, j)
            | _ => none
          else none
        | _ => none) = some (r, g2) at h
    split at h
    next kv j kd i st1 =>
      by_cases hf : (af kd).1 = a ∧ kv = 4
      · rw [if_pos hf] at h
        obtain ⟨hf, rfl⟩ := hf
        obtain ⟨hk, hi⟩ := am_okv_ref (am_ok_h (am_ok_t ok.2.1)) (by omega)
        have hj2 : j < 2 := (am_okv_ref (am_ok_h ok.2.1) (by decide)).2
        have he := am_w_at aC base g hk hi
        rw [am_e_obj hk ha hf] at he
        obtain ⟨ty, hty1, hty2⟩ : ∃ ty, parseFieldDescriptor (am_T a bb).2.2.1 = some ty ∧ ty.isReference = true := by
          have t := am_fty_ref a ha bb hbN hty
          cases hp : parseFieldDescriptor (am_T a bb).2.2.1 with
          | none => rw [hp] at t; cases t
          | some ty => rw [hp] at t; exact ⟨ty, rfl, t⟩
        have hnar : ∀ q : Nat, narrow ty (.ref q) = .ref q := fun q => by cases ty <;> first | rfl | cases hty2
        have hfit : ∀ q : Nat, fits ty (.ref q) = true := fun q => by cases ty <;> first | rfl | cases hty2
        have put : ∀ G : mg, (am_w aC base g).set (am_off kd i) (base + am_off kd i, .inr (a, ((List.range (am_N a)).map (am_fv base (g.1 kd i) (g.2.1 kd) g.2.2.1 g.2.2.2 kd i a)).set bb (.ref (base + am_off 4 j)))) = am_w aC base G → G.2.2.1 < 2 ∧ G.2.2.2 < 2 → K (k + 1) ls st1 G = some (r, g2) → am_Go l dC dI aC base adK p e s m args below meth c mi d r g2 H locs b LS (.inr (.inr (4, j)) :: .inr (.inr (kd, i)) :: st1) := by
          intro G hG hG2 hKG
          unfold am_Go
          show W _ _ _ _ _ _ _ _ _ _ _ _ _ _ _ (F0 m b LS (Value.ref (am_ad base adK 4 j) :: Value.ref (am_ad base adK kd i) :: _))
          rw [am_ad_eq hk, am_ad_eq (show 4 < 112 by decide)]
          refine va_put hx hb (ref := am_R a) (C := am_R a) (T := am_T a) (N := am_N a) hts hts2 ty0 c3 c4 hown hS.1 hP (am_w_D aC base g) hV (am_off kd i) he c2 bb hbN (hts _ (am_in_W hw rfl)) (by rw [c5 bb hbN]; exact fun _ q => q) hfin (ty := ty) hty1 (hnar _) (hfit _) (hlen _) hd (fun H1 locs1 hP1 hD1 hV1 => ?_)
          rw [hG] at hP1
          exact hK _ _ _ _ hKG ⟨ok.1, am_ok_t (am_ok_t ok.2.1), hG2⟩ _ _ _ _ hL hP1 hV1 hn
        have rfx : ∀ (k2 hw2 X Y : Nat), art kd bb = some (k2, hw2) → am_fv base (g.1 kd i) (g.2.1 kd) X Y kd i a bb = match hw2 with | 0 => .ref (base + am_off k2 i) | 1 => .ref (base + am_off k2 0) | 2 => .ref (base + am_off k2 X) | 3 => .ref (base + am_off k2 Y) | _ => .null := by
          intro k2 hw2 X Y hr
          unfold am_fv
          rw [hty]
          try dsimp only
          unfold ar
          rw [hr]
          match hw2 with
          | 0 => rfl
          | 1 => rfl
          | 2 => rfl
          | 3 => rfl
          | n + 4 => rfl
        have rfo : ∀ (X Y X2 Y2 : Nat) (s : Nat), (ar kd s i X Y = ar kd s i X2 Y2) → am_fv base (g.1 kd i) (g.2.1 kd) X Y kd i a s = am_fv base (g.1 kd i) (g.2.1 kd) X2 Y2 kd i a s := by
          intro X Y X2 Y2 s hq
          unfold am_fv
          rw [hq]
        split at h
        · rename_i k2 hr
          obtain ⟨q1, ⟨q2, q3⟩, q4, -⟩ := am_rf_ent hk hr
          subst q2
          subst q3
          have q4 := q4 rfl
          have hone : am_cnt 20 = 1 := rfl
          refine put (g.1, g.2.1, j, g.2.2.2) (am_w_set (g2 := (g.1, g.2.1, j, g.2.2.2)) hk hi ?_ (fun k2 i2 hk2 hi2 hne => am_e_x hk2 (fun q => by subst q; exfalso; rcases hne with q | q <;> first | exact q rfl | omega) (fun _ => rfl))) ⟨hj2, ok.2.2.2⟩ h
          rw [am_e_obj hk ha hf]
          refine congrArg (fun q => Sum.inr (a, q)) (am_map_set hbN (rfx _ _ _ _ hr) (fun s hs => rfo _ _ _ _ s (am_rf_20 (by rw [← q4]; exact hs))))
        · rename_i k2 hr
          obtain ⟨q1, ⟨q2, q3⟩, -, q4⟩ := am_rf_ent hk hr
          subst q2
          subst q3
          have q4 := q4 rfl
          have hone : am_cnt 3 = 1 := rfl
          refine put (g.1, g.2.1, g.2.2.1, j) (am_w_set (g2 := (g.1, g.2.1, g.2.2.1, j)) hk hi ?_ (fun k2 i2 hk2 hi2 hne => am_e_x hk2 (fun _ => rfl) (fun q => by subst q; exfalso; rcases hne with q | q <;> first | exact q rfl | omega))) ⟨ok.2.2.1, hj2⟩ h
          rw [am_e_obj hk ha hf]
          refine congrArg (fun q => Sum.inr (a, q)) (am_map_set hbN (rfx _ _ _ _ hr) (fun s hs => rfo _ _ _ _ s (am_rf_3 (by rw [← q4]; exact hs))))
        · cases h
      · rw [if_neg hf] at h; cases h
    next => cases h
  · cases h
end AMP
