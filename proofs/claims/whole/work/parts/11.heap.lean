/-! one theorem an instruction: fields, arrays -/
theorem am_okv_ref {kd i : Nat} (h : am_okv (.inr (.inr (kd, i)))) (hf : (af kd).1 ≠ 99) : kd < 112 ∧ i < am_cnt kd := by
  rcases h with ⟨rfl, -⟩ | h
  · exact absurd rfl hf
  · exact h
theorem am_ad_eq {base : Nat} {adK : Nat → Nat} {kd i : Nat} (h : kd < 112) : am_ad base adK kd i = base + am_off kd i := by
  unfold am_ad
  rw [if_neg (by omega)]
theorem am_u_good {C : String} {T : u_T} {N : Nat} {w : Cond} (h : w ∈ u_ws C T N) : goodWord w = true := by
  unfold u_ws at h
  obtain ⟨k, -, rfl⟩ := List.mem_map.mp h
  unfold u_lay
  split <;> rfl
theorem am_inW {C : Nat} {mi : Nat} {R : String} {T : u_T} {N : Nat} (h : ∀ x ∈ u_ws R T N, x ∈ lw_tbl) : ∀ x ∈ u_ws R T N, x ∈ am_W mi :=
  fun x hx => List.mem_cons_of_mem _ (List.mem_filter.mpr ⟨h x hx, am_u_good hx⟩)
/-- what is known of a class by its number -/
def am_CI (C : Nat) : Prop := (∀ x ∈ u_ws (am_R C) (am_T C) (am_N C), x ∈ lw_tbl) ∧ classes[C]? = some (am_R C, am_T C, am_N C) ∧ (∃ ty0 : Nat → FieldType, ∀ k, k < am_N C → parseFieldDescriptor (am_T C k).2.2.1 = some (ty0 k)) ∧ (∀ a, a < am_N C → ∀ b, b < am_N C → a ≠ b → (am_T C a).2.1 ≠ (am_T C b).2.1) ∧ (∀ k, k < am_N C → (am_T C k).1 = am_R C)
theorem am_ci0 : am_CI 0 := ⟨am_in0, rfl, ⟨am_ty0, am_tk0⟩, am_nm0, by decide +kernel⟩
theorem am_ci1 : am_CI 1 := ⟨am_in1, rfl, ⟨am_ty1, am_tk1⟩, am_nm1, by decide +kernel⟩
theorem am_ci2 : am_CI 2 := ⟨am_in2, rfl, ⟨am_ty2, am_tk2⟩, am_nm2, by decide +kernel⟩
theorem am_ci3 : am_CI 3 := ⟨am_in3, rfl, ⟨am_ty3, am_tk3⟩, am_nm3, by decide +kernel⟩
theorem am_ci4 : am_CI 4 := ⟨am_in4, rfl, ⟨am_ty4, am_tk4⟩, am_nm4, by decide +kernel⟩
theorem am_ci5 : am_CI 5 := ⟨am_in5, rfl, ⟨am_ty5, am_tk5⟩, am_nm5, by decide +kernel⟩
theorem am_ci6 : am_CI 6 := ⟨am_in6, rfl, ⟨am_ty6, am_tk6⟩, am_nm6, by decide +kernel⟩
theorem am_ci7 : am_CI 7 := ⟨am_in7, rfl, ⟨am_ty7, am_tk7⟩, am_nm7, by decide +kernel⟩
theorem am_ci8 : am_CI 8 := ⟨am_in8, rfl, ⟨am_ty8, am_tk8⟩, am_nm8, by decide +kernel⟩
theorem am_ci9 : am_CI 9 := ⟨am_in9, rfl, ⟨am_ty9, am_tk9⟩, am_nm9, by decide +kernel⟩
theorem am_ci10 : am_CI 10 := ⟨am_in10, rfl, ⟨am_ty10, am_tk10⟩, am_nm10, by decide +kernel⟩
theorem am_ci11 : am_CI 11 := ⟨am_in11, rfl, ⟨am_ty11, am_tk11⟩, am_nm11, by decide +kernel⟩
theorem am_ci12 : am_CI 12 := ⟨am_in12, rfl, ⟨am_ty12, am_tk12⟩, am_nm12, by decide +kernel⟩
theorem am_ci {C : Nat} (h : C < 13) : am_CI C := by
  match C, h with
  | 0, _ => exact am_ci0
  | 1, _ => exact am_ci1
  | 2, _ => exact am_ci2
  | 3, _ => exact am_ci3
  | 4, _ => exact am_ci4
  | 5, _ => exact am_ci5
  | 6, _ => exact am_ci6
  | 7, _ => exact am_ci7
  | 8, _ => exact am_ci8
  | 9, _ => exact am_ci9
  | 10, _ => exact am_ci10
  | 11, _ => exact am_ci11
  | 12, _ => exact am_ci12
  | n + 13, h => exact absurd h (by omega)
theorem am_fls_lt : (am_fls.all fun e => decide (e.2.2.1 < 13 ∧ e.2.2.2.1 < am_N e.2.2.1 ∧ e.2.2.2.1 < 89)) = true := by decide +kernel
theorem am_e_obj {aC : Nat → ClassId} {base : Nat} {f : Nat → Int32} {h : Nat → Int64} {x y k i C : Nat} (hk : k < 112) (hC : C < 13) (hf : (af k).1 = C) : am_e aC base f h x y k i = .inr (C, (List.range (am_N C)).map (am_fv base f h x y k i C)) := by
  unfold am_e
  rcases af_tab k hk with ⟨h1, h2⟩ | ⟨h1, -⟩
  · rw [if_pos h1, h2, hf]
  · omega
theorem am_e_arr {aC : Nat → ClassId} {base : Nat} {f : Nat → Int32} {h : Nat → Int64} {x y k i C : Nat} (hC : 13 ≤ C) (hf : (af k).1 = C) : am_e aC base f h x y k i = .inl (aC C, (af k).2, am_ec base f h k i) := by
  unfold am_e
  rw [if_neg (by omega), hf]
section AMH
variable {l : Launch} {dC : Nat → ClassId} {dI : Nat → Nat → Nat} {aC : Nat → ClassId} {base : Nat} {adK adV : Nat → Nat} {p : Program} {e : Env} {s : State} {m : MethodId} {args : Array Value} {below : List Frame} {meth : Method} {c : Code} {mi d : Nat} {r : Option mv} {g2 : mg} {K : Nat → ml → List mv → mg → Option mr} {C : Nat → List mv → mg → Option mr} {k : Nat} {ls : ml} {st : List mv} {g : mg} {H : Heap} {locs : List Loc} {b : Nat} {LS : Array Slot} {a bb cc : Nat} {z : mv}
theorem am_r_getfield (X : am_X l dC dI aC base adK adV p e s m args below meth c mi d r g2 K k ls st g H locs b LS) {x q : Nat} (hq : (( am_head mi).1, x, a, bb, q) ∈ am_fls) (hty : am_fty a bb = cc) (hd : decode (am_B mi) b = .ok (.getfield x, 3)) (hn : am_nth (am_bp mi) (k + 1) = some (b + 3)) (h : am_do K C (.getfield x, a, bb, cc, z) k ls st g = some (r, g2)) : am_Go l dC dI aC base adK p e s m args below meth c mi d r g2 H locs b LS st := by
  obtain ⟨hmi, ⟨hx, hb, hml, hown, hts, hret, hlk, hS⟩, hK, hL, hP, hV, ok, hbk⟩ := X
  have hlt := of_decide_eq_true (List.all_eq_true.mp am_fls_lt _ hq)
  have hw := of_decide_eq_true (List.all_eq_true.mp am_fl_ok _ hq)
  dsimp only at hlt hw
  obtain ⟨ha, hbN, -⟩ := hlt
  obtain ⟨c1, c2, -, -, c5⟩ := am_ci ha
  change (match (generalizing := false) st with
      | .inr (.inr (kd, i)) :: st => if (af kd).1 = a then
          match (generalizing := false) cc with
          | 1 => K (k + 1) ls (vl (g.2.1 kd bb) :: st) g
          | 2 => match (generalizing := false) ar kd bb i g.2.2.1 g.2.2.2 with
            | some r => K (k + 1) ls (.inr (.inr r) :: st) g
            | none => none
          | _ => K (k + 1) ls (vi (g.1 kd i bb) :: st) g
        else none
      | _ => none) = some (r, g2) at h
  split at h
  next kd i st1 =>
    by_cases hf : (af kd).1 = a
    · rw [if_pos hf] at h
      obtain ⟨hk, hi⟩ := am_okv_ref (am_ok_h ok.2.1) (by omega)
      have he := am_w_at aC base g hk hi
      rw [am_e_obj hk ha hf] at he
      have hv : ((List.range (am_N a)).map (am_fv base (g.1 kd i) (g.2.1 kd) g.2.2.1 g.2.2.2 kd i a))[bb]? = some (am_fv base (g.1 kd i) (g.2.1 kd) g.2.2.1 g.2.2.2 kd i a bb) := by
        rw [List.getElem?_map, List.getElem?_range hbN]; rfl
      have key : ∀ v : mv, am_fv base (g.1 kd i) (g.2.1 kd) g.2.2.1 g.2.2.2 kd i a bb = am_t base adK v → am_okv v → K (k + 1) ls (v :: st1) g = some (r, g2) → am_Go l dC dI aC base adK p e s m args below meth c mi d r g2 H locs b LS (.inr (.inr (kd, i)) :: st1) := by
        intro v e1 okv hv2
        have row := va_get (rest := st1.map (am_t base adK)) (ls := LS) (Q := MQ below (am_Qc dC dI aC base adK r g2) args s 0 0 (fun q => base ≤ q)) (locs := locs) (cells := 0) (slots := 0) (below := below) (meth := meth) (l := l) (e := e) (R := am_rm d) hx hb (ref := am_R a) (C := am_R a) (T := am_T a) (N := am_N a) hts (am_inW (C := a) c1) hown hS.1 hP (am_off kd i) he c2 bb hbN (hts _ (am_in_W hw rfl)) (by rw [c5 bb hbN]; exact fun _ q => q) hv hd (by rw [e1]; exact hK _ _ _ _ hv2 (ok.st (am_ok_c okv (am_ok_t ok.2.1))) _ _ _ _ hL hP hV hn)
        unfold am_Go
        rw [List.map_cons]
        show W _ _ _ _ _ _ _ _ _ _ _ _ _ _ _ (F0 m b LS (Value.ref (am_ad base adK kd i) :: _))
        rw [am_ad_eq hk]
        exact row
      have hfv : am_fv base (g.1 kd i) (g.2.1 kd) g.2.2.1 g.2.2.2 kd i a bb = match (generalizing := false) cc with
          | 1 => .long (g.2.1 kd bb)
          | 2 => match (generalizing := false) ar kd bb i g.2.2.1 g.2.2.2 with
            | some r => .ref (base + am_off r.1 r.2)
            | none => .null
          | _ => .int (g.1 kd i bb) := by
        rw [← hty]; rfl
      split at h
      · exact key (vl (g.2.1 kd bb)) hfv (am_ok_l _) h
      · split at h
        · rename_i r1 hr1
          have hok := am_rf_ok hk hi ok.2.2.1 ok.2.2.2 hr1
          refine key (.inr (.inr r1)) ?_ (Or.inr hok) h
          rw [hfv]
          try dsimp only
          rw [hr1]
          show Value.ref _ = Value.ref (am_ad base adK r1.1 r1.2)
          rw [am_ad_eq hok.1]
        · cases h
      · rename_i h1 h2
        refine key (vi (g.1 kd i bb)) ?_ (am_ok_i _) h
        rw [hfv]
        split
        · exact absurd rfl h1
        · exact absurd rfl h2
        · rfl
    · rw [if_neg hf] at h; cases h
  next => cases h
end AMH
