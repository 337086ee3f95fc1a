/-! the reference: images -/
section
variable {c : Nat → Nat → Nat → Int32} {l : Nat → Nat → Int64} {x y : Nat} {K : Ct} {F : Nat} {row : List (Nat × Nat)} {tp : Nat → Nat} {n : Nat} {fa fp : Int} {rf : Nat → Int32} {sd : Int} {oc : List Nat}
theorem e289 {kd : Nat} (hkd : kd = 111 ∨ kd = 49) {L : List Nat} (hr : RowAt c kd 0 L) (hl : L.length ≤ (af kd).2) (hb : ∀ b ∈ L, b < 256) (d : Nat) : E (d + 1) 289 [vr kd 0, vi (iv L.length)] (c, l, x, y) = some (some (vi (iv (chkL L))), c, l, x, y) := by
  have h16 : (af kd).2 ≤ 1600 := by rcases hkd with rfl | rfl <;> decide
  have key : ∀ (m i s : Nat), i + m = L.length → s < 241 → X (d + 1) 289 4 [some (vr kd 0), some (vi (iv L.length)), some (vi (iv (s : Nat))), some (vi (iv (i : Nat)))] [] (c, l, x, y) = some (some (vi (iv (((L.drop i).foldl (fun c b => (3 * c + b) % 241) s : Nat) : Int))), c, l, x, y) := by
    intro m
    induction m with
    | zero =>
      intro i s hi hs
      rw [q_289_4 hkd]
      simp (disch := omega) only [iv_lt, if_neg]
      rw [List.drop_of_length_le (by omega)]
      rfl
    | succ m ih =>
      intro i s hi hs
      have hil : i < L.length := by omega
      have hm := hb _ (getD_mem hil)
      rw [q_289_4 hkd]
      simp (disch := omega) only [iv_add, iv_sub, iv_mul, iv_neg, iv_lt, iv_le, iv_eq, iv_nat, iv_L, iv_L2, am_bi_v, am_bv_v, am_bl_v, if_pos, if_neg, Int.toNat_natCast, Int.toNat_add, Int.toNat_mul, Int.reduceToNat, hr i hil, iv_div]
      rw [drop_getD hil, List.foldl_cons, ← ih (i + 1) _ (by omega) (Nat.mod_lt _ (by decide))]
      rw [show ((i : Int) + 1) = ((i + 1 : Nat) : Int) by omega, show (3 * (s : Int) + (L.getD i 0 : Nat) - (3 * (s : Int) + (L.getD i 0 : Nat)) / 241 * 241) = (((3 * s + L.getD i 0) % 241 : Nat) : Int) by omega]
  rw [q_289 hkd]
  exact key L.length 0 97 (by omega) (by decide)
theorem imgB_len (row : List (Nat × Nat)) (F : Nat) : (imgB row F).length = 2 * row.length + 2 := by
  unfold imgB
  rw [List.length_cons, List.length_append, flat_len]
  rfl
theorem imgB_mem (hv : VS K F row tp n fa fp sd oc) : ∀ b ∈ imgB row F, b < 256 := by
  have h7 := row7 hv
  have hF := F64 hv
  have h20 := hv.1.1.1
  intro b hb
  unfold imgB at hb
  rcases List.mem_cons.mp hb with q | q
  · omega
  · rcases List.mem_append.mp q with q | q
    · obtain ⟨p, hp, hq⟩ := List.mem_flatMap.mp q
      have h3 := hv.2.2.1.2.2 p hp
      have h4 := (hv.1.2.2.2.1.2 p.1 h3.1).2.2.2.2.2.2 _ h3.2
      have h5 := hv.1.2.2.2.1.1
      rcases List.mem_cons.mp hq with q | q
      · omega
      · rw [List.mem_singleton.mp q]; omega
    · rw [List.mem_singleton.mp q]; omega
theorem VS_image (hv : VS K F row tp n fa fp sd oc) : VS K F row tp n fa fp sd (imgL row F) := by
  have h7 := row7 hv
  have hm := imgB_mem hv
  have hl := imgB_len row F
  obtain ⟨v1, v2, v3, v4, v5, v6, v7, v8⟩ := hv
  refine ⟨v1, v2, v3, v4, v5, v6, v7, ?_, ?_⟩
  · unfold imgL; rw [List.length_append, hl, List.length_singleton]; omega
  · intro b hb
    unfold imgL at hb
    rcases List.mem_append.mp hb with q | q
    · exact hm b q
    · rw [List.mem_singleton.mp q]
      have := chk_lt (imgB row F) 97 (by decide)
      exact Nat.lt_trans this (by decide)
theorem m288 (h : AR c l K F row tp n fa fp rf sd oc) (hv : VS K F row tp n fa fp sd oc) (d : Nat) : ∃ c2 : Nat → Nat → Nat → Int32, E (d + 2) 288 [vr 48 0] (c, l, x, y) = some (some (vi (iv (2 * (row.length : Int) + 3))), c2, l, x, y) ∧ AR c2 l K F row tp n fa fp rf sd (imgL row F) ∧ KL c c2 := by
  have h7 := row7 hv
  have hF := F64 hv
  have lenB := imgB_len row F
  have memB := imgB_mem hv
  obtain ⟨g1, g2, g3, g4, g5, g6, g7⟩ := h
  have pairs : ∀ (m i : Nat) (c1 : Nat → Nat → Nat → Int32), i + m = row.length → RowAt c1 111 0 (row.length :: (row.take i).flatMap (fun p => [p.1, p.2])) → (∀ k, k ≠ 111 → c1 k = c k) → ∃ c2 : Nat → Nat → Nat → Int32, X (d + 2) 288 8 [some (vr 48 0), some (vi (iv (i : Nat)))] [] (c1, l, x, y) = some (some (vi (iv (2 * (row.length : Int) + 3))), am_ui (am_ui c2 111 0 (2 * row.length + 2) (iv (chkL (imgB row F)))) 48 0 88 (iv (2 * (row.length : Int) + 3)), l, x, y) ∧ RowAt c2 111 0 (imgB row F) ∧ ∀ k, k ≠ 111 → c2 k = c k := by
    intro m
    induction m with
    | zero =>
      intro i c1 hi hr hf
      rw [List.take_of_length_le (by omega)] at hr
      have hfl := flat_len row
      have hr2 : RowAt (am_ui c1 111 0 (2 * row.length + 1) (iv F)) 111 0 (imgB row F) := by
        unfold imgB
        have := RowAt_snoc (c := am_ui c1 111 0 (2 * row.length + 1) (iv F)) (kd := 111) (ws := row.length :: row.flatMap (fun p => [p.1, p.2])) (fun k hk => by
          rw [List.length_cons, hfl] at hk
          rw [ui_ne _ _ _ _ (by omega)]
          exact hr k (by rw [List.length_cons, hfl]; exact hk)) F (by rw [List.length_cons, hfl, ui_self])
        rw [List.cons_append] at this
        exact this
      have e289' := e289 (l := l) (x := x) (y := y) (kd := 111) (Or.inl rfl) hr2 (by rw [lenB]; show _ ≤ 17; omega) memB d
      rw [lenB] at e289'
      have c42 : c1 48 0 42 = iv row.length := by rw [hf 48 (by decide)]; exact g2.1
      have c39 : c1 48 0 39 = iv F := by rw [hf 48 (by decide)]; exact g1.2.2.2
      refine ⟨_, ?_, hr2, fun k hk => by rw [ui_nk _ _ _ _ hk]; exact hf k hk⟩
      rw [q_288_8, c42, c39]
      simp (disch := omega) only [iv_add, iv_sub, iv_mul, iv_neg, iv_lt, iv_le, iv_eq, iv_nat, iv_L, iv_L2, am_bi_v, am_bv_v, am_bl_v, if_pos, if_neg, Int.toNat_natCast, Int.toNat_add, Int.toNat_mul, Int.reduceToNat]
      rw [show (2 * (row.length : Int) + 2) = ((2 * row.length + 2 : Nat) : Int) by omega, e289']
      simp (disch := omega) only [am_bi_v, ui_ne, c42, iv_add, iv_mul, iv_lt, iv_nat, if_neg, Int.toNat_natCast, Int.toNat_add, Int.toNat_mul, Int.reduceToNat]
    | succ m ih =>
      intro i c1 hi hr hf
      have hil : i < row.length := by omega
      have hfl := flat_len (row.take i)
      rw [List.length_take, Nat.min_eq_left (by omega)] at hfl
      have hft := flat_take hil
      have hcat : row.length :: (row.take (i + 1)).flatMap (fun p => [p.1, p.2]) = (row.length :: (row.take i).flatMap (fun p => [p.1, p.2])) ++ [(whs row).getD i 0] ++ [(wds row).getD i 0] := by
        rw [hft]; simp
      have c42 : c1 48 0 42 = iv row.length := by rw [hf 48 (by decide)]; exact g2.1
      have w1 : c1 78 0 i = iv ((whs row).getD i 0 : Nat) := by rw [hf 78 (by decide)]; exact g2.2.2 i (by rw [whs_len]; exact hil)
      have w2 : c1 77 0 i = iv ((wds row).getD i 0 : Nat) := by rw [hf 77 (by decide)]; exact g2.2.1 i (by rw [wds_len]; exact hil)
      obtain ⟨c2, a1, a2, a3⟩ := ih (i + 1) (am_ui (am_ui c1 111 0 (1 + 2 * i) (iv ((whs row).getD i 0 : Nat))) 111 0 (2 + 2 * i) (iv ((wds row).getD i 0 : Nat))) (by omega) (by
        rw [hcat]
        refine RowAt_snoc (RowAt_snoc (fun k hk => ?_) _ ?_) _ ?_
        · rw [List.length_cons, hfl] at hk
          rw [ui_ne _ _ _ _ (by omega), ui_ne _ _ _ _ (by omega)]
          exact hr k (by rw [List.length_cons, hfl]; exact hk)
        · rw [List.length_cons, hfl, ui_ne _ _ _ _ (by omega), show 2 * i + 1 = 1 + 2 * i by omega, ui_self]
        · rw [List.length_append, List.length_cons, hfl, List.length_singleton, show 2 * i + 1 + 1 = 2 + 2 * i by omega, ui_self]) (fun k hk => by rw [ui_nk _ _ _ _ hk, ui_nk _ _ _ _ hk]; exact hf k hk)
      refine ⟨c2, ?_, a2, a3⟩
      rw [q_288_8, c42]
      simp (disch := omega) only [iv_add, iv_sub, iv_mul, iv_neg, iv_lt, iv_le, iv_eq, iv_nat, iv_L, iv_L2, am_bi_v, am_bv_v, am_bl_v, if_pos, if_neg, Int.toNat_natCast, Int.toNat_add, Int.toNat_mul, Int.reduceToNat, w1, w2]
      rw [show ((i : Int) + 1) = ((i + 1 : Nat) : Int) by omega]
      exact a1
  obtain ⟨c2, a1, a2, a3⟩ := pairs row.length 0 (am_ui c 111 0 0 (iv row.length)) (by omega) (by
    intro k hk
    have : k = 0 := by rw [List.take_zero, List.flatMap_nil, List.length_singleton] at hk; omega
    subst this
    rw [ui_self]
    rfl) (fun k hk => ui_nk _ _ _ _ hk)
  have hf : ∀ q, q ≠ 48 → q ≠ 111 → am_ui (am_ui c2 111 0 (2 * row.length + 2) (iv (chkL (imgB row F)))) 48 0 88 (iv (2 * (row.length : Int) + 3)) q = c q := fun q q1 q2 => by rw [ui_nk _ _ _ _ q1, ui_nk _ _ _ _ q2, a3 q q2]
  have h48 : ∀ s, s ≠ 88 → am_ui (am_ui c2 111 0 (2 * row.length + 2) (iv (chkL (imgB row F)))) 48 0 88 (iv (2 * (row.length : Int) + 3)) 48 0 s = c 48 0 s := fun s hs => by rw [ui_ne _ _ _ _ (by omega), ui_ne _ _ _ _ (by omega), a3 48 (by decide)]
  refine ⟨_, ?_, ⟨RR_fr g1 (fun q hq => hf q (by omega) (by omega)) (h48 _ (by omega)) (h48 _ (by omega)), ⟨by rw [h48 _ (by omega)]; exact g2.1, RowAt_fr g2.2.1 (hf 77 (by omega) (by omega)), RowAt_fr g2.2.2 (hf 78 (by omega) (by omega))⟩, ⟨?_, ?_⟩, ⟨by rw [h48 _ (by omega)]; exact g4.1, by rw [h48 _ (by omega)]; exact g4.2.1, by rw [h48 _ (by omega)]; exact g4.2.2.1, by rw [hf 49 (by omega) (by omega)]; exact g4.2.2.2⟩, by rw [hf 50 (by omega) (by omega)]; exact g5, g6, CH_fr g7 (fun q hq => hf q (by omega) (by omega))⟩, fun q hq => hf q (by omega) (by omega)⟩
  · rw [q_288, g2.1]
    exact a1
  · rw [ui_self]
    unfold imgL
    rw [List.length_append, lenB, List.length_singleton, show ((2 * row.length + 2 + 1 : Nat) : Int) = 2 * (row.length : Int) + 3 by omega]
  · unfold imgL
    refine RowAt_snoc (fun k hk => ?_) _ ?_
    · rw [lenB] at hk
      rw [ui_ne _ _ _ _ (by omega), ui_ne _ _ _ _ (by omega)]
      exact a2 k (by rw [lenB]; exact hk)
    · rw [lenB, ui_ne _ _ _ _ (by omega), ui_self]
/-- whether an image is told -/
theorem e292 (hR : RR c l K F) (ht49 : ∀ i, i < 1600 → c 49 0 i = iv (tp i)) (hn : n ≤ 1600) (ht : ∀ i, tp i < 256) (d : Nat) : E (d + 3) 292 [vr 48 0, vi (iv n)] (c, l, x, y) = some (some (vi (iv (if imgOk K n tp then 1 else 0))), c, l, x, y) := by
  have h7 := hR.2.1.2.2.2.1.1
  have h6 := hR.2.1.2.1.1
  have t0 := ht 0
  have hbig : ∀ b : Bool, imgOk K n tp = b → (nB K < tp 0 → b = false) := by
    intro b hb hlt
    rw [← hb]
    cases hI : imgOk K n tp with
    | false => rfl
    | true =>
      unfold imgOk at hI
      rw [Bool.and_eq_true, Bool.and_eq_true, Bool.and_eq_true] at hI
      have := (imgRow_ok hR.2.1 hI.2.2.2).1
      unfold imgRow at this
      rw [List.length_map, List.length_range] at this
      omega
  rw [q_292]
  simp (disch := omega) only [iv_L, iv_lt]
  by_cases e0 : n < 3
  · rw [if_pos (by omega)]
    unfold imgOk
    rw [decide_eq_false (show ¬ n = 2 * tp 0 + 3 by omega)]
    rfl
  · rw [if_neg (by omega), q_185, hR.1.2.2.2.1.1, ht49 0 (by omega)]
    simp (disch := omega) only [am_bi_v, iv_lt]
    by_cases e1 : nB K < tp 0
    · rw [if_pos (by omega), hbig _ rfl e1]
      rfl
    · rw [if_neg (by omega), ht49 0 (by omega)]
      simp (disch := omega) only [iv_mul, iv_add, iv_eq]
      unfold imgOk
      by_cases e : n = 2 * tp 0 + 3
      · rw [if_pos (by omega), decide_eq_true e, Bool.true_and]
        have t1 := ht (n - 1)
        have t2 := ht (n - 2)
        have hlen : ((List.range (n - 1)).map tp).length = n - 1 := by rw [List.length_map, List.length_range]
        have hr : RowAt c 49 0 ((List.range (n - 1)).map tp) := by
          intro k hk
          rw [hlen] at hk
          rw [ht49 k (by omega), List.getD_eq_getElem?_getD, List.getElem?_map, List.getElem?_range hk]
          rfl
        have e4 := e289 (l := l) (x := x) (y := y) (kd := 49) (Or.inr rfl) hr (by rw [hlen]; show _ ≤ 1600; omega) (fun b hb => by
          obtain ⟨i, -, rfl⟩ := List.mem_map.mp hb
          exact ht i) (d + 1)
        rw [hlen] at e4
        have hck := chk_lt ((List.range (n - 1)).map tp) 97 (by decide)
        change chkL ((List.range (n - 1)).map tp) < 241 at hck
        simp (disch := omega) only [iv_sub, iv_lt, iv_nat, if_neg]
        rw [show ((n : Int) - 1) = ((n - 1 : Nat) : Int) by omega, e4, show ((n : Int) - 2) = ((n - 2 : Nat) : Int) by omega]
        simp (disch := omega) only [am_bi_v, iv_lt, iv_nat, if_neg, Int.toNat_natCast, Int.toNat_add, Int.toNat_mul, Int.reduceToNat, ht49 (n - 1) (by omega), ht49 (n - 2) (by omega), iv_eq, q_177, hR.1.2.1.1]
        by_cases g1' : chkL ((List.range (n - 1)).map tp) = tp (n - 1)
        · rw [if_pos (by omega), decide_eq_true g1', Bool.true_and]
          have hsh : iv 1 <<< (iv (nL K : Int) &&& 31) = iv ((2 ^ nL K : Nat) : Int) := shl1 (nL K) (by omega)
          have hp6 : 2 ^ nL K ≤ 2 ^ 6 := Nat.pow_le_pow_right (by decide) (by omega)
          have hp7 : ((2 ^ nL K : Nat) : Int) ≤ 64 := Int.ofNat_le.mpr hp6
          rw [hsh]
          have hlt : (iv ((tp (n - 2) : Nat) : Int) < iv ((2 ^ nL K : Nat) : Int)) = (tp (n - 2) < 2 ^ nL K) := by
            rw [iv_lt (by omega) ⟨by have := Int.natCast_nonneg (2 ^ nL K); omega, Int.lt_of_le_of_lt hp7 (by decide)⟩]
            exact propext Int.ofNat_lt
          simp only [hlt]
          by_cases g2' : tp (n - 2) < 2 ^ nL K
          · rw [if_pos g2', decide_eq_true g2', Bool.true_and]
            have key : ∀ (k i : Nat) (g : List Nat), i + k = tp 0 → (∀ w ∈ g, w < 7) → X (d + 3) 292 50 [some (vr 48 0), some (vi (iv n)), some (vi (iv (mskL g))), some (vi (iv ((2 * i + 1 : Nat) : Int)))] [] (c, l, x, y) = some (some (vi (iv (if saidR K tp k i g then 1 else 0))), c, l, x, y) := by
              intro k
              induction k with
              | zero =>
                intro i g hi hg
                rw [q_292_50]
                simp (disch := omega) only [iv_L, iv_sub, iv_lt, if_neg]
                rfl
              | succ k ih =>
                intro i g hi hg
                have hml := mskL_lt g hg
                have hbA := ht (2 * i + 1)
                have hbB := ht (2 * i + 2)
                have cA := ht49 (2 * i + 1) (by omega)
                have cB := ht49 (2 * i + 2) (by omega)
                unfold saidR
                generalize hA : tp (2 * i + 1) = A at cA hbA ⊢
                generalize hB : tp (2 * i + 2) = B at cB hbB ⊢
                rw [q_292_50]
                simp (disch := omega) only [iv_L, iv_L2, iv_sub, iv_lt, if_pos, iv_nat, if_neg, Int.toNat_natCast, Int.toNat_add, Int.toNat_mul, Int.reduceToNat, cA, e191 hR, am_bi_v]
                by_cases hA7 : A < nB K
                · rw [if_pos (show (0 : Int) ≤ A ∧ (A : Int) < nB K by omega), if_neg (show ¬ iv 1 = iv 0 by decide), iv_m31 (by omega), show ((A : Int) % 32) = A by omega, iv_bit (by omega) (by omega), Int.toNat_natCast, Int.toNat_natCast, mskL_bit, decide_eq_true hA7, Bool.true_and]
                  cases hc : g.contains A with
                  | true => rfl
                  | false =>
                    have e4 := e186 (x := x) (y := y) hR hA7 (z := (B : Int)) (by omega) d
                    have hany : (sayK K A).any (fun v : Nat => (v : Int) == (B : Int)) = (sayK K A).contains B := by
                      rw [List.contains_eq_any_beq]
                      congr 1
                      funext v
                      by_cases e : v = B
                      · subst e; simp
                      · have e2 : ¬ (v : Int) = (B : Int) := by omega
                        rw [beq_eq_false_iff_ne.mpr e2, beq_eq_false_iff_ne.mpr (Ne.symm e)]
                    rw [hany] at e4
                    rw [if_neg (by decide)]
                    simp (disch := omega) only [iv_add, iv_lt, iv_nat, iv_eq, if_neg, Int.toNat_natCast, Int.toNat_add, Int.toNat_mul, Int.reduceToNat]
                    rw [show (2 * i + 1 : Nat) + 1 = 2 * i + 2 by omega, cB, e4]
                    simp only [am_bi_v, Bool.not_false, Bool.true_and]
                    cases hs : (sayK K A).contains B with
                    | false => rfl
                    | true =>
                      have := ih (i + 1) (A :: g) (by omega) (fun w q => by
                        rcases List.mem_cons.mp q with q | q
                        · omega
                        · exact hg w q)
                      simp only [if_true, Bool.true_and]
                      rw [if_neg (by decide), cA]
                      have h31 : iv 1 <<< (iv (A : Int) &&& iv 31) = iv ((2 ^ A : Nat) : Int) := shl1 A (by omega)
                      have hp6 : 2 ^ A ≤ 2 ^ 7 := Nat.pow_le_pow_right (by decide) (by omega)
                      have hp7 : ((2 ^ A : Nat) : Int) ≤ 128 := Int.ofNat_le.mpr hp6
                      rw [h31, iv_or (by omega) ⟨Int.natCast_nonneg _, Int.lt_of_le_of_lt hp7 (by decide)⟩, Int.toNat_natCast, Int.toNat_natCast, show (((2 * i + 1 : Nat) : Int) + 2) = ((2 * (i + 1) + 1 : Nat) : Int) by omega]
                      exact this
                · rw [if_neg (show ¬ ((0 : Int) ≤ A ∧ (A : Int) < nB K) by omega), decide_eq_false hA7]
                  rfl
            exact key (tp 0) 0 [] (by omega) (fun w q => by cases q)
          · rw [if_neg g2', decide_eq_false g2']
            rfl
        · rw [if_neg (by omega), decide_eq_false g1']
          rfl
      · rw [if_neg (by omega), decide_eq_false e]
        rfl
theorem m291 (h : AR c l K F row tp n fa fp rf sd oc) (hv : VS K F row tp n fa fp sd oc) (d : Nat) : ∃ c2 : Nat → Nat → Nat → Int32, E (d + 4) 291 [vr 48 0] (c, l, x, y) = some (some (vi (iv (if imgOk K n tp then 1 else 0))), c2, l, x, y) ∧ AR c2 l K (if imgOk K n tp then tp (n - 2) else F) (if imgOk K n tp then imgRow tp (tp 0) else row) tp 0 fa fp (oneMore rf 5 (imgOk K n tp)) sd oc ∧ KL c c2 := by
  obtain ⟨hn, ht⟩ := hv.2.2.2.1
  obtain ⟨h0, hk0⟩ := ar_n h 0
  have e2 := e292 (x := x) (y := y) h0.1 h0.2.2.2.1.2.2.2 hn ht d
  rw [q_291, h.2.2.2.1.1, show (0 : Int32) = iv ((0 : Nat) : Int) from rfl, e2]
  simp only [am_bi_v]
  cases hI : imgOk K n tp with
  | false =>
    obtain ⟨r1, r2⟩ := ar_ref h0 (k := 5) (by decide)
    exact ⟨_, rfl, r1, hk0.tr r2⟩
  | true =>
    have hI2 := hI
    unfold imgOk at hI2
    rw [Bool.and_eq_true, Bool.and_eq_true, Bool.and_eq_true] at hI2
    obtain ⟨i1, i2, i3, i4⟩ := hI2
    have i1 := of_decide_eq_true i1
    have i3 := of_decide_eq_true i3
    have h7 := hv.1.2.2.2.1.1
    have h6 := hv.1.2.1.1
    have hro := imgRow_ok hv.1 i4
    have hil : ∀ i, (imgRow tp i).length = i := fun i => by unfold imgRow; rw [List.length_map, List.length_range]
    rw [hil] at hro
    have hp6 : 2 ^ nL K ≤ 2 ^ 6 := Nat.pow_le_pow_right (by decide) (by omega)
    have key : ∀ (k i : Nat) (c1 : Nat → Nat → Nat → Int32), i + k = tp 0 → AR c1 l K F (imgRow tp i) tp 0 fa fp rf sd oc → KL c c1 → ∃ c2 : Nat → Nat → Nat → Int32, X (d + 4) 291 25 [some (vr 48 0), some (vi (iv n)), some (vi (iv ((2 * i + 1 : Nat) : Int)))] [] (c1, l, x, y) = some (some (vi (iv 1)), c2, l, x, y) ∧ AR c2 l K (tp (n - 2)) (imgRow tp (tp 0)) tp 0 fa fp rf sd oc ∧ KL c c2 := by
      intro k
      induction k with
      | zero =>
        intro i c1 hi h1 hK
        have hii : i = tp 0 := by omega
        subst hii
        obtain ⟨s1, s2⟩ := ar_F h1 (G := tp (n - 2)) (by omega)
        refine ⟨_, ?_, s1, hK.tr s2⟩
        rw [q_291_25]
        simp (disch := omega) only [iv_L, iv_sub, iv_lt, if_neg, iv_nat]
        rw [show ((n : Int) - 2).toNat = n - 2 by omega, h1.2.2.2.1.2.2.2 (n - 2) (by omega)]
      | succ k ih =>
        intro i c1 hi h1 hK
        have hl := hil i
        obtain ⟨c2, a1, a2, a3, a4⟩ := e196 (x := x) (y := y) h1 (by omega) (tp (2 * i + 1)) (tp (2 * i + 2)) (d + 2)
        have hsn : imgRow tp (i + 1) = imgRow tp i ++ [(tp (2 * i + 1), tp (2 * i + 2))] := by
          unfold imgRow
          rw [List.range_succ, List.map_append]
          rfl
        rw [← hsn] at a2
        obtain ⟨c3, b1, b2, b3⟩ := ih (i + 1) c2 (by omega) a2 (hK.tr (fun q hq => a3 q (by omega) (by omega) (by omega)))
        refine ⟨c3, ?_, b2, b3⟩
        rw [q_291_25]
        simp (disch := omega) only [iv_L, iv_sub, iv_lt, if_pos, iv_nat, if_neg, Int.toNat_natCast, Int.toNat_add, Int.toNat_mul, Int.reduceToNat, iv_add, h1.2.2.2.1.2.2.2 (2 * i + 1) (by omega)]
        rw [show (2 * i + 1 : Nat) + 1 = 2 * i + 2 by omega, h1.2.2.2.1.2.2.2 (2 * i + 2) (by omega), a1]
        simp only [am_bv_v]
        rw [show (((2 * i + 1 : Nat) : Int) + 2) = ((2 * (i + 1) + 1 : Nat) : Int) by omega]
        exact b1
    obtain ⟨z1, z2⟩ := ar_len h0 0 (by omega)
    obtain ⟨c2, b1, b2, b3⟩ := key (tp 0) 0 _ (by omega) z1 (hk0.tr z2)
    exact ⟨c2, b1, b2, b3⟩
end
