/-! plans: what they are; none stands, none is firm; four words are enough -/
def cw (K : Ct) (i : Nat) : Nat := (sayK K (i / 4)).getD (i % 4) 0
def okB (K : Ct) (side : Int) (i : Nat) : Bool := decide (i % 4 < (sayK K (i / 4)).length) && (side == -1 || ((bnK K (i / 4)).2.2.1 : Int) == side)
def okC (K : Ct) (side : Int) (pre : List Nat) (i : Nat) : Bool := okB K side i && !((pre.map (· / 4)).contains (i / 4))
/-- the first plan of so many more words behind pre -/
def fstP (K : Ct) (F r : Nat) (side : Int) : Nat → List Nat → Option (List Nat)
  | 0, pre => if rul K F (pre.map (cw K)) = r then some [] else none
  | j + 1, pre => (List.range (4 * nB K)).findSome? (fun i => if okC K side pre i then (fstP K F r side j (pre ++ [i])).map (fun L => i :: L) else none)
def misS (K : Ct) (F : Nat) (s : Sj) : Nat := if finS K F s = none then (if s.2.2.2 = [] then 2 else 1) else 0
def misO (K : Ct) (F : Nat) (o : Option Sj) : Nat := match o with
  | some s => misS K F s
  | none => 0
/-- the class's search -/
def clP (K : Ct) (F r : Nat) (side : Int) : Nat → List Nat → Option (List Nat)
  | 0, pre => if rul K F (pre.map (cw K)) = r then some [] else none
  | j + 1, pre => if j + 1 < misO K F (hearA K F (pre.map (cw K))) then none else (List.range (4 * nB K)).findSome? (fun i => if okC K side pre i && ((hearA K F ((pre ++ [i]).map (cw K))).isSome && knd K (cw K i) != 5) then (clP K F r side j (pre ++ [i])).map (fun L => i :: L) else none)
def plnS (K : Ct) (F r : Nat) (side : Int) (m : Nat) : Option (List Nat) := (List.range' 1 m).findSome? (fun n => fstP K F r side n [])
def PV (K : Ct) (side : Int) : List Nat → List Nat → Prop
  | _, [] => True
  | pre, i :: L => i < 4 * nB K ∧ okC K side pre i = true ∧ PV K side (pre ++ [i]) L
def dd (K : Ct) (ws : List Nat) : Nat := ws.countP (fun w => knd K w == 1)
def bb (K : Ct) (ws : List Nat) : Nat := ws.countP (fun w => knd K w == 3 || knd K w == 4)
section
variable {K : Ct} {F : Nat}
theorem dd1 (w : Nat) : dd K [w] = if knd K w = 1 then 1 else 0 := by
  unfold dd
  rw [List.countP_cons, List.countP_nil]
  by_cases h : knd K w = 1 <;> simp [h]
theorem bb1 (w : Nat) : bb K [w] = if knd K w = 3 ∨ knd K w = 4 then 1 else 0 := by
  unfold bb
  rw [List.countP_cons, List.countP_nil]
  by_cases h : knd K w = 3 <;> by_cases h2 : knd K w = 4 <;> simp [h, h2]
theorem dd_cons (w : Nat) (ws : List Nat) : dd K (w :: ws) = dd K ws + dd K [w] := by
  unfold dd
  rw [List.countP_cons, List.countP_cons, List.countP_nil, Nat.zero_add]
theorem bb_cons (w : Nat) (ws : List Nat) : bb K (w :: ws) = bb K ws + bb K [w] := by
  unfold bb
  rw [List.countP_cons, List.countP_cons, List.countP_nil, Nat.zero_add]
theorem dd_app (a b : List Nat) : dd K (a ++ b) = dd K a + dd K b := List.countP_append
theorem bb_app (a b : List Nat) : bb K (a ++ b) = bb K a + bb K b := List.countP_append
theorem fit_dd (hK : VK K) {cur : List Nat} {i : Nat} (hf : fitL K F (patW K cur) = some i) (hc : ∀ w ∈ cur, knd K w ≤ 1) (h3 : cur.length ≤ 3) : dd K cur = 1 := by
  have hp := fitL_lt hK hf
  match cur, hp, hc, h3 with
  | [], hp, _, _ => rw [patW_nil] at hp; omega
  | [a], hp, hc, _ =>
    have h1 := hc a (by simp)
    have e : patW K [a] = 2 * 1 + knd K a := rfl
    omega
  | [a, b], hp, hc, _ =>
    have h1 := hc a (by simp)
    have h2 := hc b (by simp)
    have e : patW K [a, b] = 2 * (2 * 1 + knd K a) + knd K b := rfl
    rw [dd_cons, dd1, dd1]
    split <;> split <;> omega
  | [a, b, z], hp, hc, _ =>
    have h1 := hc a (by simp)
    have h2 := hc b (by simp)
    have h3 := hc z (by simp)
    have e : patW K [a, b, z] = 2 * (2 * (2 * 1 + knd K a) + knd K b) + knd K z := rfl
    rw [dd_cons, dd_cons, dd1, dd1, dd1]
    split <;> split <;> split <;> omega
  | _ :: _ :: _ :: _ :: _, _, _, h3 => simp only [List.length_cons] at h3; omega
theorem fin_some {s : Sj} {cs : List Cs} (h : finS K F s = some cs) : ∃ i, fitL K F (patW K s.2.2.2) = some i ∧ cs = s.1 ++ [mkCl K i s.2.2.2 s.2.2.1 s.2.1] := by
  unfold finS at h
  cases hf : fitL K F (patW K s.2.2.2) with
  | none => rw [hf] at h; cases h
  | some i => rw [hf] at h; cases h; exact ⟨i, rfl, rfl⟩
theorem hear_dd (hK : VK K) {s t : Sj} {w : Nat} (hw : w < nW K) (hs : WS K s) (h : hearS K F s w = some t) : dd K t.2.2.2 + t.1.length = dd K s.2.2.2 + s.1.length + dd K [w] ∧ t.1.length = s.1.length + bb K [w] := by
  have hk := (hK.1.2 w hw).2
  rw [dd1, bb1]
  unfold hearS at h
  split at h
  · cases h
    rw [if_neg (by omega), if_neg (by omega)]
    exact ⟨rfl, rfl⟩
  split at h
  · split at h
    · rename_i e
      cases h
      rw [if_neg (by omega), if_neg (by omega), e]
      exact ⟨rfl, rfl⟩
    · cases h
  split at h
  · split at h
    · cases h
      rw [if_neg (show ¬ (knd K w = 3 ∨ knd K w = 4) by omega)]
      refine ⟨?_, rfl⟩
      show dd K (s.2.2.2 ++ [w]) + s.1.length = _
      rw [dd_app, dd1]
      omega
    · cases h
  · cases hf : finS K F s with
    | none => rw [hf] at h; cases h
    | some cs =>
      rw [hf] at h
      cases h
      obtain ⟨i, h1, h2⟩ := fin_some hf
      have h3 := fit_dd hK h1 (fun v q => (hs.2.1 v q).2) hs.1
      have h4 : cs.length = s.1.length + 1 := by rw [h2, List.length_append]; rfl
      rw [if_neg (by omega), if_pos (by omega)]
      refine ⟨?_, h4⟩
      show dd K [] + cs.length = _
      have : dd K [] = 0 := rfl
      omega
theorem fold_dd (hK : VK K) : ∀ (ws : List Nat) (s t : Sj), WS K s → (∀ w ∈ ws, w < nW K) → ws.foldl (hearO K F) (some s) = some t → (dd K t.2.2.2 + t.1.length = dd K s.2.2.2 + s.1.length + dd K ws ∧ t.1.length = s.1.length + bb K ws) ∧ WS K t
  | [], s, t, hs, _, h => by
    cases h
    exact ⟨⟨rfl, rfl⟩, hs⟩
  | w :: ws, s, t, hs, hw, h => by
    rw [List.foldl_cons] at h
    cases hh : hearS K F s w with
    | none =>
      have : hearO K F (some s) w = none := hh
      rw [this, fold_none] at h
      cases h
    | some u =>
      have e : hearO K F (some s) w = some u := hh
      rw [e] at h
      have h1 := hear_dd hK (hw w List.mem_cons_self) hs hh
      have h2 := fold_dd hK ws u t (WS_hear hK (hw w List.mem_cons_self) hs hh) (fun v hv => hw v (List.mem_cons_of_mem _ hv)) h
      rw [dd_cons, bb_cons]
      exact ⟨⟨by omega, by omega⟩, h2.2⟩
theorem rul_ne {ws : List Nat} (h : rul K F ws ≠ 0) : ∃ s cs, hearA K F ws = some s ∧ finS K F s = some cs ∧ rul K F ws = rulC K cs := by
  unfold rul at h ⊢
  cases hh : hearA K F ws with
  | none => rw [hh] at h; exact absurd rfl h
  | some s =>
    rw [hh] at h
    have e : meanO K F (some s) = finS K F s := rfl
    rw [e] at h ⊢
    cases hf : finS K F s with
    | none => rw [hf] at h; exact absurd rfl h
    | some cs => exact ⟨s, cs, rfl, hf, rfl⟩
theorem rul_dd (hK : VK K) {ws : List Nat} (hw : ∀ w ∈ ws, w < nW K) (h : rul K F ws ≠ 0) : dd K ws = bb K ws + 1 := by
  obtain ⟨s, cs, h1, h2, -⟩ := rul_ne h
  have h3 := fold_dd hK ws startS s (WS_start K) hw h1
  obtain ⟨i, h4, -⟩ := fin_some h2
  have h5 := fit_dd hK h4 (fun v q => (h3.2.2.1 v q).2) h3.2.1
  have e1 : dd K startS.2.2.2 = 0 := rfl
  have e2 : startS.1.length = 0 := rfl
  omega
theorem deed_in (hK : VK K) {ws : List Nat} (hw : ∀ w ∈ ws, w < nW K) (h : rul K F ws ≠ 0) : ∃ i, i < ws.length ∧ knd K (ws.getD i 0) = 1 := by
  have h1 := rul_dd hK hw h
  have h2 : 0 < dd K ws := by omega
  unfold dd at h2
  obtain ⟨w, hm, hk⟩ := List.countP_pos_iff.mp h2
  obtain ⟨i, hi, he⟩ := List.getElem_of_mem hm
  refine ⟨i, hi, ?_⟩
  rw [List.getD_eq_getElem?_getD, List.getElem?_eq_getElem hi, Option.getD_some, he]
  exact beq_iff_eq.mp hk
/-- no plan stands -/
theorem no_stand (hK : VK K) {ws : List Nat} (hw : ∀ w ∈ ws, w < nW K) (h : rul K F ws ≠ 0) : ∃ i, i < ws.length ∧ rul K F (ws.eraseIdx i) = 0 := by
  obtain ⟨i, hi, hk⟩ := deed_in hK hw h
  refine ⟨i, hi, ?_⟩
  apply Classical.byContradiction
  intro hn
  have h1 := rul_dd hK hw h
  have h2 := rul_dd hK (fun w q => hw w (List.mem_of_mem_eraseIdx q)) hn
  have e1 : ws = ws.take i ++ ws.getD i 0 :: ws.drop (i + 1) := by rw [← drop_getD hi, List.take_append_drop]
  rw [List.eraseIdx_eq_take_drop_succ, dd_app, bb_app] at h2
  rw [e1, dd_app, bb_app, dd_cons, bb_cons, dd1, bb1, if_pos hk, if_neg (by omega)] at h1
  omega
/-- none is firm -/
theorem no_firm (hK : VK K) {ws : List Nat} (hw : ∀ w ∈ ws, w < nW K) (h : rul K F ws ≠ 0) : ∃ w, w < nW K ∧ rul K F (insAt ws 0 w) = 0 := by
  obtain ⟨i, hi, hk⟩ := deed_in hK hw h
  refine ⟨ws.getD i 0, hw _ (getD_mem hi), ?_⟩
  apply Classical.byContradiction
  intro hn
  have h1 := rul_dd hK hw h
  have e : insAt ws 0 (ws.getD i 0) = ws.getD i 0 :: ws := rfl
  have h2 := rul_dd hK (by
    rw [e]
    intro w q
    rcases List.mem_cons.mp q with q | q
    · rw [q]; exact hw _ (getD_mem hi)
    · exact hw w q) hn
  rw [e, dd_cons, bb_cons, dd1, bb1, if_pos hk, if_neg (by omega)] at h2
  omega
/-! four words are enough -/
/-- a clause's own words -/
def Gd (K : Ct) (F : Nat) (ws : List Nat) (cl : Cs) : Prop := ∃ (us : List Nat) (t : Nat) (cur : List Nat) (i : Nat), List.Sublist us ws ∧ us.length ≤ 4 ∧ hearA K F us = some ([], 0, t, cur) ∧ t % 2 = cl.2.2.2.1 % 2 ∧ fitL K F (patW K cur) = some i ∧ cl.1 = slotAt (lnK K i) 0 cur ∧ cl.2.1 = slotAt (lnK K i) 1 cur
def Pg (K : Ct) (F : Nat) (ws : List Nat) (s : Sj) : Prop := ∃ (us : List Nat) (t : Nat), List.Sublist us ws ∧ hearA K F us = some ([], 0, t, s.2.2.2) ∧ t ≤ 1 ∧ t % 2 = s.2.2.1 % 2 ∧ us.length = t + s.2.2.2.length
theorem Gd_mono {ws vs : List Nat} {cl : Cs} (h : Gd K F ws cl) (hs : List.Sublist ws vs) : Gd K F vs cl := by
  obtain ⟨us, t, cur, i, h1, h2⟩ := h
  exact ⟨us, t, cur, i, h1.trans hs, h2⟩
theorem Pg_gd {ws : List Nat} {s : Sj} {i : Nat} (hp : Pg K F ws s) (hs : WS K s) (hf : fitL K F (patW K s.2.2.2) = some i) : Gd K F ws (mkCl K i s.2.2.2 s.2.2.1 s.2.1) := by
  obtain ⟨us, t, h1, h2, h3, h4, h5⟩ := hp
  exact ⟨us, t, s.2.2.2, i, h1, by have := hs.1; omega, h2, h4, hf, rfl, rfl⟩
theorem gd_step (hK : VK K) {ws : List Nat} {s t : Sj} {w : Nat} (hw : w < nW K) (hs : WS K s) (hg : ∀ cl ∈ s.1, Gd K F ws cl) (hp : Pg K F ws s) (h : hearS K F s w = some t) : (∀ cl ∈ t.1, Gd K F (ws ++ [w]) cl) ∧ Pg K F (ws ++ [w]) t := by
  have hk := (hK.1.2 w hw).2
  have hsub : List.Sublist ws (ws ++ [w]) := List.sublist_append_left _ _
  have hnil : Pg K F (ws ++ [w]) ([], 0, 0, []) := ⟨[], 0, List.nil_sublist _, rfl, by omega, rfl, rfl⟩
  unfold hearS at h
  split at h
  · cases h
    obtain ⟨us, t', h1, h2⟩ := hp
    exact ⟨fun cl q => Gd_mono (hg cl q) hsub, us, t', h1.trans hsub, h2⟩
  split at h
  · rename_i k5 k2
    split at h
    · rename_i e
      cases h
      refine ⟨fun cl q => Gd_mono (hg cl q) hsub, ?_⟩
      obtain ⟨us, t', h1, h2, h3, h4, h5⟩ := hp
      rw [e] at h2 h5
      have hlen : ([] : List Nat).length = 0 := rfl
      rcases (show t' = 0 ∨ t' = 1 by omega) with rfl | rfl
      · refine ⟨us ++ [w], 1, h1.append_right [w], ?_, by omega, ?_, ?_⟩
        · rw [hearA_snoc, h2]
          show hearS K F ([], 0, 0, []) w = _
          unfold hearS
          rw [if_neg k5, if_pos k2, if_pos rfl]
        · show 1 % 2 = (s.2.2.1 + 1) % 2
          omega
        · rw [List.length_append]
          show us.length + 1 = 1 + 0
          omega
      · refine ⟨[], 0, List.nil_sublist _, rfl, by omega, ?_, rfl⟩
        show 0 % 2 = (s.2.2.1 + 1) % 2
        omega
    · cases h
  split at h
  · rename_i k5 k2 k1
    split at h
    · rename_i hb
      cases h
      refine ⟨fun cl q => Gd_mono (hg cl q) hsub, ?_⟩
      obtain ⟨us, t', h1, h2, h3, h4, h5⟩ := hp
      refine ⟨us ++ [w], t', h1.append_right [w], ?_, h3, h4, ?_⟩
      · rw [hearA_snoc, h2]
        show hearS K F ([], 0, t', s.2.2.2) w = _
        unfold hearS
        rw [if_neg k5, if_neg k2, if_pos k1, if_pos hb]
      · rw [List.length_append]
        show us.length + 1 = t' + (s.2.2.2 ++ [w]).length
        rw [List.length_append]
        show us.length + 1 = t' + (s.2.2.2.length + 1)
        omega
    · cases h
  · cases hf : finS K F s with
    | none => rw [hf] at h; cases h
    | some cs =>
      rw [hf] at h
      cases h
      obtain ⟨i, h1, h2⟩ := fin_some hf
      refine ⟨fun cl q => ?_, hnil⟩
      have q : cl ∈ cs := q
      rw [h2] at q
      rcases List.mem_append.mp q with q | q
      · exact Gd_mono (hg cl q) hsub
      · rw [List.mem_singleton.mp q]
        exact Gd_mono (Pg_gd hp hs h1) hsub
theorem gd_fold (hK : VK K) : ∀ (ws pre : List Nat) (s t : Sj), WS K s → (∀ w ∈ ws, w < nW K) → (∀ cl ∈ s.1, Gd K F pre cl) → Pg K F pre s → ws.foldl (hearO K F) (some s) = some t → ((∀ cl ∈ t.1, Gd K F (pre ++ ws) cl) ∧ Pg K F (pre ++ ws) t) ∧ WS K t
  | [], pre, s, t, hs, _, hg, hp, h => by
    cases h
    rw [List.append_nil]
    exact ⟨⟨hg, hp⟩, hs⟩
  | w :: ws, pre, s, t, hs, hw, hg, hp, h => by
    rw [List.foldl_cons] at h
    cases hh : hearS K F s w with
    | none =>
      have : hearO K F (some s) w = none := hh
      rw [this, fold_none] at h
      cases h
    | some u =>
      have e : hearO K F (some s) w = some u := hh
      rw [e] at h
      have h1 := gd_step hK (hw w List.mem_cons_self) hs hg hp hh
      have h2 := gd_fold hK ws (pre ++ [w]) u t (WS_hear hK (hw w List.mem_cons_self) hs hh) (fun v hv => hw v (List.mem_cons_of_mem _ hv)) h1.1 h1.2 h
      rw [List.append_assoc, List.singleton_append] at h2
      exact h2
theorem mono_so (a b : Nat) : ∀ (cs : List Cs) (p q : Bool), (∀ cl ∈ cs, soK K a cl = true → soK K b cl = true) → (p = true → q = true) → cs.foldl (soF K a) p = true → cs.foldl (soF K b) q = true
  | [], p, q, _, hpq, h => hpq h
  | cl :: cs, p, q, hc, hpq, h => by
    rw [List.foldl_cons] at h ⊢
    refine mono_so a b cs _ _ (fun v hv => hc v (List.mem_cons_of_mem _ hv)) ?_ h
    have h1 := hc cl List.mem_cons_self
    unfold soF
    split
    · simp only [Bool.and_eq_true]
      exact fun ⟨u, v⟩ => ⟨hpq u, h1 v⟩
    split
    · simp only [Bool.or_eq_true]
      exact fun u => u.imp hpq h1
    · exact h1
theorem his_cl {cs : List Cs} {r : Nat} (hr : r = 1 ∨ r = 2) (h : rulC K cs = r) : ∃ cl ∈ cs, isHis K cl = true ∧ cl.2.2.2.1 % 2 = r - 1 := by
  apply Classical.byContradiction
  intro hn
  have hall : ∀ cl ∈ cs, isHis K cl = true → cl.2.2.2.1 % 2 ≠ r - 1 := fun cl q1 q2 q3 => hn ⟨cl, q1, q2, q3⟩
  unfold rulC at h
  rcases hr with rfl | rfl
  · split at h
    · cases h
    · rename_i hne
      split at h
      · rename_i h1
        have h2 : allSo K 2 cs = true := by
          refine mono_so 1 2 cs false false (fun cl q => ?_) (fun q => q) h1
          intro h3
          unfold soK at h3 ⊢
          rw [if_neg (by decide)] at h3 ⊢
          by_cases e : isHis K cl = true
          · have := hall cl q e
            rw [if_pos e] at h3
            rw [show (cl.2.2.2.1 % 2 == 1) = true by rw [beq_iff_eq]; omega] at h3
            exact absurd h3 (by decide)
          · rw [if_neg e] at h3 ⊢
            exact h3
        exact hne (h1.trans h2.symm)
      · cases h
  · split at h
    · cases h
    · rename_i hne
      split at h
      · cases h
      · rename_i h1
        have h2 : allSo K 2 cs = true := by
          cases q : allSo K 2 cs with
          | true => rfl
          | false =>
            have : allSo K 1 cs = false := Bool.eq_false_iff.mpr h1
            exact absurd (this.trans q.symm) hne
        refine h1 (mono_so 2 1 cs false false (fun cl q => ?_) (fun q => q) h2)
        intro h3
        unfold soK at h3 ⊢
        rw [if_neg (by decide)] at h3 ⊢
        by_cases e : isHis K cl = true
        · have := hall cl q e
          rw [if_pos e] at h3
          rw [show (cl.2.2.2.1 % 2 == 1) = false by rw [beq_eq_false_iff_ne]; omega] at h3
          exact absurd h3 (by decide)
        · rw [if_neg e] at h3 ⊢
          exact h3
theorem one_cl {us : List Nat} {t i : Nat} {cur : List Nat} (h : hearA K F us = some ([], 0, t, cur)) (hf : fitL K F (patW K cur) = some i) (h1 : slotAt (lnK K i) 0 cur = kAc K) (h2 : slotAt (lnK K i) 1 cur = kDe K) : rul K F us = t % 2 + 1 := by
  have hfin : finS K F ([], 0, t, cur) = some [mkCl K i cur t 0] := by
    unfold finS
    dsimp only
    rw [hf]
    rfl
  have hhis : isHis K (mkCl K i cur t 0) = true := by
    unfold isHis mkCl
    dsimp only
    rw [h1, h2]
    simp
  unfold rul
  rw [h]
  show rulO K (finS K F ([], 0, t, cur)) = _
  rw [hfin]
  show rulC K [mkCl K i cur t 0] = _
  have hso : ∀ b, b = 1 ∨ b = 2 → allSo K b [mkCl K i cur t 0] = xor (t % 2 == 1) (b == 1) := by
    intro b hb
    show soF K b false (mkCl K i cur t 0) = _
    unfold soF
    rw [if_neg (show ¬ (mkCl K i cur t 0).2.2.2.2.2 = 3 from (by decide : ¬ (0 : Nat) = 3)), if_neg (show ¬ (mkCl K i cur t 0).2.2.2.2.2 = 4 from (by decide : ¬ (0 : Nat) = 4))]
    unfold soK
    rw [if_neg (by omega), if_pos hhis]
    rfl
  unfold rulC
  rw [hso 1 (Or.inl rfl), hso 2 (Or.inr rfl)]
  rcases (show t % 2 = 0 ∨ t % 2 = 1 by omega) with e | e <;> rw [e] <;> rfl
theorem four_enough (hK : VK K) {ws : List Nat} (hw : ∀ w ∈ ws, w < nW K) {r : Nat} (hr : r = 1 ∨ r = 2) (h : rul K F ws = r) : ∃ us, List.Sublist us ws ∧ us.length ≤ 4 ∧ rul K F us = r := by
  obtain ⟨s, cs, h1, h2, h3⟩ := rul_ne (show rul K F ws ≠ 0 by omega)
  have h4 := gd_fold (F := F) hK ws [] startS s (WS_start K) hw (fun cl q => (by cases q)) ⟨[], 0, List.nil_sublist _, rfl, by omega, rfl, rfl⟩ h1
  rw [List.nil_append] at h4
  obtain ⟨i, h5, h6⟩ := fin_some h2
  obtain ⟨cl, q1, q2, q3⟩ := his_cl hr (h3.symm.trans h)
  have hg : Gd K F ws cl := by
    rw [h6] at q1
    rcases List.mem_append.mp q1 with q | q
    · exact h4.1.1 cl q
    · rw [List.mem_singleton.mp q]
      exact Pg_gd h4.1.2 h4.2 h5
  obtain ⟨us, t, cur, j, g1, g2, g3, g4, g5, g6, g7⟩ := hg
  unfold isHis at q2
  rw [Bool.and_eq_true, beq_iff_eq, beq_iff_eq] at q2
  refine ⟨us, g1, g2, ?_⟩
  rw [one_cl g3 g5 (g6.symm.trans q2.1) (g7.symm.trans q2.2)]
  omega
/-! lists of choices -/
variable {side : Int} {r : Nat}
theorem PV_iff : ∀ (L pre : List Nat), PV K side pre L ↔ (∀ i ∈ L, i < 4 * nB K ∧ okB K side i = true ∧ ¬ i / 4 ∈ pre.map (· / 4)) ∧ (L.map (· / 4)).Nodup
  | [], pre => ⟨fun _ => ⟨fun i q => (by cases q), List.nodup_nil⟩, fun _ => trivial⟩
  | i :: L, pre => by
    have ih := PV_iff L (pre ++ [i])
    show (i < 4 * nB K ∧ okC K side pre i = true ∧ PV K side (pre ++ [i]) L) ↔ _
    rw [ih]
    have hc : okC K side pre i = true ↔ okB K side i = true ∧ ¬ i / 4 ∈ pre.map (· / 4) := by
      unfold okC
      rw [Bool.and_eq_true, Bool.not_eq_true', ← Bool.not_eq_true, List.contains_iff_mem]
    rw [hc, List.map_cons, List.nodup_cons]
    constructor
    · rintro ⟨a, ⟨b1, b2⟩, c1, c2⟩
      refine ⟨fun j q => ?_, ?_, c2⟩
      · rcases List.mem_cons.mp q with q | q
        · rw [q]; exact ⟨a, b1, b2⟩
        · have := c1 j q
          refine ⟨this.1, this.2.1, fun q2 => this.2.2 ?_⟩
          rw [List.map_append]
          exact List.mem_append_left _ q2
      · intro q
        obtain ⟨j, q1, q2⟩ := List.mem_map.mp q
        refine (c1 j q1).2.2 ?_
        rw [List.map_append]
        refine List.mem_append_right _ ?_
        rw [List.map_singleton, List.mem_singleton]
        exact q2
    · rintro ⟨a, b1, b2⟩
      have ai := a i List.mem_cons_self
      refine ⟨ai.1, ⟨ai.2.1, ai.2.2⟩, fun j q => ?_, b2⟩
      have := a j (List.mem_cons_of_mem _ q)
      refine ⟨this.1, this.2.1, fun q2 => ?_⟩
      rw [List.map_append] at q2
      rcases List.mem_append.mp q2 with q2 | q2
      · exact this.2.2 q2
      · rw [List.map_singleton, List.mem_singleton] at q2
        exact b1 (List.mem_map.mpr ⟨j, q, q2⟩)
theorem PV_sub {L M : List Nat} (h : PV K side [] L) (hs : List.Sublist M L) : PV K side [] M := by
  rw [PV_iff] at h ⊢
  exact ⟨fun i q => h.1 i (hs.subset q), (hs.map _).nodup h.2⟩
theorem PV_app : ∀ (a pre b : List Nat), PV K side pre (a ++ b) ↔ PV K side pre a ∧ PV K side (pre ++ a) b
  | [], pre, b => by rw [List.append_nil]; exact ⟨fun h => ⟨trivial, h⟩, fun h => h.2⟩
  | i :: a, pre, b => by
    show (_ ∧ _ ∧ PV K side (pre ++ [i]) (a ++ b)) ↔ (_ ∧ _ ∧ PV K side (pre ++ [i]) a) ∧ _
    rw [PV_app a (pre ++ [i]) b, List.append_assoc, List.singleton_append]
    constructor
    · rintro ⟨p, q, r, s⟩; exact ⟨⟨p, q, r⟩, s⟩
    · rintro ⟨⟨p, q, r⟩, s⟩; exact ⟨p, q, r, s⟩
theorem PV_lt (hK : VK K) : ∀ (L pre : List Nat), PV K side pre L → ∀ w ∈ L.map (cw K), w < nW K := by
  intro L pre h w q
  obtain ⟨i, q1, rfl⟩ := List.mem_map.mp q
  have h1 := ((PV_iff L pre).mp h).1 i q1
  have h2 := h1.2.1
  unfold okB at h2
  rw [Bool.and_eq_true, decide_eq_true_eq] at h2
  exact say_lt hK (show i / 4 < nB K by omega) _ (getD_mem h2.1)
theorem fstP_none : ∀ (j : Nat) (pre : List Nat), fstP K F r side j pre = none ↔ ∀ L, L.length = j → PV K side pre L → rul K F ((pre ++ L).map (cw K)) ≠ r
  | 0, pre => by
    unfold fstP
    constructor
    · intro h L hl _
      rw [List.eq_nil_of_length_eq_zero hl, List.append_nil]
      intro q
      rw [if_pos q] at h
      cases h
    · intro h
      have := h [] rfl trivial
      rw [List.append_nil] at this
      rw [if_neg this]
  | j + 1, pre => by
    unfold fstP
    rw [List.findSome?_eq_none_iff]
    constructor
    · intro h L hl hv
      cases L with
      | nil => cases hl
      | cons i L =>
        have h1 := h i (List.mem_range.mpr hv.1)
        rw [if_pos hv.2.1, Option.map_eq_none_iff] at h1
        have := (fstP_none j (pre ++ [i])).mp h1 L (by simpa using hl) hv.2.2
        rw [List.append_assoc, List.singleton_append] at this
        exact this
    · intro h i hi
      split
      · rename_i ho
        rw [Option.map_eq_none_iff]
        refine (fstP_none j (pre ++ [i])).mpr (fun L hl hv => ?_)
        rw [List.append_assoc, List.singleton_append]
        exact h (i :: L) (by simp [hl]) ⟨List.mem_range.mp hi, ho, hv⟩
      · rfl
theorem fstP_some : ∀ (j : Nat) (pre L : List Nat), fstP K F r side j pre = some L → L.length = j ∧ PV K side pre L ∧ rul K F ((pre ++ L).map (cw K)) = r
  | 0, pre, L, h => by
    unfold fstP at h
    split at h
    · rename_i e
      cases h
      rw [List.append_nil]
      exact ⟨rfl, trivial, e⟩
    · cases h
  | j + 1, pre, L, h => by
    unfold fstP at h
    obtain ⟨i, hi, h1⟩ := List.exists_of_findSome?_eq_some h
    split at h1
    · rename_i ho
      cases hf : fstP K F r side j (pre ++ [i]) with
      | none => rw [hf] at h1; cases h1
      | some M =>
        rw [hf] at h1
        cases h1
        have := fstP_some j (pre ++ [i]) M hf
        rw [List.append_assoc, List.singleton_append] at this
        exact ⟨by simp [this.1], ⟨List.mem_range.mp hi, ho, this.2.1⟩, this.2.2⟩
    · cases h1
theorem rul_nil (K : Ct) (F : Nat) (hK : VK K) : rul K F [] = 0 := by
  apply Classical.byContradiction
  intro h
  have := rul_dd hK (fun w q => (by cases q)) h
  have e1 : dd K [] = 0 := rfl
  omega
theorem pln_cut (hK : VK K) (hr : r = 1 ∨ r = 2) {L : List Nat} (hv : PV K side [] L) (h : rul K F (L.map (cw K)) = r) : ∃ m, 1 ≤ m ∧ m ≤ 4 ∧ fstP K F r side m [] ≠ none := by
  obtain ⟨us, h1, h2, h3⟩ := four_enough hK (PV_lt hK L [] hv) hr h
  obtain ⟨M, h4, rfl⟩ := List.sublist_map_iff.mp h1
  rw [List.length_map] at h2
  refine ⟨M.length, ?_, h2, fun q => ?_⟩
  · cases M with
    | nil =>
      rw [List.map_nil, rul_nil K F hK] at h3
      omega
    | cons a M => simp
  · exact (fstP_none _ _).mp q M rfl (PV_sub hv h4) (by rw [List.nil_append]; exact h3)
theorem pln_45 (hK : VK K) (hr : r = 1 ∨ r = 2) : plnS K F r side 5 = plnS K F r side 4 := by
  unfold plnS
  rw [show List.range' 1 5 = List.range' 1 4 ++ [5] from rfl, List.findSome?_append]
  cases h : (List.range' 1 4).findSome? (fun n => fstP K F r side n []) with
  | some L => rfl
  | none =>
    rw [Option.none_or]
    have h5 : fstP K F r side 5 [] = none := by
      cases h6 : fstP K F r side 5 [] with
      | none => rfl
      | some L =>
        obtain ⟨g1, g2, g3⟩ := fstP_some 5 [] L h6
        rw [List.nil_append] at g3
        obtain ⟨m, m1, m2, m3⟩ := pln_cut hK hr g2 g3
        have := List.findSome?_eq_none_iff.mp h m (by rw [List.mem_range'_1]; omega)
        exact absurd this m3
    simp only [List.findSome?_cons, h5, List.findSome?_nil]
theorem fs_congr {α β : Type} (f g : α → Option β) : ∀ (l : List α), (∀ i ∈ l, f i = g i) → l.findSome? f = l.findSome? g
  | [], _ => rfl
  | a :: l, h => by
    rw [List.findSome?_cons, List.findSome?_cons, h a List.mem_cons_self, fs_congr f g l (fun i q => h i (List.mem_cons_of_mem _ q))]
theorem mis2 (hK : VK K) {s : Sj} {w : Nat} (hw : w < nW K) (h1 : finS K F s = none) (h2 : s.2.2.2 = []) : meanO K F (hearS K F s w) = none := by
  have hk := (hK.1.2 w hw).2
  have hlow : ∀ t : Sj, patW K t.2.2.2 < 4 → finS K F t = none := by
    intro t ht
    unfold finS
    cases hf : fitL K F (patW K t.2.2.2) with
    | none => rfl
    | some i =>
      have := fitL_lt hK hf
      omega
  unfold hearS
  split
  · exact h1
  split
  · exact hlow _ (by show patW K [] < 4; rw [patW_nil]; omega)
  split
  · split
    · refine hlow _ ?_
      show patW K (s.2.2.2 ++ [w]) < 4
      rw [h2, List.nil_append]
      show 2 * 1 + knd K w < 4
      omega
    · rfl
  · rw [h1]
    rfl
theorem rul_skip {a b : List Nat} {w : Nat} (h : knd K w = 5) : rul K F (a ++ w :: b) = rul K F (a ++ b) := by
  have e : hearA K F (a ++ w :: b) = hearA K F (a ++ b) := by
    unfold hearA
    rw [List.foldl_append, List.foldl_append, List.foldl_cons]
    congr 1
    cases a.foldl (hearO K F) (some startS) with
    | none => rfl
    | some s => show hearS K F s w = some s; unfold hearS; rw [if_pos h]
  unfold rul
  rw [e]
theorem clP_eq (hK : VK K) (hr : r ≠ 0) {n : Nat} (hN : ∀ L : List Nat, L.length + 1 = n → PV K side [] L → rul K F (L.map (cw K)) ≠ r) : ∀ (j : Nat) (pre : List Nat), pre.length + j = n → PV K side [] pre → (hearA K F (pre.map (cw K))).isSome = true → clP K F r side j pre = fstP K F r side j pre
  | 0, pre, _, _, _ => rfl
  | j + 1, pre, hn, hv, hs => by
    unfold clP fstP
    obtain ⟨s, hs⟩ := Option.isSome_iff_exists.mp hs
    by_cases hm : j + 1 < misO K F (hearA K F (pre.map (cw K)))
    · rw [if_pos hm]
      rw [hs] at hm
      have hm : j + 1 < misS K F s := hm
      unfold misS at hm
      split at hm
      · rename_i h1
        split at hm
        · rename_i h2
          have hj : j = 0 := by omega
          subst hj
          symm
          rw [List.findSome?_eq_none_iff]
          intro i hi
          split
          · rename_i ho
            have hw : cw K i < nW K := PV_lt hK [i] pre ⟨List.mem_range.mp hi, ho, trivial⟩ _ (by simp)
            unfold fstP
            rw [if_neg]
            · rfl
            · unfold rul
              rw [List.map_append, List.map_singleton, hearA_snoc, hs]
              show ¬ rulO K (meanO K F (hearS K F s (cw K i))) = r
              rw [mis2 hK hw h1 h2]
              exact fun q => hr q.symm
          · rfl
        · omega
      · omega
    · rw [if_neg hm]
      refine fs_congr _ _ _ (fun i hi => ?_)
      cases ho : okC K side pre i with
      | false => rw [Bool.false_and]; rfl
      | true =>
        rw [Bool.true_and, if_pos rfl]
        have hv2 : PV K side [] (pre ++ [i]) := (PV_app pre [] [i]).mpr ⟨hv, by rw [List.nil_append]; exact ⟨List.mem_range.mp hi, ho, trivial⟩⟩
        cases h1 : (hearA K F ((pre ++ [i]).map (cw K))).isSome with
        | false =>
          rw [Bool.false_and, if_neg (by decide)]
          have hnone : hearA K F ((pre ++ [i]).map (cw K)) = none := Option.not_isSome_iff_eq_none.mp (by rw [h1]; decide)
          rw [(fstP_none j (pre ++ [i])).mpr (fun L _ _ => by
            rw [List.map_append, rul_dead hnone]
            exact fun q => hr q.symm)]
          rfl
        | true =>
          rw [Bool.true_and]
          by_cases h5 : knd K (cw K i) = 5
          · rw [if_neg (by simp [h5])]
            rw [(fstP_none j (pre ++ [i])).mpr (fun L hl hL => by
              rw [List.append_assoc, List.singleton_append, List.map_append, List.map_cons, rul_skip h5, ← List.map_append]
              refine hN (pre ++ L) (by rw [List.length_append]; omega) ?_
              refine PV_sub ((PV_app (pre ++ [i]) [] L).mpr ⟨hv2, by rw [List.nil_append]; exact hL⟩) ?_
              exact (List.sublist_append_left pre [i]).append_right L)]
            rfl
          · rw [if_pos (by simp [h5]), clP_eq hK hr hN j (pre ++ [i]) (by rw [List.length_append]; simp; omega) hv2 h1]
end
