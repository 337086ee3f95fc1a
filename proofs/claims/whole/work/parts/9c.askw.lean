/-! what a QUESTION answers, of all CASES -/
def fsW (v : Nat → Int) : Nat → Int
  | 0 => -1
  | i + 1 => if v i = 1 then (if fsW v i = -1 then (i : Int) else fsW v i) else fsW v i
def lsW (v : Nat → Int) : Nat → Int
  | 0 => -1
  | i + 1 => if v i = 1 then (i : Int) else lsW v i
def ofW (v : Nat → Int) : Nat → Int
  | 0 => 0
  | i + 1 => if v i = 1 then ofW v i + 1 else ofW v i
def toW (v : Nat → Int) : Nat → Int
  | 0 => 0
  | i + 1 => toW v i + v i
def moW (v : Nat → Int) : Nat → Int
  | 0 => 0
  | i + 1 => if i = 0 then v 0 else if moW v i < v i then v i else moW v i
def leW (v : Nat → Int) : Nat → Int
  | 0 => 0
  | i + 1 => if i = 0 then v 0 else if v i < leW v i then v i else leW v i
def ansW (o m : Nat) (v : Nat → Int) : Int := if o = 0 then fsW v m else if o = 1 then lsW v m else if o = 2 then ofW v m else if o = 3 then toW v m else if o = 4 then moW v m else leW v m
section
variable {c : Nat → Nat → Nat → Int32} {l : Nat → Nat → Int64} {x y : Nat} {v : Nat → Int}
theorem fsW_bd : ∀ i, -1 ≤ fsW v i ∧ fsW v i < i + 1
  | 0 => by unfold fsW; omega
  | i + 1 => by
    have := fsW_bd i
    unfold fsW
    split
    · split <;> omega
    · omega
theorem lsW_bd : ∀ i, -1 ≤ lsW v i ∧ lsW v i < i + 1
  | 0 => by unfold lsW; omega
  | i + 1 => by
    have := lsW_bd i
    unfold lsW
    split <;> omega
theorem toW_bd (h : ∀ i, -1000000 ≤ v i ∧ v i ≤ 1000000) : ∀ i : Nat, -1000000 * (i : Int) ≤ toW v i ∧ toW v i ≤ 1000000 * (i : Int)
  | 0 => by unfold toW; omega
  | i + 1 => by
    have := toW_bd h i
    have := h i
    unfold toW
    omega
theorem moW_bd (h : ∀ i, -1000000 ≤ v i ∧ v i ≤ 1000000) : ∀ i : Nat, -1000000 ≤ moW v i ∧ moW v i ≤ 1000000
  | 0 => by unfold moW; omega
  | i + 1 => by
    have := moW_bd h i
    have := h i
    have := h 0
    unfold moW
    split
    · omega
    · split <;> omega
theorem leW_bd (h : ∀ i, -1000000 ≤ v i ∧ v i ≤ 1000000) : ∀ i : Nat, -1000000 ≤ leW v i ∧ leW v i ≤ 1000000
  | 0 => by unfold leW; omega
  | i + 1 => by
    have := leW_bd h i
    have := h i
    have := h 0
    unfold leW
    split
    · omega
    · split <;> omega
theorem ofW_cnt (h : ∀ i, v i = 0 ∨ v i = 1) : ∀ i : Nat, ofW v i = (cntW ((List.range i).map (fun j => (v j).toNat)) 1 : Nat)
  | 0 => rfl
  | i + 1 => by
    have ih := ofW_cnt h i
    have e1 : ofW v (i + 1) = if v i = 1 then ofW v i + 1 else ofW v i := rfl
    have e2 : cntW ((List.range (i + 1)).map (fun j => (v j).toNat)) 1 = cntW ((List.range i).map (fun j => (v j).toNat)) 1 + List.countP (fun w : Nat => (w : Int) == 1) [(v i).toNat] := by
      unfold cntW
      rw [List.range_succ, List.map_append, List.countP_append]
      rfl
    rw [e1, e2, ih]
    rcases h i with e | e
    · rw [e, if_neg (by decide)]
      rfl
    · rw [e, if_pos rfl]
      rfl
theorem e75 {m o : Nat} (hm : m ≤ 8) (ho : o ≤ 2) (hv : ∀ i, v i = 0 ∨ v i = 1) (hc : ∀ i, i < m → c 45 0 i = iv (v i)) (d : Nat) : E (d + 2) 75 [vr 44 0, vi (iv (o : Nat)), vi (iv (m : Nat))] (c, l, x, y) = some (some (vl (jv (ansW o m v))), c, l, x, y) := by
  have key : ∀ (k i : Nat), i + k = m → X (d + 2) 75 6 [some (vr 44 0), some (vi (iv (o : Nat))), some (vi (iv (m : Nat))), some (vi (iv (fsW v i))), some (vi (iv (lsW v i))), some (vi (iv (i : Nat)))] [] (c, l, x, y) = some (some (vl (jv (ansW o m v))), c, l, x, y) := by
    intro k
    induction k with
    | zero =>
      intro i hi
      have hi : i = m := by omega
      subst hi
      have h1 := fsW_bd (v := v) i
      have h2 := lsW_bd (v := v) i
      have hlen : ((List.range i).map (fun j => (v j).toNat)).length = i := by rw [List.length_map, List.length_range]
      have h104 := e104 (c := c) (l := l) (x := x) (y := y) (kd := 45) (ki := 0) (by omega) (ws := (List.range i).map (fun j => (v j).toNat)) (fun k hk => by
        rw [hlen] at hk
        rw [hc k hk, List.getD_eq_getElem?_getD, List.getElem?_map, List.getElem?_range hk]
        show iv (v k) = iv (((v k).toNat : Nat) : Int)
        rcases hv k with e | e <;> rw [e] <;> rfl) (by rw [hlen]; exact hm) (fun w hw => by
        obtain ⟨j, -, rfl⟩ := List.mem_map.mp hw
        rcases hv j with e | e <;> rw [e] <;> decide) (z := 1) (by omega) d
      rw [hlen] at h104
      have h104 : E (d + 1) 104 [vr 45 0, vi (iv (i : Nat)), vi 1] (c, l, x, y) = _ := h104
      have hcl : cntW ((List.range i).map (fun j => (v j).toNat)) 1 ≤ i := by
        have := List.countP_le_length (p := fun w : Nat => (w : Int) == 1) (l := (List.range i).map (fun j => (v j).toNat))
        rw [hlen] at this
        exact this
      rw [q_75_6, if_neg (by rw [iv_lt (by omega) (by omega)]; omega)]
      unfold ansW
      rcases (show o = 0 ∨ o = 1 ∨ o = 2 by omega) with rfl | rfl | rfl
      · rw [if_neg (show ¬ iv ((0 : Nat) : Int) = 2 by decide), if_pos (show iv ((0 : Nat) : Int) = 0 from rfl), jv_of (by omega), if_pos rfl]
      · rw [if_neg (show ¬ iv ((1 : Nat) : Int) = 2 by decide), if_neg (show ¬ iv ((1 : Nat) : Int) = 0 by decide), jv_of (by omega), if_neg (by decide), if_pos rfl]
      · rw [if_pos (show iv ((2 : Nat) : Int) = 2 from rfl), h104]
        simp only [am_bi_v]
        rw [jv_of (by omega), if_neg (by decide), if_neg (by decide), if_pos trivial, ofW_cnt hv]
    | succ k ih =>
      intro i hi
      have h1 := fsW_bd (v := v) i
      have h2 := lsW_bd (v := v) i
      have hcell := hc i (by omega)
      have hvi := hv i
      rw [← ih (i + 1) (by omega), q_75_6]
      have e1 : (iv (v i) = 1) = (v i = 1) := iv_eq (b := 1) (by omega) (by omega)
      have em : (iv (fsW v i) = -1) = (fsW v i = -1) := by
        show (iv (fsW v i) = iv (-1)) = _
        rw [iv_eq (by omega) (by omega)]
      have hi1 : iv (i : Nat) + 1 = iv ((i + 1 : Nat) : Int) := by
        show iv (i : Nat) + iv 1 = _
        rw [iv_add]
        rfl
      have hlt : iv (i : Nat) < iv (m : Nat) := by rw [iv_lt (by omega) (by omega)]; omega
      have hlo : ¬ (iv (i : Nat) < 0 ∨ 8 ≤ (iv (i : Nat)).toNatClampNeg) := by
        have h0 : (iv (i : Nat) < 0) = ((i : Int) < 0) := iv_lt (b := 0) (by omega) (by omega)
        rw [h0, iv_nat (by omega)]
        omega
      rw [if_pos hlt, if_neg hlo, iv_nat (by omega), Int.toNat_natCast, hcell, hi1]
      simp only [e1, em]
      have f1 : fsW v (i + 1) = if v i = 1 then (if fsW v i = -1 then (i : Int) else fsW v i) else fsW v i := rfl
      have f2 : lsW v (i + 1) = if v i = 1 then (i : Int) else lsW v i := rfl
      rw [f1, f2]
      split
      · split <;> rfl
      · rfl
  rw [q_75]
  exact key m 0 (by omega)
end
