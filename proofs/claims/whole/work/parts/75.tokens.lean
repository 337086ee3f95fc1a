/-! a tape, token by token -/
/-- letters 97, digits 48, others as they are -/
def clB (b : Nat) : Nat := if 97 ≤ b ∧ b ≤ 122 then 97 else if 48 ≤ b ∧ b ≤ 57 then 48 else b
/-- behind blanks; so many bytes are left -/
def skp (tp : Nat → Nat) : Nat → Nat → Nat
  | 0, p => p
  | m + 1, p => if tp p = 32 ∨ tp p = 10 then skp tp m (p + 1) else p
def runN (tp : Nat → Nat) (k : Nat) : Nat → Nat → Nat
  | 0, _ => 0
  | m + 1, p => if clB (tp p) = k then runN tp k m (p + 1) + 1 else 0
def lenT (tp : Nat → Nat) (n p : Nat) : Nat := if p < n then (if clB (tp p) = 97 ∨ clB (tp p) = 48 then runN tp (clB (tp p)) (n - p) p else 1) else 0
/-- where a token begins, whether it stands right behind a word or a number -/
abbrev Ts : Type := Nat × Bool
def sgnT (tp : Nat → Nat) (n : Nat) (s : Ts) : Int := if s.1 < n then (if (clB (tp s.1) = 97 ∨ clB (tp s.1) = 48) ∧ s.2 = true then 0 else (clB (tp s.1) : Int)) else -1
def nxtQ (tp : Nat → Nat) (n q : Nat) (was : Bool) : Ts := (skp tp (n - q) q, was && decide (skp tp (n - q) q = q))
def nxtT (tp : Nat → Nat) (n : Nat) (s : Ts) : Ts := nxtQ tp n (s.1 + lenT tp n s.1) (decide (sgnT tp n s = 97 ∨ sgnT tp n s = 48))
def runT (tp : Nat → Nat) (n p : Nat) : List Nat := (List.range (lenT tp n p)).map (fun i => tp (p + i))
/-- a token and the fault -/
abbrev Tz : Type := Ts × Option (Nat × Nat)
def flZ (k p : Nat) (z : Tz) : Tz := (z.1, some (z.2.getD (k, p)))
def avZ (tp : Nat → Nat) (n : Nat) (z : Tz) : Tz := (nxtT tp n z.1, z.2)
/-- words of a list that is parted by blanks -/
def joinW : List (List Nat) → List Nat
  | [] => []
  | [w] => w
  | w :: v :: ws => w ++ 32 :: joinW (v :: ws)
def lstF (R : List Nat) : List Nat → Nat → Option Nat → Option Nat
  | [], num, al => if al = some R.length then some num else none
  | ch :: cs, num, al => if ch = 32 then (if al = some R.length then some num else lstF R cs (num + 1) (some 0)) else lstF R cs num (match al with
      | some a => if R[a]? = some ch then some (a + 1) else none
      | none => none)
def WL (t : Nat) : List (List Nat) := if t = 0 then [[110, 97, 109, 101], [100, 101, 101, 100], [116, 117, 114, 110], [98, 111, 116, 104], [101, 105, 116, 104, 101, 114], [101, 109, 112, 116, 121], [108, 105, 110, 101], [119, 104, 111], [100, 105, 100], [119, 104, 111, 109], [102, 97, 99, 116], [119, 105, 116, 110, 101, 115, 115], [97, 103, 101], [115, 105, 100, 101], [115, 97, 121, 115], [97, 99, 99, 117, 115, 101, 100], [99, 97, 115, 101]]
  else [[102, 105, 114, 115, 116], [108, 97, 115, 116], [111, 102, 116, 101, 110], [116, 111, 116, 97, 108], [109, 111, 115, 116], [108, 101, 97, 115, 116], [111, 114], [97, 110, 100], [110, 111, 116], [97, 108, 108], [110, 117, 109, 98, 101, 114], [119, 111, 114, 100, 115], [114, 117, 108, 105, 110, 103], [102, 97, 105, 114], [97, 116], [104, 97, 115], [109, 105, 110], [109, 97, 120]]
def lixW (t : Nat) (R : List Nat) : Option Nat := (WL t).findIdx? (fun w => w == R)
/-- which word of list t is here -/
def lixT (tp : Nat → Nat) (n t : Nat) (s : Ts) : Option Nat := if sgnT tp n s = 97 then lixW t (runT tp n s.1) else none
/-- letters of the word here -/
def letT (tp : Nat → Nat) (n p : Nat) : List Nat := (runT tp n p).map (fun b => b - 96)
def valT (tp : Nat → Nat) (n p : Nat) : Nat := (runT tp n p).foldl (fun v b => 10 * v + (b - 48)) 0
def spZ (tp : Nat → Nat) (n : Nat) (z : Tz) : Option (List Nat) × Tz := if z.2.isSome then (none, z) else if sgnT tp n z.1 ≠ 97 ∨ (lixT tp n 0 z.1).isSome then (none, flZ 1 z.1.1 z) else if 6 < lenT tp n z.1.1 then (none, flZ 1 (z.1.1 + 6) z) else (some (letT tp n z.1.1), z)
def tnZ (tp : Nat → Nat) (n most : Nat) (z : Tz) : Option Nat × Tz := if z.2.isSome then (none, z) else if sgnT tp n z.1 ≠ 48 then (none, flZ 1 z.1.1 z) else if 4 < lenT tp n z.1.1 then (none, flZ 1 (z.1.1 + 4) z) else if most < valT tp n z.1.1 then (none, flZ 2 z.1.1 z) else (some (valT tp n z.1.1), avZ tp n z)
def tkZ (tp : Nat → Nat) (n : Nat) (sg : Int) (z : Tz) : Tz := if z.2 = none ∧ sgnT tp n z.1 = sg then avZ tp n z else flZ 1 z.1.1 z
def toZ (tp : Nat → Nat) (n own : Nat) (z : Tz) : Tz := if z.2.isSome then z else if lixT tp n 0 z.1 = some own then avZ tp n z else flZ 1 z.1.1 z
section
variable {tp : Nat → Nat} {n : Nat}
theorem skp_le : ∀ (m p : Nat), p ≤ skp tp m p ∧ skp tp m p ≤ p + m
  | 0, p => ⟨Nat.le_refl _, Nat.le_refl _⟩
  | m + 1, p => by
    unfold skp
    split
    · have := skp_le m (p + 1); omega
    · omega
theorem runN_le (k : Nat) : ∀ (m p : Nat), runN tp k m p ≤ m
  | 0, p => Nat.le_refl _
  | m + 1, p => by
    unfold runN
    split
    · have := runN_le k m (p + 1); omega
    · omega
theorem runN_at (k : Nat) : ∀ (m p i : Nat), i < runN tp k m p → clB (tp (p + i)) = k
  | 0, p, i, h => absurd h (Nat.not_lt_zero _)
  | m + 1, p, i, h => by
    unfold runN at h
    split at h
    · rename_i e
      cases i with
      | zero => exact e
      | succ i =>
        have := runN_at k m (p + 1) i (by omega)
        rw [show p + (i + 1) = p + 1 + i by omega]
        exact this
    · exact absurd h (Nat.not_lt_zero _)
theorem runN_end (k : Nat) : ∀ (m p : Nat), runN tp k m p < m → clB (tp (p + runN tp k m p)) ≠ k
  | 0, p, h => absurd h (Nat.not_lt_zero _)
  | m + 1, p, h => by
    unfold runN at h ⊢
    split at h
    · rename_i e
      rw [if_pos e, show p + (runN tp k m (p + 1) + 1) = p + 1 + runN tp k m (p + 1) by omega]
      exact runN_end k m (p + 1) (by omega)
    · rename_i e
      rw [if_neg e]
      exact e
theorem lenT_le {p : Nat} (h : p ≤ n) : p + lenT tp n p ≤ n := by
  unfold lenT
  split
  · split
    · have := runN_le (tp := tp) (clB (tp p)) (n - p) p; omega
    · omega
  · omega
theorem lenT_pos {p : Nat} (h : p < n) : 1 ≤ lenT tp n p := by
  unfold lenT
  rw [if_pos h]
  split
  · obtain ⟨m, hm⟩ : ∃ m, n - p = m + 1 := ⟨n - p - 1, by omega⟩
    rw [hm, runN, if_pos rfl]
    omega
  · omega
theorem lenT_at {p : Nat} (h : p < n) {i : Nat} (hi : i < lenT tp n p) : clB (tp (p + i)) = clB (tp p) := by
  unfold lenT at hi
  rw [if_pos h] at hi
  split at hi
  · exact runN_at _ _ _ _ hi
  · rw [show i = 0 by omega]; rfl
theorem nxtQ_le {q : Nat} {w : Bool} (h : q ≤ n) : q ≤ (nxtQ tp n q w).1 ∧ (nxtQ tp n q w).1 ≤ n := by
  have := skp_le (tp := tp) (n - q) q
  unfold nxtQ
  dsimp only
  omega
theorem nxtT_le {s : Ts} (h : s.1 ≤ n) : s.1 ≤ (nxtT tp n s).1 ∧ (nxtT tp n s).1 ≤ n := by
  have h1 := lenT_le (tp := tp) h
  have h2 := nxtQ_le (tp := tp) (w := decide (sgnT tp n s = 97 ∨ sgnT tp n s = 48)) h1
  unfold nxtT
  omega
theorem clB_lt {b : Nat} (h : b < 256) : clB b < 256 := by unfold clB; split; omega; split <;> omega
theorem clB_97 (b : Nat) : clB b = 97 ↔ 97 ≤ b ∧ b ≤ 122 := by
  unfold clB
  split
  · omega
  · split <;> omega
theorem clB_48 (b : Nat) : clB b = 48 ↔ 48 ≤ b ∧ b ≤ 57 := by
  unfold clB
  split
  · omega
  · split <;> omega
theorem sgn_bd (ht : ∀ i, tp i < 256) (s : Ts) : -1 ≤ sgnT tp n s ∧ sgnT tp n s < 256 := by
  have := clB_lt (ht s.1)
  unfold sgnT
  split
  · split <;> omega
  · omega
theorem sgn_97 {s : Ts} (h : sgnT tp n s = 97) : s.1 < n ∧ clB (tp s.1) = 97 ∧ s.2 = false := by
  unfold sgnT at h
  split at h
  · rename_i h1
    split at h
    · omega
    · rename_i h2
      have h3 : clB (tp s.1) = 97 := by omega
      refine ⟨h1, h3, ?_⟩
      cases q : s.2 with
      | false => rfl
      | true => exact absurd ⟨Or.inl h3, q⟩ h2
  · omega
theorem sgn_48 {s : Ts} (h : sgnT tp n s = 48) : s.1 < n ∧ clB (tp s.1) = 48 ∧ s.2 = false := by
  unfold sgnT at h
  split at h
  · rename_i h1
    split at h
    · omega
    · rename_i h2
      have h3 : clB (tp s.1) = 48 := by omega
      refine ⟨h1, h3, ?_⟩
      cases q : s.2 with
      | false => rfl
      | true => exact absurd ⟨Or.inr h3, q⟩ h2
  · omega
theorem runT_len (p : Nat) : (runT tp n p).length = lenT tp n p := by
  unfold runT
  rw [List.length_map, List.length_range]
theorem runT_at {p i : Nat} (h : i < lenT tp n p) : (runT tp n p)[i]? = some (tp (p + i)) := by
  unfold runT
  rw [List.getElem?_map, List.getElem?_range h]
  rfl
theorem runT_let {s : Ts} (h : sgnT tp n s = 97) : ∀ b ∈ runT tp n s.1, 97 ≤ b ∧ b ≤ 122 := by
  intro b hb
  have h1 := sgn_97 h
  unfold runT at hb
  obtain ⟨i, hi, rfl⟩ := List.mem_map.mp hb
  have := lenT_at h1.1 (List.mem_range.mp hi)
  rw [h1.2.1] at this
  exact (clB_97 _).mp this
theorem runT_dig {s : Ts} (h : sgnT tp n s = 48) : ∀ b ∈ runT tp n s.1, 48 ≤ b ∧ b ≤ 57 := by
  intro b hb
  have h1 := sgn_48 h
  unfold runT at hb
  obtain ⟨i, hi, rfl⟩ := List.mem_map.mp hb
  have := lenT_at h1.1 (List.mem_range.mp hi)
  rw [h1.2.1] at this
  exact (clB_48 _).mp this
theorem lstF_cons (R : List Nat) (ch : Nat) (cs : List Nat) (num : Nat) (al : Option Nat) : lstF R (ch :: cs) num al = if ch = 32 then (if al = some R.length then some num else lstF R cs (num + 1) (some 0)) else lstF R cs num (match al with
      | some a => if R[a]? = some ch then some (a + 1) else none
      | none => none) := rfl
theorem lstF_word (R : List Nat) : ∀ (w rest : List Nat) (num : Nat) (al : Option Nat), ¬ 32 ∈ w → lstF R (w ++ rest) num al = lstF R rest num (match al with
    | some a => if w <+: R.drop a then some (a + w.length) else none
    | none => none)
  | [], rest, num, al, _ => by
    cases al with
    | none => rfl
    | some a =>
      dsimp only
      rw [if_pos (List.nil_prefix)]
      rfl
  | ch :: w, rest, num, al, h => by
    have hc : ch ≠ 32 := fun q => h (by rw [q]; exact List.mem_cons_self)
    rw [List.cons_append, lstF_cons, if_neg hc, lstF_word R w rest num _ (fun q => h (List.mem_cons_of_mem _ q))]
    congr 1
    cases al with
    | none => rfl
    | some a =>
      dsimp only
      by_cases e : R[a]? = some ch
      · rw [if_pos e]
        dsimp only
        have hd : R.drop a = ch :: R.drop (a + 1) := by
          obtain ⟨h1, h2⟩ := List.getElem?_eq_some_iff.mp e
          rw [List.drop_eq_getElem_cons h1, h2]
        rw [hd, List.length_cons]
        by_cases e2 : w <+: R.drop (a + 1)
        · rw [if_pos e2, if_pos (List.cons_prefix_cons.mpr ⟨rfl, e2⟩)]; congr 1; omega
        · rw [if_neg e2, if_neg (fun q => e2 (List.cons_prefix_cons.mp q).2)]
      · rw [if_neg e]
        dsimp only
        rw [if_neg]
        intro q
        obtain ⟨t, ht⟩ := q
        apply e
        have : (R.drop a)[0]? = some ch := by rw [← ht]; rfl
        rw [List.getElem?_drop, Nat.add_zero] at this
        exact this
theorem pre_all {w R : List Nat} : (if w <+: R.drop 0 then some (0 + w.length) else none : Option Nat) = some R.length ↔ w = R := by
  rw [List.drop_zero, Nat.zero_add]
  constructor
  · intro h
    split at h
    · rename_i hp
      exact List.IsPrefix.eq_of_length hp (Option.some.inj h)
    · cases h
  · intro h
    rw [h, if_pos List.prefix_rfl]
theorem lstF_join (R : List Nat) : ∀ (ws : List (List Nat)) (num : Nat), ws ≠ [] → (∀ w ∈ ws, ¬ 32 ∈ w) → lstF R (joinW ws) num (some 0) = (ws.findIdx? (fun w => w == R)).map (fun i => i + num)
  | [], _, h, _ => absurd rfl h
  | [w], num, _, h => by
    have h1 := lstF_word R w [] num (some 0) (h w (by simp))
    rw [List.append_nil] at h1
    unfold joinW
    rw [h1]
    dsimp only
    unfold lstF
    rw [List.findIdx?_cons, List.findIdx?_nil]
    by_cases e : w = R
    · rw [if_pos (pre_all.mpr e), if_pos (beq_iff_eq.mpr e)]
      simp
    · rw [if_neg (fun q => e (pre_all.mp q)), if_neg (by rw [beq_iff_eq]; exact e)]
      rfl
  | w :: v :: ws, num, _, h => by
    have h1 := lstF_word R w (32 :: joinW (v :: ws)) num (some 0) (h w (by simp))
    have ih := lstF_join R (v :: ws) (num + 1) (by simp) (fun u hu => h u (List.mem_cons_of_mem _ hu))
    unfold joinW
    rw [h1]
    dsimp only
    rw [lstF_cons, if_pos rfl, List.findIdx?_cons]
    by_cases e : w = R
    · rw [if_pos (pre_all.mpr e), if_pos (beq_iff_eq.mpr e)]
      simp
    · rw [if_neg (fun q => e (pre_all.mp q)), if_neg (by rw [beq_iff_eq]; exact e), ih]
      cases (v :: ws).findIdx? (fun w => w == R) with
      | none => rfl
      | some i => simp only [Option.map_some]; congr 1; omega
theorem WL_ok : ∀ t, t < 2 → WL t ≠ [] ∧ ∀ w ∈ WL t, ¬ 32 ∈ w := by decide
theorem lixW_F {t : Nat} (ht : t < 2) (R : List Nat) : lixW t R = lstF R (joinW (WL t)) 0 (some 0) := by
  have h := WL_ok t ht
  rw [lstF_join R _ 0 h.1 h.2]
  unfold lixW
  cases (WL t).findIdx? (fun w => w == R) <;> rfl
theorem WL_find : ∀ t, t < 2 → ∀ i, i < 18 → (match (WL t)[i]? with
    | some R => (WL t).findIdx? (fun w => w == R) == some i
    | none => true) = true := by decide +kernel
theorem lixW_some {t : Nat} {R : List Nat} {i : Nat} (h : lixW t R = some i) : (WL t)[i]? = some R := by
  unfold lixW at h
  rw [List.findIdx?_eq_some_iff_getElem] at h
  obtain ⟨h1, h2, -⟩ := h
  rw [List.getElem?_eq_getElem h1, beq_iff_eq.mp h2]
theorem lixW_of {t : Nat} (ht : t < 2) {R : List Nat} {i : Nat} (h : (WL t)[i]? = some R) : lixW t R = some i := by
  obtain ⟨h1, h2⟩ := List.getElem?_eq_some_iff.mp h
  have hl : (WL t).length ≤ 18 := by unfold WL; split <;> decide
  have h3 := WL_find t ht i (by omega)
  rw [h] at h3
  exact beq_iff_eq.mp h3
theorem lixW_lt {t i : Nat} {R : List Nat} (h : lixW t R = some i) : i < 18 := by
  have h1 := (List.getElem?_eq_some_iff.mp (lixW_some h)).1
  have h2 : (WL t).length ≤ 18 := by unfold WL; split <;> decide
  omega
theorem flZ_1 (k p : Nat) (z : Tz) : (flZ k p z).1 = z.1 := rfl
theorem flZ_none {k p : Nat} {z : Tz} (h : z.2 = none) : flZ k p z = (z.1, some (k, p)) := by unfold flZ; rw [h]; rfl
theorem flZ_some {k p : Nat} {z : Tz} (h : z.2.isSome = true) : flZ k p z = z := by
  unfold flZ
  cases q : z.2 with
  | none => rw [q] at h; cases h
  | some f => rw [Option.getD_some, ← q]
end
