/-! a QUESTION: its codes, and what they come to -/
def lpZ (f : Tz → List Nat × Tz) (op : Ts → Option Nat) (tp : Nat → Nat) (n : Nat) : Nat → List Nat → Tz → List Nat × Tz
  | 0, cs, z => (cs, z)
  | k + 1, cs, z => if z.2 = none then (match op z.1 with
    | some c => lpZ f op tp n k (cs ++ (f (avZ tp n z)).1 ++ [c]) (f (avZ tp n z)).2
    | none => (cs, z)) else (cs, z)
def mulO (tp : Nat → Nat) (n : Nat) (s : Ts) : Option Nat := if sgnT tp n s = 42 then some 3 else if sgnT tp n s = 47 then some 4 else none
def addO (tp : Nat → Nat) (n : Nat) (s : Ts) : Option Nat := if sgnT tp n s = 43 then some 1 else if sgnT tp n s = 45 then some 2 else none
def andO (tp : Nat → Nat) (n : Nat) (s : Ts) : Option Nat := if lixT tp n 1 s = some 7 then some 10 else none
def orO (tp : Nat → Nat) (n : Nat) (s : Ts) : Option Nat := if lixT tp n 1 s = some 6 then some 11 else none
def prdZ (tp : Nat → Nat) (n : Nat) (P : Tz → List Nat × Tz) (z : Tz) : List Nat × Tz := lpZ P (mulO tp n) tp n 1600 (P z).1 (P z).2
def sumZ (tp : Nat → Nat) (n : Nat) (P : Tz → List Nat × Tz) (z : Tz) : List Nat × Tz := lpZ (prdZ tp n P) (addO tp n) tp n 1600 (prdZ tp n P z).1 (prdZ tp n P z).2
/-- ( SUM ), or with min, max ( SUM , SUM ) -/
def brZ (tp : Nat → Nat) (n : Nat) (f : Option (Tz → List Nat × Tz)) (w : Nat) (z : Tz) : List Nat × Tz := if sgnT tp n z.1 ≠ 40 then ([], flZ 1 z.1.1 z) else match f with
  | none => ([], flZ 4 z.1.1 z)
  | some P => if w = 0 then ((sumZ tp n P (avZ tp n z)).1, tkZ tp n 41 (sumZ tp n P (avZ tp n z)).2) else ((sumZ tp n P (avZ tp n z)).1 ++ (sumZ tp n P (tkZ tp n 44 (sumZ tp n P (avZ tp n z)).2)).1 ++ [w], tkZ tp n 41 (sumZ tp n P (tkZ tp n 44 (sumZ tp n P (avZ tp n z)).2)).2)
def atZ (tp : Nat → Nat) (n : Nat) (f : Option (Tz → List Nat × Tz)) (cd : Nat) (z : Tz) : List Nat × Tz := match f with
  | none => ([], flZ 4 z.1.1 z)
  | some P => ((P (avZ tp n z)).1 ++ [cd], (P (avZ tp n z)).2)
def pcZ (tp : Nat → Nat) (n : Nat) (f : Option (Tz → List Nat × Tz)) (z : Tz) : List Nat × Tz := if z.2.isSome then ([], z) else if sgnT tp n z.1 = 48 then ([1000 + ((tnZ tp n 9999 z).1.getD 0)], (tnZ tp n 9999 z).2) else if sgnT tp n z.1 = 40 then brZ tp n f 0 z else match lixT tp n 1 z.1 with
  | none => ([], flZ 1 z.1.1 z)
  | some o => if o < 10 then ([], flZ 1 z.1.1 z) else if o = 14 ∨ o = 15 then atZ tp n f (46 + o) z else if o = 16 ∨ o = 17 then brZ tp n f (o - 11) (avZ tp n z) else ([30 + o], avZ tp n z)
def partZ (tp : Nat → Nat) (n : Nat) : Nat → Tz → List Nat × Tz
  | 0 => pcZ tp n none
  | m + 1 => pcZ tp n (some (partZ tp n m))
def cmpC (sg : Int) : Option Nat := if sg = 60 then some 7 else if sg = 62 then some 8 else if sg = 61 then some 9 else none
def cpZ (tp : Nat → Nat) (n : Nat) (P : Tz → List Nat × Tz) (z : Tz) : List Nat × Tz := match cmpC (sgnT tp n (sumZ tp n P z).2.1) with
  | some c => ((sumZ tp n P z).1 ++ (sumZ tp n P (tkZ tp n (sgnT tp n (sumZ tp n P z).2.1) (sumZ tp n P z).2)).1 ++ [c], (sumZ tp n P (tkZ tp n (sgnT tp n (sumZ tp n P z).2.1) (sumZ tp n P z).2)).2)
  | none => ((sumZ tp n P z).1, flZ 1 (sumZ tp n P z).2.1.1 (sumZ tp n P z).2)
def bthZ (tp : Nat → Nat) (n : Nat) (F : Tz → List Nat × Tz) (z : Tz) : List Nat × Tz := lpZ F (andO tp n) tp n 1600 (F z).1 (F z).2
def tstZ (tp : Nat → Nat) (n : Nat) (F : Tz → List Nat × Tz) (z : Tz) : List Nat × Tz := lpZ (bthZ tp n F) (orO tp n) tp n 1600 (bthZ tp n F z).1 (bthZ tp n F z).2
def sqZ (tp : Nat → Nat) (n : Nat) (f : Option (Tz → List Nat × Tz)) (z : Tz) : List Nat × Tz := match f with
  | none => ([], flZ 4 z.1.1 z)
  | some F => ((tstZ tp n F (avZ tp n z)).1, tkZ tp n 93 (tstZ tp n F (avZ tp n z)).2)
def fcZ (tp : Nat → Nat) (n : Nat) (P : Tz → List Nat × Tz) (f : Option (Tz → List Nat × Tz)) (z : Tz) : List Nat × Tz := if lixT tp n 1 z.1 = some 9 then ([13], avZ tp n z) else if lixT tp n 1 z.1 = some 8 then atZ tp n f 12 z else if sgnT tp n z.1 = 91 then sqZ tp n f z else cpZ tp n P z
def factZ (tp : Nat → Nat) (n : Nat) : Nat → Tz → List Nat × Tz
  | 0 => fcZ tp n (partZ tp n 0) none
  | m + 1 => fcZ tp n (partZ tp n (m + 1)) (some (factZ tp n m))
/-- what stands behind the question's first word -/
def bdZ (tp : Nat → Nat) (n o : Nat) (z : Tz) : List Nat × Tz := if o ≤ 2 then tstZ tp n (factZ tp n 6) z else sumZ tp n (partZ tp n 6) z
def enZ (tp : Nat → Nat) (n : Nat) (r : List Nat × Tz) : List Nat × Tz := (r.1, if sgnT tp n r.2.1 = -1 then r.2 else flZ 1 r.2.1.1 r.2)
def qsZ (tp : Nat → Nat) (n : Nat) (z : Tz) : List Nat × Tz := match lixT tp n 1 z.1 with
  | some o => if o < 6 then enZ tp n (bdZ tp n o (avZ tp n z)) else ([], flZ 1 z.1.1 z)
  | none => ([], flZ 1 z.1.1 z)
/-! what codes come to: of a CASE its number, its words, its RULING, whether it is THE TRUTH -/
abbrev Cx : Type := Int × List Nat × Int × Int
def clp (v : Int) : Int := if 1000000 < v then 1000000 else if v < -1000000 then -1000000 else v
def atW (ws : List Nat) (v : Int) : Int := if 0 ≤ v ∧ v < ws.length then (ws.getD v.toNat 0 : Nat) else 99
def hasW (ws : List Nat) (v : Int) : Int := (ws.countP (fun w : Nat => (w : Int) == v) : Nat)
def b01 (p : Prop) [Decidable p] : Int := if p then 1 else 0
def binO (cd : Nat) (a b : Int) : Int := if cd = 1 then clp (a + b) else if cd = 2 then clp (a - b) else if cd = 3 then clp (a * b) else if cd = 4 then (if b = 0 then 0 else a.fdiv b) else if cd = 5 then (if a < b then a else b) else if cd = 6 then (if b < a then a else b) else if cd = 7 then b01 (a < b) else if cd = 8 then b01 (b < a) else if cd = 9 then b01 (a = b) else if cd = 10 then a * b else b01 (0 < a + b)
def stp (x : Cx) (cd : Nat) (st : List Int) : Option (List Int) := if 1000 ≤ cd then some (((cd - 1000 : Nat) : Int) :: st) else if cd = 13 then some (1 :: st) else if cd = 40 then some (x.1 :: st) else if cd = 41 then some ((x.2.1.length : Int) :: st) else if cd = 42 then some (x.2.2.1 :: st) else if cd = 43 then some (x.2.2.2 :: st) else match st with
  | [] => none
  | a :: st1 => if cd = 12 then some ((1 - a) :: st1) else if cd = 60 then some (atW x.2.1 a :: st1) else if cd = 61 then some (hasW x.2.1 a :: st1) else match st1 with
    | [] => none
    | b :: st2 => some (binO cd b a :: st2)
def run (x : Cx) : List Nat → List Int → Option (List Int)
  | [], st => some st
  | cd :: cs, st => match stp x cd st with
    | some st1 => run x cs st1
    | none => none
/-- the codes are those of a value -/
def Val (x : Cx) (cs : List Nat) (v : Int) : Prop := ∀ st, run x cs st = some (v :: st)
section
variable {tp : Nat → Nat} {n : Nat} {z : Tz} {x : Cx}
theorem run_app : ∀ (a b : List Nat) (st : List Int), run x (a ++ b) st = (run x a st).bind (run x b)
  | [], b, st => rfl
  | cd :: a, b, st => by
    rw [List.cons_append]
    unfold run
    cases stp x cd st with
    | none => rfl
    | some st1 => exact run_app a b st1
theorem Val_bin {a b : List Nat} {u v : Int} {cd : Nat} (ha : Val x a u) (hb : Val x b v) (hc : 1 ≤ cd ∧ cd ≤ 11) : Val x (a ++ b ++ [cd]) (binO cd u v) := by
  intro st
  rw [run_app, run_app, ha]
  show ((run x b (u :: st)).bind _) = _
  rw [hb]
  show run x [cd] (v :: u :: st) = _
  have hs : stp x cd (v :: u :: st) = some (binO cd u v :: st) := by
    unfold stp
    rw [if_neg (by omega), if_neg (by omega), if_neg (by omega), if_neg (by omega), if_neg (by omega), if_neg (by omega)]
    dsimp only
    rw [if_neg (by omega), if_neg (by omega), if_neg (by omega)]
  unfold run
  rw [hs]
  rfl
theorem Val_un {a : List Nat} {u : Int} {cd : Nat} {v : Int} (ha : Val x a u) (h : ∀ st, stp x cd (u :: st) = some (v :: st)) : Val x (a ++ [cd]) v := by
  intro st
  rw [run_app, ha]
  show run x [cd] (u :: st) = _
  unfold run
  rw [h]
  rfl
theorem Val_one {cd : Nat} {v : Int} (h : ∀ st, stp x cd st = some (v :: st)) : Val x [cd] v := by
  intro st
  unfold run
  rw [h]
  rfl
/-- faults stay -/
theorem pcZ_f {f : Option (Tz → List Nat × Tz)} (h : z.2.isSome = true) : pcZ tp n f z = ([], z) := by
  unfold pcZ
  rw [if_pos h]
theorem partZ_f (m : Nat) (h : z.2.isSome = true) : partZ tp n m z = ([], z) := by
  cases m with
  | zero => exact pcZ_f h
  | succ m => exact pcZ_f h
theorem lpZ_f {f : Tz → List Nat × Tz} {op : Ts → Option Nat} (h : z.2.isSome = true) : ∀ (k : Nat) (cs : List Nat), lpZ f op tp n k cs z = (cs, z)
  | 0, cs => rfl
  | k + 1, cs => by
    unfold lpZ
    rw [if_neg (fun q => by rw [q] at h; cases h)]
theorem prdZ_f {P : Tz → List Nat × Tz} (hP : ∀ z : Tz, z.2.isSome = true → P z = ([], z)) (h : z.2.isSome = true) : prdZ tp n P z = ([], z) := by
  unfold prdZ
  rw [hP z h]
  exact lpZ_f h _ _
theorem sumZ_f {P : Tz → List Nat × Tz} (hP : ∀ z : Tz, z.2.isSome = true → P z = ([], z)) (h : z.2.isSome = true) : sumZ tp n P z = ([], z) := by
  unfold sumZ
  rw [prdZ_f hP h]
  exact lpZ_f h _ _
/-- the tape goes on -/
theorem avZ_le : z.1.1 ≤ (avZ tp n z).1.1 := by
  show z.1.1 ≤ skp tp (n - (z.1.1 + lenT tp n z.1.1)) (z.1.1 + lenT tp n z.1.1)
  have := (skp_le (tp := tp) (n - (z.1.1 + lenT tp n z.1.1)) (z.1.1 + lenT tp n z.1.1)).1
  omega
theorem tkZ_le {sg : Int} : z.1.1 ≤ (tkZ tp n sg z).1.1 := by
  unfold tkZ
  split
  · exact avZ_le
  · exact Nat.le_refl _
theorem flZ_le {k p : Nat} : z.1.1 ≤ (flZ k p z).1.1 := Nat.le_refl _
theorem tnZ_le {m : Nat} : z.1.1 ≤ (tnZ tp n m z).2.1.1 := by
  unfold tnZ
  repeat' split
  all_goals first | exact Nat.le_refl _ | exact avZ_le
theorem lpZ_le {f : Tz → List Nat × Tz} {op : Ts → Option Nat} (hf : ∀ z : Tz, z.1.1 ≤ (f z).2.1.1) : ∀ (k : Nat) (cs : List Nat) (z : Tz), z.1.1 ≤ (lpZ f op tp n k cs z).2.1.1
  | 0, cs, z => Nat.le_refl _
  | k + 1, cs, z => by
    unfold lpZ
    split
    · split
      · exact Nat.le_trans (Nat.le_trans avZ_le (hf _)) (lpZ_le hf k _ _)
      · exact Nat.le_refl _
    · exact Nat.le_refl _
theorem prdZ_le {P : Tz → List Nat × Tz} (hP : ∀ z : Tz, z.1.1 ≤ (P z).2.1.1) (z : Tz) : z.1.1 ≤ (prdZ tp n P z).2.1.1 := Nat.le_trans (hP z) (lpZ_le hP _ _ _)
theorem sumZ_le {P : Tz → List Nat × Tz} (hP : ∀ z : Tz, z.1.1 ≤ (P z).2.1.1) (z : Tz) : z.1.1 ≤ (sumZ tp n P z).2.1.1 := Nat.le_trans (prdZ_le hP z) (lpZ_le (prdZ_le hP) _ _ _)
theorem brZ_le {f : Option (Tz → List Nat × Tz)} (hf : ∀ P, f = some P → ∀ z : Tz, z.1.1 ≤ (P z).2.1.1) {w : Nat} : z.1.1 ≤ (brZ tp n f w z).2.1.1 := by
  unfold brZ
  split
  · exact Nat.le_refl _
  · cases f with
    | none => exact Nat.le_refl _
    | some P =>
      have hP := hf P rfl
      dsimp only
      split
      · exact Nat.le_trans (Nat.le_trans avZ_le (sumZ_le hP _)) tkZ_le
      · exact Nat.le_trans (Nat.le_trans (Nat.le_trans (Nat.le_trans avZ_le (sumZ_le hP _)) tkZ_le) (sumZ_le hP _)) tkZ_le
theorem atZ_le {f : Option (Tz → List Nat × Tz)} (hf : ∀ P, f = some P → ∀ z : Tz, z.1.1 ≤ (P z).2.1.1) {w : Nat} : z.1.1 ≤ (atZ tp n f w z).2.1.1 := by
  unfold atZ
  cases f with
  | none => exact Nat.le_refl _
  | some P => exact Nat.le_trans avZ_le (hf P rfl _)
theorem pcZ_le {f : Option (Tz → List Nat × Tz)} (hf : ∀ P, f = some P → ∀ z : Tz, z.1.1 ≤ (P z).2.1.1) (z : Tz) : z.1.1 ≤ (pcZ tp n f z).2.1.1 := by
  unfold pcZ
  split
  · exact Nat.le_refl _
  split
  · exact tnZ_le
  split
  · exact brZ_le hf
  split
  · exact Nat.le_refl _
  · split
    · exact Nat.le_refl _
    split
    · exact atZ_le hf
    split
    · exact Nat.le_trans avZ_le (brZ_le hf)
    · exact avZ_le
theorem partZ_le : ∀ (m : Nat) (z : Tz), z.1.1 ≤ (partZ tp n m z).2.1.1
  | 0, z => pcZ_le (fun P h => by cases h) z
  | m + 1, z => pcZ_le (fun P h => by cases h; exact partZ_le m) z
theorem cpZ_le {P : Tz → List Nat × Tz} (hP : ∀ z : Tz, z.1.1 ≤ (P z).2.1.1) : z.1.1 ≤ (cpZ tp n P z).2.1.1 := by
  unfold cpZ
  split
  · exact Nat.le_trans (Nat.le_trans (sumZ_le hP _) tkZ_le) (sumZ_le hP _)
  · exact sumZ_le hP _
theorem bthZ_le {F : Tz → List Nat × Tz} (hF : ∀ z : Tz, z.1.1 ≤ (F z).2.1.1) (z : Tz) : z.1.1 ≤ (bthZ tp n F z).2.1.1 := Nat.le_trans (hF z) (lpZ_le hF _ _ _)
theorem tstZ_le {F : Tz → List Nat × Tz} (hF : ∀ z : Tz, z.1.1 ≤ (F z).2.1.1) (z : Tz) : z.1.1 ≤ (tstZ tp n F z).2.1.1 := Nat.le_trans (bthZ_le hF z) (lpZ_le (bthZ_le hF) _ _ _)
theorem fcZ_le {P : Tz → List Nat × Tz} {f : Option (Tz → List Nat × Tz)} (hP : ∀ z : Tz, z.1.1 ≤ (P z).2.1.1) (hf : ∀ F, f = some F → ∀ z : Tz, z.1.1 ≤ (F z).2.1.1) (z : Tz) : z.1.1 ≤ (fcZ tp n P f z).2.1.1 := by
  unfold fcZ
  split
  · exact avZ_le
  split
  · exact atZ_le hf
  split
  · unfold sqZ
    cases f with
    | none => exact Nat.le_refl _
    | some F => exact Nat.le_trans (Nat.le_trans avZ_le (tstZ_le (hf F rfl) _)) tkZ_le
  · exact cpZ_le hP
theorem factZ_le : ∀ (m : Nat) (z : Tz), z.1.1 ≤ (factZ tp n m z).2.1.1
  | 0, z => fcZ_le (partZ_le 0) (fun F h => by cases h) z
  | m + 1, z => fcZ_le (partZ_le (m + 1)) (fun F h => by cases h; exact factZ_le m) z
end
