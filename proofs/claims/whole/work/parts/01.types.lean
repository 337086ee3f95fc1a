/-! the small machine: values, heap, tables of families, one op -/
abbrev mv : Type := Int32 ⊕ (Int64 ⊕ (Nat × Nat))
abbrev vi (x : Int32) : mv := .inl x
abbrev vl (x : Int64) : mv := .inr (.inl x)
abbrev vr (k i : Nat) : mv := .inr (.inr (k, i))
/-- ints by family, place in it, slot; longs by family, slot; which Court the judge has, which the reader -/
abbrev mg : Type := (Nat → Nat → Nat → Int32) × (Nat → Nat → Int64) × Nat × Nat
abbrev ml : Type := List (Option mv)
abbrev mr : Type := Option mv × mg
abbrev mo : Type := Jvm.ClassFile.Instr × Nat × Nat × Nat × mv
def am_nth {α : Type} : List α → Nat → Option α
  | [], _ => none
  | a :: _, 0 => some a
  | _ :: l, n + 1 => am_nth l n
def am_fams : List (Nat × Nat) := [(11, 11), (9, 7), (22, 1600), (3, 2), (2, 16), (20, 20), (20, 20), (26, 6), (20, 3), (20, 6), (26, 6), (20, 3), (26, 16), (20, 3), (25, 7), (26, 8), (20, 8), (20, 8), (10, 5), (20, 4), (4, 4), (20, 16), (23, 16), (7, 5), (20, 7), (20, 7), (20, 17), (5, 8), (20, 6), (26, 6), (20, 4), (26, 6), (20, 4), (1, 4), (8, 3), (20, 7), (0, 7), (20, 3), (26, 3), (20, 28), (26, 3), (20, 7), (20, 7), (23, 7), (6, 6), (20, 8), (20, 6), (20, 8), (12, 89), (20, 1600), (20, 6), (24, 4), (24, 4), (24, 4), (24, 4), (24, 6), (24, 5), (24, 4), (24, 3), (24, 3), (24, 4), (24, 4), (24, 7), (24, 3), (24, 4), (24, 4), (24, 7), (24, 4), (20, 10), (21, 40), (20, 40), (21, 14), (20, 36), (20, 96), (20, 98), (20, 144), (20, 4), (20, 8), (20, 8), (20, 16), (20, 16), (20, 16), (20, 96), (20, 3), (20, 5), (20, 3), (20, 3), (20, 3), (20, 7), (20, 7), (24, 5), (24, 4), (24, 5), (24, 5), (24, 4), (24, 5), (24, 3), (24, 3), (24, 2), (24, 3), (24, 3), (24, 3), (24, 6), (24, 5), (24, 6), (24, 4), (24, 2), (24, 3), (20, 1700), (20, 1700), (21, 1700), (20, 17)]
/-- of a family: its type (a class, or 20 and on an array), its length -/
def am_fam (k : Nat) : Nat × Nat := match am_nth am_fams k with
  | some t => t
  | none => (99, 0)
def am_cnts : List Nat := [1, 1, 1, 1, 2, 2, 2, 2, 12, 2, 2, 12, 2, 32, 2, 2, 16, 2, 14, 14, 1, 1, 1, 1, 1, 1, 1, 1, 1, 1, 6, 1, 6, 1, 1, 1, 1, 1, 1, 3, 1, 3, 1, 1, 1, 1, 1, 1, 1, 1, 1, 1, 1, 1, 1, 1, 1, 1, 1, 1, 1, 1, 1, 1, 1, 1, 1, 1, 1, 1, 1, 1, 1, 1, 1, 1, 1, 1, 1, 1, 1, 1, 1, 1, 1, 1, 1, 1, 1, 1, 1, 1, 1, 1, 1, 1, 1, 1, 1, 1, 1, 1, 1, 1, 1, 1, 1, 1, 1, 1, 1, 1]
def am_cnt (k : Nat) : Nat := match am_nth am_cnts k with
  | some t => t
  | none => 0
def am_rfs : List (List (Option (Nat × Nat))) := [[some (1, 1), some (3, 1), some (20, 1), some (23, 1), some (27, 1), some (33, 1), some (34, 1), some (36, 1), some (44, 1), some (46, 1), some (47, 1)], [some (2, 1)], [], [some (1, 1), some (4, 3)], [some (5, 0), some (6, 0), some (7, 0), some (9, 0), some (10, 0), some (12, 0), some (14, 0), some (15, 0), some (17, 0)], [], [], [], [], [], [], [], [], [], [], [], [], [], [some (19, 0)], [], [some (21, 1), some (22, 1), some (4, 2)], [], [], [some (24, 1), some (25, 1), some (26, 1)], [], [], [], [some (20, 1), some (28, 1), some (29, 1), some (31, 1)], [], [], [], [], [], [some (20, 1)], [some (20, 1), some (35, 1)], [], [some (20, 1), some (37, 1), some (38, 1), some (40, 1), some (42, 1), some (43, 1)], [], [], [], [], [], [], [], [some (1, 1), some (20, 1), some (45, 1)], [], [], [], [some (49, 1), none, none, none, none, none, none, none, none, some (50, 1), some (51, 1), some (52, 1), some (53, 1), some (54, 1), some (55, 1), some (56, 1), some (57, 1), some (58, 1), some (59, 1), some (60, 1), some (61, 1), some (62, 1), some (63, 1), some (64, 1), some (65, 1), some (66, 1), some (67, 1), none, some (68, 1), some (69, 1), some (70, 1), some (71, 1), some (72, 1), some (73, 1), some (74, 1), some (75, 1), some (76, 1), none, none, none, some (77, 1), some (78, 1), none, some (79, 1), none, some (80, 1), some (81, 1), none, none, some (82, 1), none, some (83, 1), some (84, 1), some (85, 1), some (86, 1), some (87, 1), some (88, 1), none, some (89, 1), some (90, 1), some (91, 1), some (92, 1), some (93, 1), some (94, 1), some (95, 1), some (96, 1), some (97, 1), some (98, 1), some (99, 1), some (100, 1), some (101, 1), some (102, 1), some (103, 1), some (104, 1), some (105, 1), some (106, 1), some (107, 1), some (108, 1), none, some (109, 1), none, none, none, some (110, 1), none, none, none, some (111, 1)], [], [], [], [], [], [], [], [], [], [], [], [], [], [], [], [], [], [], [], [], [], [], [], [], [], [], [], [], [], [], [], [], [], [], [], [], [], [], [], [], [], [], [], [], [], [], [], [], [], [], [], [], [], [], [], [], [], [], [], [], [], [], []]
/-- what a field of references holds -/
def am_rf (k s i x y : Nat) : Option (Nat × Nat) := match am_nth am_rfs k with
  | none => none
  | some r => match am_nth r s with
    | some (some (k2, 0)) => some (k2, i)
    | some (some (k2, 1)) => some (k2, 0)
    | some (some (k2, 2)) => some (k2, x)
    | some (some (k2, 3)) => some (k2, y)
    | _ => none
def am_res : List (Option (Nat × Nat)) := [none, none, none, none, none, none, none, some (8, 6), none, none, some (11, 6), none, some (13, 16), none, some (18, 7), some (16, 8), none, none, none, none, none, none, none, none, none, none, none, none, none, some (30, 6), none, some (32, 6), none, none, none, none, none, none, some (39, 3), none, some (41, 3), none, none, none, none, none, none, none, none, none, none, none, none, none, none, none, none, none, none, none, none, none, none, none, none, none, none, none, none, none, none, none, none, none, none, none, none, none, none, none, none, none, none, none, none, none, none, none, none, none, none, none, none, none, none, none, none, none, none, none, none, none, none, none, none, none, none, none, none, none, none, none]
/-- what an array of references holds -/
def am_re (k i j : Nat) : Option (Nat × Nat) := match am_nth am_res k with
  | some (some (k2, n)) => some (k2, j + i * n)
  | _ => none
def am_sws : List (List (Int32 × Nat) × Nat) := [([(0, 2), (1, 2), (2, 2), (3, 10), (4, 12), (5, 16)], 22), ([(10, 2), (11, 5), (12, 8), (13, 11)], 22), ([(0, 6), (1, 9), (2, 12), (3, 15), (4, 18), (5, 21), (6, 25), (7, 29), (8, 32)], 35), ([(0, 14), (1, 19), (2, 23)], 32), ([(0, 17), (1, 20), (2, 23), (3, 26)], 31), ([(0, 13), (1, 15), (2, 17)], 24), ([(0, 14), (1, 19), (2, 31)], 36), ([(0, 2), (1, 2), (2, 2), (3, 2), (4, 2), (5, 9), (6, 12), (7, 15), (8, 18)], 29), ([(0, 10), (1, 14), (2, 30)], 47), ([(0, 2), (1, 5), (2, 8)], 17), ([(0, 14), (1, 18), (2, 30)], 39), ([(0, 2), (1, 7), (2, 12), (3, 17), (4, 22)], 27), ([(0, 2)], 32), ([(0, 2), (1, 5), (2, 15)], 20), ([(1, 24), (2, 31), (3, 38), (4, 45), (5, 51), (6, 61), (7, 71), (8, 81), (9, 91), (10, 101)], 107)]
def am_strs : List (List Int32) := [[110, 97, 109, 101, 32, 100, 101, 101, 100, 32, 116, 117, 114, 110, 32, 98, 111, 116, 104, 32, 101, 105, 116, 104, 101, 114, 32, 101, 109, 112, 116, 121, 32, 108, 105, 110, 101, 32, 119, 104, 111, 32, 100, 105, 100, 32, 119, 104, 111, 109, 32, 102, 97, 99, 116, 32, 119, 105, 116, 110, 101, 115, 115, 32, 97, 103, 101, 32, 115, 105, 100, 101, 32, 115, 97, 121, 115, 32, 97, 99, 99, 117, 115, 101, 100, 32, 99, 97, 115, 101], [102, 105, 114, 115, 116, 32, 108, 97, 115, 116, 32, 111, 102, 116, 101, 110, 32, 116, 111, 116, 97, 108, 32, 109, 111, 115, 116, 32, 108, 101, 97, 115, 116, 32, 111, 114, 32, 97, 110, 100, 32, 110, 111, 116, 32, 97, 108, 108, 32, 110, 117, 109, 98, 101, 114, 32, 119, 111, 114, 100, 115, 32, 114, 117, 108, 105, 110, 103, 32, 102, 97, 105, 114, 32, 97, 116, 32, 104, 97, 115, 32, 109, 105, 110, 32, 109, 97, 120]]
def am_str (i : Nat) : List Int32 := match am_nth am_strs i with
  | some t => t
  | none => []
