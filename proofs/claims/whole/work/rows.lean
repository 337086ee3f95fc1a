section
/-! the small machine: values, heap, tables of families, one op -/
abbrev mv : Type := Int32 ⊕ (Int64 ⊕ (Nat × Nat))
abbrev vi (x : Int32) : mv := .inl x
abbrev vl (x : Int64) : mv := .inr (.inl x)
abbrev vr (k i : Nat) : mv := .inr (.inr (k, i))
/-- ints by family, place in it, slot; longs by family, slot; which Court the judge has, which the reader -/
abbrev mg : Type := (Nat → Nat → Nat → Int32) × (Nat → Nat → Int64) × Nat × Nat
abbrev ml : Type := List (Option mv)
abbrev mr : Type := Option mv × mg
abbrev mo : Type := Jvm.ClassFile.Instr × Nat × Nat × Nat × mv
def am_nth {α : Type} : List α → Nat → Option α
  | [], _ => none
  | a :: _, 0 => some a
  | _ :: l, n + 1 => am_nth l n
def am_fams : List (Nat × Nat) := [(11, 11), (9, 7), (22, 1600), (3, 2), (2, 16), (20, 20), (20, 20), (26, 6), (20, 3), (20, 6), (26, 6), (20, 3), (26, 16), (20, 3), (25, 7), (26, 8), (20, 8), (20, 8), (10, 5), (20, 4), (4, 4), (20, 16), (23, 16), (7, 5), (20, 7), (20, 7), (20, 17), (5, 8), (20, 6), (26, 6), (20, 4), (26, 6), (20, 4), (1, 4), (8, 3), (20, 7), (0, 7), (20, 3), (26, 3), (20, 28), (26, 3), (20, 7), (20, 7), (23, 7), (6, 6), (20, 8), (20, 6), (20, 8), (12, 89), (20, 1600), (20, 6), (24, 4), (24, 4), (24, 4), (24, 4), (24, 6), (24, 5), (24, 4), (24, 3), (24, 3), (24, 4), (24, 4), (24, 7), (24, 3), (24, 4), (24, 4), (24, 7), (24, 4), (20, 10), (21, 40), (20, 40), (21, 14), (20, 36), (20, 96), (20, 98), (20, 144), (20, 4), (20, 8), (20, 8), (20, 16), (20, 16), (20, 16), (20, 96), (20, 3), (20, 5), (20, 3), (20, 3), (20, 3), (20, 7), (20, 7), (24, 5), (24, 4), (24, 5), (24, 5), (24, 4), (24, 5), (24, 3), (24, 3), (24, 2), (24, 3), (24, 3), (24, 3), (24, 6), (24, 5), (24, 6), (24, 4), (24, 2), (24, 3), (20, 1700), (20, 1700), (21, 1700), (20, 17)]
/-- of a family: its type (a class, or 20 and on an array), its length -/
def am_fam (k : Nat) : Nat × Nat := match am_nth am_fams k with
  | some t => t
  | none => (99, 0)
def am_cnts : List Nat := [1, 1, 1, 1, 2, 2, 2, 2, 12, 2, 2, 12, 2, 32, 2, 2, 16, 2, 14, 14, 1, 1, 1, 1, 1, 1, 1, 1, 1, 1, 6, 1, 6, 1, 1, 1, 1, 1, 1, 3, 1, 3, 1, 1, 1, 1, 1, 1, 1, 1, 1, 1, 1, 1, 1, 1, 1, 1, 1, 1, 1, 1, 1, 1, 1, 1, 1, 1, 1, 1, 1, 1, 1, 1, 1, 1, 1, 1, 1, 1, 1, 1, 1, 1, 1, 1, 1, 1, 1, 1, 1, 1, 1, 1, 1, 1, 1, 1, 1, 1, 1, 1, 1, 1, 1, 1, 1, 1, 1, 1, 1, 1]
def am_cnt (k : Nat) : Nat := match am_nth am_cnts k with
  | some t => t
  | none => 0
def am_rfs : List (List (Option (Nat × Nat))) := [[some (1, 1), some (3, 1), some (20, 1), some (23, 1), some (27, 1), some (33, 1), some (34, 1), some (36, 1), some (44, 1), some (46, 1), some (47, 1)], [some (2, 1)], [], [some (1, 1), some (4, 3)], [some (5, 0), some (6, 0), some (7, 0), some (9, 0), some (10, 0), some (12, 0), some (14, 0), some (15, 0), some (17, 0)], [], [], [], [], [], [], [], [], [], [], [], [], [], [some (19, 0)], [], [some (21, 1), some (22, 1), some (4, 2)], [], [], [some (24, 1), some (25, 1), some (26, 1)], [], [], [], [some (20, 1), some (28, 1), some (29, 1), some (31, 1)], [], [], [], [], [], [some (20, 1)], [some (20, 1), some (35, 1)], [], [some (20, 1), some (37, 1), some (38, 1), some (40, 1), some (42, 1), some (43, 1)], [], [], [], [], [], [], [], [some (1, 1), some (20, 1), some (45, 1)], [], [], [], [some (49, 1), none, none, none, none, none, none, none, none, some (50, 1), some (51, 1), some (52, 1), some (53, 1), some (54, 1), some (55, 1), some (56, 1), some (57, 1), some (58, 1), some (59, 1), some (60, 1), some (61, 1), some (62, 1), some (63, 1), some (64, 1), some (65, 1), some (66, 1), some (67, 1), none, some (68, 1), some (69, 1), some (70, 1), some (71, 1), some (72, 1), some (73, 1), some (74, 1), some (75, 1), some (76, 1), none, none, none, some (77, 1), some (78, 1), none, some (79, 1), none, some (80, 1), some (81, 1), none, none, some (82, 1), none, some (83, 1), some (84, 1), some (85, 1), some (86, 1), some (87, 1), some (88, 1), none, some (89, 1), some (90, 1), some (91, 1), some (92, 1), some (93, 1), some (94, 1), some (95, 1), some (96, 1), some (97, 1), some (98, 1), some (99, 1), some (100, 1), some (101, 1), some (102, 1), some (103, 1), some (104, 1), some (105, 1), some (106, 1), some (107, 1), some (108, 1), none, some (109, 1), none, none, none, some (110, 1), none, none, none, some (111, 1)], [], [], [], [], [], [], [], [], [], [], [], [], [], [], [], [], [], [], [], [], [], [], [], [], [], [], [], [], [], [], [], [], [], [], [], [], [], [], [], [], [], [], [], [], [], [], [], [], [], [], [], [], [], [], [], [], [], [], [], [], [], [], []]
/-- what a field of references holds -/
def am_rf (k s i x y : Nat) : Option (Nat × Nat) := match am_nth am_rfs k with
  | none => none
  | some r => match am_nth r s with
    | some (some (k2, 0)) => some (k2, i)
    | some (some (k2, 1)) => some (k2, 0)
    | some (some (k2, 2)) => some (k2, x)
    | some (some (k2, 3)) => some (k2, y)
    | _ => none
def am_res : List (Option (Nat × Nat)) := [none, none, none, none, none, none, none, some (8, 6), none, none, some (11, 6), none, some (13, 16), none, some (18, 7), some (16, 8), none, none, none, none, none, none, none, none, none, none, none, none, none, some (30, 6), none, some (32, 6), none, none, none, none, none, none, some (39, 3), none, some (41, 3), none, none, none, none, none, none, none, none, none, none, none, none, none, none, none, none, none, none, none, none, none, none, none, none, none, none, none, none, none, none, none, none, none, none, none, none, none, none, none, none, none, none, none, none, none, none, none, none, none, none, none, none, none, none, none, none, none, none, none, none, none, none, none, none, none, none, none, none, none, none, none]
/-- what an array of references holds -/
def am_re (k i j : Nat) : Option (Nat × Nat) := match am_nth am_res k with
  | some (some (k2, n)) => some (k2, j + i * n)
  | _ => none
def am_sws : List (List (Int32 × Nat) × Nat) := [([(0, 2), (1, 2), (2, 2), (3, 10), (4, 12), (5, 16)], 22), ([(10, 2), (11, 5), (12, 8), (13, 11)], 22), ([(0, 6), (1, 9), (2, 12), (3, 15), (4, 18), (5, 21), (6, 25), (7, 29), (8, 32)], 35), ([(0, 14), (1, 19), (2, 23)], 32), ([(0, 17), (1, 20), (2, 23), (3, 26)], 31), ([(0, 13), (1, 15), (2, 17)], 24), ([(0, 14), (1, 19), (2, 31)], 36), ([(0, 2), (1, 2), (2, 2), (3, 2), (4, 2), (5, 9), (6, 12), (7, 15), (8, 18)], 29), ([(0, 10), (1, 14), (2, 30)], 47), ([(0, 2), (1, 5), (2, 8)], 17), ([(0, 14), (1, 18), (2, 30)], 39), ([(0, 2), (1, 7), (2, 12), (3, 17), (4, 22)], 27), ([(0, 2)], 32), ([(0, 2), (1, 5), (2, 15)], 20), ([(1, 24), (2, 31), (3, 38), (4, 45), (5, 51), (6, 61), (7, 71), (8, 81), (9, 91), (10, 101)], 107)]
def am_strs : List (List Int32) := [[110, 97, 109, 101, 32, 100, 101, 101, 100, 32, 116, 117, 114, 110, 32, 98, 111, 116, 104, 32, 101, 105, 116, 104, 101, 114, 32, 101, 109, 112, 116, 121, 32, 108, 105, 110, 101, 32, 119, 104, 111, 32, 100, 105, 100, 32, 119, 104, 111, 109, 32, 102, 97, 99, 116, 32, 119, 105, 116, 110, 101, 115, 115, 32, 97, 103, 101, 32, 115, 105, 100, 101, 32, 115, 97, 121, 115, 32, 97, 99, 99, 117, 115, 101, 100, 32, 99, 97, 115, 101], [102, 105, 114, 115, 116, 32, 108, 97, 115, 116, 32, 111, 102, 116, 101, 110, 32, 116, 111, 116, 97, 108, 32, 109, 111, 115, 116, 32, 108, 101, 97, 115, 116, 32, 111, 114, 32, 97, 110, 100, 32, 110, 111, 116, 32, 97, 108, 108, 32, 110, 117, 109, 98, 101, 114, 32, 119, 111, 114, 100, 115, 32, 114, 117, 108, 105, 110, 103, 32, 102, 97, 105, 114, 32, 97, 116, 32, 104, 97, 115, 32, 109, 105, 110, 32, 109, 97, 120]]
def am_str (i : Nat) : List Int32 := match am_nth am_strs i with
  | some t => t
  | none => []
end
section
/-! the ops of every method, and where each begins -/
/-- WordEach$Chance.forget()V -/
def am_c0 : List mo := [(.aload_n 0, 0, 0, 0, vi 0), (.iconst 0, 0, 0, 0, vi 0), (.putfield 34, 0, 6, 3, vi 0), (.iconst 0, 0, 0, 0, vi 0), (.istore_n 1, 1, 0, 0, vi 0), (.iload_n 1, 1, 0, 0, vi 0), (.bipush 7, 0, 0, 0, vi 7), (.if_icmp .ge 16, 15, 0, 0, vi 0), (.aload_n 0, 0, 0, 0, vi 0), (.getfield 26, 0, 5, 2, vi 0), (.iload_n 1, 1, 0, 0, vi 0), (.iconst 0, 0, 0, 0, vi 0), (.bastore, 0, 0, 0, vi 0), (.iinc 1 1, 1, 0, 0, vi 1), (.goto (-16), 5, 0, 0, vi 0), (.return_, 0, 0, 0, vi 0)]
def am_b0 : List Nat := [0, 1, 2, 5, 6, 7, 8, 10, 13, 14, 17, 18, 19, 20, 23, 26]
/-- WordEach$Chance.waysTo(I)I -/
def am_c1 : List mo := [(.aload_n 0, 0, 0, 0, vi 0), (.invokevirtual 59, 2, 1, 0, vi 0), (.iload_n 1, 1, 0, 0, vi 0), (.ifCond .ne 24, 17, 0, 0, vi 0), (.aload_n 0, 0, 0, 0, vi 0), (.invokevirtual 62, 5, 1, 1, vi 0), (.aload_n 0, 0, 0, 0, vi 0), (.getfield 9, 0, 1, 2, vi 0), (.iconst 1, 0, 0, 0, vi 1), (.iaload, 0, 0, 0, vi 0), (.isub, 0, 0, 0, vi 0), (.aload_n 0, 0, 0, 0, vi 0), (.getfield 9, 0, 1, 2, vi 0), (.iconst 2, 0, 0, 0, vi 2), (.iaload, 0, 0, 0, vi 0), (.isub, 0, 0, 0, vi 0), (.goto 9, 21, 0, 0, vi 0), (.aload_n 0, 0, 0, 0, vi 0), (.getfield 9, 0, 1, 2, vi 0), (.iload_n 1, 1, 0, 0, vi 0), (.iaload, 0, 0, 0, vi 0), (.ireturn, 0, 0, 0, vi 0)]
def am_b1 : List Nat := [0, 1, 4, 5, 8, 9, 12, 13, 16, 17, 18, 19, 20, 23, 24, 25, 26, 29, 30, 33, 34, 35]
/-- WordEach$Chance.countWays()V -/
def am_c2 : List mo := [(.aload_n 0, 0, 0, 0, vi 0), (.getfield 34, 0, 6, 3, vi 0), (.ifCond .eq 4, 4, 0, 0, vi 0), (.return_, 0, 0, 0, vi 0), (.aload_n 0, 0, 0, 0, vi 0), (.iconst 1, 0, 0, 0, vi 1), (.putfield 34, 0, 6, 3, vi 0), (.iconst 0, 0, 0, 0, vi 0), (.istore_n 1, 1, 0, 0, vi 0), (.iload_n 1, 1, 0, 0, vi 0), (.iconst 3, 0, 0, 0, vi 3), (.if_icmp .ge 44, 37, 0, 0, vi 0), (.aload_n 0, 0, 0, 0, vi 0), (.getfield 9, 0, 1, 2, vi 0), (.iload_n 1, 1, 0, 0, vi 0), (.iconst 0, 0, 0, 0, vi 0), (.iastore, 0, 0, 0, vi 0), (.iconst 0, 0, 0, 0, vi 0), (.istore_n 2, 2, 0, 0, vi 0), (.iload_n 2, 2, 0, 0, vi 0), (.aload_n 0, 0, 0, 0, vi 0), (.getfield 17, 0, 2, 2, vi 0), (.iload_n 1, 1, 0, 0, vi 0), (.aaload, 0, 0, 0, vi 0), (.arraylength, 0, 0, 0, vi 0), (.if_icmp .ge 18, 35, 0, 0, vi 0), (.aload_n 0, 0, 0, 0, vi 0), (.getfield 17, 0, 2, 2, vi 0), (.iload_n 1, 1, 0, 0, vi 0), (.aaload, 0, 0, 0, vi 0), (.iload_n 2, 2, 0, 0, vi 0), (.iconst 0, 0, 0, 0, vi 0), (.iastore, 0, 0, 0, vi 0), (.iinc 2 1, 2, 0, 0, vi 1), (.goto (-23), 19, 0, 0, vi 0), (.iinc 1 1, 1, 0, 0, vi 1), (.goto (-43), 9, 0, 0, vi 0), (.aload_n 0, 0, 0, 0, vi 0), (.iconst 0, 0, 0, 0, vi 0), (.ldc 66, 0, 0, 0, vi 32768), (.invokevirtual 71, 3, 3, 0, vi 0), (.return_, 0, 0, 0, vi 0)]
def am_b2 : List Nat := [0, 1, 4, 7, 8, 9, 10, 13, 14, 15, 16, 17, 20, 21, 24, 25, 26, 27, 28, 29, 30, 31, 34, 35, 36, 37, 40, 41, 44, 45, 46, 47, 48, 49, 52, 55, 58, 61, 62, 63, 65, 68]
/-- WordEach$Chance.walk(II)V -/
def am_c3 : List mo := [(.iload_n 2, 2, 0, 0, vi 0), (.iconst (-1), 0, 0, 0, vi (-1)), (.if_icmp .ne 4, 4, 0, 0, vi 0), (.return_, 0, 0, 0, vi 0), (.iload_n 1, 1, 0, 0, vi 0), (.aload_n 0, 0, 0, 0, vi 0), (.getfield 30, 0, 0, 2, vi 0), (.getfield 38, 4, 2, 2, vi 0), (.getfield 44, 2, 12, 0, vi 0), (.if_icmp .lt 16, 17, 0, 0, vi 0), (.aload_n 0, 0, 0, 0, vi 0), (.aload_n 0, 0, 0, 0, vi 0), (.getfield 30, 0, 0, 2, vi 0), (.iload_n 2, 2, 0, 0, vi 0), (.invokevirtual 75, 50, 2, 1, vi 0), (.invokevirtual 79, 4, 2, 0, vi 0), (.return_, 0, 0, 0, vi 0), (.aload_n 0, 0, 0, 0, vi 0), (.getfield 30, 0, 0, 2, vi 0), (.getfield 38, 4, 2, 2, vi 0), (.getfield 50, 2, 6, 2, vi 0), (.iload_n 1, 1, 0, 0, vi 0), (.aaload, 0, 0, 0, vi 0), (.astore_n 3, 3, 0, 0, vi 0), (.iconst 0, 0, 0, 0, vi 0), (.istore 4, 4, 0, 0, vi 0), (.iload 4, 4, 0, 0, vi 0), (.aload_n 3, 3, 0, 0, vi 0), (.getfield 54, 10, 1, 0, vi 0), (.if_icmp .ge 39, 50, 0, 0, vi 0), (.aload_n 0, 0, 0, 0, vi 0), (.getfield 23, 0, 4, 2, vi 0), (.iload_n 1, 1, 0, 0, vi 0), (.iload 4, 4, 0, 0, vi 0), (.iastore, 0, 0, 0, vi 0), (.aload_n 0, 0, 0, 0, vi 0), (.iload_n 1, 1, 0, 0, vi 0), (.iconst 1, 0, 0, 0, vi 1), (.iadd, 0, 0, 0, vi 0), (.aload_n 0, 0, 0, 0, vi 0), (.getfield 30, 0, 0, 2, vi 0), (.iload_n 2, 2, 0, 0, vi 0), (.aload_n 3, 3, 0, 0, vi 0), (.getfield 83, 10, 0, 2, vi 0), (.iload 4, 4, 0, 0, vi 0), (.iaload, 0, 0, 0, vi 0), (.invokevirtual 86, 40, 3, 1, vi 0), (.invokevirtual 71, 3, 3, 0, vi 0), (.iinc 4 1, 4, 0, 0, vi 1), (.goto (-42), 26, 0, 0, vi 0), (.return_, 0, 0, 0, vi 0)]
def am_b3 : List Nat := [0, 1, 2, 5, 6, 7, 8, 11, 14, 17, 20, 21, 22, 25, 26, 29, 32, 33, 34, 37, 40, 43, 44, 45, 46, 47, 49, 51, 52, 55, 58, 59, 62, 63, 65, 66, 67, 68, 69, 70, 71, 74, 75, 76, 79, 81, 82, 85, 88, 91, 94]
/-- WordEach$Chance.tally(I)V -/
def am_c4 : List mo := [(.iload_n 1, 1, 0, 0, vi 0), (.ifCond .ne 4, 3, 0, 0, vi 0), (.return_, 0, 0, 0, vi 0), (.aload_n 0, 0, 0, 0, vi 0), (.getfield 9, 0, 1, 2, vi 0), (.iload_n 1, 1, 0, 0, vi 0), (.dup2, 0, 0, 0, vi 0), (.iaload, 0, 0, 0, vi 0), (.iconst 1, 0, 0, 0, vi 1), (.iadd, 0, 0, 0, vi 0), (.iastore, 0, 0, 0, vi 0), (.iconst 0, 0, 0, 0, vi 0), (.istore_n 2, 2, 0, 0, vi 0), (.iload_n 2, 2, 0, 0, vi 0), (.aload_n 0, 0, 0, 0, vi 0), (.getfield 30, 0, 0, 2, vi 0), (.getfield 38, 4, 2, 2, vi 0), (.getfield 44, 2, 12, 0, vi 0), (.if_icmp .ge 30, 38, 0, 0, vi 0), (.aload_n 0, 0, 0, 0, vi 0), (.getfield 17, 0, 2, 2, vi 0), (.iload_n 1, 1, 0, 0, vi 0), (.aaload, 0, 0, 0, vi 0), (.iconst 4, 0, 0, 0, vi 4), (.iload_n 2, 2, 0, 0, vi 0), (.imul, 0, 0, 0, vi 0), (.aload_n 0, 0, 0, 0, vi 0), (.getfield 23, 0, 4, 2, vi 0), (.iload_n 2, 2, 0, 0, vi 0), (.iaload, 0, 0, 0, vi 0), (.iadd, 0, 0, 0, vi 0), (.dup2, 0, 0, 0, vi 0), (.iaload, 0, 0, 0, vi 0), (.iconst 1, 0, 0, 0, vi 1), (.iadd, 0, 0, 0, vi 0), (.iastore, 0, 0, 0, vi 0), (.iinc 2 1, 2, 0, 0, vi 1), (.goto (-38), 13, 0, 0, vi 0), (.return_, 0, 0, 0, vi 0)]
def am_b4 : List Nat := [0, 1, 4, 5, 6, 9, 10, 11, 12, 13, 14, 15, 16, 17, 18, 19, 22, 25, 28, 31, 32, 35, 36, 37, 38, 39, 40, 41, 44, 45, 46, 47, 48, 49, 50, 51, 52, 55, 58]
/-- WordEach$Chance.allWays()I -/
def am_c5 : List mo := [(.iconst 1, 0, 0, 0, vi 1), (.istore_n 1, 1, 0, 0, vi 0), (.iconst 0, 0, 0, 0, vi 0), (.istore_n 2, 2, 0, 0, vi 0), (.iload_n 2, 2, 0, 0, vi 0), (.aload_n 0, 0, 0, 0, vi 0), (.getfield 30, 0, 0, 2, vi 0), (.getfield 38, 4, 2, 2, vi 0), (.getfield 44, 2, 12, 0, vi 0), (.if_icmp .ge 27, 22, 0, 0, vi 0), (.iload_n 1, 1, 0, 0, vi 0), (.aload_n 0, 0, 0, 0, vi 0), (.getfield 30, 0, 0, 2, vi 0), (.getfield 38, 4, 2, 2, vi 0), (.getfield 50, 2, 6, 2, vi 0), (.iload_n 2, 2, 0, 0, vi 0), (.aaload, 0, 0, 0, vi 0), (.getfield 54, 10, 1, 0, vi 0), (.imul, 0, 0, 0, vi 0), (.istore_n 1, 1, 0, 0, vi 0), (.iinc 2 1, 2, 0, 0, vi 1), (.goto (-35), 4, 0, 0, vi 0), (.iload_n 1, 1, 0, 0, vi 0), (.ireturn, 0, 0, 0, vi 0)]
def am_b5 : List Nat := [0, 1, 2, 3, 4, 5, 6, 9, 12, 15, 18, 19, 20, 23, 26, 29, 30, 31, 34, 35, 36, 39, 42, 43]
/-- WordEach$Chance.waysSaying(III)I -/
def am_c6 : List mo := [(.aload_n 0, 0, 0, 0, vi 0), (.invokevirtual 59, 2, 1, 0, vi 0), (.iconst 4, 0, 0, 0, vi 4), (.iload_n 2, 2, 0, 0, vi 0), (.imul, 0, 0, 0, vi 0), (.iload_n 3, 3, 0, 0, vi 0), (.iadd, 0, 0, 0, vi 0), (.istore 4, 4, 0, 0, vi 0), (.iload_n 1, 1, 0, 0, vi 0), (.ifCond .eq 13, 17, 0, 0, vi 0), (.aload_n 0, 0, 0, 0, vi 0), (.getfield 17, 0, 2, 2, vi 0), (.iload_n 1, 1, 0, 0, vi 0), (.aaload, 0, 0, 0, vi 0), (.iload 4, 4, 0, 0, vi 0), (.iaload, 0, 0, 0, vi 0), (.ireturn, 0, 0, 0, vi 0), (.aload_n 0, 0, 0, 0, vi 0), (.getfield 30, 0, 0, 2, vi 0), (.getfield 38, 4, 2, 2, vi 0), (.getfield 50, 2, 6, 2, vi 0), (.iload_n 2, 2, 0, 0, vi 0), (.aaload, 0, 0, 0, vi 0), (.getfield 54, 10, 1, 0, vi 0), (.istore 5, 5, 0, 0, vi 0), (.iload 5, 5, 0, 0, vi 0), (.ifCond .ne 7, 29, 0, 0, vi 0), (.iconst 0, 0, 0, 0, vi 0), (.goto 30, 47, 0, 0, vi 0), (.aload_n 0, 0, 0, 0, vi 0), (.invokevirtual 62, 5, 1, 1, vi 0), (.iload 5, 5, 0, 0, vi 0), (.idiv, 0, 0, 0, vi 0), (.aload_n 0, 0, 0, 0, vi 0), (.getfield 17, 0, 2, 2, vi 0), (.iconst 1, 0, 0, 0, vi 1), (.aaload, 0, 0, 0, vi 0), (.iload 4, 4, 0, 0, vi 0), (.iaload, 0, 0, 0, vi 0), (.isub, 0, 0, 0, vi 0), (.aload_n 0, 0, 0, 0, vi 0), (.getfield 17, 0, 2, 2, vi 0), (.iconst 2, 0, 0, 0, vi 2), (.aaload, 0, 0, 0, vi 0), (.iload 4, 4, 0, 0, vi 0), (.iaload, 0, 0, 0, vi 0), (.isub, 0, 0, 0, vi 0), (.ireturn, 0, 0, 0, vi 0)]
def am_b6 : List Nat := [0, 1, 4, 5, 6, 7, 8, 9, 11, 12, 15, 16, 19, 20, 21, 23, 24, 25, 26, 29, 32, 35, 36, 37, 40, 42, 44, 47, 48, 51, 52, 55, 57, 58, 59, 62, 63, 64, 66, 67, 68, 69, 72, 73, 74, 76, 77, 78]
/-- WordEach$Chance.waysHanging(II)I -/
def am_c7 : List mo := [(.aload_n 0, 0, 0, 0, vi 0), (.getfield 26, 0, 5, 2, vi 0), (.iload_n 2, 2, 0, 0, vi 0), (.baload, 0, 0, 0, vi 0), (.ifCond .ne 42, 30, 0, 0, vi 0), (.aload_n 0, 0, 0, 0, vi 0), (.getfield 26, 0, 5, 2, vi 0), (.iload_n 2, 2, 0, 0, vi 0), (.iconst 1, 0, 0, 0, vi 1), (.bastore, 0, 0, 0, vi 0), (.iconst 0, 0, 0, 0, vi 0), (.istore_n 3, 3, 0, 0, vi 0), (.iload_n 3, 3, 0, 0, vi 0), (.iconst 3, 0, 0, 0, vi 3), (.if_icmp .ge 18, 24, 0, 0, vi 0), (.aload_n 0, 0, 0, 0, vi 0), (.getfield 20, 0, 3, 2, vi 0), (.iload_n 3, 3, 0, 0, vi 0), (.aaload, 0, 0, 0, vi 0), (.iload_n 2, 2, 0, 0, vi 0), (.iconst 0, 0, 0, 0, vi 0), (.iastore, 0, 0, 0, vi 0), (.iinc 3 1, 3, 0, 0, vi 1), (.goto (-17), 12, 0, 0, vi 0), (.aload_n 0, 0, 0, 0, vi 0), (.iconst 0, 0, 0, 0, vi 0), (.iload_n 2, 2, 0, 0, vi 0), (.ldc 66, 0, 0, 0, vi 32768), (.ldc 66, 0, 0, 0, vi 32768), (.invokevirtual 67, 8, 5, 0, vi 0), (.aload_n 0, 0, 0, 0, vi 0), (.getfield 20, 0, 3, 2, vi 0), (.iload_n 1, 1, 0, 0, vi 0), (.aaload, 0, 0, 0, vi 0), (.iload_n 2, 2, 0, 0, vi 0), (.iaload, 0, 0, 0, vi 0), (.ireturn, 0, 0, 0, vi 0)]
def am_b7 : List Nat := [0, 1, 4, 5, 6, 9, 10, 13, 14, 15, 16, 17, 18, 19, 20, 23, 24, 27, 28, 29, 30, 31, 32, 35, 38, 39, 40, 41, 43, 45, 48, 49, 52, 53, 54, 55, 56]
/-- WordEach$Chance.walkAway(IIII)V -/
def am_c8 : List mo := [(.iload_n 3, 3, 0, 0, vi 0), (.iconst (-1), 0, 0, 0, vi (-1)), (.if_icmp .ne 10, 7, 0, 0, vi 0), (.iload 4, 4, 0, 0, vi 0), (.iconst (-1), 0, 0, 0, vi (-1)), (.if_icmp .ne 4, 7, 0, 0, vi 0), (.return_, 0, 0, 0, vi 0), (.iload_n 1, 1, 0, 0, vi 0), (.aload_n 0, 0, 0, 0, vi 0), (.getfield 30, 0, 0, 2, vi 0), (.getfield 38, 4, 2, 2, vi 0), (.getfield 44, 2, 12, 0, vi 0), (.if_icmp .lt 45, 37, 0, 0, vi 0), (.aload_n 0, 0, 0, 0, vi 0), (.getfield 30, 0, 0, 2, vi 0), (.iload_n 3, 3, 0, 0, vi 0), (.invokevirtual 75, 50, 2, 1, vi 0), (.istore 5, 5, 0, 0, vi 0), (.aload_n 0, 0, 0, 0, vi 0), (.getfield 20, 0, 3, 2, vi 0), (.iload 5, 5, 0, 0, vi 0), (.aaload, 0, 0, 0, vi 0), (.iload_n 2, 2, 0, 0, vi 0), (.dup2, 0, 0, 0, vi 0), (.iaload, 0, 0, 0, vi 0), (.iload 5, 5, 0, 0, vi 0), (.aload_n 0, 0, 0, 0, vi 0), (.getfield 30, 0, 0, 2, vi 0), (.iload 4, 4, 0, 0, vi 0), (.invokevirtual 75, 50, 2, 1, vi 0), (.if_icmp .eq 7, 33, 0, 0, vi 0), (.iconst 1, 0, 0, 0, vi 1), (.goto 4, 34, 0, 0, vi 0), (.iconst 0, 0, 0, 0, vi 0), (.iadd, 0, 0, 0, vi 0), (.iastore, 0, 0, 0, vi 0), (.return_, 0, 0, 0, vi 0), (.aload_n 0, 0, 0, 0, vi 0), (.getfield 30, 0, 0, 2, vi 0), (.getfield 38, 4, 2, 2, vi 0), (.getfield 50, 2, 6, 2, vi 0), (.iload_n 1, 1, 0, 0, vi 0), (.aaload, 0, 0, 0, vi 0), (.astore 5, 5, 0, 0, vi 0), (.iconst 0, 0, 0, 0, vi 0), (.istore 6, 6, 0, 0, vi 0), (.iload 6, 6, 0, 0, vi 0), (.aload 5, 5, 0, 0, vi 0), (.getfield 54, 10, 1, 0, vi 0), (.if_icmp .ge 58, 78, 0, 0, vi 0), (.aload 5, 5, 0, 0, vi 0), (.getfield 83, 10, 0, 2, vi 0), (.iload 6, 6, 0, 0, vi 0), (.iaload, 0, 0, 0, vi 0), (.istore 7, 7, 0, 0, vi 0), (.aload_n 0, 0, 0, 0, vi 0), (.iload_n 1, 1, 0, 0, vi 0), (.iconst 1, 0, 0, 0, vi 1), (.iadd, 0, 0, 0, vi 0), (.iload_n 2, 2, 0, 0, vi 0), (.aload_n 0, 0, 0, 0, vi 0), (.getfield 30, 0, 0, 2, vi 0), (.iload_n 3, 3, 0, 0, vi 0), (.iload 7, 7, 0, 0, vi 0), (.invokevirtual 86, 40, 3, 1, vi 0), (.iload_n 1, 1, 0, 0, vi 0), (.iload_n 2, 2, 0, 0, vi 0), (.if_icmp .ne 8, 70, 0, 0, vi 0), (.iload 4, 4, 0, 0, vi 0), (.goto 14, 75, 0, 0, vi 0), (.aload_n 0, 0, 0, 0, vi 0), (.getfield 30, 0, 0, 2, vi 0), (.iload 4, 4, 0, 0, vi 0), (.iload 7, 7, 0, 0, vi 0), (.invokevirtual 86, 40, 3, 1, vi 0), (.invokevirtual 67, 8, 5, 0, vi 0), (.iinc 6 1, 6, 0, 0, vi 1), (.goto (-62), 46, 0, 0, vi 0), (.return_, 0, 0, 0, vi 0)]
def am_b8 : List Nat := [0, 1, 2, 5, 7, 8, 11, 12, 13, 14, 17, 20, 23, 26, 27, 30, 31, 34, 36, 37, 40, 42, 43, 44, 45, 46, 48, 49, 52, 54, 57, 60, 61, 64, 65, 66, 67, 68, 69, 72, 75, 78, 79, 80, 82, 83, 85, 87, 89, 92, 95, 97, 100, 102, 103, 105, 106, 107, 108, 109, 110, 111, 114, 115, 117, 120, 121, 122, 125, 127, 130, 131, 134, 136, 138, 141, 144, 147, 150]
/-- WordEach$Contest.play(III)I -/
def am_c9 : List mo := [(.aload_n 0, 0, 0, 0, vi 0), (.iload_n 1, 1, 0, 0, vi 0), (.putfield 15, 1, 1, 0, vi 0), (.aload_n 0, 0, 0, 0, vi 0), (.iconst (-1), 0, 0, 0, vi (-1)), (.putfield 19, 1, 2, 0, vi 0), (.aload_n 0, 0, 0, 0, vi 0), (.iconst (-1), 0, 0, 0, vi (-1)), (.putfield 22, 1, 3, 0, vi 0), (.aload_n 0, 0, 0, 0, vi 0), (.iconst 0, 0, 0, 0, vi 0), (.iload_n 2, 2, 0, 0, vi 0), (.iload_n 3, 3, 0, 0, vi 0), (.invokevirtual 25, 10, 4, 1, vi 0), (.ireturn, 0, 0, 0, vi 0)]
def am_b9 : List Nat := [0, 1, 2, 5, 6, 7, 10, 11, 12, 15, 16, 17, 18, 19, 22]
/-- WordEach$Contest.outcome(III)I -/
def am_c10 : List mo := [(.iload_n 1, 1, 0, 0, vi 0), (.aload_n 0, 0, 0, 0, vi 0), (.getfield 15, 1, 1, 0, vi 0), (.if_icmp .lt 21, 14, 0, 0, vi 0), (.aload_n 0, 0, 0, 0, vi 0), (.getfield 9, 1, 0, 2, vi 0), (.iload_n 2, 2, 0, 0, vi 0), (.invokevirtual 29, 50, 2, 1, vi 0), (.iconst 1, 0, 0, 0, vi 1), (.if_icmp .ne 7, 12, 0, 0, vi 0), (.iconst 1, 0, 0, 0, vi 1), (.goto 4, 13, 0, 0, vi 0), (.iconst 0, 0, 0, 0, vi 0), (.ireturn, 0, 0, 0, vi 0), (.iload_n 1, 1, 0, 0, vi 0), (.iconst 2, 0, 0, 0, vi 2), (.irem, 0, 0, 0, vi 0), (.istore 4, 4, 0, 0, vi 0), (.iconst 1, 0, 0, 0, vi 1), (.iload 4, 4, 0, 0, vi 0), (.isub, 0, 0, 0, vi 0), (.istore 5, 5, 0, 0, vi 0), (.aload_n 0, 0, 0, 0, vi 0), (.iload_n 1, 1, 0, 0, vi 0), (.iconst 1, 0, 0, 0, vi 1), (.iadd, 0, 0, 0, vi 0), (.iload_n 2, 2, 0, 0, vi 0), (.iload_n 3, 3, 0, 0, vi 0), (.invokevirtual 25, 10, 4, 1, vi 0), (.iload 5, 5, 0, 0, vi 0), (.if_icmp .ne 6, 33, 0, 0, vi 0), (.iload 5, 5, 0, 0, vi 0), (.ireturn, 0, 0, 0, vi 0), (.iconst 0, 0, 0, 0, vi 0), (.istore 6, 6, 0, 0, vi 0), (.iload 6, 6, 0, 0, vi 0), (.aload_n 0, 0, 0, 0, vi 0), (.getfield 9, 1, 0, 2, vi 0), (.getfield 35, 4, 2, 2, vi 0), (.getfield 39, 2, 12, 0, vi 0), (.if_icmp .ge 59, 71, 0, 0, vi 0), (.iload_n 3, 3, 0, 0, vi 0), (.iload 6, 6, 0, 0, vi 0), (.ishr, 0, 0, 0, vi 0), (.iconst 1, 0, 0, 0, vi 1), (.iand, 0, 0, 0, vi 0), (.ifCond .ne 44, 69, 0, 0, vi 0), (.aload_n 0, 0, 0, 0, vi 0), (.getfield 9, 1, 0, 2, vi 0), (.getfield 35, 4, 2, 2, vi 0), (.getfield 44, 2, 6, 2, vi 0), (.iload 6, 6, 0, 0, vi 0), (.aaload, 0, 0, 0, vi 0), (.getfield 48, 10, 4, 0, vi 0), (.iload 4, 4, 0, 0, vi 0), (.if_icmp .ne 23, 69, 0, 0, vi 0), (.aload_n 0, 0, 0, 0, vi 0), (.iload 6, 6, 0, 0, vi 0), (.iload_n 1, 1, 0, 0, vi 0), (.iload_n 2, 2, 0, 0, vi 0), (.iload_n 3, 3, 0, 0, vi 0), (.iconst 1, 0, 0, 0, vi 1), (.iload 6, 6, 0, 0, vi 0), (.ishl, 0, 0, 0, vi 0), (.ior, 0, 0, 0, vi 0), (.invokevirtual 53, 11, 5, 1, vi 0), (.ifCond .eq 6, 69, 0, 0, vi 0), (.iload 5, 5, 0, 0, vi 0), (.ireturn, 0, 0, 0, vi 0), (.iinc 6 1, 6, 0, 0, vi 1), (.goto (-68), 35, 0, 0, vi 0), (.iconst 1, 0, 0, 0, vi 1), (.iload 5, 5, 0, 0, vi 0), (.isub, 0, 0, 0, vi 0), (.ireturn, 0, 0, 0, vi 0)]
def am_b10 : List Nat := [0, 1, 2, 5, 8, 9, 12, 13, 16, 17, 20, 21, 24, 25, 26, 27, 28, 29, 31, 32, 34, 35, 37, 38, 39, 40, 41, 42, 43, 46, 48, 51, 53, 54, 55, 57, 59, 60, 63, 66, 69, 72, 73, 75, 76, 77, 78, 81, 82, 85, 88, 91, 93, 94, 97, 99, 102, 103, 105, 106, 107, 108, 109, 111, 112, 113, 116, 119, 121, 122, 125, 128, 129, 131, 132]
/-- WordEach$Contest.winsBy(IIII)Z -/
def am_c11 : List mo := [(.aload_n 0, 0, 0, 0, vi 0), (.getfield 9, 1, 0, 2, vi 0), (.getfield 35, 4, 2, 2, vi 0), (.getfield 44, 2, 6, 2, vi 0), (.iload_n 1, 1, 0, 0, vi 0), (.aaload, 0, 0, 0, vi 0), (.astore 5, 5, 0, 0, vi 0), (.iconst 0, 0, 0, 0, vi 0), (.istore 6, 6, 0, 0, vi 0), (.iload 6, 6, 0, 0, vi 0), (.aload 5, 5, 0, 0, vi 0), (.getfield 57, 10, 1, 0, vi 0), (.if_icmp .ge 59, 45, 0, 0, vi 0), (.aload_n 0, 0, 0, 0, vi 0), (.iload_n 2, 2, 0, 0, vi 0), (.iconst 1, 0, 0, 0, vi 1), (.iadd, 0, 0, 0, vi 0), (.aload_n 0, 0, 0, 0, vi 0), (.getfield 9, 1, 0, 2, vi 0), (.iload_n 3, 3, 0, 0, vi 0), (.aload 5, 5, 0, 0, vi 0), (.getfield 60, 10, 0, 2, vi 0), (.iload 6, 6, 0, 0, vi 0), (.iaload, 0, 0, 0, vi 0), (.invokevirtual 64, 40, 3, 1, vi 0), (.iload 4, 4, 0, 0, vi 0), (.invokevirtual 25, 10, 4, 1, vi 0), (.iconst 1, 0, 0, 0, vi 1), (.iload_n 2, 2, 0, 0, vi 0), (.iconst 2, 0, 0, 0, vi 2), (.irem, 0, 0, 0, vi 0), (.isub, 0, 0, 0, vi 0), (.if_icmp .ne 20, 43, 0, 0, vi 0), (.iload_n 2, 2, 0, 0, vi 0), (.ifCond .ne 14, 41, 0, 0, vi 0), (.aload_n 0, 0, 0, 0, vi 0), (.iload_n 1, 1, 0, 0, vi 0), (.putfield 19, 1, 2, 0, vi 0), (.aload_n 0, 0, 0, 0, vi 0), (.iload 6, 6, 0, 0, vi 0), (.putfield 22, 1, 3, 0, vi 0), (.iconst 1, 0, 0, 0, vi 1), (.ireturn, 1, 0, 0, vi 0), (.iinc 6 1, 6, 0, 0, vi 1), (.goto (-63), 9, 0, 0, vi 0), (.iconst 0, 0, 0, 0, vi 0), (.ireturn, 1, 0, 0, vi 0)]
def am_b11 : List Nat := [0, 1, 4, 7, 10, 11, 12, 14, 15, 17, 19, 21, 24, 27, 28, 29, 30, 31, 32, 35, 36, 38, 41, 43, 44, 47, 49, 52, 53, 54, 55, 56, 57, 60, 61, 64, 65, 66, 69, 70, 72, 75, 76, 77, 80, 83, 84]
/-- WordEach$Court.adjourn()V -/
def am_c12 : List mo := [(.aload_n 0, 0, 0, 0, vi 0), (.iconst 0, 0, 0, 0, vi 0), (.putfield 52, 2, 9, 0, vi 0), (.aload_n 0, 0, 0, 0, vi 0), (.iconst 0, 0, 0, 0, vi 0), (.putfield 55, 2, 10, 0, vi 0), (.aload_n 0, 0, 0, 0, vi 0), (.iconst 0, 0, 0, 0, vi 0), (.putfield 58, 2, 11, 0, vi 0), (.aload_n 0, 0, 0, 0, vi 0), (.iconst 0, 0, 0, 0, vi 0), (.putfield 61, 2, 12, 0, vi 0), (.aload_n 0, 0, 0, 0, vi 0), (.iconst 0, 0, 0, 0, vi 0), (.putfield 64, 2, 13, 0, vi 0), (.aload_n 0, 0, 0, 0, vi 0), (.iconst (-1), 0, 0, 0, vi (-1)), (.putfield 44, 2, 14, 0, vi 0), (.aload_n 0, 0, 0, 0, vi 0), (.iconst (-1), 0, 0, 0, vi (-1)), (.putfield 48, 2, 15, 0, vi 0), (.return_, 0, 0, 0, vi 0)]
def am_b12 : List Nat := [0, 1, 2, 5, 6, 7, 10, 11, 12, 15, 16, 17, 20, 21, 22, 25, 26, 27, 30, 31, 32, 35]
/-- WordEach$Court.isGiven(I)Z -/
def am_c13 : List mo := [(.iconst 0, 0, 0, 0, vi 0), (.istore_n 2, 2, 0, 0, vi 0), (.iload_n 2, 2, 0, 0, vi 0), (.aload_n 0, 0, 0, 0, vi 0), (.getfield 61, 2, 12, 0, vi 0), (.if_icmp .ge 24, 17, 0, 0, vi 0), (.aload_n 0, 0, 0, 0, vi 0), (.getfield 34, 2, 6, 2, vi 0), (.iload_n 2, 2, 0, 0, vi 0), (.aaload, 0, 0, 0, vi 0), (.getfield 74, 10, 2, 0, vi 0), (.iload_n 1, 1, 0, 0, vi 0), (.if_icmp .ne 5, 15, 0, 0, vi 0), (.iconst 1, 0, 0, 0, vi 1), (.ireturn, 1, 0, 0, vi 0), (.iinc 2 1, 2, 0, 0, vi 1), (.goto (-26), 2, 0, 0, vi 0), (.aload_n 0, 0, 0, 0, vi 0), (.iload_n 1, 1, 0, 0, vi 0), (.invokevirtual 77, 14, 2, 1, vi 0), (.iconst (-1), 0, 0, 0, vi (-1)), (.if_icmp .eq 7, 24, 0, 0, vi 0), (.iconst 1, 0, 0, 0, vi 1), (.goto 4, 25, 0, 0, vi 0), (.iconst 0, 0, 0, 0, vi 0), (.ireturn, 1, 0, 0, vi 0)]
def am_b13 : List Nat := [0, 1, 2, 3, 4, 7, 10, 11, 14, 15, 16, 19, 20, 23, 24, 25, 28, 31, 32, 33, 36, 37, 40, 41, 44, 45]
/-- WordEach$Court.wordSpelled(I)I -/
def am_c14 : List mo := [(.iconst 0, 0, 0, 0, vi 0), (.istore_n 2, 2, 0, 0, vi 0), (.iload_n 2, 2, 0, 0, vi 0), (.aload_n 0, 0, 0, 0, vi 0), (.getfield 52, 2, 9, 0, vi 0), (.if_icmp .ge 21, 16, 0, 0, vi 0), (.aload_n 0, 0, 0, 0, vi 0), (.getfield 9, 2, 0, 2, vi 0), (.iload_n 2, 2, 0, 0, vi 0), (.iaload, 0, 0, 0, vi 0), (.iload_n 1, 1, 0, 0, vi 0), (.if_icmp .ne 5, 14, 0, 0, vi 0), (.iload_n 2, 2, 0, 0, vi 0), (.ireturn, 0, 0, 0, vi 0), (.iinc 2 1, 2, 0, 0, vi 1), (.goto (-23), 2, 0, 0, vi 0), (.iconst (-1), 0, 0, 0, vi (-1)), (.ireturn, 0, 0, 0, vi 0)]
def am_b14 : List Nat := [0, 1, 2, 3, 4, 7, 10, 11, 14, 15, 16, 17, 20, 21, 22, 25, 28, 29]
/-- WordEach$Court.addLine(I)V -/
def am_c15 : List mo := [(.aload_n 0, 0, 0, 0, vi 0), (.getfield 55, 2, 10, 0, vi 0), (.bipush 6, 0, 0, 0, vi 6), (.if_icmp .ge 8, 7, 0, 0, vi 0), (.iload_n 1, 1, 0, 0, vi 0), (.iconst 3, 0, 0, 0, vi 3), (.if_icmp .le 4, 8, 0, 0, vi 0), (.return_, 0, 0, 0, vi 0), (.aload_n 0, 0, 0, 0, vi 0), (.getfield 23, 2, 3, 2, vi 0), (.aload_n 0, 0, 0, 0, vi 0), (.getfield 55, 2, 10, 0, vi 0), (.iload_n 1, 1, 0, 0, vi 0), (.iastore, 0, 0, 0, vi 0), (.iconst 0, 0, 0, 0, vi 0), (.istore_n 2, 2, 0, 0, vi 0), (.iload_n 2, 2, 0, 0, vi 0), (.iconst 2, 0, 0, 0, vi 2), (.if_icmp .gt 21, 29, 0, 0, vi 0), (.aload_n 0, 0, 0, 0, vi 0), (.getfield 26, 2, 4, 2, vi 0), (.aload_n 0, 0, 0, 0, vi 0), (.getfield 55, 2, 10, 0, vi 0), (.aaload, 0, 0, 0, vi 0), (.iload_n 2, 2, 0, 0, vi 0), (.iconst (-1), 0, 0, 0, vi (-1)), (.iastore, 0, 0, 0, vi 0), (.iinc 2 1, 2, 0, 0, vi 1), (.goto (-20), 16, 0, 0, vi 0), (.iconst 0, 0, 0, 0, vi 0), (.istore_n 2, 2, 0, 0, vi 0), (.iload_n 2, 2, 0, 0, vi 0), (.iload_n 1, 1, 0, 0, vi 0), (.if_icmp .ge 31, 50, 0, 0, vi 0), (.aload_n 0, 0, 0, 0, vi 0), (.getfield 26, 2, 4, 2, vi 0), (.aload_n 0, 0, 0, 0, vi 0), (.getfield 55, 2, 10, 0, vi 0), (.aaload, 0, 0, 0, vi 0), (.aload_n 0, 0, 0, 0, vi 0), (.getfield 20, 2, 2, 2, vi 0), (.aload_n 0, 0, 0, 0, vi 0), (.getfield 55, 2, 10, 0, vi 0), (.aaload, 0, 0, 0, vi 0), (.iload_n 2, 2, 0, 0, vi 0), (.iaload, 0, 0, 0, vi 0), (.iload_n 2, 2, 0, 0, vi 0), (.iastore, 0, 0, 0, vi 0), (.iinc 2 1, 2, 0, 0, vi 1), (.goto (-30), 31, 0, 0, vi 0), (.aload_n 0, 0, 0, 0, vi 0), (.dup, 0, 0, 0, vi 0), (.getfield 55, 2, 10, 0, vi 0), (.iconst 1, 0, 0, 0, vi 1), (.iadd, 0, 0, 0, vi 0), (.putfield 55, 2, 10, 0, vi 0), (.return_, 0, 0, 0, vi 0)]
def am_b15 : List Nat := [0, 1, 4, 6, 9, 10, 11, 14, 15, 16, 19, 20, 23, 24, 25, 26, 27, 28, 29, 32, 33, 36, 37, 40, 41, 42, 43, 44, 47, 50, 51, 52, 53, 54, 57, 58, 61, 62, 65, 66, 67, 70, 71, 74, 75, 76, 77, 78, 79, 82, 85, 86, 87, 90, 91, 92, 95]
/-- WordEach$Court.allLines()I -/
def am_c16 : List mo := [(.iconst 1, 0, 0, 0, vi 1), (.aload_n 0, 0, 0, 0, vi 0), (.getfield 55, 2, 10, 0, vi 0), (.ishl, 0, 0, 0, vi 0), (.iconst 1, 0, 0, 0, vi 1), (.isub, 0, 0, 0, vi 0), (.ireturn, 0, 0, 0, vi 0)]
def am_b16 : List Nat := [0, 1, 2, 5, 6, 7, 8]
/-- WordEach$Court.patternOf(I)I -/
def am_c17 : List mo := [(.iconst 1, 0, 0, 0, vi 1), (.istore_n 2, 2, 0, 0, vi 0), (.iconst 0, 0, 0, 0, vi 0), (.istore_n 3, 3, 0, 0, vi 0), (.iload_n 3, 3, 0, 0, vi 0), (.aload_n 0, 0, 0, 0, vi 0), (.getfield 23, 2, 3, 2, vi 0), (.iload_n 1, 1, 0, 0, vi 0), (.iaload, 0, 0, 0, vi 0), (.if_icmp .ge 31, 28, 0, 0, vi 0), (.iconst 2, 0, 0, 0, vi 2), (.iload_n 2, 2, 0, 0, vi 0), (.imul, 0, 0, 0, vi 0), (.aload_n 0, 0, 0, 0, vi 0), (.getfield 20, 2, 2, 2, vi 0), (.iload_n 1, 1, 0, 0, vi 0), (.aaload, 0, 0, 0, vi 0), (.iload_n 3, 3, 0, 0, vi 0), (.iaload, 0, 0, 0, vi 0), (.iconst 1, 0, 0, 0, vi 1), (.if_icmp .ne 7, 23, 0, 0, vi 0), (.iconst 1, 0, 0, 0, vi 1), (.goto 4, 24, 0, 0, vi 0), (.iconst 0, 0, 0, 0, vi 0), (.iadd, 0, 0, 0, vi 0), (.istore_n 2, 2, 0, 0, vi 0), (.iinc 3 1, 3, 0, 0, vi 1), (.goto (-35), 4, 0, 0, vi 0), (.iload_n 2, 2, 0, 0, vi 0), (.ireturn, 0, 0, 0, vi 0)]
def am_b17 : List Nat := [0, 1, 2, 3, 4, 5, 6, 9, 10, 11, 14, 15, 16, 17, 18, 21, 22, 23, 24, 25, 26, 29, 30, 33, 34, 35, 36, 39, 42, 43]
/-- WordEach$Court.speakersOf(I)I -/
def am_c18 : List mo := [(.iconst 0, 0, 0, 0, vi 0), (.istore_n 2, 2, 0, 0, vi 0), (.iconst 0, 0, 0, 0, vi 0), (.istore_n 3, 3, 0, 0, vi 0), (.iload_n 3, 3, 0, 0, vi 0), (.aload_n 0, 0, 0, 0, vi 0), (.getfield 61, 2, 12, 0, vi 0), (.if_icmp .ge 30, 23, 0, 0, vi 0), (.iload_n 2, 2, 0, 0, vi 0), (.aload_n 0, 0, 0, 0, vi 0), (.getfield 34, 2, 6, 2, vi 0), (.iload_n 3, 3, 0, 0, vi 0), (.aaload, 0, 0, 0, vi 0), (.iload_n 1, 1, 0, 0, vi 0), (.invokevirtual 81, 100, 2, 1, vi 0), (.ifCond .eq 7, 18, 0, 0, vi 0), (.iconst 1, 0, 0, 0, vi 1), (.goto 4, 19, 0, 0, vi 0), (.iconst 0, 0, 0, 0, vi 0), (.iadd, 0, 0, 0, vi 0), (.istore_n 2, 2, 0, 0, vi 0), (.iinc 3 1, 3, 0, 0, vi 1), (.goto (-32), 4, 0, 0, vi 0), (.iload_n 2, 2, 0, 0, vi 0), (.ireturn, 0, 0, 0, vi 0)]
def am_b18 : List Nat := [0, 1, 2, 3, 4, 5, 6, 9, 12, 13, 14, 17, 18, 19, 20, 23, 26, 27, 30, 31, 32, 33, 36, 39, 40]
/-- WordEach$Court.hasWitness(I)Z -/
def am_c19 : List mo := [(.iload_n 1, 1, 0, 0, vi 0), (.ifCond .lt 15, 8, 0, 0, vi 0), (.iload_n 1, 1, 0, 0, vi 0), (.aload_n 0, 0, 0, 0, vi 0), (.getfield 61, 2, 12, 0, vi 0), (.if_icmp .ge 7, 8, 0, 0, vi 0), (.iconst 1, 0, 0, 0, vi 1), (.goto 4, 9, 0, 0, vi 0), (.iconst 0, 0, 0, 0, vi 0), (.ireturn, 1, 0, 0, vi 0)]
def am_b19 : List Nat := [0, 1, 4, 5, 6, 9, 12, 13, 16, 17]
/-- WordEach$Court.hasLine(I)Z -/
def am_c20 : List mo := [(.iload_n 1, 1, 0, 0, vi 0), (.ifCond .lt 15, 8, 0, 0, vi 0), (.iload_n 1, 1, 0, 0, vi 0), (.aload_n 0, 0, 0, 0, vi 0), (.getfield 55, 2, 10, 0, vi 0), (.if_icmp .ge 7, 8, 0, 0, vi 0), (.iconst 1, 0, 0, 0, vi 1), (.goto 4, 9, 0, 0, vi 0), (.iconst 0, 0, 0, 0, vi 0), (.ireturn, 1, 0, 0, vi 0)]
def am_b20 : List Nat := [0, 1, 4, 5, 6, 9, 12, 13, 16, 17]
/-- WordEach$Court.hasSaying(II)Z -/
def am_c21 : List mo := [(.aload_n 0, 0, 0, 0, vi 0), (.iload_n 1, 1, 0, 0, vi 0), (.invokevirtual 67, 19, 2, 1, vi 0), (.ifCond .eq 24, 15, 0, 0, vi 0), (.iload_n 2, 2, 0, 0, vi 0), (.ifCond .lt 20, 15, 0, 0, vi 0), (.iload_n 2, 2, 0, 0, vi 0), (.aload_n 0, 0, 0, 0, vi 0), (.getfield 34, 2, 6, 2, vi 0), (.iload_n 1, 1, 0, 0, vi 0), (.aaload, 0, 0, 0, vi 0), (.getfield 71, 10, 1, 0, vi 0), (.if_icmp .ge 7, 15, 0, 0, vi 0), (.iconst 1, 0, 0, 0, vi 1), (.goto 4, 16, 0, 0, vi 0), (.iconst 0, 0, 0, 0, vi 0), (.ireturn, 1, 0, 0, vi 0)]
def am_b21 : List Nat := [0, 1, 2, 5, 8, 9, 12, 13, 14, 17, 18, 19, 22, 25, 26, 29, 30]
/-- WordEach$Court.isFact(III)Z -/
def am_c22 : List mo := [(.iconst 0, 0, 0, 0, vi 0), (.istore 4, 4, 0, 0, vi 0), (.iload 4, 4, 0, 0, vi 0), (.aload_n 0, 0, 0, 0, vi 0), (.getfield 58, 2, 11, 0, vi 0), (.if_icmp .ge 49, 33, 0, 0, vi 0), (.aload_n 0, 0, 0, 0, vi 0), (.getfield 29, 2, 5, 2, vi 0), (.iload 4, 4, 0, 0, vi 0), (.aaload, 0, 0, 0, vi 0), (.astore 5, 5, 0, 0, vi 0), (.aload 5, 5, 0, 0, vi 0), (.iconst 0, 0, 0, 0, vi 0), (.iaload, 0, 0, 0, vi 0), (.iload_n 1, 1, 0, 0, vi 0), (.if_icmp .ne 26, 31, 0, 0, vi 0), (.aload 5, 5, 0, 0, vi 0), (.iconst 1, 0, 0, 0, vi 1), (.iaload, 0, 0, 0, vi 0), (.iload_n 2, 2, 0, 0, vi 0), (.if_icmp .ne 18, 31, 0, 0, vi 0), (.iload_n 3, 3, 0, 0, vi 0), (.iconst (-1), 0, 0, 0, vi (-1)), (.if_icmp .eq 11, 29, 0, 0, vi 0), (.aload 5, 5, 0, 0, vi 0), (.iconst 2, 0, 0, 0, vi 2), (.iaload, 0, 0, 0, vi 0), (.iload_n 3, 3, 0, 0, vi 0), (.if_icmp .ne 5, 31, 0, 0, vi 0), (.iconst 1, 0, 0, 0, vi 1), (.ireturn, 1, 0, 0, vi 0), (.iinc 4 1, 4, 0, 0, vi 1), (.goto (-52), 2, 0, 0, vi 0), (.iconst 0, 0, 0, 0, vi 0), (.ireturn, 1, 0, 0, vi 0)]
def am_b22 : List Nat := [0, 1, 3, 5, 6, 9, 12, 13, 16, 18, 19, 21, 23, 24, 25, 26, 29, 31, 32, 33, 34, 37, 38, 39, 42, 44, 45, 46, 47, 50, 51, 52, 55, 58, 59]
/-- WordEach$Court.truth()I -/
def am_c23 : List mo := [(.aload_n 0, 0, 0, 0, vi 0), (.getfield 44, 2, 14, 0, vi 0), (.iconst (-1), 0, 0, 0, vi (-1)), (.if_icmp .ne 5, 6, 0, 0, vi 0), (.iconst 0, 0, 0, 0, vi 0), (.ireturn, 0, 0, 0, vi 0), (.aload_n 0, 0, 0, 0, vi 0), (.aload_n 0, 0, 0, 0, vi 0), (.getfield 44, 2, 14, 0, vi 0), (.aload_n 0, 0, 0, 0, vi 0), (.getfield 48, 2, 15, 0, vi 0), (.iconst (-1), 0, 0, 0, vi (-1)), (.invokevirtual 84, 22, 4, 1, vi 0), (.ifCond .eq 7, 16, 0, 0, vi 0), (.iconst 1, 0, 0, 0, vi 1), (.goto 4, 17, 0, 0, vi 0), (.iconst 2, 0, 0, 0, vi 2), (.ireturn, 0, 0, 0, vi 0)]
def am_b23 : List Nat := [0, 1, 4, 5, 8, 9, 10, 11, 12, 15, 16, 19, 20, 23, 26, 27, 30, 31]
/-- WordEach$CourtReader.readAll()I -/
def am_c24 : List mo := [(.aload_n 0, 0, 0, 0, vi 0), (.getfield 18, 3, 0, 2, vi 0), (.invokevirtual 22, 91, 1, 0, vi 0), (.aload_n 0, 0, 0, 0, vi 0), (.getfield 12, 3, 1, 2, vi 0), (.invokevirtual 27, 12, 1, 0, vi 0), (.iconst 0, 0, 0, 0, vi 0), (.istore_n 1, 1, 0, 0, vi 0), (.iload_n 1, 1, 0, 0, vi 0), (.bipush 70, 0, 0, 0, vi 70), (.if_icmp .ge 48, 33, 0, 0, vi 0), (.aload_n 0, 0, 0, 0, vi 0), (.getfield 18, 3, 0, 2, vi 0), (.getfield 30, 9, 4, 0, vi 0), (.iconst (-1), 0, 0, 0, vi (-1)), (.if_icmp .ne 5, 18, 0, 0, vi 0), (.iload_n 1, 1, 0, 0, vi 0), (.ireturn, 0, 0, 0, vi 0), (.aload_n 0, 0, 0, 0, vi 0), (.invokevirtual 34, 25, 1, 0, vi 0), (.aload_n 0, 0, 0, 0, vi 0), (.getfield 18, 3, 0, 2, vi 0), (.bipush 59, 0, 0, 0, vi 59), (.invokevirtual 37, 98, 2, 1, vi 0), (.pop, 0, 0, 0, vi 0), (.aload_n 0, 0, 0, 0, vi 0), (.getfield 18, 3, 0, 2, vi 0), (.getfield 41, 9, 5, 0, vi 0), (.ifCond .eq 5, 31, 0, 0, vi 0), (.iconst (-1), 0, 0, 0, vi (-1)), (.ireturn, 0, 0, 0, vi 0), (.iinc 1 1, 1, 0, 0, vi 1), (.goto (-48), 8, 0, 0, vi 0), (.aload_n 0, 0, 0, 0, vi 0), (.getfield 18, 3, 0, 2, vi 0), (.getfield 30, 9, 4, 0, vi 0), (.iconst (-1), 0, 0, 0, vi (-1)), (.if_icmp .ne 6, 40, 0, 0, vi 0), (.bipush 70, 0, 0, 0, vi 70), (.ireturn, 0, 0, 0, vi 0), (.aload_n 0, 0, 0, 0, vi 0), (.getfield 18, 3, 0, 2, vi 0), (.iconst 5, 0, 0, 0, vi 5), (.aload_n 0, 0, 0, 0, vi 0), (.getfield 18, 3, 0, 2, vi 0), (.getfield 44, 9, 2, 0, vi 0), (.invokevirtual 47, 95, 3, 0, vi 0), (.iconst (-1), 0, 0, 0, vi (-1)), (.ireturn, 0, 0, 0, vi 0)]
def am_b24 : List Nat := [0, 1, 4, 7, 8, 11, 14, 15, 16, 17, 19, 22, 23, 26, 29, 30, 33, 34, 35, 36, 39, 40, 43, 45, 48, 49, 50, 53, 56, 59, 60, 61, 64, 67, 68, 71, 74, 75, 78, 80, 81, 82, 85, 86, 87, 90, 93, 96, 97]
/-- WordEach$CourtReader.readStatement()V -/
def am_c25 : List mo := [(.aload_n 0, 0, 0, 0, vi 0), (.getfield 18, 3, 0, 2, vi 0), (.ldc 51, 0, 0, 0, vr 200 0), (.invokevirtual 53, 94, 2, 1, vi 0), (.istore_n 1, 1, 0, 0, vi 0), (.iload_n 1, 1, 0, 0, vi 0), (.ifCond .lt 16, 14, 0, 0, vi 0), (.iload_n 1, 1, 0, 0, vi 0), (.iconst 5, 0, 0, 0, vi 5), (.if_icmp .gt 11, 14, 0, 0, vi 0), (.aload_n 0, 0, 0, 0, vi 0), (.iload_n 1, 1, 0, 0, vi 0), (.invokevirtual 57, 26, 2, 0, vi 0), (.goto 83, 51, 0, 0, vi 0), (.iload_n 1, 1, 0, 0, vi 0), (.bipush 6, 0, 0, 0, vi 6), (.if_icmp .ne 10, 20, 0, 0, vi 0), (.aload_n 0, 0, 0, 0, vi 0), (.invokevirtual 61, 29, 1, 0, vi 0), (.goto 70, 51, 0, 0, vi 0), (.iload_n 1, 1, 0, 0, vi 0), (.bipush 10, 0, 0, 0, vi 10), (.if_icmp .ne 10, 26, 0, 0, vi 0), (.aload_n 0, 0, 0, 0, vi 0), (.invokevirtual 64, 30, 1, 0, vi 0), (.goto 57, 51, 0, 0, vi 0), (.iload_n 1, 1, 0, 0, vi 0), (.bipush 11, 0, 0, 0, vi 11), (.if_icmp .ne 10, 32, 0, 0, vi 0), (.aload_n 0, 0, 0, 0, vi 0), (.invokevirtual 67, 32, 1, 0, vi 0), (.goto 44, 51, 0, 0, vi 0), (.iload_n 1, 1, 0, 0, vi 0), (.bipush 15, 0, 0, 0, vi 15), (.if_icmp .ne 10, 38, 0, 0, vi 0), (.aload_n 0, 0, 0, 0, vi 0), (.invokevirtual 70, 34, 1, 0, vi 0), (.goto 31, 51, 0, 0, vi 0), (.iload_n 1, 1, 0, 0, vi 0), (.bipush 16, 0, 0, 0, vi 16), (.if_icmp .ne 10, 44, 0, 0, vi 0), (.aload_n 0, 0, 0, 0, vi 0), (.invokevirtual 73, 35, 1, 0, vi 0), (.goto 18, 51, 0, 0, vi 0), (.aload_n 0, 0, 0, 0, vi 0), (.getfield 18, 3, 0, 2, vi 0), (.iconst 1, 0, 0, 0, vi 1), (.aload_n 0, 0, 0, 0, vi 0), (.getfield 18, 3, 0, 2, vi 0), (.getfield 44, 9, 2, 0, vi 0), (.invokevirtual 47, 95, 3, 0, vi 0), (.return_, 0, 0, 0, vi 0)]
def am_b25 : List Nat := [0, 1, 4, 6, 9, 10, 11, 14, 15, 16, 19, 20, 21, 24, 27, 28, 30, 33, 34, 37, 40, 41, 43, 46, 47, 50, 53, 54, 56, 59, 60, 63, 66, 67, 69, 72, 73, 76, 79, 80, 82, 85, 86, 89, 92, 93, 96, 97, 98, 101, 104, 107]
/-- WordEach$CourtReader.readWord(I)V -/
def am_c26 : List mo := [(.aload_n 0, 0, 0, 0, vi 0), (.aload_n 0, 0, 0, 0, vi 0), (.getfield 12, 3, 1, 2, vi 0), (.getfield 79, 2, 9, 0, vi 0), (.bipush 20, 0, 0, 0, vi 20), (.invokevirtual 82, 27, 3, 1, vi 0), (.ifCond .ne 4, 8, 0, 0, vi 0), (.return_, 0, 0, 0, vi 0), (.aload_n 0, 0, 0, 0, vi 0), (.invokevirtual 86, 28, 1, 1, vi 0), (.istore_n 2, 2, 0, 0, vi 0), (.aload_n 0, 0, 0, 0, vi 0), (.getfield 18, 3, 0, 2, vi 0), (.getfield 41, 9, 5, 0, vi 0), (.ifCond .ne 48, 38, 0, 0, vi 0), (.aload_n 0, 0, 0, 0, vi 0), (.getfield 12, 3, 1, 2, vi 0), (.getfield 90, 2, 0, 2, vi 0), (.aload_n 0, 0, 0, 0, vi 0), (.getfield 12, 3, 1, 2, vi 0), (.getfield 79, 2, 9, 0, vi 0), (.iload_n 2, 2, 0, 0, vi 0), (.iastore, 0, 0, 0, vi 0), (.aload_n 0, 0, 0, 0, vi 0), (.getfield 12, 3, 1, 2, vi 0), (.getfield 94, 2, 1, 2, vi 0), (.aload_n 0, 0, 0, 0, vi 0), (.getfield 12, 3, 1, 2, vi 0), (.getfield 79, 2, 9, 0, vi 0), (.iload_n 1, 1, 0, 0, vi 0), (.iastore, 0, 0, 0, vi 0), (.aload_n 0, 0, 0, 0, vi 0), (.getfield 12, 3, 1, 2, vi 0), (.dup, 0, 0, 0, vi 0), (.getfield 79, 2, 9, 0, vi 0), (.iconst 1, 0, 0, 0, vi 1), (.iadd, 0, 0, 0, vi 0), (.putfield 79, 2, 9, 0, vi 0), (.return_, 0, 0, 0, vi 0)]
def am_b26 : List Nat := [0, 1, 2, 5, 8, 10, 13, 16, 17, 18, 21, 22, 23, 26, 29, 32, 33, 36, 39, 40, 43, 46, 47, 48, 49, 52, 55, 56, 59, 62, 63, 64, 65, 68, 69, 72, 73, 74, 77]
/-- WordEach$CourtReader.begins(II)Z -/
def am_c27 : List mo := [(.iload_n 1, 1, 0, 0, vi 0), (.iload_n 2, 2, 0, 0, vi 0), (.if_icmp .lt 20, 12, 0, 0, vi 0), (.aload_n 0, 0, 0, 0, vi 0), (.getfield 18, 3, 0, 2, vi 0), (.iconst 5, 0, 0, 0, vi 5), (.aload_n 0, 0, 0, 0, vi 0), (.getfield 18, 3, 0, 2, vi 0), (.getfield 44, 9, 2, 0, vi 0), (.invokevirtual 47, 95, 3, 0, vi 0), (.iconst 0, 0, 0, 0, vi 0), (.ireturn, 1, 0, 0, vi 0), (.aload_n 0, 0, 0, 0, vi 0), (.getfield 18, 3, 0, 2, vi 0), (.invokevirtual 76, 92, 1, 0, vi 0), (.iconst 1, 0, 0, 0, vi 1), (.ireturn, 1, 0, 0, vi 0)]
def am_b27 : List Nat := [0, 1, 2, 5, 6, 9, 10, 11, 14, 17, 20, 21, 22, 23, 26, 29, 30]
/-- WordEach$CourtReader.takeNewSpelling()I -/
def am_c28 : List mo := [(.aload_n 0, 0, 0, 0, vi 0), (.getfield 18, 3, 0, 2, vi 0), (.invokevirtual 164, 96, 1, 1, vi 0), (.istore_n 1, 1, 0, 0, vi 0), (.aload_n 0, 0, 0, 0, vi 0), (.getfield 18, 3, 0, 2, vi 0), (.getfield 41, 9, 5, 0, vi 0), (.ifCond .ne 29, 20, 0, 0, vi 0), (.aload_n 0, 0, 0, 0, vi 0), (.getfield 12, 3, 1, 2, vi 0), (.iload_n 1, 1, 0, 0, vi 0), (.invokevirtual 167, 13, 2, 1, vi 0), (.ifCond .eq 18, 20, 0, 0, vi 0), (.aload_n 0, 0, 0, 0, vi 0), (.getfield 18, 3, 0, 2, vi 0), (.iconst 3, 0, 0, 0, vi 3), (.aload_n 0, 0, 0, 0, vi 0), (.getfield 18, 3, 0, 2, vi 0), (.getfield 44, 9, 2, 0, vi 0), (.invokevirtual 47, 95, 3, 0, vi 0), (.aload_n 0, 0, 0, 0, vi 0), (.getfield 18, 3, 0, 2, vi 0), (.getfield 41, 9, 5, 0, vi 0), (.ifCond .ne 10, 27, 0, 0, vi 0), (.aload_n 0, 0, 0, 0, vi 0), (.getfield 18, 3, 0, 2, vi 0), (.invokevirtual 76, 92, 1, 0, vi 0), (.iload_n 1, 1, 0, 0, vi 0), (.ireturn, 0, 0, 0, vi 0)]
def am_b28 : List Nat := [0, 1, 4, 7, 8, 9, 12, 15, 18, 19, 22, 23, 26, 29, 30, 33, 34, 35, 38, 41, 44, 45, 48, 51, 54, 55, 58, 61, 62]
/-- WordEach$CourtReader.readLine()V -/
def am_c29 : List mo := [(.aload_n 0, 0, 0, 0, vi 0), (.aload_n 0, 0, 0, 0, vi 0), (.getfield 12, 3, 1, 2, vi 0), (.getfield 97, 2, 10, 0, vi 0), (.bipush 6, 0, 0, 0, vi 6), (.invokevirtual 82, 27, 3, 1, vi 0), (.ifCond .ne 4, 8, 0, 0, vi 0), (.return_, 0, 0, 0, vi 0), (.iconst 0, 0, 0, 0, vi 0), (.istore_n 1, 1, 0, 0, vi 0), (.iconst 0, 0, 0, 0, vi 0), (.istore_n 2, 2, 0, 0, vi 0), (.iconst 0, 0, 0, 0, vi 0), (.istore_n 3, 3, 0, 0, vi 0), (.iload_n 3, 3, 0, 0, vi 0), (.iconst 3, 0, 0, 0, vi 3), (.if_icmp .ge 112, 73, 0, 0, vi 0), (.iload_n 3, 3, 0, 0, vi 0), (.ifCond .eq 15, 24, 0, 0, vi 0), (.aload_n 0, 0, 0, 0, vi 0), (.getfield 18, 3, 0, 2, vi 0), (.getfield 30, 9, 4, 0, vi 0), (.bipush 59, 0, 0, 0, vi 59), (.if_icmp .eq 96, 73, 0, 0, vi 0), (.aload_n 0, 0, 0, 0, vi 0), (.getfield 18, 3, 0, 2, vi 0), (.ldc 51, 0, 0, 0, vr 200 0), (.invokevirtual 53, 94, 2, 1, vi 0), (.bipush 7, 0, 0, 0, vi 7), (.isub, 0, 0, 0, vi 0), (.istore 4, 4, 0, 0, vi 0), (.iload 4, 4, 0, 0, vi 0), (.ifCond .lt 19, 43, 0, 0, vi 0), (.iload 4, 4, 0, 0, vi 0), (.iconst 2, 0, 0, 0, vi 2), (.if_icmp .gt 13, 43, 0, 0, vi 0), (.iload_n 1, 1, 0, 0, vi 0), (.iload 4, 4, 0, 0, vi 0), (.ishr, 0, 0, 0, vi 0), (.iconst 1, 0, 0, 0, vi 1), (.iand, 0, 0, 0, vi 0), (.iconst 1, 0, 0, 0, vi 1), (.if_icmp .ne 19, 51, 0, 0, vi 0), (.aload_n 0, 0, 0, 0, vi 0), (.getfield 18, 3, 0, 2, vi 0), (.iconst 1, 0, 0, 0, vi 1), (.aload_n 0, 0, 0, 0, vi 0), (.getfield 18, 3, 0, 2, vi 0), (.getfield 44, 9, 2, 0, vi 0), (.invokevirtual 47, 95, 3, 0, vi 0), (.return_, 0, 0, 0, vi 0), (.aload_n 0, 0, 0, 0, vi 0), (.getfield 12, 3, 1, 2, vi 0), (.getfield 100, 2, 2, 2, vi 0), (.aload_n 0, 0, 0, 0, vi 0), (.getfield 12, 3, 1, 2, vi 0), (.getfield 97, 2, 10, 0, vi 0), (.aaload, 0, 0, 0, vi 0), (.iload_n 3, 3, 0, 0, vi 0), (.iload 4, 4, 0, 0, vi 0), (.iastore, 0, 0, 0, vi 0), (.iload_n 1, 1, 0, 0, vi 0), (.iconst 1, 0, 0, 0, vi 1), (.iload 4, 4, 0, 0, vi 0), (.ishl, 0, 0, 0, vi 0), (.ior, 0, 0, 0, vi 0), (.istore_n 1, 1, 0, 0, vi 0), (.iinc 2 1, 2, 0, 0, vi 1), (.aload_n 0, 0, 0, 0, vi 0), (.getfield 18, 3, 0, 2, vi 0), (.invokevirtual 76, 92, 1, 0, vi 0), (.iinc 3 1, 3, 0, 0, vi 1), (.goto (-111), 14, 0, 0, vi 0), (.iload_n 1, 1, 0, 0, vi 0), (.iconst 0, 0, 0, 0, vi 0), (.ishr, 0, 0, 0, vi 0), (.iconst 1, 0, 0, 0, vi 1), (.iand, 0, 0, 0, vi 0), (.ifCond .eq 11, 85, 0, 0, vi 0), (.iload_n 1, 1, 0, 0, vi 0), (.iconst 1, 0, 0, 0, vi 1), (.ishr, 0, 0, 0, vi 0), (.iconst 1, 0, 0, 0, vi 1), (.iand, 0, 0, 0, vi 0), (.ifCond .ne 19, 93, 0, 0, vi 0), (.aload_n 0, 0, 0, 0, vi 0), (.getfield 18, 3, 0, 2, vi 0), (.iconst 1, 0, 0, 0, vi 1), (.aload_n 0, 0, 0, 0, vi 0), (.getfield 18, 3, 0, 2, vi 0), (.getfield 44, 9, 2, 0, vi 0), (.invokevirtual 47, 95, 3, 0, vi 0), (.return_, 0, 0, 0, vi 0), (.aload_n 0, 0, 0, 0, vi 0), (.getfield 12, 3, 1, 2, vi 0), (.iload_n 2, 2, 0, 0, vi 0), (.invokevirtual 104, 15, 2, 0, vi 0), (.return_, 0, 0, 0, vi 0)]
def am_b29 : List Nat := [0, 1, 2, 5, 8, 10, 13, 16, 17, 18, 19, 20, 21, 22, 23, 24, 25, 28, 29, 32, 33, 36, 39, 41, 44, 45, 48, 50, 53, 55, 56, 58, 60, 63, 65, 66, 69, 70, 72, 73, 74, 75, 76, 79, 80, 83, 84, 85, 88, 91, 94, 95, 96, 99, 102, 103, 106, 109, 110, 111, 113, 114, 115, 116, 118, 119, 120, 121, 124, 125, 128, 131, 134, 137, 138, 139, 140, 141, 142, 145, 146, 147, 148, 149, 150, 153, 154, 157, 158, 159, 162, 165, 168, 169, 170, 173, 174, 177]
/-- WordEach$CourtReader.readFact()V -/
def am_c30 : List mo := [(.aload_n 0, 0, 0, 0, vi 0), (.aload_n 0, 0, 0, 0, vi 0), (.getfield 12, 3, 1, 2, vi 0), (.getfield 107, 2, 11, 0, vi 0), (.bipush 16, 0, 0, 0, vi 16), (.invokevirtual 82, 27, 3, 1, vi 0), (.ifCond .ne 4, 8, 0, 0, vi 0), (.return_, 0, 0, 0, vi 0), (.aload_n 0, 0, 0, 0, vi 0), (.iconst 0, 0, 0, 0, vi 0), (.invokevirtual 110, 31, 2, 1, vi 0), (.istore_n 1, 1, 0, 0, vi 0), (.aload_n 0, 0, 0, 0, vi 0), (.iconst 1, 0, 0, 0, vi 1), (.invokevirtual 110, 31, 2, 1, vi 0), (.istore_n 2, 2, 0, 0, vi 0), (.aload_n 0, 0, 0, 0, vi 0), (.getfield 18, 3, 0, 2, vi 0), (.getfield 30, 9, 4, 0, vi 0), (.bipush 97, 0, 0, 0, vi 97), (.if_icmp .ne 11, 25, 0, 0, vi 0), (.aload_n 0, 0, 0, 0, vi 0), (.iconst 0, 0, 0, 0, vi 0), (.invokevirtual 110, 31, 2, 1, vi 0), (.goto 4, 26, 0, 0, vi 0), (.iconst (-1), 0, 0, 0, vi (-1)), (.istore_n 3, 3, 0, 0, vi 0), (.aload_n 0, 0, 0, 0, vi 0), (.getfield 18, 3, 0, 2, vi 0), (.getfield 41, 9, 5, 0, vi 0), (.ifCond .ne 48, 58, 0, 0, vi 0), (.aload_n 0, 0, 0, 0, vi 0), (.getfield 12, 3, 1, 2, vi 0), (.getfield 114, 2, 5, 2, vi 0), (.aload_n 0, 0, 0, 0, vi 0), (.getfield 12, 3, 1, 2, vi 0), (.getfield 107, 2, 11, 0, vi 0), (.aaload, 0, 0, 0, vi 0), (.astore 4, 4, 0, 0, vi 0), (.aload 4, 4, 0, 0, vi 0), (.iconst 0, 0, 0, 0, vi 0), (.iload_n 1, 1, 0, 0, vi 0), (.iastore, 0, 0, 0, vi 0), (.aload 4, 4, 0, 0, vi 0), (.iconst 1, 0, 0, 0, vi 1), (.iload_n 2, 2, 0, 0, vi 0), (.iastore, 0, 0, 0, vi 0), (.aload 4, 4, 0, 0, vi 0), (.iconst 2, 0, 0, 0, vi 2), (.iload_n 3, 3, 0, 0, vi 0), (.iastore, 0, 0, 0, vi 0), (.aload_n 0, 0, 0, 0, vi 0), (.getfield 12, 3, 1, 2, vi 0), (.dup, 0, 0, 0, vi 0), (.getfield 107, 2, 11, 0, vi 0), (.iconst 1, 0, 0, 0, vi 1), (.iadd, 0, 0, 0, vi 0), (.putfield 107, 2, 11, 0, vi 0), (.return_, 0, 0, 0, vi 0)]
def am_b30 : List Nat := [0, 1, 2, 5, 8, 10, 13, 16, 17, 18, 19, 22, 23, 24, 25, 28, 29, 30, 33, 36, 38, 41, 42, 43, 46, 49, 50, 51, 52, 55, 58, 61, 62, 65, 68, 69, 72, 75, 76, 78, 80, 81, 82, 83, 85, 86, 87, 88, 90, 91, 92, 93, 94, 97, 98, 101, 102, 103, 106]
/-- WordEach$CourtReader.takeWord(I)I -/
def am_c31 : List mo := [(.aload_n 0, 0, 0, 0, vi 0), (.getfield 18, 3, 0, 2, vi 0), (.invokevirtual 164, 96, 1, 1, vi 0), (.istore_n 2, 2, 0, 0, vi 0), (.aload_n 0, 0, 0, 0, vi 0), (.getfield 18, 3, 0, 2, vi 0), (.getfield 41, 9, 5, 0, vi 0), (.ifCond .eq 5, 10, 0, 0, vi 0), (.iconst (-1), 0, 0, 0, vi (-1)), (.ireturn, 0, 0, 0, vi 0), (.aload_n 0, 0, 0, 0, vi 0), (.getfield 12, 3, 1, 2, vi 0), (.iload_n 2, 2, 0, 0, vi 0), (.invokevirtual 170, 14, 2, 1, vi 0), (.istore_n 3, 3, 0, 0, vi 0), (.iload_n 3, 3, 0, 0, vi 0), (.iconst (-1), 0, 0, 0, vi (-1)), (.if_icmp .eq 21, 28, 0, 0, vi 0), (.iload_n 1, 1, 0, 0, vi 0), (.iconst (-1), 0, 0, 0, vi (-1)), (.if_icmp .eq 33, 37, 0, 0, vi 0), (.aload_n 0, 0, 0, 0, vi 0), (.getfield 12, 3, 1, 2, vi 0), (.getfield 94, 2, 1, 2, vi 0), (.iload_n 3, 3, 0, 0, vi 0), (.iaload, 0, 0, 0, vi 0), (.iload_n 1, 1, 0, 0, vi 0), (.if_icmp .eq 20, 37, 0, 0, vi 0), (.aload_n 0, 0, 0, 0, vi 0), (.getfield 18, 3, 0, 2, vi 0), (.iconst 3, 0, 0, 0, vi 3), (.aload_n 0, 0, 0, 0, vi 0), (.getfield 18, 3, 0, 2, vi 0), (.getfield 44, 9, 2, 0, vi 0), (.invokevirtual 47, 95, 3, 0, vi 0), (.iconst (-1), 0, 0, 0, vi (-1)), (.ireturn, 0, 0, 0, vi 0), (.aload_n 0, 0, 0, 0, vi 0), (.getfield 18, 3, 0, 2, vi 0), (.invokevirtual 76, 92, 1, 0, vi 0), (.iload_n 3, 3, 0, 0, vi 0), (.ireturn, 0, 0, 0, vi 0)]
def am_b31 : List Nat := [0, 1, 4, 7, 8, 9, 12, 15, 18, 19, 20, 21, 24, 25, 28, 29, 30, 31, 34, 35, 36, 39, 40, 43, 46, 47, 48, 49, 52, 53, 56, 57, 58, 61, 64, 67, 68, 69, 70, 73, 76, 77]
/-- WordEach$CourtReader.readWitness()V -/
def am_c32 : List mo := [(.aload_n 0, 0, 0, 0, vi 0), (.aload_n 0, 0, 0, 0, vi 0), (.getfield 12, 3, 1, 2, vi 0), (.getfield 117, 2, 12, 0, vi 0), (.bipush 7, 0, 0, 0, vi 7), (.invokevirtual 82, 27, 3, 1, vi 0), (.ifCond .ne 4, 8, 0, 0, vi 0), (.return_, 0, 0, 0, vi 0), (.aload_n 0, 0, 0, 0, vi 0), (.getfield 12, 3, 1, 2, vi 0), (.getfield 120, 2, 6, 2, vi 0), (.aload_n 0, 0, 0, 0, vi 0), (.getfield 12, 3, 1, 2, vi 0), (.getfield 117, 2, 12, 0, vi 0), (.aaload, 0, 0, 0, vi 0), (.astore_n 1, 1, 0, 0, vi 0), (.aload_n 1, 1, 0, 0, vi 0), (.aload_n 0, 0, 0, 0, vi 0), (.invokevirtual 86, 28, 1, 1, vi 0), (.putfield 124, 10, 2, 0, vi 0), (.aload_n 0, 0, 0, 0, vi 0), (.bipush 12, 0, 0, 0, vi 12), (.invokevirtual 129, 33, 2, 0, vi 0), (.aload_n 1, 1, 0, 0, vi 0), (.aload_n 0, 0, 0, 0, vi 0), (.getfield 18, 3, 0, 2, vi 0), (.bipush 99, 0, 0, 0, vi 99), (.invokevirtual 132, 97, 2, 1, vi 0), (.putfield 135, 10, 3, 0, vi 0), (.aload_n 0, 0, 0, 0, vi 0), (.bipush 13, 0, 0, 0, vi 13), (.invokevirtual 129, 33, 2, 0, vi 0), (.aload_n 1, 1, 0, 0, vi 0), (.aload_n 0, 0, 0, 0, vi 0), (.getfield 18, 3, 0, 2, vi 0), (.iconst 1, 0, 0, 0, vi 1), (.invokevirtual 132, 97, 2, 1, vi 0), (.putfield 138, 10, 4, 0, vi 0), (.aload_n 0, 0, 0, 0, vi 0), (.bipush 14, 0, 0, 0, vi 14), (.invokevirtual 129, 33, 2, 0, vi 0), (.aload_n 1, 1, 0, 0, vi 0), (.iconst 0, 0, 0, 0, vi 0), (.putfield 141, 10, 1, 0, vi 0), (.iconst 0, 0, 0, 0, vi 0), (.istore_n 2, 2, 0, 0, vi 0), (.iload_n 2, 2, 0, 0, vi 0), (.iconst 4, 0, 0, 0, vi 4), (.if_icmp .ge 73, 85, 0, 0, vi 0), (.iload_n 2, 2, 0, 0, vi 0), (.ifCond .eq 15, 56, 0, 0, vi 0), (.aload_n 0, 0, 0, 0, vi 0), (.getfield 18, 3, 0, 2, vi 0), (.getfield 30, 9, 4, 0, vi 0), (.bipush 97, 0, 0, 0, vi 97), (.if_icmp .ne 57, 85, 0, 0, vi 0), (.aload_n 0, 0, 0, 0, vi 0), (.getfield 18, 3, 0, 2, vi 0), (.getfield 44, 9, 2, 0, vi 0), (.istore_n 3, 3, 0, 0, vi 0), (.aload_n 0, 0, 0, 0, vi 0), (.iconst (-1), 0, 0, 0, vi (-1)), (.invokevirtual 110, 31, 2, 1, vi 0), (.istore 4, 4, 0, 0, vi 0), (.aload_n 1, 1, 0, 0, vi 0), (.iload 4, 4, 0, 0, vi 0), (.invokevirtual 144, 100, 2, 1, vi 0), (.ifCond .eq 12, 73, 0, 0, vi 0), (.aload_n 0, 0, 0, 0, vi 0), (.getfield 18, 3, 0, 2, vi 0), (.iconst 3, 0, 0, 0, vi 3), (.iload_n 3, 3, 0, 0, vi 0), (.invokevirtual 47, 95, 3, 0, vi 0), (.aload_n 1, 1, 0, 0, vi 0), (.getfield 147, 10, 0, 2, vi 0), (.iload_n 2, 2, 0, 0, vi 0), (.iload 4, 4, 0, 0, vi 0), (.iastore, 0, 0, 0, vi 0), (.aload_n 1, 1, 0, 0, vi 0), (.iload_n 2, 2, 0, 0, vi 0), (.iconst 1, 0, 0, 0, vi 1), (.iadd, 0, 0, 0, vi 0), (.putfield 141, 10, 1, 0, vi 0), (.iinc 2 1, 2, 0, 0, vi 1), (.goto (-72), 46, 0, 0, vi 0), (.aload_n 0, 0, 0, 0, vi 0), (.getfield 18, 3, 0, 2, vi 0), (.getfield 41, 9, 5, 0, vi 0), (.ifCond .ne 16, 96, 0, 0, vi 0), (.aload_n 0, 0, 0, 0, vi 0), (.getfield 12, 3, 1, 2, vi 0), (.dup, 0, 0, 0, vi 0), (.getfield 117, 2, 12, 0, vi 0), (.iconst 1, 0, 0, 0, vi 1), (.iadd, 0, 0, 0, vi 0), (.putfield 117, 2, 12, 0, vi 0), (.return_, 0, 0, 0, vi 0)]
def am_b32 : List Nat := [0, 1, 2, 5, 8, 10, 13, 16, 17, 18, 21, 24, 25, 28, 31, 32, 33, 34, 35, 38, 41, 42, 44, 47, 48, 49, 52, 54, 57, 60, 61, 63, 66, 67, 68, 71, 72, 75, 78, 79, 81, 84, 85, 86, 89, 90, 91, 92, 93, 96, 97, 100, 101, 104, 107, 109, 112, 113, 116, 119, 120, 121, 122, 125, 127, 128, 130, 133, 136, 137, 140, 141, 142, 145, 146, 149, 150, 152, 153, 154, 155, 156, 157, 160, 163, 166, 167, 170, 173, 176, 177, 180, 181, 184, 185, 186, 189]
/-- WordEach$CourtReader.takeOwn(I)V -/
def am_c33 : List mo := [(.aload_n 0, 0, 0, 0, vi 0), (.getfield 18, 3, 0, 2, vi 0), (.getfield 41, 9, 5, 0, vi 0), (.ifCond .eq 4, 5, 0, 0, vi 0), (.return_, 0, 0, 0, vi 0), (.aload_n 0, 0, 0, 0, vi 0), (.getfield 18, 3, 0, 2, vi 0), (.ldc 51, 0, 0, 0, vr 200 0), (.invokevirtual 53, 94, 2, 1, vi 0), (.iload_n 1, 1, 0, 0, vi 0), (.if_icmp .ne 13, 15, 0, 0, vi 0), (.aload_n 0, 0, 0, 0, vi 0), (.getfield 18, 3, 0, 2, vi 0), (.invokevirtual 76, 92, 1, 0, vi 0), (.goto 18, 22, 0, 0, vi 0), (.aload_n 0, 0, 0, 0, vi 0), (.getfield 18, 3, 0, 2, vi 0), (.iconst 1, 0, 0, 0, vi 1), (.aload_n 0, 0, 0, 0, vi 0), (.getfield 18, 3, 0, 2, vi 0), (.getfield 44, 9, 2, 0, vi 0), (.invokevirtual 47, 95, 3, 0, vi 0), (.return_, 0, 0, 0, vi 0)]
def am_b33 : List Nat := [0, 1, 4, 7, 10, 11, 12, 15, 17, 20, 21, 24, 25, 28, 31, 34, 35, 38, 39, 40, 43, 46, 49]
/-- WordEach$CourtReader.readAccused()V -/
def am_c34 : List mo := [(.aload_n 0, 0, 0, 0, vi 0), (.getfield 18, 3, 0, 2, vi 0), (.invokevirtual 76, 92, 1, 0, vi 0), (.aload_n 0, 0, 0, 0, vi 0), (.iconst 0, 0, 0, 0, vi 0), (.invokevirtual 110, 31, 2, 1, vi 0), (.istore_n 1, 1, 0, 0, vi 0), (.aload_n 0, 0, 0, 0, vi 0), (.iconst 1, 0, 0, 0, vi 1), (.invokevirtual 110, 31, 2, 1, vi 0), (.istore_n 2, 2, 0, 0, vi 0), (.aload_n 0, 0, 0, 0, vi 0), (.getfield 18, 3, 0, 2, vi 0), (.getfield 41, 9, 5, 0, vi 0), (.ifCond .ne 19, 23, 0, 0, vi 0), (.aload_n 0, 0, 0, 0, vi 0), (.getfield 12, 3, 1, 2, vi 0), (.iload_n 1, 1, 0, 0, vi 0), (.putfield 149, 2, 14, 0, vi 0), (.aload_n 0, 0, 0, 0, vi 0), (.getfield 12, 3, 1, 2, vi 0), (.iload_n 2, 2, 0, 0, vi 0), (.putfield 152, 2, 15, 0, vi 0), (.return_, 0, 0, 0, vi 0)]
def am_b34 : List Nat := [0, 1, 4, 7, 8, 9, 12, 13, 14, 15, 18, 19, 20, 23, 26, 29, 30, 33, 34, 37, 38, 41, 42, 45]
/-- WordEach$CourtReader.readCase()V -/
def am_c35 : List mo := [(.aload_n 0, 0, 0, 0, vi 0), (.aload_n 0, 0, 0, 0, vi 0), (.getfield 12, 3, 1, 2, vi 0), (.getfield 155, 2, 13, 0, vi 0), (.bipush 8, 0, 0, 0, vi 8), (.invokevirtual 82, 27, 3, 1, vi 0), (.ifCond .ne 4, 8, 0, 0, vi 0), (.return_, 0, 0, 0, vi 0), (.iconst 0, 0, 0, 0, vi 0), (.istore_n 1, 1, 0, 0, vi 0), (.iconst 0, 0, 0, 0, vi 0), (.istore_n 2, 2, 0, 0, vi 0), (.iload_n 2, 2, 0, 0, vi 0), (.bipush 8, 0, 0, 0, vi 8), (.if_icmp .ge 50, 37, 0, 0, vi 0), (.iload_n 2, 2, 0, 0, vi 0), (.ifCond .eq 15, 22, 0, 0, vi 0), (.aload_n 0, 0, 0, 0, vi 0), (.getfield 18, 3, 0, 2, vi 0), (.getfield 30, 9, 4, 0, vi 0), (.bipush 97, 0, 0, 0, vi 97), (.if_icmp .ne 34, 37, 0, 0, vi 0), (.aload_n 0, 0, 0, 0, vi 0), (.getfield 12, 3, 1, 2, vi 0), (.getfield 158, 2, 7, 2, vi 0), (.aload_n 0, 0, 0, 0, vi 0), (.getfield 12, 3, 1, 2, vi 0), (.getfield 155, 2, 13, 0, vi 0), (.aaload, 0, 0, 0, vi 0), (.iload_n 2, 2, 0, 0, vi 0), (.aload_n 0, 0, 0, 0, vi 0), (.iconst (-1), 0, 0, 0, vi (-1)), (.invokevirtual 110, 31, 2, 1, vi 0), (.iastore, 0, 0, 0, vi 0), (.iinc 1 1, 1, 0, 0, vi 1), (.iinc 2 1, 2, 0, 0, vi 1), (.goto (-50), 12, 0, 0, vi 0), (.aload_n 0, 0, 0, 0, vi 0), (.getfield 18, 3, 0, 2, vi 0), (.getfield 41, 9, 5, 0, vi 0), (.ifCond .ne 32, 56, 0, 0, vi 0), (.aload_n 0, 0, 0, 0, vi 0), (.getfield 12, 3, 1, 2, vi 0), (.getfield 161, 2, 8, 2, vi 0), (.aload_n 0, 0, 0, 0, vi 0), (.getfield 12, 3, 1, 2, vi 0), (.getfield 155, 2, 13, 0, vi 0), (.iload_n 1, 1, 0, 0, vi 0), (.iastore, 0, 0, 0, vi 0), (.aload_n 0, 0, 0, 0, vi 0), (.getfield 12, 3, 1, 2, vi 0), (.dup, 0, 0, 0, vi 0), (.getfield 155, 2, 13, 0, vi 0), (.iconst 1, 0, 0, 0, vi 1), (.iadd, 0, 0, 0, vi 0), (.putfield 155, 2, 13, 0, vi 0), (.return_, 0, 0, 0, vi 0)]
def am_b35 : List Nat := [0, 1, 2, 5, 8, 10, 13, 16, 17, 18, 19, 20, 21, 22, 24, 27, 28, 31, 32, 35, 38, 40, 43, 44, 47, 50, 51, 54, 57, 58, 59, 60, 61, 64, 65, 68, 71, 74, 75, 78, 81, 84, 85, 88, 91, 92, 95, 98, 99, 100, 101, 104, 105, 108, 109, 110, 113]
/-- WordEach$Judge.forgetLines()V -/
def am_c36 : List mo := [(.iconst 0, 0, 0, 0, vi 0), (.istore_n 1, 1, 0, 0, vi 0), (.iload_n 1, 1, 0, 0, vi 0), (.bipush 16, 0, 0, 0, vi 16), (.if_icmp .ge 23, 17, 0, 0, vi 0), (.aload_n 0, 0, 0, 0, vi 0), (.getfield 11, 4, 0, 2, vi 0), (.iload_n 1, 1, 0, 0, vi 0), (.iconst (-1), 0, 0, 0, vi (-1)), (.iastore, 0, 0, 0, vi 0), (.aload_n 0, 0, 0, 0, vi 0), (.getfield 15, 4, 1, 2, vi 0), (.iload_n 1, 1, 0, 0, vi 0), (.iconst 0, 0, 0, 0, vi 0), (.bastore, 0, 0, 0, vi 0), (.iinc 1 1, 1, 0, 0, vi 1), (.goto (-23), 2, 0, 0, vi 0), (.return_, 0, 0, 0, vi 0)]
def am_b36 : List Nat := [0, 1, 2, 3, 5, 8, 9, 12, 13, 14, 15, 16, 19, 20, 21, 22, 25, 28]
/-- WordEach$Judge.obey(I)V -/
def am_c37 : List mo := [(.aload_n 0, 0, 0, 0, vi 0), (.iload_n 1, 1, 0, 0, vi 0), (.putfield 29, 4, 3, 0, vi 0), (.aload_n 0, 0, 0, 0, vi 0), (.invokevirtual 26, 36, 1, 0, vi 0), (.aload_n 0, 0, 0, 0, vi 0), (.getfield 22, 4, 2, 2, vi 0), (.getfield 33, 2, 10, 0, vi 0), (.iconst 1, 0, 0, 0, vi 1), (.isub, 0, 0, 0, vi 0), (.istore_n 2, 2, 0, 0, vi 0), (.iload_n 2, 2, 0, 0, vi 0), (.ifCond .lt 58, 43, 0, 0, vi 0), (.aload_n 0, 0, 0, 0, vi 0), (.iload_n 2, 2, 0, 0, vi 0), (.invokevirtual 36, 38, 2, 1, vi 0), (.ifCond .eq 44, 41, 0, 0, vi 0), (.aload_n 0, 0, 0, 0, vi 0), (.getfield 22, 4, 2, 2, vi 0), (.iload_n 2, 2, 0, 0, vi 0), (.invokevirtual 40, 17, 2, 1, vi 0), (.istore_n 3, 3, 0, 0, vi 0), (.aload_n 0, 0, 0, 0, vi 0), (.getfield 11, 4, 0, 2, vi 0), (.iload_n 3, 3, 0, 0, vi 0), (.iload_n 2, 2, 0, 0, vi 0), (.iastore, 0, 0, 0, vi 0), (.iload_n 3, 3, 0, 0, vi 0), (.istore 4, 4, 0, 0, vi 0), (.iload 4, 4, 0, 0, vi 0), (.ifCond .le 20, 41, 0, 0, vi 0), (.aload_n 0, 0, 0, 0, vi 0), (.getfield 15, 4, 1, 2, vi 0), (.iload 4, 4, 0, 0, vi 0), (.iconst 1, 0, 0, 0, vi 1), (.bastore, 0, 0, 0, vi 0), (.iload 4, 4, 0, 0, vi 0), (.iconst 1, 0, 0, 0, vi 1), (.ishr, 0, 0, 0, vi 0), (.istore 4, 4, 0, 0, vi 0), (.goto (-19), 29, 0, 0, vi 0), (.iinc 2 (-1), 2, 0, 0, vi (-1)), (.goto (-56), 11, 0, 0, vi 0), (.return_, 0, 0, 0, vi 0)]
def am_b37 : List Nat := [0, 1, 2, 5, 6, 9, 10, 13, 16, 17, 18, 19, 20, 23, 24, 25, 28, 31, 32, 35, 36, 39, 40, 41, 44, 45, 46, 47, 48, 50, 52, 55, 56, 59, 61, 62, 63, 65, 66, 67, 69, 72, 75, 78]
/-- WordEach$Judge.isInForce(I)Z -/
def am_c38 : List mo := [(.aload_n 0, 0, 0, 0, vi 0), (.getfield 29, 4, 3, 0, vi 0), (.iload_n 1, 1, 0, 0, vi 0), (.ishr, 0, 0, 0, vi 0), (.iconst 1, 0, 0, 0, vi 1), (.iand, 0, 0, 0, vi 0), (.iconst 1, 0, 0, 0, vi 1), (.if_icmp .ne 7, 10, 0, 0, vi 0), (.iconst 1, 0, 0, 0, vi 1), (.goto 4, 11, 0, 0, vi 0), (.iconst 0, 0, 0, 0, vi 0), (.ireturn, 1, 0, 0, vi 0)]
def am_b38 : List Nat := [0, 1, 4, 5, 6, 7, 8, 9, 12, 13, 16, 17]
/-- WordEach$Judge.senselessFrom([II)I -/
def am_c39 : List mo := [(.ldc 58, 0, 0, 0, vi 32768), (.istore_n 3, 3, 0, 0, vi 0), (.iconst (-1), 0, 0, 0, vi (-1)), (.istore 4, 4, 0, 0, vi 0), (.iconst 0, 0, 0, 0, vi 0), (.istore 5, 5, 0, 0, vi 0), (.iload 5, 5, 0, 0, vi 0), (.iload_n 2, 2, 0, 0, vi 0), (.if_icmp .ge 67, 45, 0, 0, vi 0), (.iload 4, 4, 0, 0, vi 0), (.iconst (-1), 0, 0, 0, vi (-1)), (.if_icmp .ne 23, 23, 0, 0, vi 0), (.aload_n 0, 0, 0, 0, vi 0), (.getfield 22, 4, 2, 2, vi 0), (.getfield 44, 2, 1, 2, vi 0), (.aload_n 1, 1, 0, 0, vi 0), (.iload 5, 5, 0, 0, vi 0), (.iaload, 0, 0, 0, vi 0), (.iaload, 0, 0, 0, vi 0), (.iconst 5, 0, 0, 0, vi 5), (.if_icmp .eq 7, 23, 0, 0, vi 0), (.iload 5, 5, 0, 0, vi 0), (.istore 4, 4, 0, 0, vi 0), (.aload_n 0, 0, 0, 0, vi 0), (.iload_n 3, 3, 0, 0, vi 0), (.aload_n 1, 1, 0, 0, vi 0), (.iload 5, 5, 0, 0, vi 0), (.iaload, 0, 0, 0, vi 0), (.invokevirtual 79, 40, 3, 1, vi 0), (.istore_n 3, 3, 0, 0, vi 0), (.iload_n 3, 3, 0, 0, vi 0), (.iconst (-1), 0, 0, 0, vi (-1)), (.if_icmp .ne 6, 35, 0, 0, vi 0), (.iload 4, 4, 0, 0, vi 0), (.ireturn, 0, 0, 0, vi 0), (.aload_n 0, 0, 0, 0, vi 0), (.aload_n 1, 1, 0, 0, vi 0), (.iload 5, 5, 0, 0, vi 0), (.iaload, 0, 0, 0, vi 0), (.invokevirtual 96, 46, 2, 1, vi 0), (.ifCond .eq 6, 43, 0, 0, vi 0), (.iconst (-1), 0, 0, 0, vi (-1)), (.istore 4, 4, 0, 0, vi 0), (.iinc 5 1, 5, 0, 0, vi 1), (.goto (-67), 6, 0, 0, vi 0), (.aload_n 0, 0, 0, 0, vi 0), (.iload_n 3, 3, 0, 0, vi 0), (.invokevirtual 55, 43, 2, 1, vi 0), (.iconst (-1), 0, 0, 0, vi (-1)), (.if_icmp .eq 5, 52, 0, 0, vi 0), (.iconst (-1), 0, 0, 0, vi (-1)), (.ireturn, 0, 0, 0, vi 0), (.iload 4, 4, 0, 0, vi 0), (.iconst (-1), 0, 0, 0, vi (-1)), (.if_icmp .ne 7, 57, 0, 0, vi 0), (.iload_n 2, 2, 0, 0, vi 0), (.goto 5, 58, 0, 0, vi 0), (.iload 4, 4, 0, 0, vi 0), (.ireturn, 0, 0, 0, vi 0)]
def am_b39 : List Nat := [0, 2, 3, 4, 6, 7, 9, 11, 12, 15, 17, 18, 21, 22, 25, 28, 29, 31, 32, 33, 34, 37, 39, 41, 42, 43, 44, 46, 47, 50, 51, 52, 53, 56, 58, 59, 60, 61, 63, 64, 67, 70, 71, 73, 76, 79, 80, 81, 84, 85, 88, 89, 90, 92, 93, 96, 97, 100, 102]
/-- WordEach$Judge.hear(II)I -/
def am_c40 : List mo := [(.iload_n 1, 1, 0, 0, vi 0), (.iconst (-1), 0, 0, 0, vi (-1)), (.if_icmp .ne 5, 5, 0, 0, vi 0), (.iconst (-1), 0, 0, 0, vi (-1)), (.ireturn, 0, 0, 0, vi 0), (.aload_n 0, 0, 0, 0, vi 0), (.getfield 22, 4, 2, 2, vi 0), (.getfield 44, 2, 1, 2, vi 0), (.iload_n 2, 2, 0, 0, vi 0), (.iaload, 0, 0, 0, vi 0), (.istore_n 3, 3, 0, 0, vi 0), (.iload_n 3, 3, 0, 0, vi 0), (.iconst 5, 0, 0, 0, vi 5), (.if_icmp .ne 5, 16, 0, 0, vi 0), (.iload_n 1, 1, 0, 0, vi 0), (.ireturn, 0, 0, 0, vi 0), (.iload_n 3, 3, 0, 0, vi 0), (.iconst 2, 0, 0, 0, vi 2), (.if_icmp .ne 20, 29, 0, 0, vi 0), (.iload_n 1, 1, 0, 0, vi 0), (.invokestatic 47, 41, 1, 1, vi 0), (.iconst 1, 0, 0, 0, vi 1), (.if_icmp .ne 10, 27, 0, 0, vi 0), (.iload_n 1, 1, 0, 0, vi 0), (.ldc 50, 0, 0, 0, vi 524288), (.ixor, 0, 0, 0, vi 0), (.goto 4, 28, 0, 0, vi 0), (.iconst (-1), 0, 0, 0, vi (-1)), (.ireturn, 0, 0, 0, vi 0), (.iload_n 3, 3, 0, 0, vi 0), (.ifCond .eq 8, 34, 0, 0, vi 0), (.iload_n 3, 3, 0, 0, vi 0), (.iconst 1, 0, 0, 0, vi 1), (.if_icmp .ne 11, 40, 0, 0, vi 0), (.aload_n 0, 0, 0, 0, vi 0), (.iload_n 1, 1, 0, 0, vi 0), (.iload_n 2, 2, 0, 0, vi 0), (.iload_n 3, 3, 0, 0, vi 0), (.invokevirtual 51, 42, 4, 1, vi 0), (.ireturn, 0, 0, 0, vi 0), (.aload_n 0, 0, 0, 0, vi 0), (.iload_n 1, 1, 0, 0, vi 0), (.invokevirtual 55, 43, 2, 1, vi 0), (.istore 4, 4, 0, 0, vi 0), (.iload 4, 4, 0, 0, vi 0), (.iconst (-1), 0, 0, 0, vi (-1)), (.if_icmp .ne 7, 49, 0, 0, vi 0), (.iconst (-1), 0, 0, 0, vi (-1)), (.goto 16, 58, 0, 0, vi 0), (.ldc 58, 0, 0, 0, vi 32768), (.iload 4, 4, 0, 0, vi 0), (.bipush 20, 0, 0, 0, vi 20), (.ishl, 0, 0, 0, vi 0), (.ior, 0, 0, 0, vi 0), (.iload_n 3, 3, 0, 0, vi 0), (.bipush 23, 0, 0, 0, vi 23), (.ishl, 0, 0, 0, vi 0), (.ior, 0, 0, 0, vi 0), (.ireturn, 0, 0, 0, vi 0)]
def am_b40 : List Nat := [0, 1, 2, 5, 6, 7, 8, 11, 14, 15, 16, 17, 18, 19, 22, 23, 24, 25, 26, 29, 30, 33, 34, 37, 38, 40, 41, 44, 45, 46, 47, 50, 51, 52, 55, 56, 57, 58, 59, 62, 63, 64, 65, 68, 70, 72, 73, 76, 77, 80, 82, 84, 86, 87, 88, 89, 91, 92, 93]
/-- WordEach$Judge.patternIn(I)I -/
def am_c41 : List mo := [(.iload_n 0, 0, 0, 0, vi 0), (.bipush 15, 0, 0, 0, vi 15), (.ishr, 0, 0, 0, vi 0), (.bipush 15, 0, 0, 0, vi 15), (.iand, 0, 0, 0, vi 0), (.ireturn, 0, 0, 0, vi 0)]
def am_b41 : List Nat := [0, 1, 3, 4, 6, 7]
/-- WordEach$Judge.hearSlot(III)I -/
def am_c42 : List mo := [(.iload_n 1, 1, 0, 0, vi 0), (.bipush 15, 0, 0, 0, vi 15), (.ishr, 0, 0, 0, vi 0), (.bipush 15, 0, 0, 0, vi 15), (.iand, 0, 0, 0, vi 0), (.istore 4, 4, 0, 0, vi 0), (.iconst 2, 0, 0, 0, vi 2), (.iload 4, 4, 0, 0, vi 0), (.imul, 0, 0, 0, vi 0), (.iload_n 3, 3, 0, 0, vi 0), (.iadd, 0, 0, 0, vi 0), (.istore 5, 5, 0, 0, vi 0), (.iload 5, 5, 0, 0, vi 0), (.bipush 16, 0, 0, 0, vi 16), (.if_icmp .ge 13, 20, 0, 0, vi 0), (.aload_n 0, 0, 0, 0, vi 0), (.getfield 15, 4, 1, 2, vi 0), (.iload 5, 5, 0, 0, vi 0), (.baload, 0, 0, 0, vi 0), (.ifCond .ne 5, 22, 0, 0, vi 0), (.iconst (-1), 0, 0, 0, vi (-1)), (.ireturn, 0, 0, 0, vi 0), (.iload 4, 4, 0, 0, vi 0), (.iconst 2, 0, 0, 0, vi 2), (.if_icmp .ge 7, 27, 0, 0, vi 0), (.iconst 0, 0, 0, 0, vi 0), (.goto 14, 33, 0, 0, vi 0), (.iload 4, 4, 0, 0, vi 0), (.iconst 4, 0, 0, 0, vi 4), (.if_icmp .ge 7, 32, 0, 0, vi 0), (.iconst 1, 0, 0, 0, vi 1), (.goto 4, 33, 0, 0, vi 0), (.iconst 2, 0, 0, 0, vi 2), (.istore 6, 6, 0, 0, vi 0), (.iload_n 1, 1, 0, 0, vi 0), (.iload 5, 5, 0, 0, vi 0), (.iload 4, 4, 0, 0, vi 0), (.isub, 0, 0, 0, vi 0), (.bipush 15, 0, 0, 0, vi 15), (.ishl, 0, 0, 0, vi 0), (.iadd, 0, 0, 0, vi 0), (.iload_n 2, 2, 0, 0, vi 0), (.iconst 5, 0, 0, 0, vi 5), (.iload 6, 6, 0, 0, vi 0), (.imul, 0, 0, 0, vi 0), (.ishl, 0, 0, 0, vi 0), (.iadd, 0, 0, 0, vi 0), (.ireturn, 0, 0, 0, vi 0)]
def am_b42 : List Nat := [0, 1, 3, 4, 6, 7, 9, 10, 12, 13, 14, 15, 17, 19, 21, 24, 25, 28, 30, 31, 34, 35, 36, 38, 39, 42, 43, 46, 48, 49, 52, 53, 56, 57, 59, 60, 62, 64, 65, 67, 68, 69, 70, 71, 73, 74, 75, 76]
/-- WordEach$Judge.meaning(I)I -/
def am_c43 : List mo := [(.iload_n 1, 1, 0, 0, vi 0), (.iconst (-1), 0, 0, 0, vi (-1)), (.if_icmp .ne 7, 5, 0, 0, vi 0), (.iconst (-1), 0, 0, 0, vi (-1)), (.goto 8, 8, 0, 0, vi 0), (.aload_n 0, 0, 0, 0, vi 0), (.iload_n 1, 1, 0, 0, vi 0), (.invokevirtual 59, 44, 2, 1, vi 0), (.istore_n 2, 2, 0, 0, vi 0), (.iload_n 2, 2, 0, 0, vi 0), (.iconst (-1), 0, 0, 0, vi (-1)), (.if_icmp .ne 5, 14, 0, 0, vi 0), (.iconst (-1), 0, 0, 0, vi (-1)), (.ireturn, 0, 0, 0, vi 0), (.aload_n 0, 0, 0, 0, vi 0), (.iload_n 1, 1, 0, 0, vi 0), (.iload_n 2, 2, 0, 0, vi 0), (.iconst 0, 0, 0, 0, vi 0), (.invokevirtual 66, 45, 4, 1, vi 0), (.istore_n 3, 3, 0, 0, vi 0), (.aload_n 0, 0, 0, 0, vi 0), (.iload_n 1, 1, 0, 0, vi 0), (.iload_n 2, 2, 0, 0, vi 0), (.iconst 1, 0, 0, 0, vi 1), (.invokevirtual 66, 45, 4, 1, vi 0), (.istore 4, 4, 0, 0, vi 0), (.aload_n 0, 0, 0, 0, vi 0), (.getfield 22, 4, 2, 2, vi 0), (.iload_n 3, 3, 0, 0, vi 0), (.iload 4, 4, 0, 0, vi 0), (.aload_n 0, 0, 0, 0, vi 0), (.iload_n 1, 1, 0, 0, vi 0), (.iload_n 2, 2, 0, 0, vi 0), (.iconst 2, 0, 0, 0, vi 2), (.invokevirtual 66, 45, 4, 1, vi 0), (.invokevirtual 69, 22, 4, 1, vi 0), (.ifCond .eq 8, 39, 0, 0, vi 0), (.bipush 7, 0, 0, 0, vi 7), (.goto 4, 40, 0, 0, vi 0), (.iconst 0, 0, 0, 0, vi 0), (.istore 5, 5, 0, 0, vi 0), (.iload_n 3, 3, 0, 0, vi 0), (.aload_n 0, 0, 0, 0, vi 0), (.getfield 22, 4, 2, 2, vi 0), (.getfield 73, 2, 14, 0, vi 0), (.if_icmp .ne 23, 57, 0, 0, vi 0), (.iload 4, 4, 0, 0, vi 0), (.aload_n 0, 0, 0, 0, vi 0), (.getfield 22, 4, 2, 2, vi 0), (.getfield 76, 2, 15, 0, vi 0), (.if_icmp .ne 11, 57, 0, 0, vi 0), (.iload 5, 5, 0, 0, vi 0), (.iconst 1, 0, 0, 0, vi 1), (.iand, 0, 0, 0, vi 0), (.iconst 2, 0, 0, 0, vi 2), (.ior, 0, 0, 0, vi 0), (.istore 5, 5, 0, 0, vi 0), (.iload_n 1, 1, 0, 0, vi 0), (.ldc 50, 0, 0, 0, vi 524288), (.iand, 0, 0, 0, vi 0), (.ifCond .eq 10, 65, 0, 0, vi 0), (.iload 5, 5, 0, 0, vi 0), (.bipush 7, 0, 0, 0, vi 7), (.ixor, 0, 0, 0, vi 0), (.istore 5, 5, 0, 0, vi 0), (.iload_n 1, 1, 0, 0, vi 0), (.bipush 20, 0, 0, 0, vi 20), (.ishr, 0, 0, 0, vi 0), (.bipush 7, 0, 0, 0, vi 7), (.iand, 0, 0, 0, vi 0), (.istore 6, 6, 0, 0, vi 0), (.iload_n 1, 1, 0, 0, vi 0), (.bipush 23, 0, 0, 0, vi 23), (.ishr, 0, 0, 0, vi 0), (.bipush 7, 0, 0, 0, vi 7), (.iand, 0, 0, 0, vi 0), (.istore 7, 7, 0, 0, vi 0), (.iload 7, 7, 0, 0, vi 0), (.iconst 3, 0, 0, 0, vi 3), (.if_icmp .ne 9, 84, 0, 0, vi 0), (.iload 6, 6, 0, 0, vi 0), (.iload 5, 5, 0, 0, vi 0), (.iand, 0, 0, 0, vi 0), (.ireturn, 0, 0, 0, vi 0), (.iload 7, 7, 0, 0, vi 0), (.iconst 4, 0, 0, 0, vi 4), (.if_icmp .ne 11, 91, 0, 0, vi 0), (.iload 6, 6, 0, 0, vi 0), (.iload 5, 5, 0, 0, vi 0), (.ior, 0, 0, 0, vi 0), (.goto 5, 92, 0, 0, vi 0), (.iload 5, 5, 0, 0, vi 0), (.ireturn, 0, 0, 0, vi 0)]
def am_b43 : List Nat := [0, 1, 2, 5, 6, 9, 10, 11, 14, 15, 16, 17, 20, 21, 22, 23, 24, 25, 26, 29, 30, 31, 32, 33, 34, 37, 39, 40, 43, 44, 46, 47, 48, 49, 50, 53, 56, 59, 61, 64, 65, 67, 68, 69, 72, 75, 78, 80, 81, 84, 87, 90, 92, 93, 94, 95, 96, 98, 99, 101, 102, 105, 107, 109, 110, 112, 113, 115, 116, 118, 119, 121, 122, 124, 125, 127, 128, 130, 132, 133, 136, 138, 140, 141, 142, 144, 145, 148, 150, 152, 153, 156, 158]
/-- WordEach$Judge.lineOf(I)I -/
def am_c44 : List mo := [(.aload_n 0, 0, 0, 0, vi 0), (.getfield 11, 4, 0, 2, vi 0), (.iload_n 1, 1, 0, 0, vi 0), (.invokestatic 47, 41, 1, 1, vi 0), (.iaload, 0, 0, 0, vi 0), (.ireturn, 0, 0, 0, vi 0)]
def am_b44 : List Nat := [0, 1, 4, 5, 8, 9]
/-- WordEach$Judge.wordIn(III)I -/
def am_c45 : List mo := [(.iload_n 2, 2, 0, 0, vi 0), (.iconst (-1), 0, 0, 0, vi (-1)), (.if_icmp .ne 7, 5, 0, 0, vi 0), (.iconst (-1), 0, 0, 0, vi (-1)), (.goto 14, 12, 0, 0, vi 0), (.aload_n 0, 0, 0, 0, vi 0), (.getfield 22, 4, 2, 2, vi 0), (.getfield 62, 2, 4, 2, vi 0), (.iload_n 2, 2, 0, 0, vi 0), (.aaload, 0, 0, 0, vi 0), (.iload_n 3, 3, 0, 0, vi 0), (.iaload, 0, 0, 0, vi 0), (.istore 4, 4, 0, 0, vi 0), (.iload 4, 4, 0, 0, vi 0), (.iconst (-1), 0, 0, 0, vi (-1)), (.if_icmp .ne 7, 18, 0, 0, vi 0), (.iconst (-1), 0, 0, 0, vi (-1)), (.goto 12, 25, 0, 0, vi 0), (.iload_n 1, 1, 0, 0, vi 0), (.iconst 5, 0, 0, 0, vi 5), (.iload 4, 4, 0, 0, vi 0), (.imul, 0, 0, 0, vi 0), (.ishr, 0, 0, 0, vi 0), (.bipush 31, 0, 0, 0, vi 31), (.iand, 0, 0, 0, vi 0), (.ireturn, 0, 0, 0, vi 0)]
def am_b45 : List Nat := [0, 1, 2, 5, 6, 9, 10, 13, 16, 17, 18, 19, 20, 22, 24, 25, 28, 29, 32, 33, 34, 36, 37, 38, 40, 41]
/-- WordEach$Judge.binds(I)Z -/
def am_c46 : List mo := [(.aload_n 0, 0, 0, 0, vi 0), (.getfield 22, 4, 2, 2, vi 0), (.getfield 44, 2, 1, 2, vi 0), (.iload_n 1, 1, 0, 0, vi 0), (.iaload, 0, 0, 0, vi 0), (.iconst 3, 0, 0, 0, vi 3), (.if_icmp .eq 16, 14, 0, 0, vi 0), (.aload_n 0, 0, 0, 0, vi 0), (.getfield 22, 4, 2, 2, vi 0), (.getfield 44, 2, 1, 2, vi 0), (.iload_n 1, 1, 0, 0, vi 0), (.iaload, 0, 0, 0, vi 0), (.iconst 4, 0, 0, 0, vi 4), (.if_icmp .ne 7, 16, 0, 0, vi 0), (.iconst 1, 0, 0, 0, vi 1), (.goto 4, 17, 0, 0, vi 0), (.iconst 0, 0, 0, 0, vi 0), (.ireturn, 1, 0, 0, vi 0)]
def am_b46 : List Nat := [0, 1, 4, 7, 8, 9, 10, 13, 14, 17, 20, 21, 22, 23, 26, 27, 30, 31]
/-- WordEach$Judge.clauseTold([IIII)I -/
def am_c47 : List mo := [(.ldc 58, 0, 0, 0, vi 32768), (.istore 5, 5, 0, 0, vi 0), (.iconst 0, 0, 0, 0, vi 0), (.istore 6, 6, 0, 0, vi 0), (.iconst 0, 0, 0, 0, vi 0), (.istore 7, 7, 0, 0, vi 0), (.iconst 0, 0, 0, 0, vi 0), (.istore 8, 8, 0, 0, vi 0), (.iload 8, 8, 0, 0, vi 0), (.iload_n 2, 2, 0, 0, vi 0), (.if_icmp .ge 81, 53, 0, 0, vi 0), (.aload_n 0, 0, 0, 0, vi 0), (.aload_n 1, 1, 0, 0, vi 0), (.iload 8, 8, 0, 0, vi 0), (.iaload, 0, 0, 0, vi 0), (.invokevirtual 96, 46, 2, 1, vi 0), (.ifCond .eq 26, 29, 0, 0, vi 0), (.iload 6, 6, 0, 0, vi 0), (.iload_n 3, 3, 0, 0, vi 0), (.if_icmp .ne 14, 26, 0, 0, vi 0), (.aload_n 0, 0, 0, 0, vi 0), (.iload 5, 5, 0, 0, vi 0), (.iload 7, 7, 0, 0, vi 0), (.iload 4, 4, 0, 0, vi 0), (.invokevirtual 99, 48, 4, 1, vi 0), (.ireturn, 0, 0, 0, vi 0), (.iinc 6 1, 6, 0, 0, vi 1), (.iconst 0, 0, 0, 0, vi 0), (.istore 7, 7, 0, 0, vi 0), (.iload 7, 7, 0, 0, vi 0), (.aload_n 0, 0, 0, 0, vi 0), (.getfield 22, 4, 2, 2, vi 0), (.getfield 44, 2, 1, 2, vi 0), (.aload_n 1, 1, 0, 0, vi 0), (.iload 8, 8, 0, 0, vi 0), (.iaload, 0, 0, 0, vi 0), (.iaload, 0, 0, 0, vi 0), (.iconst 2, 0, 0, 0, vi 2), (.if_icmp .ne 7, 41, 0, 0, vi 0), (.iconst 1, 0, 0, 0, vi 1), (.goto 4, 42, 0, 0, vi 0), (.iconst 0, 0, 0, 0, vi 0), (.iadd, 0, 0, 0, vi 0), (.istore 7, 7, 0, 0, vi 0), (.aload_n 0, 0, 0, 0, vi 0), (.iload 5, 5, 0, 0, vi 0), (.aload_n 1, 1, 0, 0, vi 0), (.iload 8, 8, 0, 0, vi 0), (.iaload, 0, 0, 0, vi 0), (.invokevirtual 79, 40, 3, 1, vi 0), (.istore 5, 5, 0, 0, vi 0), (.iinc 8 1, 8, 0, 0, vi 1), (.goto (-81), 8, 0, 0, vi 0), (.iload 6, 6, 0, 0, vi 0), (.iload_n 3, 3, 0, 0, vi 0), (.if_icmp .ne 16, 62, 0, 0, vi 0), (.aload_n 0, 0, 0, 0, vi 0), (.iload 5, 5, 0, 0, vi 0), (.iload 7, 7, 0, 0, vi 0), (.iload 4, 4, 0, 0, vi 0), (.invokevirtual 99, 48, 4, 1, vi 0), (.goto 4, 63, 0, 0, vi 0), (.iconst (-1), 0, 0, 0, vi (-1)), (.ireturn, 0, 0, 0, vi 0)]
def am_b47 : List Nat := [0, 2, 4, 5, 7, 8, 10, 11, 13, 15, 16, 19, 20, 21, 23, 24, 27, 30, 32, 33, 36, 37, 39, 41, 43, 46, 47, 50, 51, 53, 55, 56, 59, 62, 63, 65, 66, 67, 68, 71, 72, 75, 76, 77, 79, 80, 82, 83, 85, 86, 89, 91, 94, 97, 99, 100, 103, 104, 106, 108, 110, 113, 116, 117]
/-- WordEach$Judge.toldOf(III)I -/
def am_c48 : List mo := [(.iload_n 3, 3, 0, 0, vi 0), (.tableswitch 67 0 5 #[39, 39, 39, 51, 53, 59], 0, 0, 0, vi 0), (.aload_n 0, 0, 0, 0, vi 0), (.iload_n 1, 1, 0, 0, vi 0), (.aload_n 0, 0, 0, 0, vi 0), (.iload_n 1, 1, 0, 0, vi 0), (.invokevirtual 59, 44, 2, 1, vi 0), (.iload_n 3, 3, 0, 0, vi 0), (.invokevirtual 66, 45, 4, 1, vi 0), (.ireturn, 0, 0, 0, vi 0), (.iload_n 2, 2, 0, 0, vi 0), (.ireturn, 0, 0, 0, vi 0), (.aload_n 0, 0, 0, 0, vi 0), (.iload_n 1, 1, 0, 0, vi 0), (.invokevirtual 59, 44, 2, 1, vi 0), (.ireturn, 0, 0, 0, vi 0), (.iload_n 1, 1, 0, 0, vi 0), (.bipush 23, 0, 0, 0, vi 23), (.ishr, 0, 0, 0, vi 0), (.bipush 7, 0, 0, 0, vi 7), (.iand, 0, 0, 0, vi 0), (.ireturn, 0, 0, 0, vi 0), (.iconst (-1), 0, 0, 0, vi (-1)), (.ireturn, 0, 0, 0, vi 0)]
def am_b48 : List Nat := [0, 1, 40, 41, 42, 43, 44, 47, 48, 51, 52, 53, 54, 55, 56, 59, 60, 61, 63, 64, 66, 67, 68, 69]
/-- WordEach$Judge.hearRow([III)I -/
def am_c49 : List mo := [(.ldc 58, 0, 0, 0, vi 32768), (.istore 4, 4, 0, 0, vi 0), (.iconst 0, 0, 0, 0, vi 0), (.istore 5, 5, 0, 0, vi 0), (.iload 5, 5, 0, 0, vi 0), (.iload_n 2, 2, 0, 0, vi 0), (.if_icmp .ge 27, 19, 0, 0, vi 0), (.iload 5, 5, 0, 0, vi 0), (.iload_n 3, 3, 0, 0, vi 0), (.if_icmp .eq 15, 17, 0, 0, vi 0), (.aload_n 0, 0, 0, 0, vi 0), (.iload 4, 4, 0, 0, vi 0), (.aload_n 1, 1, 0, 0, vi 0), (.iload 5, 5, 0, 0, vi 0), (.iaload, 0, 0, 0, vi 0), (.invokevirtual 79, 40, 3, 1, vi 0), (.istore 4, 4, 0, 0, vi 0), (.iinc 5 1, 5, 0, 0, vi 1), (.goto (-27), 4, 0, 0, vi 0), (.iload 4, 4, 0, 0, vi 0), (.ireturn, 0, 0, 0, vi 0)]
def am_b49 : List Nat := [0, 2, 4, 5, 7, 9, 10, 13, 15, 16, 19, 20, 22, 23, 25, 26, 29, 31, 34, 37, 39]
/-- WordEach$Judge.rule(I)I -/
def am_c50 : List mo := [(.aload_n 0, 0, 0, 0, vi 0), (.iload_n 1, 1, 0, 0, vi 0), (.invokevirtual 55, 43, 2, 1, vi 0), (.istore_n 2, 2, 0, 0, vi 0), (.iload_n 2, 2, 0, 0, vi 0), (.iconst (-1), 0, 0, 0, vi (-1)), (.if_icmp .ne 5, 9, 0, 0, vi 0), (.iconst 0, 0, 0, 0, vi 0), (.ireturn, 0, 0, 0, vi 0), (.iload_n 2, 2, 0, 0, vi 0), (.iconst 1, 0, 0, 0, vi 1), (.ishr, 0, 0, 0, vi 0), (.iconst 1, 0, 0, 0, vi 1), (.iand, 0, 0, 0, vi 0), (.istore_n 3, 3, 0, 0, vi 0), (.iload_n 2, 2, 0, 0, vi 0), (.iconst 2, 0, 0, 0, vi 2), (.ishr, 0, 0, 0, vi 0), (.iconst 1, 0, 0, 0, vi 1), (.iand, 0, 0, 0, vi 0), (.istore 4, 4, 0, 0, vi 0), (.iload_n 3, 3, 0, 0, vi 0), (.iload 4, 4, 0, 0, vi 0), (.if_icmp .ne 5, 26, 0, 0, vi 0), (.iconst 0, 0, 0, 0, vi 0), (.ireturn, 0, 0, 0, vi 0), (.iload_n 3, 3, 0, 0, vi 0), (.iconst 1, 0, 0, 0, vi 1), (.if_icmp .ne 7, 31, 0, 0, vi 0), (.iconst 1, 0, 0, 0, vi 1), (.goto 4, 32, 0, 0, vi 0), (.iconst 2, 0, 0, 0, vi 2), (.ireturn, 0, 0, 0, vi 0)]
def am_b50 : List Nat := [0, 1, 2, 5, 6, 7, 8, 11, 12, 13, 14, 15, 16, 17, 18, 19, 20, 21, 22, 23, 24, 26, 27, 29, 32, 33, 34, 35, 36, 39, 40, 43, 44]
/-- WordEach$Judge.ruleCase(I)I -/
def am_c51 : List mo := [(.aload_n 0, 0, 0, 0, vi 0), (.aload_n 0, 0, 0, 0, vi 0), (.aload_n 0, 0, 0, 0, vi 0), (.getfield 22, 4, 2, 2, vi 0), (.getfield 83, 2, 7, 2, vi 0), (.iload_n 1, 1, 0, 0, vi 0), (.aaload, 0, 0, 0, vi 0), (.aload_n 0, 0, 0, 0, vi 0), (.getfield 22, 4, 2, 2, vi 0), (.getfield 86, 2, 8, 2, vi 0), (.iload_n 1, 1, 0, 0, vi 0), (.iaload, 0, 0, 0, vi 0), (.iconst (-1), 0, 0, 0, vi (-1)), (.invokevirtual 89, 49, 4, 1, vi 0), (.invokevirtual 93, 50, 2, 1, vi 0), (.ireturn, 0, 0, 0, vi 0)]
def am_b51 : List Nat := [0, 1, 2, 3, 6, 9, 10, 11, 12, 15, 18, 19, 20, 21, 24, 27]
/-- WordEach$Judge.wordsMissing(I)I -/
def am_c52 : List mo := [(.aload_n 0, 0, 0, 0, vi 0), (.iload_n 1, 1, 0, 0, vi 0), (.invokevirtual 59, 44, 2, 1, vi 0), (.iconst (-1), 0, 0, 0, vi (-1)), (.if_icmp .eq 5, 7, 0, 0, vi 0), (.iconst 0, 0, 0, 0, vi 0), (.ireturn, 0, 0, 0, vi 0), (.iload_n 1, 1, 0, 0, vi 0), (.invokestatic 47, 41, 1, 1, vi 0), (.iconst 1, 0, 0, 0, vi 1), (.if_icmp .ne 7, 13, 0, 0, vi 0), (.iconst 2, 0, 0, 0, vi 2), (.goto 4, 14, 0, 0, vi 0), (.iconst 1, 0, 0, 0, vi 1), (.ireturn, 0, 0, 0, vi 0)]
def am_b52 : List Nat := [0, 1, 2, 5, 6, 9, 10, 11, 12, 15, 16, 19, 20, 23, 24]
/-- WordEach$Planner.forget()V -/
def am_c53 : List mo := [(.iconst 0, 0, 0, 0, vi 0), (.istore_n 1, 1, 0, 0, vi 0), (.iload_n 1, 1, 0, 0, vi 0), (.bipush 6, 0, 0, 0, vi 6), (.if_icmp .ge 17, 12, 0, 0, vi 0), (.aload_n 0, 0, 0, 0, vi 0), (.getfield 11, 5, 1, 2, vi 0), (.iload_n 1, 1, 0, 0, vi 0), (.bipush (-2), 0, 0, 0, vi (-2)), (.iastore, 0, 0, 0, vi 0), (.iinc 1 1, 1, 0, 0, vi 1), (.goto (-17), 2, 0, 0, vi 0), (.return_, 0, 0, 0, vi 0)]
def am_b53 : List Nat := [0, 1, 2, 3, 5, 8, 9, 12, 13, 15, 16, 19, 22]
/-- WordEach$Planner.tell(III)I -/
def am_c54 : List mo := [(.aload_n 0, 0, 0, 0, vi 0), (.iload_n 1, 1, 0, 0, vi 0), (.putfield 27, 5, 6, 0, vi 0), (.aload_n 0, 0, 0, 0, vi 0), (.iload_n 2, 2, 0, 0, vi 0), (.putfield 31, 5, 7, 0, vi 0), (.aload_n 0, 0, 0, 0, vi 0), (.iconst 3, 0, 0, 0, vi 3), (.iload_n 1, 1, 0, 0, vi 0), (.iconst 1, 0, 0, 0, vi 1), (.isub, 0, 0, 0, vi 0), (.imul, 0, 0, 0, vi 0), (.iload_n 2, 2, 0, 0, vi 0), (.iadd, 0, 0, 0, vi 0), (.iconst 1, 0, 0, 0, vi 1), (.iadd, 0, 0, 0, vi 0), (.putfield 34, 5, 4, 0, vi 0), (.aload_n 0, 0, 0, 0, vi 0), (.getfield 11, 5, 1, 2, vi 0), (.aload_n 0, 0, 0, 0, vi 0), (.getfield 34, 5, 4, 0, vi 0), (.iaload, 0, 0, 0, vi 0), (.bipush (-2), 0, 0, 0, vi (-2)), (.if_icmp .ne 16, 31, 0, 0, vi 0), (.aload_n 0, 0, 0, 0, vi 0), (.getfield 11, 5, 1, 2, vi 0), (.aload_n 0, 0, 0, 0, vi 0), (.getfield 34, 5, 4, 0, vi 0), (.aload_n 0, 0, 0, 0, vi 0), (.invokevirtual 37, 55, 1, 1, vi 0), (.iastore, 0, 0, 0, vi 0), (.iload_n 3, 3, 0, 0, vi 0), (.iconst (-1), 0, 0, 0, vi (-1)), (.if_icmp .ne 13, 40, 0, 0, vi 0), (.aload_n 0, 0, 0, 0, vi 0), (.getfield 11, 5, 1, 2, vi 0), (.aload_n 0, 0, 0, 0, vi 0), (.getfield 34, 5, 4, 0, vi 0), (.iaload, 0, 0, 0, vi 0), (.ireturn, 0, 0, 0, vi 0), (.iload_n 3, 3, 0, 0, vi 0), (.ifCond .lt 28, 57, 0, 0, vi 0), (.iload_n 3, 3, 0, 0, vi 0), (.aload_n 0, 0, 0, 0, vi 0), (.getfield 11, 5, 1, 2, vi 0), (.aload_n 0, 0, 0, 0, vi 0), (.getfield 34, 5, 4, 0, vi 0), (.iaload, 0, 0, 0, vi 0), (.if_icmp .ge 15, 57, 0, 0, vi 0), (.aload_n 0, 0, 0, 0, vi 0), (.getfield 17, 5, 2, 2, vi 0), (.aload_n 0, 0, 0, 0, vi 0), (.getfield 34, 5, 4, 0, vi 0), (.aaload, 0, 0, 0, vi 0), (.iload_n 3, 3, 0, 0, vi 0), (.iaload, 0, 0, 0, vi 0), (.ireturn, 0, 0, 0, vi 0), (.iload_n 3, 3, 0, 0, vi 0), (.bipush 10, 0, 0, 0, vi 10), (.if_icmp .lt 36, 79, 0, 0, vi 0), (.iload_n 3, 3, 0, 0, vi 0), (.bipush 10, 0, 0, 0, vi 10), (.aload_n 0, 0, 0, 0, vi 0), (.getfield 11, 5, 1, 2, vi 0), (.aload_n 0, 0, 0, 0, vi 0), (.getfield 34, 5, 4, 0, vi 0), (.iaload, 0, 0, 0, vi 0), (.iadd, 0, 0, 0, vi 0), (.if_icmp .ge 20, 79, 0, 0, vi 0), (.aload_n 0, 0, 0, 0, vi 0), (.getfield 20, 5, 3, 2, vi 0), (.aload_n 0, 0, 0, 0, vi 0), (.getfield 34, 5, 4, 0, vi 0), (.aaload, 0, 0, 0, vi 0), (.iload_n 3, 3, 0, 0, vi 0), (.bipush 10, 0, 0, 0, vi 10), (.isub, 0, 0, 0, vi 0), (.iaload, 0, 0, 0, vi 0), (.goto 4, 80, 0, 0, vi 0), (.iconst (-1), 0, 0, 0, vi (-1)), (.ireturn, 0, 0, 0, vi 0)]
def am_b54 : List Nat := [0, 1, 2, 5, 6, 7, 10, 11, 12, 13, 14, 15, 16, 17, 18, 19, 20, 23, 24, 27, 28, 31, 32, 34, 37, 38, 41, 42, 45, 46, 49, 50, 51, 52, 55, 56, 59, 60, 63, 64, 65, 66, 69, 70, 71, 74, 75, 78, 79, 82, 83, 86, 87, 90, 91, 92, 93, 94, 95, 97, 100, 101, 103, 104, 107, 108, 111, 112, 113, 116, 117, 120, 121, 124, 125, 126, 128, 129, 130, 133, 134]
/-- WordEach$Planner.fewest()I -/
def am_c55 : List mo := [(.aload_n 0, 0, 0, 0, vi 0), (.iconst 1, 0, 0, 0, vi 1), (.putfield 41, 5, 5, 0, vi 0), (.aload_n 0, 0, 0, 0, vi 0), (.getfield 41, 5, 5, 0, vi 0), (.iconst 4, 0, 0, 0, vi 4), (.if_icmp .gt 32, 23, 0, 0, vi 0), (.aload_n 0, 0, 0, 0, vi 0), (.iconst 0, 0, 0, 0, vi 0), (.ldc 46, 0, 0, 0, vi 32768), (.iconst 0, 0, 0, 0, vi 0), (.invokevirtual 47, 56, 4, 1, vi 0), (.ifCond .eq 8, 16, 0, 0, vi 0), (.aload_n 0, 0, 0, 0, vi 0), (.getfield 41, 5, 5, 0, vi 0), (.ireturn, 0, 0, 0, vi 0), (.aload_n 0, 0, 0, 0, vi 0), (.dup, 0, 0, 0, vi 0), (.getfield 41, 5, 5, 0, vi 0), (.iconst 1, 0, 0, 0, vi 1), (.iadd, 0, 0, 0, vi 0), (.putfield 41, 5, 5, 0, vi 0), (.goto (-34), 3, 0, 0, vi 0), (.iconst (-1), 0, 0, 0, vi (-1)), (.ireturn, 0, 0, 0, vi 0)]
def am_b55 : List Nat := [0, 1, 2, 5, 6, 9, 10, 13, 14, 15, 17, 18, 21, 24, 25, 28, 29, 30, 31, 34, 35, 36, 39, 42, 43]
/-- WordEach$Planner.seek(III)Z -/
def am_c56 : List mo := [(.iload_n 1, 1, 0, 0, vi 0), (.aload_n 0, 0, 0, 0, vi 0), (.getfield 41, 5, 5, 0, vi 0), (.if_icmp .lt 24, 15, 0, 0, vi 0), (.aload_n 0, 0, 0, 0, vi 0), (.getfield 23, 5, 0, 2, vi 0), (.iload_n 2, 2, 0, 0, vi 0), (.invokevirtual 51, 50, 2, 1, vi 0), (.aload_n 0, 0, 0, 0, vi 0), (.getfield 27, 5, 6, 0, vi 0), (.if_icmp .ne 7, 13, 0, 0, vi 0), (.iconst 1, 0, 0, 0, vi 1), (.goto 4, 14, 0, 0, vi 0), (.iconst 0, 0, 0, 0, vi 0), (.ireturn, 1, 0, 0, vi 0), (.aload_n 0, 0, 0, 0, vi 0), (.getfield 23, 5, 0, 2, vi 0), (.iload_n 2, 2, 0, 0, vi 0), (.invokevirtual 55, 52, 2, 1, vi 0), (.aload_n 0, 0, 0, 0, vi 0), (.getfield 41, 5, 5, 0, vi 0), (.iload_n 1, 1, 0, 0, vi 0), (.isub, 0, 0, 0, vi 0), (.if_icmp .le 5, 26, 0, 0, vi 0), (.iconst 0, 0, 0, 0, vi 0), (.ireturn, 1, 0, 0, vi 0), (.iconst 0, 0, 0, 0, vi 0), (.istore 4, 4, 0, 0, vi 0), (.iload 4, 4, 0, 0, vi 0), (.aload_n 0, 0, 0, 0, vi 0), (.getfield 23, 5, 0, 2, vi 0), (.getfield 58, 4, 2, 2, vi 0), (.getfield 62, 2, 12, 0, vi 0), (.if_icmp .ge 79, 76, 0, 0, vi 0), (.iload_n 3, 3, 0, 0, vi 0), (.iload 4, 4, 0, 0, vi 0), (.ishr, 0, 0, 0, vi 0), (.iconst 1, 0, 0, 0, vi 1), (.iand, 0, 0, 0, vi 0), (.ifCond .ne 64, 74, 0, 0, vi 0), (.aload_n 0, 0, 0, 0, vi 0), (.getfield 31, 5, 7, 0, vi 0), (.iconst (-1), 0, 0, 0, vi (-1)), (.if_icmp .eq 26, 54, 0, 0, vi 0), (.aload_n 0, 0, 0, 0, vi 0), (.getfield 31, 5, 7, 0, vi 0), (.aload_n 0, 0, 0, 0, vi 0), (.getfield 23, 5, 0, 2, vi 0), (.getfield 58, 4, 2, 2, vi 0), (.getfield 66, 2, 6, 2, vi 0), (.iload 4, 4, 0, 0, vi 0), (.aaload, 0, 0, 0, vi 0), (.getfield 70, 10, 4, 0, vi 0), (.if_icmp .ne 33, 74, 0, 0, vi 0), (.aload_n 0, 0, 0, 0, vi 0), (.getfield 17, 5, 2, 2, vi 0), (.aload_n 0, 0, 0, 0, vi 0), (.getfield 34, 5, 4, 0, vi 0), (.aaload, 0, 0, 0, vi 0), (.iload_n 1, 1, 0, 0, vi 0), (.iload 4, 4, 0, 0, vi 0), (.iastore, 0, 0, 0, vi 0), (.aload_n 0, 0, 0, 0, vi 0), (.iload_n 1, 1, 0, 0, vi 0), (.iload_n 2, 2, 0, 0, vi 0), (.iload_n 3, 3, 0, 0, vi 0), (.iconst 1, 0, 0, 0, vi 1), (.iload 4, 4, 0, 0, vi 0), (.ishl, 0, 0, 0, vi 0), (.ior, 0, 0, 0, vi 0), (.invokevirtual 73, 57, 4, 1, vi 0), (.ifCond .eq 5, 74, 0, 0, vi 0), (.iconst 1, 0, 0, 0, vi 1), (.ireturn, 1, 0, 0, vi 0), (.iinc 4 1, 4, 0, 0, vi 1), (.goto (-88), 28, 0, 0, vi 0), (.iconst 0, 0, 0, 0, vi 0), (.ireturn, 1, 0, 0, vi 0)]
def am_b56 : List Nat := [0, 1, 2, 5, 8, 9, 12, 13, 16, 17, 20, 23, 24, 27, 28, 29, 30, 33, 34, 37, 38, 41, 42, 43, 46, 47, 48, 49, 51, 53, 54, 57, 60, 63, 66, 67, 69, 70, 71, 72, 75, 76, 79, 80, 83, 84, 87, 88, 91, 94, 97, 99, 100, 103, 106, 107, 110, 111, 114, 115, 116, 118, 119, 120, 121, 122, 123, 124, 126, 127, 128, 131, 134, 135, 136, 139, 142, 143]
/-- WordEach$Planner.seekSaying(III)Z -/
def am_c57 : List mo := [(.aload_n 0, 0, 0, 0, vi 0), (.getfield 23, 5, 0, 2, vi 0), (.getfield 58, 4, 2, 2, vi 0), (.getfield 66, 2, 6, 2, vi 0), (.aload_n 0, 0, 0, 0, vi 0), (.getfield 17, 5, 2, 2, vi 0), (.aload_n 0, 0, 0, 0, vi 0), (.getfield 34, 5, 4, 0, vi 0), (.aaload, 0, 0, 0, vi 0), (.iload_n 1, 1, 0, 0, vi 0), (.iaload, 0, 0, 0, vi 0), (.aaload, 0, 0, 0, vi 0), (.astore 4, 4, 0, 0, vi 0), (.iconst 0, 0, 0, 0, vi 0), (.istore 5, 5, 0, 0, vi 0), (.iload 5, 5, 0, 0, vi 0), (.aload 4, 4, 0, 0, vi 0), (.getfield 76, 10, 1, 0, vi 0), (.if_icmp .ge 67, 54, 0, 0, vi 0), (.aload_n 0, 0, 0, 0, vi 0), (.getfield 23, 5, 0, 2, vi 0), (.iload_n 2, 2, 0, 0, vi 0), (.aload 4, 4, 0, 0, vi 0), (.getfield 79, 10, 0, 2, vi 0), (.iload 5, 5, 0, 0, vi 0), (.iaload, 0, 0, 0, vi 0), (.invokevirtual 82, 40, 3, 1, vi 0), (.istore 6, 6, 0, 0, vi 0), (.aload_n 0, 0, 0, 0, vi 0), (.getfield 20, 5, 3, 2, vi 0), (.aload_n 0, 0, 0, 0, vi 0), (.getfield 34, 5, 4, 0, vi 0), (.aaload, 0, 0, 0, vi 0), (.iload_n 1, 1, 0, 0, vi 0), (.iload 5, 5, 0, 0, vi 0), (.iastore, 0, 0, 0, vi 0), (.iload 6, 6, 0, 0, vi 0), (.iconst (-1), 0, 0, 0, vi (-1)), (.if_icmp .eq 24, 52, 0, 0, vi 0), (.iload 6, 6, 0, 0, vi 0), (.iload_n 2, 2, 0, 0, vi 0), (.if_icmp .eq 18, 52, 0, 0, vi 0), (.aload_n 0, 0, 0, 0, vi 0), (.iload_n 1, 1, 0, 0, vi 0), (.iconst 1, 0, 0, 0, vi 1), (.iadd, 0, 0, 0, vi 0), (.iload 6, 6, 0, 0, vi 0), (.iload_n 3, 3, 0, 0, vi 0), (.invokevirtual 47, 56, 4, 1, vi 0), (.ifCond .eq 5, 52, 0, 0, vi 0), (.iconst 1, 0, 0, 0, vi 1), (.ireturn, 1, 0, 0, vi 0), (.iinc 5 1, 5, 0, 0, vi 1), (.goto (-71), 15, 0, 0, vi 0), (.iconst 0, 0, 0, 0, vi 0), (.ireturn, 1, 0, 0, vi 0)]
def am_b57 : List Nat := [0, 1, 4, 7, 10, 11, 14, 15, 18, 19, 20, 21, 22, 24, 25, 27, 29, 31, 34, 37, 38, 41, 42, 44, 47, 49, 50, 53, 55, 56, 59, 60, 63, 64, 65, 67, 68, 70, 71, 74, 76, 77, 80, 81, 82, 83, 84, 86, 87, 90, 93, 94, 95, 98, 101, 102]
/-- WordEach$Question.answer([I)J -/
def am_c58 : List mo := [(.aload_n 0, 0, 0, 0, vi 0), (.getfield 15, 6, 0, 2, vi 0), (.invokevirtual 23, 91, 1, 0, vi 0), (.aload_n 0, 0, 0, 0, vi 0), (.getfield 15, 6, 0, 2, vi 0), (.ldc 28, 0, 0, 0, vr 200 1), (.invokevirtual 30, 94, 2, 1, vi 0), (.istore_n 2, 2, 0, 0, vi 0), (.aload_n 0, 0, 0, 0, vi 0), (.iconst (-1), 0, 0, 0, vi (-1)), (.putfield 34, 6, 3, 0, vi 0), (.aload_n 0, 0, 0, 0, vi 0), (.iconst 0, 0, 0, 0, vi 0), (.putfield 38, 6, 4, 0, vi 0), (.aload_n 0, 0, 0, 0, vi 0), (.invokevirtual 41, 59, 1, 1, vi 0), (.pop, 0, 0, 0, vi 0), (.aload_n 0, 0, 0, 0, vi 0), (.getfield 15, 6, 0, 2, vi 0), (.getfield 45, 9, 5, 0, vi 0), (.ifCond .eq 7, 23, 0, 0, vi 0), (.ldc2_w 48, 0, 0, 0, vl (-1000000000000000)), (.lreturn, 0, 0, 0, vi 0), (.aload_n 0, 0, 0, 0, vi 0), (.getfield 19, 6, 1, 2, vi 0), (.getfield 50, 4, 2, 2, vi 0), (.getfield 56, 2, 13, 0, vi 0), (.istore_n 3, 3, 0, 0, vi 0), (.aload_n 0, 0, 0, 0, vi 0), (.iconst 0, 0, 0, 0, vi 0), (.putfield 34, 6, 3, 0, vi 0), (.aload_n 0, 0, 0, 0, vi 0), (.getfield 34, 6, 3, 0, vi 0), (.iload_n 3, 3, 0, 0, vi 0), (.if_icmp .ge 46, 58, 0, 0, vi 0), (.aload_n 0, 0, 0, 0, vi 0), (.aload_n 1, 1, 0, 0, vi 0), (.aload_n 0, 0, 0, 0, vi 0), (.getfield 34, 6, 3, 0, vi 0), (.iaload, 0, 0, 0, vi 0), (.putfield 38, 6, 4, 0, vi 0), (.aload_n 0, 0, 0, 0, vi 0), (.getfield 15, 6, 0, 2, vi 0), (.invokevirtual 23, 91, 1, 0, vi 0), (.aload_n 0, 0, 0, 0, vi 0), (.getfield 9, 6, 2, 2, vi 0), (.aload_n 0, 0, 0, 0, vi 0), (.getfield 34, 6, 3, 0, vi 0), (.aload_n 0, 0, 0, 0, vi 0), (.invokevirtual 41, 59, 1, 1, vi 0), (.iastore, 0, 0, 0, vi 0), (.aload_n 0, 0, 0, 0, vi 0), (.dup, 0, 0, 0, vi 0), (.getfield 34, 6, 3, 0, vi 0), (.iconst 1, 0, 0, 0, vi 1), (.iadd, 0, 0, 0, vi 0), (.putfield 34, 6, 3, 0, vi 0), (.goto (-48), 31, 0, 0, vi 0), (.iload_n 2, 2, 0, 0, vi 0), (.iconst 2, 0, 0, 0, vi 2), (.if_icmp .gt 12, 66, 0, 0, vi 0), (.aload_n 0, 0, 0, 0, vi 0), (.iload_n 2, 2, 0, 0, vi 0), (.iload_n 3, 3, 0, 0, vi 0), (.invokevirtual 61, 75, 3, 2, vi 0), (.goto 9, 70, 0, 0, vi 0), (.aload_n 0, 0, 0, 0, vi 0), (.iload_n 2, 2, 0, 0, vi 0), (.iload_n 3, 3, 0, 0, vi 0), (.invokevirtual 65, 76, 3, 2, vi 0), (.lreturn, 0, 0, 0, vi 0)]
def am_b58 : List Nat := [0, 1, 4, 7, 8, 11, 13, 16, 17, 18, 19, 22, 23, 24, 27, 28, 31, 32, 33, 36, 39, 42, 45, 46, 47, 50, 53, 56, 57, 58, 59, 62, 63, 66, 67, 70, 71, 72, 73, 76, 77, 80, 81, 84, 87, 88, 91, 92, 95, 96, 99, 100, 101, 102, 105, 106, 107, 110, 113, 114, 115, 118, 119, 120, 121, 124, 127, 128, 129, 130, 133]
/-- WordEach$Question.readWhole()I -/
def am_c59 : List mo := [(.aload_n 0, 0, 0, 0, vi 0), (.iconst 0, 0, 0, 0, vi 0), (.putfield 81, 6, 5, 0, vi 0), (.aload_n 0, 0, 0, 0, vi 0), (.getfield 15, 6, 0, 2, vi 0), (.ldc 28, 0, 0, 0, vr 200 1), (.invokevirtual 30, 94, 2, 1, vi 0), (.istore_n 1, 1, 0, 0, vi 0), (.iload_n 1, 1, 0, 0, vi 0), (.ifCond .lt 8, 13, 0, 0, vi 0), (.iload_n 1, 1, 0, 0, vi 0), (.iconst 5, 0, 0, 0, vi 5), (.if_icmp .le 20, 22, 0, 0, vi 0), (.aload_n 0, 0, 0, 0, vi 0), (.getfield 15, 6, 0, 2, vi 0), (.iconst 1, 0, 0, 0, vi 1), (.aload_n 0, 0, 0, 0, vi 0), (.getfield 15, 6, 0, 2, vi 0), (.getfield 84, 9, 2, 0, vi 0), (.invokevirtual 87, 95, 3, 0, vi 0), (.iconst 0, 0, 0, 0, vi 0), (.ireturn, 0, 0, 0, vi 0), (.aload_n 0, 0, 0, 0, vi 0), (.getfield 15, 6, 0, 2, vi 0), (.invokevirtual 91, 92, 1, 0, vi 0), (.iload_n 1, 1, 0, 0, vi 0), (.iconst 2, 0, 0, 0, vi 2), (.if_icmp .gt 10, 31, 0, 0, vi 0), (.aload_n 0, 0, 0, 0, vi 0), (.invokevirtual 94, 60, 1, 1, vi 0), (.goto 7, 33, 0, 0, vi 0), (.aload_n 0, 0, 0, 0, vi 0), (.invokevirtual 97, 65, 1, 1, vi 0), (.istore_n 2, 2, 0, 0, vi 0), (.aload_n 0, 0, 0, 0, vi 0), (.getfield 15, 6, 0, 2, vi 0), (.getfield 100, 9, 4, 0, vi 0), (.iconst (-1), 0, 0, 0, vi (-1)), (.if_icmp .eq 18, 46, 0, 0, vi 0), (.aload_n 0, 0, 0, 0, vi 0), (.getfield 15, 6, 0, 2, vi 0), (.iconst 1, 0, 0, 0, vi 1), (.aload_n 0, 0, 0, 0, vi 0), (.getfield 15, 6, 0, 2, vi 0), (.getfield 84, 9, 2, 0, vi 0), (.invokevirtual 87, 95, 3, 0, vi 0), (.iload_n 2, 2, 0, 0, vi 0), (.ireturn, 0, 0, 0, vi 0)]
def am_b59 : List Nat := [0, 1, 2, 5, 6, 9, 11, 14, 15, 16, 19, 20, 21, 24, 25, 28, 29, 30, 33, 36, 39, 40, 41, 42, 45, 48, 49, 50, 53, 54, 57, 60, 61, 64, 65, 66, 69, 72, 73, 76, 77, 80, 81, 82, 85, 88, 91, 92]
/-- WordEach$Question.readTest()I -/
def am_c60 : List mo := [(.aload_n 0, 0, 0, 0, vi 0), (.invokevirtual 103, 61, 1, 1, vi 0), (.istore_n 1, 1, 0, 0, vi 0), (.iconst 0, 0, 0, 0, vi 0), (.istore_n 2, 2, 0, 0, vi 0), (.iload_n 2, 2, 0, 0, vi 0), (.sipush 1600, 0, 0, 0, vi 1600), (.if_icmp .ge 47, 28, 0, 0, vi 0), (.aload_n 0, 0, 0, 0, vi 0), (.getfield 15, 6, 0, 2, vi 0), (.getfield 45, 9, 5, 0, vi 0), (.ifCond .ne 37, 28, 0, 0, vi 0), (.aload_n 0, 0, 0, 0, vi 0), (.getfield 15, 6, 0, 2, vi 0), (.ldc 28, 0, 0, 0, vr 200 1), (.invokevirtual 30, 94, 2, 1, vi 0), (.bipush 6, 0, 0, 0, vi 6), (.if_icmp .ne 23, 28, 0, 0, vi 0), (.aload_n 0, 0, 0, 0, vi 0), (.getfield 15, 6, 0, 2, vi 0), (.invokevirtual 91, 92, 1, 0, vi 0), (.iload_n 1, 1, 0, 0, vi 0), (.aload_n 0, 0, 0, 0, vi 0), (.invokevirtual 103, 61, 1, 1, vi 0), (.ior, 0, 0, 0, vi 0), (.istore_n 1, 1, 0, 0, vi 0), (.iinc 2 1, 2, 0, 0, vi 1), (.goto (-48), 5, 0, 0, vi 0), (.iload_n 1, 1, 0, 0, vi 0), (.ireturn, 0, 0, 0, vi 0)]
def am_b60 : List Nat := [0, 1, 4, 5, 6, 7, 8, 11, 14, 15, 18, 21, 24, 25, 28, 30, 33, 35, 38, 39, 42, 45, 46, 47, 50, 51, 52, 55, 58, 59]
/-- WordEach$Question.readBoth()I -/
def am_c61 : List mo := [(.aload_n 0, 0, 0, 0, vi 0), (.invokevirtual 106, 62, 1, 1, vi 0), (.istore_n 1, 1, 0, 0, vi 0), (.iconst 0, 0, 0, 0, vi 0), (.istore_n 2, 2, 0, 0, vi 0), (.iload_n 2, 2, 0, 0, vi 0), (.sipush 1600, 0, 0, 0, vi 1600), (.if_icmp .ge 47, 28, 0, 0, vi 0), (.aload_n 0, 0, 0, 0, vi 0), (.getfield 15, 6, 0, 2, vi 0), (.getfield 45, 9, 5, 0, vi 0), (.ifCond .ne 37, 28, 0, 0, vi 0), (.aload_n 0, 0, 0, 0, vi 0), (.getfield 15, 6, 0, 2, vi 0), (.ldc 28, 0, 0, 0, vr 200 1), (.invokevirtual 30, 94, 2, 1, vi 0), (.bipush 7, 0, 0, 0, vi 7), (.if_icmp .ne 23, 28, 0, 0, vi 0), (.aload_n 0, 0, 0, 0, vi 0), (.getfield 15, 6, 0, 2, vi 0), (.invokevirtual 91, 92, 1, 0, vi 0), (.iload_n 1, 1, 0, 0, vi 0), (.aload_n 0, 0, 0, 0, vi 0), (.invokevirtual 106, 62, 1, 1, vi 0), (.iand, 0, 0, 0, vi 0), (.istore_n 1, 1, 0, 0, vi 0), (.iinc 2 1, 2, 0, 0, vi 1), (.goto (-48), 5, 0, 0, vi 0), (.iload_n 1, 1, 0, 0, vi 0), (.ireturn, 0, 0, 0, vi 0)]
def am_b61 : List Nat := [0, 1, 4, 5, 6, 7, 8, 11, 14, 15, 18, 21, 24, 25, 28, 30, 33, 35, 38, 39, 42, 45, 46, 47, 50, 51, 52, 55, 58, 59]
/-- WordEach$Question.readFact()I -/
def am_c62 : List mo := [(.aload_n 0, 0, 0, 0, vi 0), (.getfield 15, 6, 0, 2, vi 0), (.ldc 28, 0, 0, 0, vr 200 1), (.invokevirtual 30, 94, 2, 1, vi 0), (.istore_n 1, 1, 0, 0, vi 0), (.iload_n 1, 1, 0, 0, vi 0), (.bipush 9, 0, 0, 0, vi 9), (.if_icmp .ne 12, 13, 0, 0, vi 0), (.aload_n 0, 0, 0, 0, vi 0), (.getfield 15, 6, 0, 2, vi 0), (.invokevirtual 91, 92, 1, 0, vi 0), (.iconst 1, 0, 0, 0, vi 1), (.ireturn, 0, 0, 0, vi 0), (.iload_n 1, 1, 0, 0, vi 0), (.bipush 8, 0, 0, 0, vi 8), (.if_icmp .eq 15, 21, 0, 0, vi 0), (.aload_n 0, 0, 0, 0, vi 0), (.getfield 15, 6, 0, 2, vi 0), (.getfield 100, 9, 4, 0, vi 0), (.bipush 91, 0, 0, 0, vi 91), (.if_icmp .ne 19, 30, 0, 0, vi 0), (.aload_n 0, 0, 0, 0, vi 0), (.iload_n 1, 1, 0, 0, vi 0), (.bipush 8, 0, 0, 0, vi 8), (.if_icmp .ne 7, 27, 0, 0, vi 0), (.iconst 1, 0, 0, 0, vi 1), (.goto 4, 28, 0, 0, vi 0), (.iconst 0, 0, 0, 0, vi 0), (.invokevirtual 109, 63, 2, 1, vi 0), (.ireturn, 0, 0, 0, vi 0), (.aload_n 0, 0, 0, 0, vi 0), (.invokevirtual 97, 65, 1, 1, vi 0), (.istore_n 2, 2, 0, 0, vi 0), (.aload_n 0, 0, 0, 0, vi 0), (.getfield 15, 6, 0, 2, vi 0), (.getfield 100, 9, 4, 0, vi 0), (.istore_n 3, 3, 0, 0, vi 0), (.iload_n 3, 3, 0, 0, vi 0), (.bipush 60, 0, 0, 0, vi 60), (.if_icmp .eq 32, 55, 0, 0, vi 0), (.iload_n 3, 3, 0, 0, vi 0), (.bipush 62, 0, 0, 0, vi 62), (.if_icmp .eq 26, 55, 0, 0, vi 0), (.iload_n 3, 3, 0, 0, vi 0), (.bipush 61, 0, 0, 0, vi 61), (.if_icmp .eq 20, 55, 0, 0, vi 0), (.aload_n 0, 0, 0, 0, vi 0), (.getfield 15, 6, 0, 2, vi 0), (.iconst 1, 0, 0, 0, vi 1), (.aload_n 0, 0, 0, 0, vi 0), (.getfield 15, 6, 0, 2, vi 0), (.getfield 84, 9, 2, 0, vi 0), (.invokevirtual 87, 95, 3, 0, vi 0), (.iconst 0, 0, 0, 0, vi 0), (.ireturn, 0, 0, 0, vi 0), (.aload_n 0, 0, 0, 0, vi 0), (.getfield 15, 6, 0, 2, vi 0), (.iload_n 3, 3, 0, 0, vi 0), (.invokevirtual 113, 98, 2, 1, vi 0), (.pop, 0, 0, 0, vi 0), (.aload_n 0, 0, 0, 0, vi 0), (.invokevirtual 97, 65, 1, 1, vi 0), (.istore 4, 4, 0, 0, vi 0), (.iload_n 3, 3, 0, 0, vi 0), (.bipush 60, 0, 0, 0, vi 60), (.if_icmp .ne 17, 73, 0, 0, vi 0), (.iload_n 2, 2, 0, 0, vi 0), (.iload 4, 4, 0, 0, vi 0), (.if_icmp .ge 7, 71, 0, 0, vi 0), (.iconst 1, 0, 0, 0, vi 1), (.goto 38, 89, 0, 0, vi 0), (.iconst 0, 0, 0, 0, vi 0), (.goto 34, 89, 0, 0, vi 0), (.iload_n 3, 3, 0, 0, vi 0), (.bipush 62, 0, 0, 0, vi 62), (.if_icmp .ne 17, 83, 0, 0, vi 0), (.iload_n 2, 2, 0, 0, vi 0), (.iload 4, 4, 0, 0, vi 0), (.if_icmp .le 7, 81, 0, 0, vi 0), (.iconst 1, 0, 0, 0, vi 1), (.goto 18, 89, 0, 0, vi 0), (.iconst 0, 0, 0, 0, vi 0), (.goto 14, 89, 0, 0, vi 0), (.iload_n 2, 2, 0, 0, vi 0), (.iload 4, 4, 0, 0, vi 0), (.if_icmp .ne 7, 88, 0, 0, vi 0), (.iconst 1, 0, 0, 0, vi 1), (.goto 4, 89, 0, 0, vi 0), (.iconst 0, 0, 0, 0, vi 0), (.istore 5, 5, 0, 0, vi 0), (.iload 5, 5, 0, 0, vi 0), (.ifCond .eq 7, 94, 0, 0, vi 0), (.iconst 1, 0, 0, 0, vi 1), (.goto 4, 95, 0, 0, vi 0), (.iconst 0, 0, 0, 0, vi 0), (.ireturn, 0, 0, 0, vi 0)]
def am_b62 : List Nat := [0, 1, 4, 6, 9, 10, 11, 13, 16, 17, 20, 23, 24, 25, 26, 28, 31, 32, 35, 38, 40, 43, 44, 45, 47, 50, 51, 54, 55, 58, 59, 60, 63, 64, 65, 68, 71, 72, 73, 75, 78, 79, 81, 84, 85, 87, 90, 91, 94, 95, 96, 99, 102, 105, 106, 107, 108, 111, 112, 115, 116, 117, 120, 122, 123, 125, 128, 129, 131, 134, 135, 138, 139, 142, 143, 145, 148, 149, 151, 154, 155, 158, 159, 162, 163, 165, 168, 169, 172, 173, 175, 177, 180, 181, 184, 185]
/-- WordEach$Question.readOpened(Z)I -/
def am_c63 : List mo := [(.aload_n 0, 0, 0, 0, vi 0), (.invokevirtual 117, 64, 1, 1, vi 0), (.ifCond .ne 5, 5, 0, 0, vi 0), (.iconst 0, 0, 0, 0, vi 0), (.ireturn, 0, 0, 0, vi 0), (.aload_n 0, 0, 0, 0, vi 0), (.getfield 15, 6, 0, 2, vi 0), (.invokevirtual 91, 92, 1, 0, vi 0), (.iload_n 1, 1, 0, 0, vi 0), (.ifCond .eq 12, 15, 0, 0, vi 0), (.iconst 1, 0, 0, 0, vi 1), (.aload_n 0, 0, 0, 0, vi 0), (.invokevirtual 106, 62, 1, 1, vi 0), (.isub, 0, 0, 0, vi 0), (.goto 7, 17, 0, 0, vi 0), (.aload_n 0, 0, 0, 0, vi 0), (.invokevirtual 94, 60, 1, 1, vi 0), (.istore_n 2, 2, 0, 0, vi 0), (.iload_n 1, 1, 0, 0, vi 0), (.ifCond .ne 13, 25, 0, 0, vi 0), (.aload_n 0, 0, 0, 0, vi 0), (.getfield 15, 6, 0, 2, vi 0), (.bipush 93, 0, 0, 0, vi 93), (.invokevirtual 113, 98, 2, 1, vi 0), (.pop, 0, 0, 0, vi 0), (.aload_n 0, 0, 0, 0, vi 0), (.dup, 0, 0, 0, vi 0), (.getfield 81, 6, 5, 0, vi 0), (.iconst 1, 0, 0, 0, vi 1), (.isub, 0, 0, 0, vi 0), (.putfield 81, 6, 5, 0, vi 0), (.iload_n 2, 2, 0, 0, vi 0), (.ireturn, 0, 0, 0, vi 0)]
def am_b63 : List Nat := [0, 1, 4, 7, 8, 9, 10, 13, 16, 17, 20, 21, 22, 25, 26, 29, 30, 33, 34, 35, 38, 39, 42, 44, 47, 48, 49, 50, 53, 54, 55, 58, 59]
/-- WordEach$Question.opens()Z -/
def am_c64 : List mo := [(.aload_n 0, 0, 0, 0, vi 0), (.getfield 15, 6, 0, 2, vi 0), (.getfield 45, 9, 5, 0, vi 0), (.ifCond .ne 27, 15, 0, 0, vi 0), (.aload_n 0, 0, 0, 0, vi 0), (.getfield 81, 6, 5, 0, vi 0), (.bipush 6, 0, 0, 0, vi 6), (.if_icmp .lt 18, 15, 0, 0, vi 0), (.aload_n 0, 0, 0, 0, vi 0), (.getfield 15, 6, 0, 2, vi 0), (.iconst 4, 0, 0, 0, vi 4), (.aload_n 0, 0, 0, 0, vi 0), (.getfield 15, 6, 0, 2, vi 0), (.getfield 84, 9, 2, 0, vi 0), (.invokevirtual 87, 95, 3, 0, vi 0), (.aload_n 0, 0, 0, 0, vi 0), (.getfield 15, 6, 0, 2, vi 0), (.getfield 45, 9, 5, 0, vi 0), (.ifCond .eq 5, 21, 0, 0, vi 0), (.iconst 0, 0, 0, 0, vi 0), (.ireturn, 1, 0, 0, vi 0), (.aload_n 0, 0, 0, 0, vi 0), (.dup, 0, 0, 0, vi 0), (.getfield 81, 6, 5, 0, vi 0), (.iconst 1, 0, 0, 0, vi 1), (.iadd, 0, 0, 0, vi 0), (.putfield 81, 6, 5, 0, vi 0), (.iconst 1, 0, 0, 0, vi 1), (.ireturn, 1, 0, 0, vi 0)]
def am_b64 : List Nat := [0, 1, 4, 7, 10, 11, 14, 16, 19, 20, 23, 24, 25, 28, 31, 34, 35, 38, 41, 44, 45, 46, 47, 48, 51, 52, 53, 56, 57]
/-- WordEach$Question.readSum()I -/
def am_c65 : List mo := [(.aload_n 0, 0, 0, 0, vi 0), (.invokevirtual 121, 66, 1, 1, vi 0), (.istore_n 1, 1, 0, 0, vi 0), (.iconst 0, 0, 0, 0, vi 0), (.istore_n 2, 2, 0, 0, vi 0), (.iload_n 2, 2, 0, 0, vi 0), (.sipush 1600, 0, 0, 0, vi 1600), (.if_icmp .ge 97, 54, 0, 0, vi 0), (.aload_n 0, 0, 0, 0, vi 0), (.getfield 15, 6, 0, 2, vi 0), (.getfield 45, 9, 5, 0, vi 0), (.ifCond .ne 87, 54, 0, 0, vi 0), (.aload_n 0, 0, 0, 0, vi 0), (.getfield 15, 6, 0, 2, vi 0), (.getfield 100, 9, 4, 0, vi 0), (.bipush 43, 0, 0, 0, vi 43), (.if_icmp .eq 15, 22, 0, 0, vi 0), (.aload_n 0, 0, 0, 0, vi 0), (.getfield 15, 6, 0, 2, vi 0), (.getfield 100, 9, 4, 0, vi 0), (.bipush 45, 0, 0, 0, vi 45), (.if_icmp .ne 63, 54, 0, 0, vi 0), (.aload_n 0, 0, 0, 0, vi 0), (.getfield 15, 6, 0, 2, vi 0), (.getfield 100, 9, 4, 0, vi 0), (.bipush 43, 0, 0, 0, vi 43), (.if_icmp .ne 7, 29, 0, 0, vi 0), (.iconst 1, 0, 0, 0, vi 1), (.goto 4, 30, 0, 0, vi 0), (.iconst 0, 0, 0, 0, vi 0), (.istore_n 3, 3, 0, 0, vi 0), (.aload_n 0, 0, 0, 0, vi 0), (.getfield 15, 6, 0, 2, vi 0), (.invokevirtual 91, 92, 1, 0, vi 0), (.aload_n 0, 0, 0, 0, vi 0), (.invokevirtual 121, 66, 1, 1, vi 0), (.istore 4, 4, 0, 0, vi 0), (.iload_n 3, 3, 0, 0, vi 0), (.ifCond .eq 12, 45, 0, 0, vi 0), (.iload_n 1, 1, 0, 0, vi 0), (.i2l, 0, 0, 0, vi 0), (.iload 4, 4, 0, 0, vi 0), (.i2l, 0, 0, 0, vi 0), (.ladd, 0, 0, 0, vi 0), (.goto 9, 50, 0, 0, vi 0), (.iload_n 1, 1, 0, 0, vi 0), (.i2l, 0, 0, 0, vi 0), (.iload 4, 4, 0, 0, vi 0), (.i2l, 0, 0, 0, vi 0), (.lsub, 0, 0, 0, vi 0), (.invokestatic 124, 74, 1, 1, vi 0), (.istore_n 1, 1, 0, 0, vi 0), (.iinc 2 1, 2, 0, 0, vi 1), (.goto (-98), 5, 0, 0, vi 0), (.iload_n 1, 1, 0, 0, vi 0), (.ireturn, 0, 0, 0, vi 0)]
def am_b65 : List Nat := [0, 1, 4, 5, 6, 7, 8, 11, 14, 15, 18, 21, 24, 25, 28, 31, 33, 36, 37, 40, 43, 45, 48, 49, 52, 55, 57, 60, 61, 64, 65, 66, 67, 70, 73, 74, 77, 79, 80, 83, 84, 85, 87, 88, 89, 92, 93, 94, 96, 97, 98, 101, 102, 105, 108, 109]
/-- WordEach$Question.readProduct()I -/
def am_c66 : List mo := [(.aload_n 0, 0, 0, 0, vi 0), (.invokevirtual 128, 67, 1, 1, vi 0), (.istore_n 1, 1, 0, 0, vi 0), (.iconst 0, 0, 0, 0, vi 0), (.istore_n 2, 2, 0, 0, vi 0), (.iload_n 2, 2, 0, 0, vi 0), (.sipush 1600, 0, 0, 0, vi 1600), (.if_icmp .ge 106, 56, 0, 0, vi 0), (.aload_n 0, 0, 0, 0, vi 0), (.getfield 15, 6, 0, 2, vi 0), (.getfield 45, 9, 5, 0, vi 0), (.ifCond .ne 96, 56, 0, 0, vi 0), (.aload_n 0, 0, 0, 0, vi 0), (.getfield 15, 6, 0, 2, vi 0), (.getfield 100, 9, 4, 0, vi 0), (.bipush 42, 0, 0, 0, vi 42), (.if_icmp .eq 15, 22, 0, 0, vi 0), (.aload_n 0, 0, 0, 0, vi 0), (.getfield 15, 6, 0, 2, vi 0), (.getfield 100, 9, 4, 0, vi 0), (.bipush 47, 0, 0, 0, vi 47), (.if_icmp .ne 72, 56, 0, 0, vi 0), (.aload_n 0, 0, 0, 0, vi 0), (.getfield 15, 6, 0, 2, vi 0), (.getfield 100, 9, 4, 0, vi 0), (.bipush 42, 0, 0, 0, vi 42), (.if_icmp .ne 7, 29, 0, 0, vi 0), (.iconst 1, 0, 0, 0, vi 1), (.goto 4, 30, 0, 0, vi 0), (.iconst 0, 0, 0, 0, vi 0), (.istore_n 3, 3, 0, 0, vi 0), (.aload_n 0, 0, 0, 0, vi 0), (.getfield 15, 6, 0, 2, vi 0), (.invokevirtual 91, 92, 1, 0, vi 0), (.aload_n 0, 0, 0, 0, vi 0), (.invokevirtual 128, 67, 1, 1, vi 0), (.istore 4, 4, 0, 0, vi 0), (.iload_n 3, 3, 0, 0, vi 0), (.ifCond .eq 15, 46, 0, 0, vi 0), (.iload_n 1, 1, 0, 0, vi 0), (.i2l, 0, 0, 0, vi 0), (.iload 4, 4, 0, 0, vi 0), (.i2l, 0, 0, 0, vi 0), (.lmul, 0, 0, 0, vi 0), (.invokestatic 124, 74, 1, 1, vi 0), (.goto 18, 53, 0, 0, vi 0), (.iload 4, 4, 0, 0, vi 0), (.ifCond .ne 7, 50, 0, 0, vi 0), (.iconst 0, 0, 0, 0, vi 0), (.goto 9, 53, 0, 0, vi 0), (.iload_n 1, 1, 0, 0, vi 0), (.iload 4, 4, 0, 0, vi 0), (.invokestatic 131, 298, 2, 1, vi 0), (.istore_n 1, 1, 0, 0, vi 0), (.iinc 2 1, 2, 0, 0, vi 1), (.goto (-107), 5, 0, 0, vi 0), (.iload_n 1, 1, 0, 0, vi 0), (.ireturn, 0, 0, 0, vi 0)]
def am_b66 : List Nat := [0, 1, 4, 5, 6, 7, 8, 11, 14, 15, 18, 21, 24, 25, 28, 31, 33, 36, 37, 40, 43, 45, 48, 49, 52, 55, 57, 60, 61, 64, 65, 66, 67, 70, 73, 74, 77, 79, 80, 83, 84, 85, 87, 88, 89, 92, 95, 97, 100, 101, 104, 105, 107, 110, 111, 114, 117, 118]
/-- WordEach$Question.readPart()I -/
def am_c67 : List mo := [(.aload_n 0, 0, 0, 0, vi 0), (.getfield 15, 6, 0, 2, vi 0), (.getfield 45, 9, 5, 0, vi 0), (.ifCond .eq 5, 6, 0, 0, vi 0), (.iconst 0, 0, 0, 0, vi 0), (.ireturn, 0, 0, 0, vi 0), (.aload_n 0, 0, 0, 0, vi 0), (.getfield 15, 6, 0, 2, vi 0), (.getfield 100, 9, 4, 0, vi 0), (.bipush 48, 0, 0, 0, vi 48), (.if_icmp .ne 14, 16, 0, 0, vi 0), (.aload_n 0, 0, 0, 0, vi 0), (.getfield 15, 6, 0, 2, vi 0), (.sipush 9999, 0, 0, 0, vi 9999), (.invokevirtual 143, 97, 2, 1, vi 0), (.ireturn, 0, 0, 0, vi 0), (.aload_n 0, 0, 0, 0, vi 0), (.getfield 15, 6, 0, 2, vi 0), (.getfield 100, 9, 4, 0, vi 0), (.bipush 40, 0, 0, 0, vi 40), (.if_icmp .ne 9, 25, 0, 0, vi 0), (.aload_n 0, 0, 0, 0, vi 0), (.iconst (-1), 0, 0, 0, vi (-1)), (.invokevirtual 147, 68, 2, 1, vi 0), (.ireturn, 0, 0, 0, vi 0), (.aload_n 0, 0, 0, 0, vi 0), (.getfield 15, 6, 0, 2, vi 0), (.ldc 28, 0, 0, 0, vr 200 1), (.invokevirtual 30, 94, 2, 1, vi 0), (.istore_n 1, 1, 0, 0, vi 0), (.iload_n 1, 1, 0, 0, vi 0), (.bipush 10, 0, 0, 0, vi 10), (.if_icmp .ge 20, 42, 0, 0, vi 0), (.aload_n 0, 0, 0, 0, vi 0), (.getfield 15, 6, 0, 2, vi 0), (.iconst 1, 0, 0, 0, vi 1), (.aload_n 0, 0, 0, 0, vi 0), (.getfield 15, 6, 0, 2, vi 0), (.getfield 84, 9, 2, 0, vi 0), (.invokevirtual 87, 95, 3, 0, vi 0), (.iconst 0, 0, 0, 0, vi 0), (.ireturn, 0, 0, 0, vi 0), (.iload_n 1, 1, 0, 0, vi 0), (.bipush 14, 0, 0, 0, vi 14), (.if_icmp .eq 9, 48, 0, 0, vi 0), (.iload_n 1, 1, 0, 0, vi 0), (.bipush 15, 0, 0, 0, vi 15), (.if_icmp .ne 9, 52, 0, 0, vi 0), (.aload_n 0, 0, 0, 0, vi 0), (.iload_n 1, 1, 0, 0, vi 0), (.invokevirtual 150, 69, 2, 1, vi 0), (.ireturn, 0, 0, 0, vi 0), (.aload_n 0, 0, 0, 0, vi 0), (.getfield 15, 6, 0, 2, vi 0), (.invokevirtual 91, 92, 1, 0, vi 0), (.iload_n 1, 1, 0, 0, vi 0), (.bipush 16, 0, 0, 0, vi 16), (.if_icmp .eq 9, 61, 0, 0, vi 0), (.iload_n 1, 1, 0, 0, vi 0), (.bipush 17, 0, 0, 0, vi 17), (.if_icmp .ne 11, 65, 0, 0, vi 0), (.aload_n 0, 0, 0, 0, vi 0), (.iload_n 1, 1, 0, 0, vi 0), (.invokevirtual 147, 68, 2, 1, vi 0), (.goto 8, 68, 0, 0, vi 0), (.aload_n 0, 0, 0, 0, vi 0), (.iload_n 1, 1, 0, 0, vi 0), (.invokevirtual 153, 73, 2, 1, vi 0), (.ireturn, 0, 0, 0, vi 0)]
def am_b67 : List Nat := [0, 1, 4, 7, 10, 11, 12, 13, 16, 19, 21, 24, 25, 28, 31, 34, 35, 36, 39, 42, 44, 47, 48, 49, 52, 53, 54, 57, 59, 62, 63, 64, 66, 69, 70, 73, 74, 75, 78, 81, 84, 85, 86, 87, 89, 92, 93, 95, 98, 99, 100, 103, 104, 105, 108, 111, 112, 114, 117, 118, 120, 123, 124, 125, 128, 131, 132, 133, 136]
/-- WordEach$Question.readBracket(I)I -/
def am_c68 : List mo := [(.aload_n 0, 0, 0, 0, vi 0), (.getfield 15, 6, 0, 2, vi 0), (.getfield 100, 9, 4, 0, vi 0), (.bipush 40, 0, 0, 0, vi 40), (.if_icmp .eq 18, 12, 0, 0, vi 0), (.aload_n 0, 0, 0, 0, vi 0), (.getfield 15, 6, 0, 2, vi 0), (.iconst 1, 0, 0, 0, vi 1), (.aload_n 0, 0, 0, 0, vi 0), (.getfield 15, 6, 0, 2, vi 0), (.getfield 84, 9, 2, 0, vi 0), (.invokevirtual 87, 95, 3, 0, vi 0), (.aload_n 0, 0, 0, 0, vi 0), (.invokevirtual 117, 64, 1, 1, vi 0), (.ifCond .ne 5, 17, 0, 0, vi 0), (.iconst 0, 0, 0, 0, vi 0), (.ireturn, 0, 0, 0, vi 0), (.aload_n 0, 0, 0, 0, vi 0), (.getfield 15, 6, 0, 2, vi 0), (.invokevirtual 91, 92, 1, 0, vi 0), (.aload_n 0, 0, 0, 0, vi 0), (.invokevirtual 97, 65, 1, 1, vi 0), (.istore_n 2, 2, 0, 0, vi 0), (.iload_n 1, 1, 0, 0, vi 0), (.iconst (-1), 0, 0, 0, vi (-1)), (.if_icmp .eq 38, 45, 0, 0, vi 0), (.aload_n 0, 0, 0, 0, vi 0), (.getfield 15, 6, 0, 2, vi 0), (.bipush 44, 0, 0, 0, vi 44), (.invokevirtual 113, 98, 2, 1, vi 0), (.pop, 0, 0, 0, vi 0), (.aload_n 0, 0, 0, 0, vi 0), (.invokevirtual 97, 65, 1, 1, vi 0), (.istore_n 3, 3, 0, 0, vi 0), (.iload_n 1, 1, 0, 0, vi 0), (.bipush 16, 0, 0, 0, vi 16), (.if_icmp .ne 11, 41, 0, 0, vi 0), (.iload_n 2, 2, 0, 0, vi 0), (.iload_n 3, 3, 0, 0, vi 0), (.invokestatic 78, 294, 2, 1, vi 0), (.goto 8, 44, 0, 0, vi 0), (.iload_n 2, 2, 0, 0, vi 0), (.iload_n 3, 3, 0, 0, vi 0), (.invokestatic 72, 295, 2, 1, vi 0), (.istore_n 2, 2, 0, 0, vi 0), (.aload_n 0, 0, 0, 0, vi 0), (.getfield 15, 6, 0, 2, vi 0), (.bipush 41, 0, 0, 0, vi 41), (.invokevirtual 113, 98, 2, 1, vi 0), (.pop, 0, 0, 0, vi 0), (.aload_n 0, 0, 0, 0, vi 0), (.dup, 0, 0, 0, vi 0), (.getfield 81, 6, 5, 0, vi 0), (.iconst 1, 0, 0, 0, vi 1), (.isub, 0, 0, 0, vi 0), (.putfield 81, 6, 5, 0, vi 0), (.iload_n 2, 2, 0, 0, vi 0), (.ireturn, 0, 0, 0, vi 0)]
def am_b68 : List Nat := [0, 1, 4, 7, 9, 12, 13, 16, 17, 18, 21, 24, 27, 28, 31, 34, 35, 36, 37, 40, 43, 44, 47, 48, 49, 50, 53, 54, 57, 59, 62, 63, 64, 67, 68, 69, 71, 74, 75, 76, 79, 82, 83, 84, 87, 88, 89, 92, 94, 97, 98, 99, 100, 103, 104, 105, 108, 109]
/-- WordEach$Question.readPartOf(I)I -/
def am_c69 : List mo := [(.aload_n 0, 0, 0, 0, vi 0), (.invokevirtual 117, 64, 1, 1, vi 0), (.ifCond .ne 5, 5, 0, 0, vi 0), (.iconst 0, 0, 0, 0, vi 0), (.ireturn, 0, 0, 0, vi 0), (.aload_n 0, 0, 0, 0, vi 0), (.getfield 15, 6, 0, 2, vi 0), (.invokevirtual 91, 92, 1, 0, vi 0), (.aload_n 0, 0, 0, 0, vi 0), (.invokevirtual 128, 67, 1, 1, vi 0), (.istore_n 2, 2, 0, 0, vi 0), (.aload_n 0, 0, 0, 0, vi 0), (.dup, 0, 0, 0, vi 0), (.getfield 81, 6, 5, 0, vi 0), (.iconst 1, 0, 0, 0, vi 1), (.isub, 0, 0, 0, vi 0), (.putfield 81, 6, 5, 0, vi 0), (.iload_n 1, 1, 0, 0, vi 0), (.bipush 14, 0, 0, 0, vi 14), (.if_icmp .ne 11, 24, 0, 0, vi 0), (.aload_n 0, 0, 0, 0, vi 0), (.iload_n 2, 2, 0, 0, vi 0), (.invokevirtual 156, 70, 2, 1, vi 0), (.goto 8, 27, 0, 0, vi 0), (.aload_n 0, 0, 0, 0, vi 0), (.iload_n 2, 2, 0, 0, vi 0), (.invokevirtual 159, 72, 2, 1, vi 0), (.ireturn, 0, 0, 0, vi 0)]
def am_b69 : List Nat := [0, 1, 4, 7, 8, 9, 10, 13, 16, 17, 20, 21, 22, 23, 26, 27, 28, 31, 32, 34, 37, 38, 39, 42, 45, 46, 47, 50]
/-- WordEach$Question.wordAt(I)I -/
def am_c70 : List mo := [(.iload_n 1, 1, 0, 0, vi 0), (.ifCond .lt 11, 6, 0, 0, vi 0), (.iload_n 1, 1, 0, 0, vi 0), (.aload_n 0, 0, 0, 0, vi 0), (.invokevirtual 162, 71, 1, 1, vi 0), (.if_icmp .lt 8, 8, 0, 0, vi 0), (.bipush 99, 0, 0, 0, vi 99), (.goto 20, 17, 0, 0, vi 0), (.aload_n 0, 0, 0, 0, vi 0), (.getfield 19, 6, 1, 2, vi 0), (.getfield 50, 4, 2, 2, vi 0), (.getfield 171, 2, 7, 2, vi 0), (.aload_n 0, 0, 0, 0, vi 0), (.getfield 34, 6, 3, 0, vi 0), (.aaload, 0, 0, 0, vi 0), (.iload_n 1, 1, 0, 0, vi 0), (.iaload, 0, 0, 0, vi 0), (.ireturn, 0, 0, 0, vi 0)]
def am_b70 : List Nat := [0, 1, 4, 5, 6, 9, 12, 14, 17, 18, 21, 24, 27, 28, 31, 32, 33, 34]
/-- WordEach$Question.wordsOfCase()I -/
def am_c71 : List mo := [(.aload_n 0, 0, 0, 0, vi 0), (.getfield 34, 6, 3, 0, vi 0), (.iconst (-1), 0, 0, 0, vi (-1)), (.if_icmp .ne 7, 6, 0, 0, vi 0), (.iconst 0, 0, 0, 0, vi 0), (.goto 18, 13, 0, 0, vi 0), (.aload_n 0, 0, 0, 0, vi 0), (.getfield 19, 6, 1, 2, vi 0), (.getfield 50, 4, 2, 2, vi 0), (.getfield 168, 2, 8, 2, vi 0), (.aload_n 0, 0, 0, 0, vi 0), (.getfield 34, 6, 3, 0, vi 0), (.iaload, 0, 0, 0, vi 0), (.ireturn, 0, 0, 0, vi 0)]
def am_b71 : List Nat := [0, 1, 4, 5, 8, 9, 12, 13, 16, 19, 22, 23, 26, 27]
/-- WordEach$Question.timesHeard(I)I -/
def am_c72 : List mo := [(.aload_n 0, 0, 0, 0, vi 0), (.getfield 34, 6, 3, 0, vi 0), (.iconst (-1), 0, 0, 0, vi (-1)), (.if_icmp .ne 7, 6, 0, 0, vi 0), (.iconst 0, 0, 0, 0, vi 0), (.goto 26, 17, 0, 0, vi 0), (.aload_n 0, 0, 0, 0, vi 0), (.getfield 19, 6, 1, 2, vi 0), (.getfield 50, 4, 2, 2, vi 0), (.getfield 171, 2, 7, 2, vi 0), (.aload_n 0, 0, 0, 0, vi 0), (.getfield 34, 6, 3, 0, vi 0), (.aaload, 0, 0, 0, vi 0), (.aload_n 0, 0, 0, 0, vi 0), (.invokevirtual 162, 71, 1, 1, vi 0), (.iload_n 1, 1, 0, 0, vi 0), (.invokestatic 68, 104, 3, 1, vi 0), (.ireturn, 0, 0, 0, vi 0)]
def am_b72 : List Nat := [0, 1, 4, 5, 8, 9, 12, 13, 16, 19, 22, 23, 26, 27, 28, 31, 32, 35]
/-- WordEach$Question.simplePart(I)I -/
def am_c73 : List mo := [(.iload_n 1, 1, 0, 0, vi 0), (.tableswitch 69 10 13 #[31, 36, 41, 46], 1, 0, 0, vi 0), (.aload_n 0, 0, 0, 0, vi 0), (.getfield 34, 6, 3, 0, vi 0), (.ireturn, 0, 0, 0, vi 0), (.aload_n 0, 0, 0, 0, vi 0), (.invokevirtual 162, 71, 1, 1, vi 0), (.ireturn, 0, 0, 0, vi 0), (.aload_n 0, 0, 0, 0, vi 0), (.getfield 38, 6, 4, 0, vi 0), (.ireturn, 0, 0, 0, vi 0), (.aload_n 0, 0, 0, 0, vi 0), (.getfield 38, 6, 4, 0, vi 0), (.aload_n 0, 0, 0, 0, vi 0), (.getfield 19, 6, 1, 2, vi 0), (.getfield 50, 4, 2, 2, vi 0), (.invokevirtual 165, 23, 1, 1, vi 0), (.if_icmp .ne 7, 20, 0, 0, vi 0), (.iconst 1, 0, 0, 0, vi 1), (.goto 4, 21, 0, 0, vi 0), (.iconst 0, 0, 0, 0, vi 0), (.ireturn, 0, 0, 0, vi 0), (.iconst 0, 0, 0, 0, vi 0), (.ireturn, 0, 0, 0, vi 0)]
def am_b73 : List Nat := [0, 1, 32, 33, 36, 37, 38, 41, 42, 43, 46, 47, 48, 51, 52, 55, 58, 61, 64, 65, 68, 69, 70, 71]
/-- WordEach$Question.held(J)I -/
def am_c74 : List mo := [(.ldc2_w 134, 0, 0, 0, vl (-1000000)), (.ldc2_w 136, 0, 0, 0, vl 1000000), (.lload_n 0, 0, 0, 0, vi 0), (.invokestatic 138, 296, 2, 2, vi 0), (.invokestatic 141, 297, 2, 2, vi 0), (.l2i, 0, 0, 0, vi 0), (.ireturn, 0, 0, 0, vi 0)]
def am_b74 : List Nat := [0, 3, 6, 7, 10, 13, 14]
/-- WordEach$Question.tellTest(II)J -/
def am_c75 : List mo := [(.iconst (-1), 0, 0, 0, vi (-1)), (.istore_n 3, 3, 0, 0, vi 0), (.iconst (-1), 0, 0, 0, vi (-1)), (.istore 4, 4, 0, 0, vi 0), (.iconst 0, 0, 0, 0, vi 0), (.istore 5, 5, 0, 0, vi 0), (.iload 5, 5, 0, 0, vi 0), (.iload_n 2, 2, 0, 0, vi 0), (.if_icmp .ge 36, 26, 0, 0, vi 0), (.aload_n 0, 0, 0, 0, vi 0), (.getfield 9, 6, 2, 2, vi 0), (.iload 5, 5, 0, 0, vi 0), (.iaload, 0, 0, 0, vi 0), (.iconst 1, 0, 0, 0, vi 1), (.if_icmp .ne 19, 24, 0, 0, vi 0), (.iload_n 3, 3, 0, 0, vi 0), (.iconst (-1), 0, 0, 0, vi (-1)), (.if_icmp .ne 8, 20, 0, 0, vi 0), (.iload 5, 5, 0, 0, vi 0), (.goto 4, 21, 0, 0, vi 0), (.iload_n 3, 3, 0, 0, vi 0), (.istore_n 3, 3, 0, 0, vi 0), (.iload 5, 5, 0, 0, vi 0), (.istore 4, 4, 0, 0, vi 0), (.iinc 5 1, 5, 0, 0, vi 1), (.goto (-36), 6, 0, 0, vi 0), (.iload_n 1, 1, 0, 0, vi 0), (.iconst 2, 0, 0, 0, vi 2), (.if_icmp .ne 14, 36, 0, 0, vi 0), (.aload_n 0, 0, 0, 0, vi 0), (.getfield 9, 6, 2, 2, vi 0), (.iload_n 2, 2, 0, 0, vi 0), (.iconst 1, 0, 0, 0, vi 1), (.invokestatic 68, 104, 3, 1, vi 0), (.i2l, 0, 0, 0, vi 0), (.lreturn, 0, 0, 0, vi 0), (.iload_n 1, 1, 0, 0, vi 0), (.ifCond .ne 8, 41, 0, 0, vi 0), (.iload_n 3, 3, 0, 0, vi 0), (.i2l, 0, 0, 0, vi 0), (.goto 6, 43, 0, 0, vi 0), (.iload 4, 4, 0, 0, vi 0), (.i2l, 0, 0, 0, vi 0), (.lreturn, 0, 0, 0, vi 0)]
def am_b75 : List Nat := [0, 1, 2, 3, 5, 6, 8, 10, 11, 14, 15, 18, 20, 21, 22, 25, 26, 27, 30, 32, 35, 36, 37, 39, 41, 44, 47, 48, 49, 52, 53, 56, 57, 58, 61, 62, 63, 64, 67, 68, 69, 72, 74, 75]
/-- WordEach$Question.tellSum(II)J -/
def am_c76 : List mo := [(.lconst 0, 0, 0, 0, vl 0), (.lstore_n 3, 3, 0, 0, vi 0), (.iload_n 2, 2, 0, 0, vi 0), (.ifCond .ne 7, 6, 0, 0, vi 0), (.iconst 0, 0, 0, 0, vi 0), (.goto 9, 10, 0, 0, vi 0), (.aload_n 0, 0, 0, 0, vi 0), (.getfield 9, 6, 2, 2, vi 0), (.iconst 0, 0, 0, 0, vi 0), (.iaload, 0, 0, 0, vi 0), (.istore 5, 5, 0, 0, vi 0), (.iload 5, 5, 0, 0, vi 0), (.istore 6, 6, 0, 0, vi 0), (.iconst 0, 0, 0, 0, vi 0), (.istore 7, 7, 0, 0, vi 0), (.iload 7, 7, 0, 0, vi 0), (.iload_n 2, 2, 0, 0, vi 0), (.if_icmp .ge 48, 42, 0, 0, vi 0), (.lload_n 3, 3, 0, 0, vi 0), (.aload_n 0, 0, 0, 0, vi 0), (.getfield 9, 6, 2, 2, vi 0), (.iload 7, 7, 0, 0, vi 0), (.iaload, 0, 0, 0, vi 0), (.i2l, 0, 0, 0, vi 0), (.ladd, 0, 0, 0, vi 0), (.lstore_n 3, 3, 0, 0, vi 0), (.iload 5, 5, 0, 0, vi 0), (.aload_n 0, 0, 0, 0, vi 0), (.getfield 9, 6, 2, 2, vi 0), (.iload 7, 7, 0, 0, vi 0), (.iaload, 0, 0, 0, vi 0), (.invokestatic 72, 295, 2, 1, vi 0), (.istore 5, 5, 0, 0, vi 0), (.iload 6, 6, 0, 0, vi 0), (.aload_n 0, 0, 0, 0, vi 0), (.getfield 9, 6, 2, 2, vi 0), (.iload 7, 7, 0, 0, vi 0), (.iaload, 0, 0, 0, vi 0), (.invokestatic 78, 294, 2, 1, vi 0), (.istore 6, 6, 0, 0, vi 0), (.iinc 7 1, 7, 0, 0, vi 1), (.goto (-48), 15, 0, 0, vi 0), (.iload_n 1, 1, 0, 0, vi 0), (.iconst 3, 0, 0, 0, vi 3), (.if_icmp .ne 5, 47, 0, 0, vi 0), (.lload_n 3, 3, 0, 0, vi 0), (.lreturn, 0, 0, 0, vi 0), (.iload_n 1, 1, 0, 0, vi 0), (.iconst 4, 0, 0, 0, vi 4), (.if_icmp .ne 9, 53, 0, 0, vi 0), (.iload 5, 5, 0, 0, vi 0), (.i2l, 0, 0, 0, vi 0), (.goto 6, 55, 0, 0, vi 0), (.iload 6, 6, 0, 0, vi 0), (.i2l, 0, 0, 0, vi 0), (.lreturn, 0, 0, 0, vi 0)]
def am_b76 : List Nat := [0, 1, 2, 3, 6, 7, 10, 11, 14, 15, 16, 18, 20, 22, 23, 25, 27, 28, 31, 32, 33, 36, 38, 39, 40, 41, 42, 44, 45, 48, 50, 51, 54, 56, 58, 59, 62, 64, 65, 68, 70, 73, 76, 77, 78, 81, 82, 83, 84, 85, 88, 90, 91, 94, 96, 97]
/-- WordEach$Row.placeOf(I)I -/
def am_c77 : List mo := [(.iconst 0, 0, 0, 0, vi 0), (.istore_n 2, 2, 0, 0, vi 0), (.iload_n 2, 2, 0, 0, vi 0), (.aload_n 0, 0, 0, 0, vi 0), (.getfield 21, 7, 3, 0, vi 0), (.if_icmp .ge 21, 16, 0, 0, vi 0), (.aload_n 0, 0, 0, 0, vi 0), (.getfield 15, 7, 1, 2, vi 0), (.iload_n 2, 2, 0, 0, vi 0), (.iaload, 0, 0, 0, vi 0), (.iload_n 1, 1, 0, 0, vi 0), (.if_icmp .ne 5, 14, 0, 0, vi 0), (.iload_n 2, 2, 0, 0, vi 0), (.ireturn, 0, 0, 0, vi 0), (.iinc 2 1, 2, 0, 0, vi 1), (.goto (-23), 2, 0, 0, vi 0), (.iconst (-1), 0, 0, 0, vi (-1)), (.ireturn, 0, 0, 0, vi 0)]
def am_b77 : List Nat := [0, 1, 2, 3, 4, 7, 10, 11, 14, 15, 16, 17, 20, 21, 22, 25, 28, 29]
/-- WordEach$Row.add(II)V -/
def am_c78 : List mo := [(.aload_n 0, 0, 0, 0, vi 0), (.getfield 21, 7, 3, 0, vi 0), (.bipush 7, 0, 0, 0, vi 7), (.if_icmp .ge 33, 22, 0, 0, vi 0), (.aload_n 0, 0, 0, 0, vi 0), (.getfield 15, 7, 1, 2, vi 0), (.aload_n 0, 0, 0, 0, vi 0), (.getfield 21, 7, 3, 0, vi 0), (.iload_n 1, 1, 0, 0, vi 0), (.iastore, 0, 0, 0, vi 0), (.aload_n 0, 0, 0, 0, vi 0), (.getfield 9, 7, 0, 2, vi 0), (.aload_n 0, 0, 0, 0, vi 0), (.getfield 21, 7, 3, 0, vi 0), (.iload_n 2, 2, 0, 0, vi 0), (.iastore, 0, 0, 0, vi 0), (.aload_n 0, 0, 0, 0, vi 0), (.dup, 0, 0, 0, vi 0), (.getfield 21, 7, 3, 0, vi 0), (.iconst 1, 0, 0, 0, vi 1), (.iadd, 0, 0, 0, vi 0), (.putfield 21, 7, 3, 0, vi 0), (.return_, 0, 0, 0, vi 0)]
def am_b78 : List Nat := [0, 1, 4, 6, 9, 10, 13, 14, 17, 18, 19, 20, 23, 24, 27, 28, 29, 30, 31, 34, 35, 36, 39]
/-- WordEach$Row.speakerBits()I -/
def am_c79 : List mo := [(.iconst 0, 0, 0, 0, vi 0), (.istore_n 1, 1, 0, 0, vi 0), (.iconst 0, 0, 0, 0, vi 0), (.istore_n 2, 2, 0, 0, vi 0), (.iload_n 2, 2, 0, 0, vi 0), (.aload_n 0, 0, 0, 0, vi 0), (.getfield 21, 7, 3, 0, vi 0), (.if_icmp .ge 20, 19, 0, 0, vi 0), (.iload_n 1, 1, 0, 0, vi 0), (.iconst 1, 0, 0, 0, vi 1), (.aload_n 0, 0, 0, 0, vi 0), (.getfield 15, 7, 1, 2, vi 0), (.iload_n 2, 2, 0, 0, vi 0), (.iaload, 0, 0, 0, vi 0), (.ishl, 0, 0, 0, vi 0), (.ior, 0, 0, 0, vi 0), (.istore_n 1, 1, 0, 0, vi 0), (.iinc 2 1, 2, 0, 0, vi 1), (.goto (-22), 4, 0, 0, vi 0), (.iload_n 1, 1, 0, 0, vi 0), (.ireturn, 0, 0, 0, vi 0)]
def am_b79 : List Nat := [0, 1, 2, 3, 4, 5, 6, 9, 12, 13, 14, 15, 18, 19, 20, 21, 22, 23, 26, 29, 30]
end
section
/-- WordEach$Row.write(I)V -/
def am_c80 : List mo := [(.aload_n 0, 0, 0, 0, vi 0), (.iconst 0, 0, 0, 0, vi 0), (.putfield 25, 7, 4, 0, vi 0), (.aload_n 0, 0, 0, 0, vi 0), (.aload_n 0, 0, 0, 0, vi 0), (.getfield 21, 7, 3, 0, vi 0), (.invokevirtual 28, 81, 2, 0, vi 0), (.iconst 0, 0, 0, 0, vi 0), (.istore_n 2, 2, 0, 0, vi 0), (.iload_n 2, 2, 0, 0, vi 0), (.aload_n 0, 0, 0, 0, vi 0), (.getfield 21, 7, 3, 0, vi 0), (.if_icmp .ge 29, 27, 0, 0, vi 0), (.aload_n 0, 0, 0, 0, vi 0), (.aload_n 0, 0, 0, 0, vi 0), (.getfield 15, 7, 1, 2, vi 0), (.iload_n 2, 2, 0, 0, vi 0), (.iaload, 0, 0, 0, vi 0), (.invokevirtual 28, 81, 2, 0, vi 0), (.aload_n 0, 0, 0, 0, vi 0), (.aload_n 0, 0, 0, 0, vi 0), (.getfield 9, 7, 0, 2, vi 0), (.iload_n 2, 2, 0, 0, vi 0), (.iaload, 0, 0, 0, vi 0), (.invokevirtual 28, 81, 2, 0, vi 0), (.iinc 2 1, 2, 0, 0, vi 1), (.goto (-31), 9, 0, 0, vi 0), (.aload_n 0, 0, 0, 0, vi 0), (.iload_n 1, 1, 0, 0, vi 0), (.invokevirtual 28, 81, 2, 0, vi 0), (.bipush 97, 0, 0, 0, vi 97), (.istore_n 2, 2, 0, 0, vi 0), (.iconst 0, 0, 0, 0, vi 0), (.istore_n 3, 3, 0, 0, vi 0), (.iload_n 3, 3, 0, 0, vi 0), (.aload_n 0, 0, 0, 0, vi 0), (.getfield 25, 7, 4, 0, vi 0), (.if_icmp .ge 24, 51, 0, 0, vi 0), (.iconst 3, 0, 0, 0, vi 3), (.iload_n 2, 2, 0, 0, vi 0), (.imul, 0, 0, 0, vi 0), (.aload_n 0, 0, 0, 0, vi 0), (.getfield 18, 7, 2, 2, vi 0), (.iload_n 3, 3, 0, 0, vi 0), (.iaload, 0, 0, 0, vi 0), (.iadd, 0, 0, 0, vi 0), (.sipush 241, 0, 0, 0, vi 241), (.irem, 0, 0, 0, vi 0), (.istore_n 2, 2, 0, 0, vi 0), (.iinc 3 1, 3, 0, 0, vi 1), (.goto (-26), 34, 0, 0, vi 0), (.aload_n 0, 0, 0, 0, vi 0), (.iload_n 2, 2, 0, 0, vi 0), (.invokevirtual 28, 81, 2, 0, vi 0), (.return_, 0, 0, 0, vi 0)]
def am_b80 : List Nat := [0, 1, 2, 5, 6, 7, 10, 13, 14, 15, 16, 17, 20, 23, 24, 25, 28, 29, 30, 33, 34, 35, 38, 39, 40, 43, 46, 49, 50, 51, 54, 56, 57, 58, 59, 60, 61, 64, 67, 68, 69, 70, 71, 74, 75, 76, 77, 80, 81, 82, 85, 88, 89, 90, 93]
/-- WordEach$Row.addOctet(I)V -/
def am_c81 : List mo := [(.aload_n 0, 0, 0, 0, vi 0), (.getfield 25, 7, 4, 0, vi 0), (.aload_n 0, 0, 0, 0, vi 0), (.getfield 18, 7, 2, 2, vi 0), (.arraylength, 0, 0, 0, vi 0), (.if_icmp .ge 23, 18, 0, 0, vi 0), (.aload_n 0, 0, 0, 0, vi 0), (.getfield 18, 7, 2, 2, vi 0), (.aload_n 0, 0, 0, 0, vi 0), (.getfield 25, 7, 4, 0, vi 0), (.iload_n 1, 1, 0, 0, vi 0), (.iastore, 0, 0, 0, vi 0), (.aload_n 0, 0, 0, 0, vi 0), (.dup, 0, 0, 0, vi 0), (.getfield 25, 7, 4, 0, vi 0), (.iconst 1, 0, 0, 0, vi 1), (.iadd, 0, 0, 0, vi 0), (.putfield 25, 7, 4, 0, vi 0), (.return_, 0, 0, 0, vi 0)]
def am_b81 : List Nat := [0, 1, 4, 5, 8, 9, 12, 13, 16, 17, 20, 21, 22, 23, 24, 27, 28, 29, 32]
/-- WordEach$Row.isImage(LWordEach$Tape;LWordEach$Court;)Z -/
def am_c82 : List mo := [(.aload_n 0, 0, 0, 0, vi 0), (.iconst 0, 0, 0, 0, vi 0), (.invokevirtual 32, 99, 2, 1, vi 0), (.istore_n 2, 2, 0, 0, vi 0), (.iload_n 2, 2, 0, 0, vi 0), (.iconst (-1), 0, 0, 0, vi (-1)), (.if_icmp .eq 15, 15, 0, 0, vi 0), (.aload_n 0, 0, 0, 0, vi 0), (.getfield 42, 9, 1, 0, vi 0), (.iconst 2, 0, 0, 0, vi 2), (.iload_n 2, 2, 0, 0, vi 0), (.imul, 0, 0, 0, vi 0), (.iconst 3, 0, 0, 0, vi 3), (.iadd, 0, 0, 0, vi 0), (.if_icmp .eq 5, 17, 0, 0, vi 0), (.iconst 0, 0, 0, 0, vi 0), (.ireturn, 1, 0, 0, vi 0), (.bipush 97, 0, 0, 0, vi 97), (.istore_n 3, 3, 0, 0, vi 0), (.iconst 0, 0, 0, 0, vi 0), (.istore 4, 4, 0, 0, vi 0), (.iload 4, 4, 0, 0, vi 0), (.aload_n 0, 0, 0, 0, vi 0), (.getfield 42, 9, 1, 0, vi 0), (.iconst 1, 0, 0, 0, vi 1), (.isub, 0, 0, 0, vi 0), (.if_icmp .ge 24, 39, 0, 0, vi 0), (.iconst 3, 0, 0, 0, vi 3), (.iload_n 3, 3, 0, 0, vi 0), (.imul, 0, 0, 0, vi 0), (.aload_n 0, 0, 0, 0, vi 0), (.iload 4, 4, 0, 0, vi 0), (.invokevirtual 32, 99, 2, 1, vi 0), (.iadd, 0, 0, 0, vi 0), (.sipush 241, 0, 0, 0, vi 241), (.irem, 0, 0, 0, vi 0), (.istore_n 3, 3, 0, 0, vi 0), (.iinc 4 1, 4, 0, 0, vi 1), (.goto (-29), 21, 0, 0, vi 0), (.iload_n 3, 3, 0, 0, vi 0), (.aload_n 0, 0, 0, 0, vi 0), (.aload_n 0, 0, 0, 0, vi 0), (.getfield 42, 9, 1, 0, vi 0), (.iconst 1, 0, 0, 0, vi 1), (.isub, 0, 0, 0, vi 0), (.invokevirtual 32, 99, 2, 1, vi 0), (.if_icmp .ne 33, 63, 0, 0, vi 0), (.aload_n 0, 0, 0, 0, vi 0), (.aload_n 0, 0, 0, 0, vi 0), (.getfield 42, 9, 1, 0, vi 0), (.iconst 2, 0, 0, 0, vi 2), (.isub, 0, 0, 0, vi 0), (.invokevirtual 32, 99, 2, 1, vi 0), (.aload_n 1, 1, 0, 0, vi 0), (.invokevirtual 43, 16, 1, 1, vi 0), (.if_icmp .gt 16, 63, 0, 0, vi 0), (.aload_n 0, 0, 0, 0, vi 0), (.aload_n 1, 1, 0, 0, vi 0), (.iload_n 2, 2, 0, 0, vi 0), (.invokestatic 49, 83, 3, 1, vi 0), (.ifCond .eq 7, 63, 0, 0, vi 0), (.iconst 1, 0, 0, 0, vi 1), (.goto 4, 64, 0, 0, vi 0), (.iconst 0, 0, 0, 0, vi 0), (.ireturn, 1, 0, 0, vi 0)]
def am_b82 : List Nat := [0, 1, 2, 5, 6, 7, 8, 11, 12, 15, 16, 17, 18, 19, 20, 23, 24, 25, 27, 28, 29, 31, 33, 34, 37, 38, 39, 42, 43, 44, 45, 46, 48, 51, 52, 55, 56, 57, 60, 63, 64, 65, 66, 69, 70, 71, 74, 77, 78, 79, 82, 83, 84, 87, 88, 91, 94, 95, 96, 97, 100, 103, 104, 107, 108]
/-- WordEach$Row.areSaid(LWordEach$Tape;LWordEach$Court;I)Z -/
def am_c83 : List mo := [(.iconst 0, 0, 0, 0, vi 0), (.istore_n 3, 3, 0, 0, vi 0), (.iconst 0, 0, 0, 0, vi 0), (.istore 4, 4, 0, 0, vi 0), (.iload 4, 4, 0, 0, vi 0), (.iload_n 2, 2, 0, 0, vi 0), (.if_icmp .ge 72, 49, 0, 0, vi 0), (.aload_n 0, 0, 0, 0, vi 0), (.iconst 2, 0, 0, 0, vi 2), (.iload 4, 4, 0, 0, vi 0), (.imul, 0, 0, 0, vi 0), (.iconst 1, 0, 0, 0, vi 1), (.iadd, 0, 0, 0, vi 0), (.invokevirtual 32, 99, 2, 1, vi 0), (.istore 5, 5, 0, 0, vi 0), (.aload_n 1, 1, 0, 0, vi 0), (.iload 5, 5, 0, 0, vi 0), (.invokevirtual 53, 19, 2, 1, vi 0), (.ifCond .eq 36, 39, 0, 0, vi 0), (.iload_n 3, 3, 0, 0, vi 0), (.iload 5, 5, 0, 0, vi 0), (.ishr, 0, 0, 0, vi 0), (.iconst 1, 0, 0, 0, vi 1), (.iand, 0, 0, 0, vi 0), (.iconst 1, 0, 0, 0, vi 1), (.if_icmp .eq 26, 39, 0, 0, vi 0), (.aload_n 1, 1, 0, 0, vi 0), (.getfield 57, 2, 6, 2, vi 0), (.iload 5, 5, 0, 0, vi 0), (.aaload, 0, 0, 0, vi 0), (.aload_n 0, 0, 0, 0, vi 0), (.iconst 2, 0, 0, 0, vi 2), (.iload 4, 4, 0, 0, vi 0), (.imul, 0, 0, 0, vi 0), (.iconst 2, 0, 0, 0, vi 2), (.iadd, 0, 0, 0, vi 0), (.invokevirtual 32, 99, 2, 1, vi 0), (.invokevirtual 61, 100, 2, 1, vi 0), (.ifCond .ne 5, 41, 0, 0, vi 0), (.iconst 0, 0, 0, 0, vi 0), (.ireturn, 1, 0, 0, vi 0), (.iload_n 3, 3, 0, 0, vi 0), (.iconst 1, 0, 0, 0, vi 1), (.iload 5, 5, 0, 0, vi 0), (.ishl, 0, 0, 0, vi 0), (.ior, 0, 0, 0, vi 0), (.istore_n 3, 3, 0, 0, vi 0), (.iinc 4 1, 4, 0, 0, vi 1), (.goto (-72), 4, 0, 0, vi 0), (.iconst 1, 0, 0, 0, vi 1), (.ireturn, 1, 0, 0, vi 0)]
def am_b83 : List Nat := [0, 1, 2, 3, 5, 7, 8, 11, 12, 13, 15, 16, 17, 18, 21, 23, 24, 26, 29, 32, 33, 35, 36, 37, 38, 39, 42, 43, 46, 48, 49, 50, 51, 53, 54, 55, 56, 59, 62, 65, 66, 67, 68, 69, 71, 72, 73, 74, 77, 80, 81]
/-- WordEach$Row.readFrom(LWordEach$Tape;)V -/
def am_c84 : List mo := [(.aload_n 0, 0, 0, 0, vi 0), (.iconst 0, 0, 0, 0, vi 0), (.putfield 21, 7, 3, 0, vi 0), (.iconst 0, 0, 0, 0, vi 0), (.istore_n 2, 2, 0, 0, vi 0), (.iload_n 2, 2, 0, 0, vi 0), (.aload_n 1, 1, 0, 0, vi 0), (.iconst 0, 0, 0, 0, vi 0), (.invokevirtual 32, 99, 2, 1, vi 0), (.if_icmp .ge 31, 28, 0, 0, vi 0), (.aload_n 0, 0, 0, 0, vi 0), (.aload_n 1, 1, 0, 0, vi 0), (.iconst 2, 0, 0, 0, vi 2), (.iload_n 2, 2, 0, 0, vi 0), (.imul, 0, 0, 0, vi 0), (.iconst 1, 0, 0, 0, vi 1), (.iadd, 0, 0, 0, vi 0), (.invokevirtual 32, 99, 2, 1, vi 0), (.aload_n 1, 1, 0, 0, vi 0), (.iconst 2, 0, 0, 0, vi 2), (.iload_n 2, 2, 0, 0, vi 0), (.imul, 0, 0, 0, vi 0), (.iconst 2, 0, 0, 0, vi 2), (.iadd, 0, 0, 0, vi 0), (.invokevirtual 32, 99, 2, 1, vi 0), (.invokevirtual 38, 78, 3, 0, vi 0), (.iinc 2 1, 2, 0, 0, vi 1), (.goto (-34), 5, 0, 0, vi 0), (.return_, 0, 0, 0, vi 0)]
def am_b84 : List Nat := [0, 1, 2, 5, 6, 7, 8, 9, 10, 13, 16, 17, 18, 19, 20, 21, 22, 23, 26, 27, 28, 29, 30, 31, 32, 35, 38, 41, 44]
/-- WordEach$Seats.arrange(I)V -/
def am_c85 : List mo := [(.iconst 0, 0, 0, 0, vi 0), (.istore_n 2, 2, 0, 0, vi 0), (.iload_n 2, 2, 0, 0, vi 0), (.aload_n 0, 0, 0, 0, vi 0), (.getfield 19, 8, 0, 2, vi 0), (.getfield 23, 4, 2, 2, vi 0), (.getfield 29, 2, 12, 0, vi 0), (.if_icmp .ge 59, 42, 0, 0, vi 0), (.iload_n 2, 2, 0, 0, vi 0), (.istore_n 3, 3, 0, 0, vi 0), (.iload_n 3, 3, 0, 0, vi 0), (.ifCond .le 40, 35, 0, 0, vi 0), (.aload_n 0, 0, 0, 0, vi 0), (.iload_n 1, 1, 0, 0, vi 0), (.iload_n 2, 2, 0, 0, vi 0), (.aload_n 0, 0, 0, 0, vi 0), (.getfield 9, 8, 1, 2, vi 0), (.iload_n 3, 3, 0, 0, vi 0), (.iconst 1, 0, 0, 0, vi 1), (.isub, 0, 0, 0, vi 0), (.iaload, 0, 0, 0, vi 0), (.invokevirtual 34, 86, 4, 1, vi 0), (.ifCond .eq 23, 35, 0, 0, vi 0), (.aload_n 0, 0, 0, 0, vi 0), (.getfield 9, 8, 1, 2, vi 0), (.iload_n 3, 3, 0, 0, vi 0), (.aload_n 0, 0, 0, 0, vi 0), (.getfield 9, 8, 1, 2, vi 0), (.iload_n 3, 3, 0, 0, vi 0), (.iconst 1, 0, 0, 0, vi 1), (.isub, 0, 0, 0, vi 0), (.iaload, 0, 0, 0, vi 0), (.iastore, 0, 0, 0, vi 0), (.iinc 3 (-1), 3, 0, 0, vi (-1)), (.goto (-38), 10, 0, 0, vi 0), (.aload_n 0, 0, 0, 0, vi 0), (.getfield 9, 8, 1, 2, vi 0), (.iload_n 3, 3, 0, 0, vi 0), (.iload_n 2, 2, 0, 0, vi 0), (.iastore, 0, 0, 0, vi 0), (.iinc 2 1, 2, 0, 0, vi 1), (.goto (-67), 2, 0, 0, vi 0), (.return_, 0, 0, 0, vi 0)]
def am_b85 : List Nat := [0, 1, 2, 3, 4, 7, 10, 13, 16, 17, 18, 19, 22, 23, 24, 25, 26, 29, 30, 31, 32, 33, 36, 39, 40, 43, 44, 45, 48, 49, 50, 51, 52, 53, 56, 59, 60, 63, 64, 65, 66, 69, 72]
/-- WordEach$Seats.isAhead(III)Z -/
def am_c86 : List mo := [(.aload_n 0, 0, 0, 0, vi 0), (.getfield 19, 8, 0, 2, vi 0), (.getfield 23, 4, 2, 2, vi 0), (.getfield 38, 2, 6, 2, vi 0), (.iload_n 2, 2, 0, 0, vi 0), (.aaload, 0, 0, 0, vi 0), (.getfield 42, 10, 3, 0, vi 0), (.aload_n 0, 0, 0, 0, vi 0), (.getfield 19, 8, 0, 2, vi 0), (.getfield 23, 4, 2, 2, vi 0), (.getfield 38, 2, 6, 2, vi 0), (.iload_n 3, 3, 0, 0, vi 0), (.aaload, 0, 0, 0, vi 0), (.getfield 42, 10, 3, 0, vi 0), (.isub, 0, 0, 0, vi 0), (.istore 4, 4, 0, 0, vi 0), (.iload_n 1, 1, 0, 0, vi 0), (.iconst 1, 0, 0, 0, vi 1), (.if_icmp .ne 8, 21, 0, 0, vi 0), (.iload 4, 4, 0, 0, vi 0), (.ifCond .gt 13, 26, 0, 0, vi 0), (.iload_n 1, 1, 0, 0, vi 0), (.iconst 2, 0, 0, 0, vi 2), (.if_icmp .ne 12, 28, 0, 0, vi 0), (.iload 4, 4, 0, 0, vi 0), (.ifCond .ge 7, 28, 0, 0, vi 0), (.iconst 1, 0, 0, 0, vi 1), (.goto 4, 29, 0, 0, vi 0), (.iconst 0, 0, 0, 0, vi 0), (.ireturn, 1, 0, 0, vi 0)]
def am_b86 : List Nat := [0, 1, 4, 7, 10, 11, 12, 15, 16, 19, 22, 25, 26, 27, 30, 31, 33, 34, 35, 38, 40, 43, 44, 45, 48, 50, 53, 54, 57, 58]
/-- WordEach$Seats.ruleInOrder()I -/
def am_c87 : List mo := [(.ldc 61, 0, 0, 0, vi 32768), (.istore_n 1, 1, 0, 0, vi 0), (.iconst 0, 0, 0, 0, vi 0), (.istore_n 2, 2, 0, 0, vi 0), (.iload_n 2, 2, 0, 0, vi 0), (.aload_n 0, 0, 0, 0, vi 0), (.getfield 19, 8, 0, 2, vi 0), (.getfield 23, 4, 2, 2, vi 0), (.getfield 29, 2, 12, 0, vi 0), (.if_icmp .ge 40, 29, 0, 0, vi 0), (.aload_n 0, 0, 0, 0, vi 0), (.getfield 19, 8, 0, 2, vi 0), (.iload_n 1, 1, 0, 0, vi 0), (.aload_n 0, 0, 0, 0, vi 0), (.getfield 19, 8, 0, 2, vi 0), (.getfield 23, 4, 2, 2, vi 0), (.getfield 38, 2, 6, 2, vi 0), (.aload_n 0, 0, 0, 0, vi 0), (.getfield 9, 8, 1, 2, vi 0), (.iload_n 2, 2, 0, 0, vi 0), (.iaload, 0, 0, 0, vi 0), (.aaload, 0, 0, 0, vi 0), (.getfield 62, 10, 0, 2, vi 0), (.iconst 0, 0, 0, 0, vi 0), (.iaload, 0, 0, 0, vi 0), (.invokevirtual 65, 40, 3, 1, vi 0), (.istore_n 1, 1, 0, 0, vi 0), (.iinc 2 1, 2, 0, 0, vi 1), (.goto (-48), 4, 0, 0, vi 0), (.aload_n 0, 0, 0, 0, vi 0), (.getfield 19, 8, 0, 2, vi 0), (.iload_n 1, 1, 0, 0, vi 0), (.invokevirtual 69, 50, 2, 1, vi 0), (.ireturn, 0, 0, 0, vi 0)]
def am_b87 : List Nat := [0, 2, 3, 4, 5, 6, 7, 10, 13, 16, 19, 20, 23, 24, 25, 28, 31, 34, 35, 38, 39, 40, 41, 44, 45, 46, 49, 50, 53, 56, 57, 60, 61, 64]
/-- WordEach$Seats.drawLot()V -/
def am_c88 : List mo := [(.aload_n 0, 0, 0, 0, vi 0), (.iconst 0, 0, 0, 0, vi 0), (.invokevirtual 47, 85, 2, 0, vi 0), (.iconst 0, 0, 0, 0, vi 0), (.istore_n 1, 1, 0, 0, vi 0), (.iload_n 1, 1, 0, 0, vi 0), (.aload_n 0, 0, 0, 0, vi 0), (.getfield 19, 8, 0, 2, vi 0), (.getfield 23, 4, 2, 2, vi 0), (.getfield 29, 2, 12, 0, vi 0), (.if_icmp .ge 73, 51, 0, 0, vi 0), (.iload_n 1, 1, 0, 0, vi 0), (.aload_n 0, 0, 0, 0, vi 0), (.aload_n 0, 0, 0, 0, vi 0), (.getfield 19, 8, 0, 2, vi 0), (.getfield 23, 4, 2, 2, vi 0), (.getfield 29, 2, 12, 0, vi 0), (.iload_n 1, 1, 0, 0, vi 0), (.isub, 0, 0, 0, vi 0), (.invokevirtual 51, 89, 2, 1, vi 0), (.iadd, 0, 0, 0, vi 0), (.istore_n 2, 2, 0, 0, vi 0), (.aload_n 0, 0, 0, 0, vi 0), (.getfield 9, 8, 1, 2, vi 0), (.iload_n 2, 2, 0, 0, vi 0), (.iaload, 0, 0, 0, vi 0), (.istore_n 3, 3, 0, 0, vi 0), (.iload_n 2, 2, 0, 0, vi 0), (.istore 4, 4, 0, 0, vi 0), (.iload 4, 4, 0, 0, vi 0), (.iload_n 1, 1, 0, 0, vi 0), (.if_icmp .le 25, 44, 0, 0, vi 0), (.aload_n 0, 0, 0, 0, vi 0), (.getfield 9, 8, 1, 2, vi 0), (.iload 4, 4, 0, 0, vi 0), (.aload_n 0, 0, 0, 0, vi 0), (.getfield 9, 8, 1, 2, vi 0), (.iload 4, 4, 0, 0, vi 0), (.iconst 1, 0, 0, 0, vi 1), (.isub, 0, 0, 0, vi 0), (.iaload, 0, 0, 0, vi 0), (.iastore, 0, 0, 0, vi 0), (.iinc 4 (-1), 4, 0, 0, vi (-1)), (.goto (-25), 29, 0, 0, vi 0), (.aload_n 0, 0, 0, 0, vi 0), (.getfield 9, 8, 1, 2, vi 0), (.iload_n 1, 1, 0, 0, vi 0), (.iload_n 3, 3, 0, 0, vi 0), (.iastore, 0, 0, 0, vi 0), (.iinc 1 1, 1, 0, 0, vi 1), (.goto (-81), 5, 0, 0, vi 0), (.return_, 0, 0, 0, vi 0)]
def am_b88 : List Nat := [0, 1, 2, 5, 6, 7, 8, 9, 12, 15, 18, 21, 22, 23, 24, 27, 30, 33, 34, 35, 38, 39, 40, 41, 44, 45, 46, 47, 48, 50, 52, 53, 56, 57, 60, 62, 63, 66, 68, 69, 70, 71, 72, 75, 78, 79, 82, 83, 84, 85, 88, 91]
/-- WordEach$Seats.draw(I)I -/
def am_c89 : List mo := [(.aload_n 0, 0, 0, 0, vi 0), (.ldc2_w 55, 0, 0, 0, vl 1103515245), (.aload_n 0, 0, 0, 0, vi 0), (.getfield 15, 8, 2, 0, vi 0), (.i2l, 0, 0, 0, vi 0), (.lmul, 0, 0, 0, vi 0), (.ldc2_w 57, 0, 0, 0, vl 12345), (.ladd, 0, 0, 0, vi 0), (.ldc2_w 59, 0, 0, 0, vl 2147483647), (.land, 0, 0, 0, vi 0), (.l2i, 0, 0, 0, vi 0), (.putfield 15, 8, 2, 0, vi 0), (.iload_n 1, 1, 0, 0, vi 0), (.iconst 1, 0, 0, 0, vi 1), (.if_icmp .ge 7, 17, 0, 0, vi 0), (.iconst 0, 0, 0, 0, vi 0), (.goto 12, 23, 0, 0, vi 0), (.aload_n 0, 0, 0, 0, vi 0), (.getfield 15, 8, 2, 0, vi 0), (.bipush 64, 0, 0, 0, vi 64), (.idiv, 0, 0, 0, vi 0), (.iload_n 1, 1, 0, 0, vi 0), (.irem, 0, 0, 0, vi 0), (.ireturn, 0, 0, 0, vi 0)]
def am_b89 : List Nat := [0, 1, 4, 5, 8, 9, 10, 13, 14, 17, 18, 19, 22, 23, 24, 27, 28, 31, 32, 35, 37, 38, 39, 40]
/-- WordEach$Tape.put(I)V -/
def am_c90 : List mo := [(.bipush 24, 0, 0, 0, vi 24), (.istore_n 2, 2, 0, 0, vi 0), (.iload_n 2, 2, 0, 0, vi 0), (.ifCond .lt 42, 25, 0, 0, vi 0), (.aload_n 0, 0, 0, 0, vi 0), (.getfield 19, 9, 1, 0, vi 0), (.sipush 1600, 0, 0, 0, vi 1600), (.if_icmp .ge 32, 25, 0, 0, vi 0), (.aload_n 0, 0, 0, 0, vi 0), (.getfield 9, 9, 0, 2, vi 0), (.aload_n 0, 0, 0, 0, vi 0), (.getfield 19, 9, 1, 0, vi 0), (.iload_n 1, 1, 0, 0, vi 0), (.iload_n 2, 2, 0, 0, vi 0), (.iushr, 0, 0, 0, vi 0), (.i2b, 0, 0, 0, vi 0), (.bastore, 0, 0, 0, vi 0), (.aload_n 0, 0, 0, 0, vi 0), (.dup, 0, 0, 0, vi 0), (.getfield 19, 9, 1, 0, vi 0), (.iconst 1, 0, 0, 0, vi 1), (.iadd, 0, 0, 0, vi 0), (.putfield 19, 9, 1, 0, vi 0), (.iinc 2 (-8), 2, 0, 0, vi (-8)), (.goto (-40), 2, 0, 0, vi 0), (.return_, 0, 0, 0, vi 0)]
def am_b90 : List Nat := [0, 2, 3, 4, 7, 8, 11, 14, 17, 18, 21, 22, 25, 26, 27, 28, 29, 30, 31, 32, 35, 36, 37, 40, 43, 46]
/-- WordEach$Tape.rewind()V -/
def am_c91 : List mo := [(.aload_n 0, 0, 0, 0, vi 0), (.iconst 0, 0, 0, 0, vi 0), (.putfield 22, 9, 2, 0, vi 0), (.aload_n 0, 0, 0, 0, vi 0), (.iconst 0, 0, 0, 0, vi 0), (.putfield 25, 9, 3, 0, vi 0), (.aload_n 0, 0, 0, 0, vi 0), (.iconst (-1), 0, 0, 0, vi (-1)), (.putfield 28, 9, 4, 0, vi 0), (.aload_n 0, 0, 0, 0, vi 0), (.iconst 0, 0, 0, 0, vi 0), (.putfield 31, 9, 5, 0, vi 0), (.aload_n 0, 0, 0, 0, vi 0), (.iconst (-1), 0, 0, 0, vi (-1)), (.putfield 15, 9, 6, 0, vi 0), (.aload_n 0, 0, 0, 0, vi 0), (.invokevirtual 34, 92, 1, 0, vi 0), (.return_, 0, 0, 0, vi 0)]
def am_b91 : List Nat := [0, 1, 2, 5, 6, 7, 10, 11, 12, 15, 16, 17, 20, 21, 22, 25, 26, 29]
/-- WordEach$Tape.advance()V -/
def am_c92 : List mo := [(.aload_n 0, 0, 0, 0, vi 0), (.getfield 28, 9, 4, 0, vi 0), (.bipush 97, 0, 0, 0, vi 97), (.if_icmp .eq 12, 8, 0, 0, vi 0), (.aload_n 0, 0, 0, 0, vi 0), (.getfield 28, 9, 4, 0, vi 0), (.bipush 48, 0, 0, 0, vi 48), (.if_icmp .ne 7, 10, 0, 0, vi 0), (.iconst 1, 0, 0, 0, vi 1), (.goto 4, 11, 0, 0, vi 0), (.iconst 0, 0, 0, 0, vi 0), (.istore_n 1, 1, 0, 0, vi 0), (.aload_n 0, 0, 0, 0, vi 0), (.getfield 22, 9, 2, 0, vi 0), (.aload_n 0, 0, 0, 0, vi 0), (.getfield 25, 9, 3, 0, vi 0), (.iadd, 0, 0, 0, vi 0), (.istore_n 2, 2, 0, 0, vi 0), (.aload_n 0, 0, 0, 0, vi 0), (.iload_n 2, 2, 0, 0, vi 0), (.putfield 22, 9, 2, 0, vi 0), (.aload_n 0, 0, 0, 0, vi 0), (.getfield 22, 9, 2, 0, vi 0), (.aload_n 0, 0, 0, 0, vi 0), (.getfield 19, 9, 1, 0, vi 0), (.if_icmp .ge 44, 47, 0, 0, vi 0), (.aload_n 0, 0, 0, 0, vi 0), (.getfield 9, 9, 0, 2, vi 0), (.aload_n 0, 0, 0, 0, vi 0), (.getfield 22, 9, 2, 0, vi 0), (.baload, 0, 0, 0, vi 0), (.bipush 32, 0, 0, 0, vi 32), (.if_icmp .eq 17, 40, 0, 0, vi 0), (.aload_n 0, 0, 0, 0, vi 0), (.getfield 9, 9, 0, 2, vi 0), (.aload_n 0, 0, 0, 0, vi 0), (.getfield 22, 9, 2, 0, vi 0), (.baload, 0, 0, 0, vi 0), (.bipush 10, 0, 0, 0, vi 10), (.if_icmp .ne 16, 47, 0, 0, vi 0), (.aload_n 0, 0, 0, 0, vi 0), (.dup, 0, 0, 0, vi 0), (.getfield 22, 9, 2, 0, vi 0), (.iconst 1, 0, 0, 0, vi 1), (.iadd, 0, 0, 0, vi 0), (.putfield 22, 9, 2, 0, vi 0), (.goto (-49), 21, 0, 0, vi 0), (.aload_n 0, 0, 0, 0, vi 0), (.aload_n 0, 0, 0, 0, vi 0), (.aload_n 0, 0, 0, 0, vi 0), (.getfield 22, 9, 2, 0, vi 0), (.invokevirtual 37, 93, 2, 1, vi 0), (.putfield 28, 9, 4, 0, vi 0), (.aload_n 0, 0, 0, 0, vi 0), (.aload_n 0, 0, 0, 0, vi 0), (.getfield 22, 9, 2, 0, vi 0), (.aload_n 0, 0, 0, 0, vi 0), (.getfield 19, 9, 1, 0, vi 0), (.if_icmp .ge 7, 61, 0, 0, vi 0), (.iconst 1, 0, 0, 0, vi 1), (.goto 4, 62, 0, 0, vi 0), (.iconst 0, 0, 0, 0, vi 0), (.putfield 25, 9, 3, 0, vi 0), (.aload_n 0, 0, 0, 0, vi 0), (.getfield 28, 9, 4, 0, vi 0), (.bipush 97, 0, 0, 0, vi 97), (.if_icmp .eq 13, 72, 0, 0, vi 0), (.aload_n 0, 0, 0, 0, vi 0), (.getfield 28, 9, 4, 0, vi 0), (.bipush 48, 0, 0, 0, vi 48), (.if_icmp .eq 4, 72, 0, 0, vi 0), (.return_, 0, 0, 0, vi 0), (.aload_n 0, 0, 0, 0, vi 0), (.getfield 22, 9, 2, 0, vi 0), (.aload_n 0, 0, 0, 0, vi 0), (.getfield 25, 9, 3, 0, vi 0), (.iadd, 0, 0, 0, vi 0), (.aload_n 0, 0, 0, 0, vi 0), (.getfield 19, 9, 1, 0, vi 0), (.if_icmp .ge 36, 97, 0, 0, vi 0), (.aload_n 0, 0, 0, 0, vi 0), (.aload_n 0, 0, 0, 0, vi 0), (.getfield 22, 9, 2, 0, vi 0), (.aload_n 0, 0, 0, 0, vi 0), (.getfield 25, 9, 3, 0, vi 0), (.iadd, 0, 0, 0, vi 0), (.invokevirtual 37, 93, 2, 1, vi 0), (.aload_n 0, 0, 0, 0, vi 0), (.getfield 28, 9, 4, 0, vi 0), (.if_icmp .ne 16, 97, 0, 0, vi 0), (.aload_n 0, 0, 0, 0, vi 0), (.dup, 0, 0, 0, vi 0), (.getfield 25, 9, 3, 0, vi 0), (.iconst 1, 0, 0, 0, vi 1), (.iadd, 0, 0, 0, vi 0), (.putfield 25, 9, 3, 0, vi 0), (.goto (-46), 72, 0, 0, vi 0), (.iload_n 1, 1, 0, 0, vi 0), (.ifCond .eq 16, 106, 0, 0, vi 0), (.aload_n 0, 0, 0, 0, vi 0), (.getfield 22, 9, 2, 0, vi 0), (.iload_n 2, 2, 0, 0, vi 0), (.if_icmp .ne 8, 106, 0, 0, vi 0), (.aload_n 0, 0, 0, 0, vi 0), (.iconst 0, 0, 0, 0, vi 0), (.putfield 28, 9, 4, 0, vi 0), (.return_, 0, 0, 0, vi 0)]
def am_b92 : List Nat := [0, 1, 4, 6, 9, 10, 13, 15, 18, 19, 22, 23, 24, 25, 28, 29, 32, 33, 34, 35, 36, 39, 40, 43, 44, 47, 50, 51, 54, 55, 58, 59, 61, 64, 65, 68, 69, 72, 73, 75, 78, 79, 80, 83, 84, 85, 88, 91, 92, 93, 94, 97, 100, 103, 104, 105, 108, 109, 112, 115, 116, 119, 120, 123, 124, 127, 129, 132, 133, 136, 138, 141, 142, 143, 146, 147, 150, 151, 152, 155, 158, 159, 160, 163, 164, 167, 168, 171, 172, 175, 178, 179, 180, 183, 184, 185, 188, 191, 192, 195, 196, 199, 200, 203, 204, 205, 208]
/-- WordEach$Tape.signAt(I)I -/
def am_c93 : List mo := [(.iload_n 1, 1, 0, 0, vi 0), (.aload_n 0, 0, 0, 0, vi 0), (.getfield 19, 9, 1, 0, vi 0), (.if_icmp .lt 5, 6, 0, 0, vi 0), (.iconst (-1), 0, 0, 0, vi (-1)), (.ireturn, 0, 0, 0, vi 0), (.aload_n 0, 0, 0, 0, vi 0), (.getfield 9, 9, 0, 2, vi 0), (.iload_n 1, 1, 0, 0, vi 0), (.baload, 0, 0, 0, vi 0), (.sipush 255, 0, 0, 0, vi 255), (.iand, 0, 0, 0, vi 0), (.istore_n 2, 2, 0, 0, vi 0), (.iload_n 2, 2, 0, 0, vi 0), (.bipush 97, 0, 0, 0, vi 97), (.if_icmp .lt 12, 21, 0, 0, vi 0), (.iload_n 2, 2, 0, 0, vi 0), (.bipush 122, 0, 0, 0, vi 122), (.if_icmp .gt 6, 21, 0, 0, vi 0), (.bipush 97, 0, 0, 0, vi 97), (.ireturn, 0, 0, 0, vi 0), (.iload_n 2, 2, 0, 0, vi 0), (.bipush 48, 0, 0, 0, vi 48), (.if_icmp .lt 14, 29, 0, 0, vi 0), (.iload_n 2, 2, 0, 0, vi 0), (.bipush 57, 0, 0, 0, vi 57), (.if_icmp .gt 8, 29, 0, 0, vi 0), (.bipush 48, 0, 0, 0, vi 48), (.goto 4, 30, 0, 0, vi 0), (.iload_n 2, 2, 0, 0, vi 0), (.ireturn, 0, 0, 0, vi 0)]
def am_b93 : List Nat := [0, 1, 2, 5, 8, 9, 10, 11, 14, 15, 16, 19, 20, 21, 22, 24, 27, 28, 30, 33, 35, 36, 37, 39, 42, 43, 45, 48, 50, 53, 54]
/-- WordEach$Tape.listed(Ljava/lang/String;)I -/
def am_c94 : List mo := [(.aload_n 0, 0, 0, 0, vi 0), (.getfield 28, 9, 4, 0, vi 0), (.bipush 97, 0, 0, 0, vi 97), (.if_icmp .eq 5, 6, 0, 0, vi 0), (.iconst (-1), 0, 0, 0, vi (-1)), (.ireturn, 0, 0, 0, vi 0), (.iconst 0, 0, 0, 0, vi 0), (.istore_n 2, 2, 0, 0, vi 0), (.iconst 0, 0, 0, 0, vi 0), (.istore_n 3, 3, 0, 0, vi 0), (.iconst 0, 0, 0, 0, vi 0), (.istore 4, 4, 0, 0, vi 0), (.iload 4, 4, 0, 0, vi 0), (.aload_n 1, 1, 0, 0, vi 0), (.invokevirtual 45, 900, 1, 1, vi 0), (.if_icmp .ge 91, 63, 0, 0, vi 0), (.aload_n 1, 1, 0, 0, vi 0), (.iload 4, 4, 0, 0, vi 0), (.invokevirtual 50, 901, 2, 1, vi 0), (.bipush 32, 0, 0, 0, vi 32), (.if_icmp .eq 59, 52, 0, 0, vi 0), (.iload_n 3, 3, 0, 0, vi 0), (.iconst (-1), 0, 0, 0, vi (-1)), (.if_icmp .eq 35, 41, 0, 0, vi 0), (.iload_n 3, 3, 0, 0, vi 0), (.aload_n 0, 0, 0, 0, vi 0), (.getfield 25, 9, 3, 0, vi 0), (.if_icmp .ge 27, 41, 0, 0, vi 0), (.aload_n 0, 0, 0, 0, vi 0), (.getfield 9, 9, 0, 2, vi 0), (.aload_n 0, 0, 0, 0, vi 0), (.getfield 22, 9, 2, 0, vi 0), (.iload_n 3, 3, 0, 0, vi 0), (.iadd, 0, 0, 0, vi 0), (.baload, 0, 0, 0, vi 0), (.aload_n 1, 1, 0, 0, vi 0), (.iload 4, 4, 0, 0, vi 0), (.invokevirtual 50, 901, 2, 1, vi 0), (.if_icmp .ne 7, 41, 0, 0, vi 0), (.iconst 1, 0, 0, 0, vi 1), (.goto 4, 42, 0, 0, vi 0), (.iconst 0, 0, 0, 0, vi 0), (.istore 5, 5, 0, 0, vi 0), (.iload 5, 5, 0, 0, vi 0), (.ifCond .eq 9, 49, 0, 0, vi 0), (.iload_n 3, 3, 0, 0, vi 0), (.iconst 1, 0, 0, 0, vi 1), (.iadd, 0, 0, 0, vi 0), (.goto 4, 50, 0, 0, vi 0), (.iconst (-1), 0, 0, 0, vi (-1)), (.istore_n 3, 3, 0, 0, vi 0), (.goto 18, 61, 0, 0, vi 0), (.iload_n 3, 3, 0, 0, vi 0), (.aload_n 0, 0, 0, 0, vi 0), (.getfield 25, 9, 3, 0, vi 0), (.if_icmp .ne 5, 58, 0, 0, vi 0), (.iload_n 2, 2, 0, 0, vi 0), (.ireturn, 0, 0, 0, vi 0), (.iinc 2 1, 2, 0, 0, vi 1), (.iconst 0, 0, 0, 0, vi 0), (.istore_n 3, 3, 0, 0, vi 0), (.iinc 4 1, 4, 0, 0, vi 1), (.goto (-94), 12, 0, 0, vi 0), (.iload_n 3, 3, 0, 0, vi 0), (.aload_n 0, 0, 0, 0, vi 0), (.getfield 25, 9, 3, 0, vi 0), (.if_icmp .ne 7, 69, 0, 0, vi 0), (.iload_n 2, 2, 0, 0, vi 0), (.goto 4, 70, 0, 0, vi 0), (.iconst (-1), 0, 0, 0, vi (-1)), (.ireturn, 0, 0, 0, vi 0)]
def am_b94 : List Nat := [0, 1, 4, 6, 9, 10, 11, 12, 13, 14, 15, 16, 18, 20, 21, 24, 27, 28, 30, 33, 35, 38, 39, 40, 43, 44, 45, 48, 51, 52, 55, 56, 59, 60, 61, 62, 63, 65, 68, 71, 72, 75, 76, 78, 80, 83, 84, 85, 86, 89, 90, 91, 94, 95, 96, 99, 102, 103, 104, 107, 108, 109, 112, 115, 116, 117, 120, 123, 124, 127, 128]
/-- WordEach$Tape.fail(II)V -/
def am_c95 : List mo := [(.aload_n 0, 0, 0, 0, vi 0), (.getfield 31, 9, 5, 0, vi 0), (.ifCond .ne 13, 9, 0, 0, vi 0), (.aload_n 0, 0, 0, 0, vi 0), (.iload_n 1, 1, 0, 0, vi 0), (.putfield 31, 9, 5, 0, vi 0), (.aload_n 0, 0, 0, 0, vi 0), (.iload_n 2, 2, 0, 0, vi 0), (.putfield 15, 9, 6, 0, vi 0), (.return_, 0, 0, 0, vi 0)]
def am_b95 : List Nat := [0, 1, 4, 7, 8, 9, 12, 13, 14, 17]
/-- WordEach$Tape.spelled()I -/
def am_c96 : List mo := [(.aload_n 0, 0, 0, 0, vi 0), (.getfield 31, 9, 5, 0, vi 0), (.ifCond .eq 5, 5, 0, 0, vi 0), (.iconst 0, 0, 0, 0, vi 0), (.ireturn, 0, 0, 0, vi 0), (.aload_n 0, 0, 0, 0, vi 0), (.getfield 28, 9, 4, 0, vi 0), (.bipush 97, 0, 0, 0, vi 97), (.if_icmp .ne 13, 14, 0, 0, vi 0), (.aload_n 0, 0, 0, 0, vi 0), (.ldc 54, 0, 0, 0, vr 200 0), (.invokevirtual 56, 94, 2, 1, vi 0), (.iconst (-1), 0, 0, 0, vi (-1)), (.if_icmp .eq 14, 21, 0, 0, vi 0), (.aload_n 0, 0, 0, 0, vi 0), (.iconst 1, 0, 0, 0, vi 1), (.aload_n 0, 0, 0, 0, vi 0), (.getfield 22, 9, 2, 0, vi 0), (.invokevirtual 41, 95, 3, 0, vi 0), (.iconst 0, 0, 0, 0, vi 0), (.ireturn, 0, 0, 0, vi 0), (.aload_n 0, 0, 0, 0, vi 0), (.getfield 25, 9, 3, 0, vi 0), (.bipush 6, 0, 0, 0, vi 6), (.if_icmp .le 17, 34, 0, 0, vi 0), (.aload_n 0, 0, 0, 0, vi 0), (.iconst 1, 0, 0, 0, vi 1), (.aload_n 0, 0, 0, 0, vi 0), (.getfield 22, 9, 2, 0, vi 0), (.bipush 6, 0, 0, 0, vi 6), (.iadd, 0, 0, 0, vi 0), (.invokevirtual 41, 95, 3, 0, vi 0), (.iconst 0, 0, 0, 0, vi 0), (.ireturn, 0, 0, 0, vi 0), (.iconst 0, 0, 0, 0, vi 0), (.istore_n 1, 1, 0, 0, vi 0), (.iconst 0, 0, 0, 0, vi 0), (.istore_n 2, 2, 0, 0, vi 0), (.iload_n 2, 2, 0, 0, vi 0), (.bipush 6, 0, 0, 0, vi 6), (.if_icmp .ge 42, 65, 0, 0, vi 0), (.iload_n 1, 1, 0, 0, vi 0), (.iconst 5, 0, 0, 0, vi 5), (.ishl, 0, 0, 0, vi 0), (.iload_n 2, 2, 0, 0, vi 0), (.aload_n 0, 0, 0, 0, vi 0), (.getfield 25, 9, 3, 0, vi 0), (.if_icmp .ge 22, 60, 0, 0, vi 0), (.aload_n 0, 0, 0, 0, vi 0), (.getfield 9, 9, 0, 2, vi 0), (.aload_n 0, 0, 0, 0, vi 0), (.getfield 22, 9, 2, 0, vi 0), (.iload_n 2, 2, 0, 0, vi 0), (.iadd, 0, 0, 0, vi 0), (.baload, 0, 0, 0, vi 0), (.bipush 97, 0, 0, 0, vi 97), (.isub, 0, 0, 0, vi 0), (.iconst 1, 0, 0, 0, vi 1), (.iadd, 0, 0, 0, vi 0), (.goto 4, 61, 0, 0, vi 0), (.iconst 0, 0, 0, 0, vi 0), (.ior, 0, 0, 0, vi 0), (.istore_n 1, 1, 0, 0, vi 0), (.iinc 2 1, 2, 0, 0, vi 1), (.goto (-42), 38, 0, 0, vi 0), (.iload_n 1, 1, 0, 0, vi 0), (.ireturn, 0, 0, 0, vi 0)]
def am_b96 : List Nat := [0, 1, 4, 7, 8, 9, 10, 13, 15, 18, 19, 21, 24, 25, 28, 29, 30, 31, 34, 37, 38, 39, 40, 43, 45, 48, 49, 50, 51, 54, 56, 57, 60, 61, 62, 63, 64, 65, 66, 67, 69, 72, 73, 74, 75, 76, 77, 80, 83, 84, 87, 88, 91, 92, 93, 94, 96, 97, 98, 99, 102, 103, 104, 105, 108, 111, 112]
/-- WordEach$Tape.takeNumber(I)I -/
def am_c97 : List mo := [(.aload_n 0, 0, 0, 0, vi 0), (.getfield 31, 9, 5, 0, vi 0), (.ifCond .eq 5, 5, 0, 0, vi 0), (.iconst (-1), 0, 0, 0, vi (-1)), (.ireturn, 0, 0, 0, vi 0), (.aload_n 0, 0, 0, 0, vi 0), (.getfield 28, 9, 4, 0, vi 0), (.bipush 48, 0, 0, 0, vi 48), (.if_icmp .eq 14, 16, 0, 0, vi 0), (.aload_n 0, 0, 0, 0, vi 0), (.iconst 1, 0, 0, 0, vi 1), (.aload_n 0, 0, 0, 0, vi 0), (.getfield 22, 9, 2, 0, vi 0), (.invokevirtual 41, 95, 3, 0, vi 0), (.iconst (-1), 0, 0, 0, vi (-1)), (.ireturn, 0, 0, 0, vi 0), (.aload_n 0, 0, 0, 0, vi 0), (.getfield 25, 9, 3, 0, vi 0), (.iconst 4, 0, 0, 0, vi 4), (.if_icmp .le 16, 29, 0, 0, vi 0), (.aload_n 0, 0, 0, 0, vi 0), (.iconst 1, 0, 0, 0, vi 1), (.aload_n 0, 0, 0, 0, vi 0), (.getfield 22, 9, 2, 0, vi 0), (.iconst 4, 0, 0, 0, vi 4), (.iadd, 0, 0, 0, vi 0), (.invokevirtual 41, 95, 3, 0, vi 0), (.iconst (-1), 0, 0, 0, vi (-1)), (.ireturn, 0, 0, 0, vi 0), (.iconst 0, 0, 0, 0, vi 0), (.istore_n 2, 2, 0, 0, vi 0), (.iconst 0, 0, 0, 0, vi 0), (.istore_n 3, 3, 0, 0, vi 0), (.iload_n 3, 3, 0, 0, vi 0), (.aload_n 0, 0, 0, 0, vi 0), (.getfield 25, 9, 3, 0, vi 0), (.if_icmp .ge 29, 53, 0, 0, vi 0), (.bipush 10, 0, 0, 0, vi 10), (.iload_n 2, 2, 0, 0, vi 0), (.imul, 0, 0, 0, vi 0), (.aload_n 0, 0, 0, 0, vi 0), (.getfield 9, 9, 0, 2, vi 0), (.aload_n 0, 0, 0, 0, vi 0), (.getfield 22, 9, 2, 0, vi 0), (.iload_n 3, 3, 0, 0, vi 0), (.iadd, 0, 0, 0, vi 0), (.baload, 0, 0, 0, vi 0), (.iadd, 0, 0, 0, vi 0), (.bipush 48, 0, 0, 0, vi 48), (.isub, 0, 0, 0, vi 0), (.istore_n 2, 2, 0, 0, vi 0), (.iinc 3 1, 3, 0, 0, vi 1), (.goto (-31), 33, 0, 0, vi 0), (.iload_n 2, 2, 0, 0, vi 0), (.iload_n 1, 1, 0, 0, vi 0), (.if_icmp .le 14, 63, 0, 0, vi 0), (.aload_n 0, 0, 0, 0, vi 0), (.iconst 2, 0, 0, 0, vi 2), (.aload_n 0, 0, 0, 0, vi 0), (.getfield 22, 9, 2, 0, vi 0), (.invokevirtual 41, 95, 3, 0, vi 0), (.iconst (-1), 0, 0, 0, vi (-1)), (.ireturn, 0, 0, 0, vi 0), (.aload_n 0, 0, 0, 0, vi 0), (.invokevirtual 34, 92, 1, 0, vi 0), (.iload_n 2, 2, 0, 0, vi 0), (.ireturn, 0, 0, 0, vi 0)]
def am_b97 : List Nat := [0, 1, 4, 7, 8, 9, 10, 13, 15, 18, 19, 20, 21, 24, 27, 28, 29, 30, 33, 34, 37, 38, 39, 40, 43, 44, 45, 48, 49, 50, 51, 52, 53, 54, 55, 56, 59, 62, 64, 65, 66, 67, 70, 71, 74, 75, 76, 77, 78, 80, 81, 82, 85, 88, 89, 90, 93, 94, 95, 96, 99, 102, 103, 104, 105, 108, 109]
/-- WordEach$Tape.take(I)Z -/
def am_c98 : List mo := [(.aload_n 0, 0, 0, 0, vi 0), (.getfield 31, 9, 5, 0, vi 0), (.ifCond .ne 17, 11, 0, 0, vi 0), (.aload_n 0, 0, 0, 0, vi 0), (.getfield 28, 9, 4, 0, vi 0), (.iload_n 1, 1, 0, 0, vi 0), (.if_icmp .ne 9, 11, 0, 0, vi 0), (.aload_n 0, 0, 0, 0, vi 0), (.invokevirtual 34, 92, 1, 0, vi 0), (.iconst 1, 0, 0, 0, vi 1), (.ireturn, 1, 0, 0, vi 0), (.aload_n 0, 0, 0, 0, vi 0), (.iconst 1, 0, 0, 0, vi 1), (.aload_n 0, 0, 0, 0, vi 0), (.getfield 22, 9, 2, 0, vi 0), (.invokevirtual 41, 95, 3, 0, vi 0), (.iconst 0, 0, 0, 0, vi 0), (.ireturn, 1, 0, 0, vi 0)]
def am_b98 : List Nat := [0, 1, 4, 7, 8, 11, 12, 15, 16, 19, 20, 21, 22, 23, 24, 27, 30, 31]
/-- WordEach$Tape.byteAt(I)I -/
def am_c99 : List mo := [(.iload_n 1, 1, 0, 0, vi 0), (.ifCond .lt 11, 6, 0, 0, vi 0), (.iload_n 1, 1, 0, 0, vi 0), (.aload_n 0, 0, 0, 0, vi 0), (.getfield 19, 9, 1, 0, vi 0), (.if_icmp .lt 7, 8, 0, 0, vi 0), (.iconst (-1), 0, 0, 0, vi (-1)), (.goto 13, 14, 0, 0, vi 0), (.aload_n 0, 0, 0, 0, vi 0), (.getfield 9, 9, 0, 2, vi 0), (.iload_n 1, 1, 0, 0, vi 0), (.baload, 0, 0, 0, vi 0), (.sipush 255, 0, 0, 0, vi 255), (.iand, 0, 0, 0, vi 0), (.ireturn, 0, 0, 0, vi 0)]
def am_b99 : List Nat := [0, 1, 4, 5, 6, 9, 12, 13, 16, 17, 20, 21, 22, 25, 26]
/-- WordEach$Witness.maySay(I)Z -/
def am_c100 : List mo := [(.aload_n 0, 0, 0, 0, vi 0), (.getfield 9, 10, 0, 2, vi 0), (.aload_n 0, 0, 0, 0, vi 0), (.getfield 15, 10, 1, 0, vi 0), (.iload_n 1, 1, 0, 0, vi 0), (.invokestatic 19, 104, 3, 1, vi 0), (.ifCond .le 7, 9, 0, 0, vi 0), (.iconst 1, 0, 0, 0, vi 1), (.goto 4, 10, 0, 0, vi 0), (.iconst 0, 0, 0, 0, vi 0), (.ireturn, 1, 0, 0, vi 0)]
def am_b100 : List Nat := [0, 1, 4, 5, 8, 9, 12, 15, 16, 19, 20]
/-- WordEach.feed(IIIII)I -/
def am_c101 : List mo := [(.aload_n 0, 0, 0, 0, vi 0), (.getfield 10, 11, 0, 2, vi 0), (.getfield 85, 9, 1, 0, vi 0), (.bipush 20, 0, 0, 0, vi 20), (.iadd, 0, 0, 0, vi 0), (.sipush 1600, 0, 0, 0, vi 1600), (.if_icmp .le 15, 17, 0, 0, vi 0), (.aload_n 0, 0, 0, 0, vi 0), (.getfield 78, 11, 9, 2, vi 0), (.iconst 0, 0, 0, 0, vi 0), (.dup2, 0, 0, 0, vi 0), (.iaload, 0, 0, 0, vi 0), (.iconst 1, 0, 0, 0, vi 1), (.iadd, 0, 0, 0, vi 0), (.iastore, 0, 0, 0, vi 0), (.iconst (-1), 0, 0, 0, vi (-1)), (.ireturn, 0, 0, 0, vi 0), (.aload_n 0, 0, 0, 0, vi 0), (.getfield 10, 11, 0, 2, vi 0), (.iload_n 1, 1, 0, 0, vi 0), (.invokevirtual 89, 90, 2, 0, vi 0), (.aload_n 0, 0, 0, 0, vi 0), (.getfield 10, 11, 0, 2, vi 0), (.iload_n 2, 2, 0, 0, vi 0), (.invokevirtual 89, 90, 2, 0, vi 0), (.aload_n 0, 0, 0, 0, vi 0), (.getfield 10, 11, 0, 2, vi 0), (.iload_n 3, 3, 0, 0, vi 0), (.invokevirtual 89, 90, 2, 0, vi 0), (.aload_n 0, 0, 0, 0, vi 0), (.getfield 10, 11, 0, 2, vi 0), (.iload 4, 4, 0, 0, vi 0), (.invokevirtual 89, 90, 2, 0, vi 0), (.aload_n 0, 0, 0, 0, vi 0), (.getfield 10, 11, 0, 2, vi 0), (.iload 5, 5, 0, 0, vi 0), (.invokevirtual 89, 90, 2, 0, vi 0), (.aload_n 0, 0, 0, 0, vi 0), (.getfield 10, 11, 0, 2, vi 0), (.getfield 85, 9, 1, 0, vi 0), (.ireturn, 0, 0, 0, vi 0)]
def am_b101 : List Nat := [0, 1, 4, 7, 9, 10, 13, 16, 17, 20, 21, 22, 23, 24, 25, 26, 27, 28, 29, 32, 33, 36, 37, 40, 41, 44, 45, 48, 49, 52, 53, 56, 58, 61, 62, 65, 67, 70, 71, 74, 77]
/-- WordEach.end(I)Z -/
def am_c102 : List mo := [(.iload_n 1, 1, 0, 0, vi 0), (.ifCond .lt 14, 7, 0, 0, vi 0), (.iload_n 1, 1, 0, 0, vi 0), (.aload_n 0, 0, 0, 0, vi 0), (.getfield 10, 11, 0, 2, vi 0), (.getfield 85, 9, 1, 0, vi 0), (.if_icmp .le 15, 17, 0, 0, vi 0), (.aload_n 0, 0, 0, 0, vi 0), (.getfield 78, 11, 9, 2, vi 0), (.iconst 0, 0, 0, 0, vi 0), (.dup2, 0, 0, 0, vi 0), (.iaload, 0, 0, 0, vi 0), (.iconst 1, 0, 0, 0, vi 1), (.iadd, 0, 0, 0, vi 0), (.iastore, 0, 0, 0, vi 0), (.iconst 0, 0, 0, 0, vi 0), (.ireturn, 1, 0, 0, vi 0), (.aload_n 0, 0, 0, 0, vi 0), (.getfield 10, 11, 0, 2, vi 0), (.iload_n 1, 1, 0, 0, vi 0), (.putfield 85, 9, 1, 0, vi 0), (.iconst 1, 0, 0, 0, vi 1), (.ireturn, 1, 0, 0, vi 0)]
def am_b102 : List Nat := [0, 1, 4, 5, 6, 9, 12, 15, 16, 19, 20, 21, 22, 23, 24, 25, 26, 27, 28, 31, 32, 35, 36]
/-- WordEach.text()I -/
def am_c103 : List mo := [(.aload_n 0, 0, 0, 0, vi 0), (.getfield 21, 11, 1, 2, vi 0), (.invokevirtual 93, 24, 1, 1, vi 0), (.istore_n 1, 1, 0, 0, vi 0), (.aload_n 0, 0, 0, 0, vi 0), (.getfield 10, 11, 0, 2, vi 0), (.iconst 0, 0, 0, 0, vi 0), (.putfield 85, 9, 1, 0, vi 0), (.iload_n 1, 1, 0, 0, vi 0), (.iconst (-1), 0, 0, 0, vi (-1)), (.if_icmp .ne 15, 21, 0, 0, vi 0), (.aload_n 0, 0, 0, 0, vi 0), (.getfield 78, 11, 9, 2, vi 0), (.iconst 1, 0, 0, 0, vi 1), (.dup2, 0, 0, 0, vi 0), (.iaload, 0, 0, 0, vi 0), (.iconst 1, 0, 0, 0, vi 1), (.iadd, 0, 0, 0, vi 0), (.iastore, 0, 0, 0, vi 0), (.iconst (-1), 0, 0, 0, vi (-1)), (.ireturn, 0, 0, 0, vi 0), (.aload_n 0, 0, 0, 0, vi 0), (.getfield 28, 11, 2, 2, vi 0), (.getfield 97, 4, 2, 2, vi 0), (.astore_n 2, 2, 0, 0, vi 0), (.aload_n 0, 0, 0, 0, vi 0), (.getfield 28, 11, 2, 2, vi 0), (.aload_n 0, 0, 0, 0, vi 0), (.getfield 21, 11, 1, 2, vi 0), (.getfield 101, 3, 1, 2, vi 0), (.putfield 97, 4, 2, 2, vi 0), (.aload_n 0, 0, 0, 0, vi 0), (.getfield 21, 11, 1, 2, vi 0), (.aload_n 2, 2, 0, 0, vi 0), (.putfield 101, 3, 1, 2, vi 0), (.aload_n 0, 0, 0, 0, vi 0), (.getfield 35, 11, 3, 2, vi 0), (.iconst 0, 0, 0, 0, vi 0), (.putfield 104, 7, 3, 0, vi 0), (.aload_n 0, 0, 0, 0, vi 0), (.aload_n 0, 0, 0, 0, vi 0), (.getfield 28, 11, 2, 2, vi 0), (.getfield 97, 4, 2, 2, vi 0), (.invokevirtual 105, 16, 1, 1, vi 0), (.invokevirtual 110, 105, 2, 0, vi 0), (.iload_n 1, 1, 0, 0, vi 0), (.ireturn, 0, 0, 0, vi 0)]
def am_b103 : List Nat := [0, 1, 4, 7, 8, 9, 12, 13, 16, 17, 18, 21, 22, 25, 26, 27, 28, 29, 30, 31, 32, 33, 34, 37, 40, 41, 42, 45, 46, 49, 52, 55, 56, 59, 60, 63, 64, 67, 68, 71, 72, 73, 76, 79, 82, 85, 86]
/-- WordEach.timesIn([III)I -/
def am_c104 : List mo := [(.iconst 0, 0, 0, 0, vi 0), (.istore_n 3, 3, 0, 0, vi 0), (.iconst 0, 0, 0, 0, vi 0), (.istore 4, 4, 0, 0, vi 0), (.iload 4, 4, 0, 0, vi 0), (.iload_n 1, 1, 0, 0, vi 0), (.if_icmp .ge 32, 24, 0, 0, vi 0), (.iload 4, 4, 0, 0, vi 0), (.aload_n 0, 0, 0, 0, vi 0), (.arraylength, 0, 0, 0, vi 0), (.if_icmp .ge 25, 24, 0, 0, vi 0), (.iload_n 3, 3, 0, 0, vi 0), (.aload_n 0, 0, 0, 0, vi 0), (.iload 4, 4, 0, 0, vi 0), (.iaload, 0, 0, 0, vi 0), (.iload_n 2, 2, 0, 0, vi 0), (.if_icmp .ne 7, 19, 0, 0, vi 0), (.iconst 1, 0, 0, 0, vi 1), (.goto 4, 20, 0, 0, vi 0), (.iconst 0, 0, 0, 0, vi 0), (.iadd, 0, 0, 0, vi 0), (.istore_n 3, 3, 0, 0, vi 0), (.iinc 4 1, 4, 0, 0, vi 1), (.goto (-32), 4, 0, 0, vi 0), (.iload_n 3, 3, 0, 0, vi 0), (.ireturn, 0, 0, 0, vi 0)]
def am_b104 : List Nat := [0, 1, 2, 3, 5, 7, 8, 11, 13, 14, 15, 18, 19, 20, 22, 23, 24, 27, 28, 31, 32, 33, 34, 37, 40, 41]
/-- WordEach.putInForce(I)V -/
def am_c105 : List mo := [(.aload_n 0, 0, 0, 0, vi 0), (.getfield 28, 11, 2, 2, vi 0), (.iload_n 1, 1, 0, 0, vi 0), (.invokevirtual 275, 37, 2, 0, vi 0), (.aload_n 0, 0, 0, 0, vi 0), (.getfield 44, 11, 4, 2, vi 0), (.invokevirtual 334, 53, 1, 0, vi 0), (.aload_n 0, 0, 0, 0, vi 0), (.getfield 65, 11, 7, 2, vi 0), (.invokevirtual 337, 0, 1, 0, vi 0), (.return_, 0, 0, 0, vi 0)]
def am_b105 : List Nat := [0, 1, 4, 5, 8, 9, 12, 15, 16, 19, 22]
/-- WordEach.fault(I)I -/
def am_c106 : List mo := [(.iload_n 1, 1, 0, 0, vi 0), (.ifCond .ne 11, 6, 0, 0, vi 0), (.aload_n 0, 0, 0, 0, vi 0), (.getfield 10, 11, 0, 2, vi 0), (.getfield 113, 9, 5, 0, vi 0), (.ireturn, 0, 0, 0, vi 0), (.iload_n 1, 1, 0, 0, vi 0), (.iconst 1, 0, 0, 0, vi 1), (.if_icmp .ne 13, 13, 0, 0, vi 0), (.aload_n 0, 0, 0, 0, vi 0), (.getfield 10, 11, 0, 2, vi 0), (.getfield 116, 9, 6, 0, vi 0), (.goto 4, 14, 0, 0, vi 0), (.iconst (-1), 0, 0, 0, vi (-1)), (.ireturn, 0, 0, 0, vi 0)]
def am_b106 : List Nat := [0, 1, 4, 5, 8, 11, 12, 13, 14, 17, 18, 21, 24, 27, 28]
/-- WordEach.court(I)I -/
def am_c107 : List mo := [(.aload_n 0, 0, 0, 0, vi 0), (.getfield 28, 11, 2, 2, vi 0), (.getfield 97, 4, 2, 2, vi 0), (.astore_n 2, 2, 0, 0, vi 0), (.iload_n 1, 1, 0, 0, vi 0), (.tableswitch 102 0 8 #[51, 56, 61, 66, 71, 76, 84, 92, 97], 2, 0, 0, vi 0), (.aload_n 2, 2, 0, 0, vi 0), (.getfield 119, 2, 9, 0, vi 0), (.ireturn, 0, 0, 0, vi 0), (.aload_n 2, 2, 0, 0, vi 0), (.getfield 122, 2, 10, 0, vi 0), (.ireturn, 0, 0, 0, vi 0), (.aload_n 2, 2, 0, 0, vi 0), (.getfield 125, 2, 11, 0, vi 0), (.ireturn, 0, 0, 0, vi 0), (.aload_n 2, 2, 0, 0, vi 0), (.getfield 128, 2, 12, 0, vi 0), (.ireturn, 0, 0, 0, vi 0), (.aload_n 2, 2, 0, 0, vi 0), (.getfield 131, 2, 13, 0, vi 0), (.ireturn, 0, 0, 0, vi 0), (.aload_n 0, 0, 0, 0, vi 0), (.getfield 35, 11, 3, 2, vi 0), (.getfield 104, 7, 3, 0, vi 0), (.ireturn, 0, 0, 0, vi 0), (.aload_n 0, 0, 0, 0, vi 0), (.getfield 28, 11, 2, 2, vi 0), (.getfield 134, 4, 3, 0, vi 0), (.ireturn, 0, 0, 0, vi 0), (.aload_n 2, 2, 0, 0, vi 0), (.getfield 137, 2, 14, 0, vi 0), (.ireturn, 0, 0, 0, vi 0), (.aload_n 2, 2, 0, 0, vi 0), (.getfield 140, 2, 15, 0, vi 0), (.ireturn, 0, 0, 0, vi 0), (.iconst (-1), 0, 0, 0, vi (-1)), (.ireturn, 0, 0, 0, vi 0)]
def am_b107 : List Nat := [0, 1, 4, 7, 8, 9, 60, 61, 64, 65, 66, 69, 70, 71, 74, 75, 76, 79, 80, 81, 84, 85, 86, 89, 92, 93, 94, 97, 100, 101, 102, 105, 106, 107, 110, 111, 112]
/-- WordEach.word(II)I -/
def am_c108 : List mo := [(.aload_n 0, 0, 0, 0, vi 0), (.getfield 28, 11, 2, 2, vi 0), (.getfield 97, 4, 2, 2, vi 0), (.astore_n 3, 3, 0, 0, vi 0), (.iload_n 1, 1, 0, 0, vi 0), (.ifCond .lt 11, 10, 0, 0, vi 0), (.iload_n 1, 1, 0, 0, vi 0), (.aload_n 3, 3, 0, 0, vi 0), (.getfield 119, 2, 9, 0, vi 0), (.if_icmp .lt 5, 12, 0, 0, vi 0), (.iconst (-1), 0, 0, 0, vi (-1)), (.ireturn, 0, 0, 0, vi 0), (.iload_n 2, 2, 0, 0, vi 0), (.tableswitch 57 0 2 #[25, 32, 38], 3, 0, 0, vi 0), (.aload_n 3, 3, 0, 0, vi 0), (.getfield 143, 2, 1, 2, vi 0), (.iload_n 1, 1, 0, 0, vi 0), (.iaload, 0, 0, 0, vi 0), (.ireturn, 0, 0, 0, vi 0), (.aload_n 3, 3, 0, 0, vi 0), (.iload_n 1, 1, 0, 0, vi 0), (.invokevirtual 146, 18, 2, 1, vi 0), (.ireturn, 0, 0, 0, vi 0), (.aload_n 0, 0, 0, 0, vi 0), (.getfield 35, 11, 3, 2, vi 0), (.getfield 150, 7, 0, 2, vi 0), (.aload_n 0, 0, 0, 0, vi 0), (.getfield 35, 11, 3, 2, vi 0), (.getfield 104, 7, 3, 0, vi 0), (.iload_n 1, 1, 0, 0, vi 0), (.invokestatic 152, 104, 3, 1, vi 0), (.ireturn, 0, 0, 0, vi 0), (.aload_n 3, 3, 0, 0, vi 0), (.getfield 156, 2, 0, 2, vi 0), (.iload_n 1, 1, 0, 0, vi 0), (.iaload, 0, 0, 0, vi 0), (.iload_n 2, 2, 0, 0, vi 0), (.bipush 10, 0, 0, 0, vi 10), (.invokestatic 159, 109, 3, 1, vi 0), (.ireturn, 0, 0, 0, vi 0)]
def am_b108 : List Nat := [0, 1, 4, 7, 8, 9, 12, 13, 14, 17, 20, 21, 22, 23, 48, 49, 52, 53, 54, 55, 56, 57, 60, 61, 62, 65, 68, 69, 72, 75, 76, 79, 80, 81, 84, 85, 86, 87, 89, 92]
/-- WordEach.letterOf(III)I -/
def am_c109 : List mo := [(.iload_n 1, 1, 0, 0, vi 0), (.iload_n 2, 2, 0, 0, vi 0), (.if_icmp .lt 11, 8, 0, 0, vi 0), (.iload_n 1, 1, 0, 0, vi 0), (.iload_n 2, 2, 0, 0, vi 0), (.bipush 6, 0, 0, 0, vi 6), (.iadd, 0, 0, 0, vi 0), (.if_icmp .lt 5, 10, 0, 0, vi 0), (.iconst (-1), 0, 0, 0, vi (-1)), (.ireturn, 0, 0, 0, vi 0), (.iload_n 0, 0, 0, 0, vi 0), (.iconst 5, 0, 0, 0, vi 5), (.iconst 5, 0, 0, 0, vi 5), (.iload_n 1, 1, 0, 0, vi 0), (.iload_n 2, 2, 0, 0, vi 0), (.isub, 0, 0, 0, vi 0), (.isub, 0, 0, 0, vi 0), (.imul, 0, 0, 0, vi 0), (.ishr, 0, 0, 0, vi 0), (.bipush 31, 0, 0, 0, vi 31), (.iand, 0, 0, 0, vi 0), (.ireturn, 0, 0, 0, vi 0)]
def am_b109 : List Nat := [0, 1, 2, 5, 6, 7, 9, 10, 13, 14, 15, 16, 17, 18, 19, 20, 21, 22, 23, 24, 26, 27]
/-- WordEach.bench(II)I -/
def am_c110 : List mo := [(.aload_n 0, 0, 0, 0, vi 0), (.getfield 28, 11, 2, 2, vi 0), (.getfield 97, 4, 2, 2, vi 0), (.astore_n 3, 3, 0, 0, vi 0), (.aload_n 3, 3, 0, 0, vi 0), (.iload_n 1, 1, 0, 0, vi 0), (.invokevirtual 163, 19, 2, 1, vi 0), (.ifCond .ne 5, 10, 0, 0, vi 0), (.iconst (-1), 0, 0, 0, vi (-1)), (.ireturn, 0, 0, 0, vi 0), (.aload_n 3, 3, 0, 0, vi 0), (.getfield 167, 2, 6, 2, vi 0), (.iload_n 1, 1, 0, 0, vi 0), (.aaload, 0, 0, 0, vi 0), (.astore 4, 4, 0, 0, vi 0), (.iload_n 2, 2, 0, 0, vi 0), (.tableswitch 56 0 3 #[29, 35, 41, 47], 4, 0, 0, vi 0), (.aload 4, 4, 0, 0, vi 0), (.getfield 171, 10, 3, 0, vi 0), (.ireturn, 0, 0, 0, vi 0), (.aload 4, 4, 0, 0, vi 0), (.getfield 176, 10, 4, 0, vi 0), (.ireturn, 0, 0, 0, vi 0), (.aload 4, 4, 0, 0, vi 0), (.getfield 179, 10, 1, 0, vi 0), (.ireturn, 0, 0, 0, vi 0), (.aload_n 0, 0, 0, 0, vi 0), (.getfield 35, 11, 3, 2, vi 0), (.iload_n 1, 1, 0, 0, vi 0), (.invokevirtual 182, 77, 2, 1, vi 0), (.ireturn, 0, 0, 0, vi 0), (.iload_n 2, 2, 0, 0, vi 0), (.bipush 10, 0, 0, 0, vi 10), (.if_icmp .lt 28, 47, 0, 0, vi 0), (.iload_n 2, 2, 0, 0, vi 0), (.bipush 10, 0, 0, 0, vi 10), (.aload 4, 4, 0, 0, vi 0), (.getfield 179, 10, 1, 0, vi 0), (.iadd, 0, 0, 0, vi 0), (.if_icmp .ge 16, 47, 0, 0, vi 0), (.aload 4, 4, 0, 0, vi 0), (.getfield 185, 10, 0, 2, vi 0), (.iload_n 2, 2, 0, 0, vi 0), (.bipush 10, 0, 0, 0, vi 10), (.isub, 0, 0, 0, vi 0), (.iaload, 0, 0, 0, vi 0), (.goto 14, 52, 0, 0, vi 0), (.aload 4, 4, 0, 0, vi 0), (.getfield 186, 10, 2, 0, vi 0), (.iload_n 2, 2, 0, 0, vi 0), (.bipush 20, 0, 0, 0, vi 20), (.invokestatic 159, 109, 3, 1, vi 0), (.ireturn, 0, 0, 0, vi 0)]
def am_b110 : List Nat := [0, 1, 4, 7, 8, 9, 10, 13, 16, 17, 18, 19, 22, 23, 24, 26, 27, 56, 58, 61, 62, 64, 67, 68, 70, 73, 74, 75, 78, 79, 82, 83, 84, 86, 89, 90, 92, 94, 97, 98, 101, 103, 106, 107, 109, 110, 111, 114, 116, 119, 120, 122, 125]
/-- WordEach.grammar(II)I -/
def am_c111 : List mo := [(.aload_n 0, 0, 0, 0, vi 0), (.getfield 28, 11, 2, 2, vi 0), (.getfield 97, 4, 2, 2, vi 0), (.astore_n 3, 3, 0, 0, vi 0), (.aload_n 3, 3, 0, 0, vi 0), (.iload_n 1, 1, 0, 0, vi 0), (.invokevirtual 189, 20, 2, 1, vi 0), (.ifCond .eq 17, 16, 0, 0, vi 0), (.iload_n 2, 2, 0, 0, vi 0), (.ifCond .lt 13, 16, 0, 0, vi 0), (.iload_n 2, 2, 0, 0, vi 0), (.aload_n 3, 3, 0, 0, vi 0), (.getfield 192, 2, 3, 2, vi 0), (.iload_n 1, 1, 0, 0, vi 0), (.iaload, 0, 0, 0, vi 0), (.if_icmp .lt 5, 18, 0, 0, vi 0), (.iconst (-1), 0, 0, 0, vi (-1)), (.ireturn, 0, 0, 0, vi 0), (.aload_n 3, 3, 0, 0, vi 0), (.getfield 195, 2, 2, 2, vi 0), (.iload_n 1, 1, 0, 0, vi 0), (.aaload, 0, 0, 0, vi 0), (.iload_n 2, 2, 0, 0, vi 0), (.iaload, 0, 0, 0, vi 0), (.ireturn, 0, 0, 0, vi 0)]
def am_b111 : List Nat := [0, 1, 4, 7, 8, 9, 10, 13, 16, 17, 20, 21, 22, 25, 26, 27, 30, 31, 32, 33, 36, 37, 38, 39, 40]
/-- WordEach.row(IZ)I -/
def am_c112 : List mo := [(.iload_n 1, 1, 0, 0, vi 0), (.ifCond .lt 14, 7, 0, 0, vi 0), (.iload_n 1, 1, 0, 0, vi 0), (.aload_n 0, 0, 0, 0, vi 0), (.getfield 35, 11, 3, 2, vi 0), (.getfield 104, 7, 3, 0, vi 0), (.if_icmp .lt 5, 9, 0, 0, vi 0), (.iconst (-1), 0, 0, 0, vi (-1)), (.ireturn, 0, 0, 0, vi 0), (.iload_n 2, 2, 0, 0, vi 0), (.ifCond .eq 15, 17, 0, 0, vi 0), (.aload_n 0, 0, 0, 0, vi 0), (.getfield 35, 11, 3, 2, vi 0), (.getfield 199, 7, 1, 2, vi 0), (.iload_n 1, 1, 0, 0, vi 0), (.iaload, 0, 0, 0, vi 0), (.goto 12, 22, 0, 0, vi 0), (.aload_n 0, 0, 0, 0, vi 0), (.getfield 35, 11, 3, 2, vi 0), (.getfield 150, 7, 0, 2, vi 0), (.iload_n 1, 1, 0, 0, vi 0), (.iaload, 0, 0, 0, vi 0), (.ireturn, 0, 0, 0, vi 0)]
def am_b112 : List Nat := [0, 1, 4, 5, 6, 9, 12, 15, 16, 17, 18, 21, 22, 25, 28, 29, 30, 33, 34, 37, 40, 41, 42]
/-- WordEach.say(II)I -/
def am_c113 : List mo := [(.aload_n 0, 0, 0, 0, vi 0), (.getfield 28, 11, 2, 2, vi 0), (.getfield 97, 4, 2, 2, vi 0), (.astore_n 3, 3, 0, 0, vi 0), (.aload_n 3, 3, 0, 0, vi 0), (.iload_n 1, 1, 0, 0, vi 0), (.iload_n 2, 2, 0, 0, vi 0), (.invokevirtual 202, 21, 3, 1, vi 0), (.ifCond .eq 15, 15, 0, 0, vi 0), (.aload_n 0, 0, 0, 0, vi 0), (.getfield 35, 11, 3, 2, vi 0), (.iload_n 1, 1, 0, 0, vi 0), (.invokevirtual 182, 77, 2, 1, vi 0), (.iconst (-1), 0, 0, 0, vi (-1)), (.if_icmp .eq 15, 25, 0, 0, vi 0), (.aload_n 0, 0, 0, 0, vi 0), (.getfield 78, 11, 9, 2, vi 0), (.iconst 2, 0, 0, 0, vi 2), (.dup2, 0, 0, 0, vi 0), (.iaload, 0, 0, 0, vi 0), (.iconst 1, 0, 0, 0, vi 1), (.iadd, 0, 0, 0, vi 0), (.iastore, 0, 0, 0, vi 0), (.iconst (-1), 0, 0, 0, vi (-1)), (.ireturn, 0, 0, 0, vi 0), (.aload_n 0, 0, 0, 0, vi 0), (.getfield 35, 11, 3, 2, vi 0), (.iload_n 1, 1, 0, 0, vi 0), (.aload_n 3, 3, 0, 0, vi 0), (.getfield 167, 2, 6, 2, vi 0), (.iload_n 1, 1, 0, 0, vi 0), (.aaload, 0, 0, 0, vi 0), (.getfield 185, 10, 0, 2, vi 0), (.iload_n 2, 2, 0, 0, vi 0), (.iaload, 0, 0, 0, vi 0), (.invokevirtual 206, 78, 3, 0, vi 0), (.aload_n 0, 0, 0, 0, vi 0), (.getfield 35, 11, 3, 2, vi 0), (.getfield 104, 7, 3, 0, vi 0), (.ireturn, 0, 0, 0, vi 0)]
def am_b113 : List Nat := [0, 1, 4, 7, 8, 9, 10, 11, 14, 17, 18, 21, 22, 25, 26, 29, 30, 33, 34, 35, 36, 37, 38, 39, 40, 41, 42, 45, 46, 47, 50, 51, 52, 55, 56, 57, 60, 61, 64, 67]
/-- WordEach.back()Z -/
def am_c114 : List mo := [(.aload_n 0, 0, 0, 0, vi 0), (.getfield 35, 11, 3, 2, vi 0), (.getfield 104, 7, 3, 0, vi 0), (.ifCond .ne 15, 14, 0, 0, vi 0), (.aload_n 0, 0, 0, 0, vi 0), (.getfield 78, 11, 9, 2, vi 0), (.iconst 2, 0, 0, 0, vi 2), (.dup2, 0, 0, 0, vi 0), (.iaload, 0, 0, 0, vi 0), (.iconst 1, 0, 0, 0, vi 1), (.iadd, 0, 0, 0, vi 0), (.iastore, 0, 0, 0, vi 0), (.iconst 0, 0, 0, 0, vi 0), (.ireturn, 1, 0, 0, vi 0), (.aload_n 0, 0, 0, 0, vi 0), (.getfield 35, 11, 3, 2, vi 0), (.dup, 0, 0, 0, vi 0), (.getfield 104, 7, 3, 0, vi 0), (.iconst 1, 0, 0, 0, vi 1), (.isub, 0, 0, 0, vi 0), (.putfield 104, 7, 3, 0, vi 0), (.iconst 1, 0, 0, 0, vi 1), (.ireturn, 1, 0, 0, vi 0)]
def am_b114 : List Nat := [0, 1, 4, 7, 10, 11, 14, 15, 16, 17, 18, 19, 20, 21, 22, 23, 26, 27, 30, 31, 32, 35, 36]
/-- WordEach.clear()I -/
def am_c115 : List mo := [(.aload_n 0, 0, 0, 0, vi 0), (.getfield 35, 11, 3, 2, vi 0), (.getfield 104, 7, 3, 0, vi 0), (.istore_n 1, 1, 0, 0, vi 0), (.aload_n 0, 0, 0, 0, vi 0), (.getfield 35, 11, 3, 2, vi 0), (.iconst 0, 0, 0, 0, vi 0), (.putfield 104, 7, 3, 0, vi 0), (.iload_n 1, 1, 0, 0, vi 0), (.ireturn, 0, 0, 0, vi 0)]
def am_b115 : List Nat := [0, 1, 4, 7, 8, 9, 12, 13, 16, 17]
/-- WordEach.line(IZ)Z -/
def am_c116 : List mo := [(.aload_n 0, 0, 0, 0, vi 0), (.getfield 28, 11, 2, 2, vi 0), (.getfield 97, 4, 2, 2, vi 0), (.iload_n 1, 1, 0, 0, vi 0), (.invokevirtual 189, 20, 2, 1, vi 0), (.ifCond .eq 15, 12, 0, 0, vi 0), (.aload_n 0, 0, 0, 0, vi 0), (.getfield 28, 11, 2, 2, vi 0), (.iload_n 1, 1, 0, 0, vi 0), (.invokevirtual 210, 38, 2, 1, vi 0), (.iload_n 2, 2, 0, 0, vi 0), (.if_icmp .ne 15, 22, 0, 0, vi 0), (.aload_n 0, 0, 0, 0, vi 0), (.getfield 78, 11, 9, 2, vi 0), (.iconst 3, 0, 0, 0, vi 3), (.dup2, 0, 0, 0, vi 0), (.iaload, 0, 0, 0, vi 0), (.iconst 1, 0, 0, 0, vi 1), (.iadd, 0, 0, 0, vi 0), (.iastore, 0, 0, 0, vi 0), (.iconst 0, 0, 0, 0, vi 0), (.ireturn, 1, 0, 0, vi 0), (.aload_n 0, 0, 0, 0, vi 0), (.aload_n 0, 0, 0, 0, vi 0), (.getfield 28, 11, 2, 2, vi 0), (.getfield 134, 4, 3, 0, vi 0), (.iconst 1, 0, 0, 0, vi 1), (.iload_n 1, 1, 0, 0, vi 0), (.ishl, 0, 0, 0, vi 0), (.ixor, 0, 0, 0, vi 0), (.invokevirtual 110, 105, 2, 0, vi 0), (.iconst 1, 0, 0, 0, vi 1), (.ireturn, 1, 0, 0, vi 0)]
def am_b116 : List Nat := [0, 1, 4, 7, 8, 11, 14, 15, 18, 19, 22, 23, 26, 27, 30, 31, 32, 33, 34, 35, 36, 37, 38, 39, 40, 43, 46, 47, 48, 49, 50, 53, 54]
/-- WordEach.sense()I -/
def am_c117 : List mo := [(.aload_n 0, 0, 0, 0, vi 0), (.getfield 28, 11, 2, 2, vi 0), (.aload_n 0, 0, 0, 0, vi 0), (.getfield 35, 11, 3, 2, vi 0), (.getfield 150, 7, 0, 2, vi 0), (.aload_n 0, 0, 0, 0, vi 0), (.getfield 35, 11, 3, 2, vi 0), (.getfield 104, 7, 3, 0, vi 0), (.invokevirtual 213, 39, 3, 1, vi 0), (.ireturn, 0, 0, 0, vi 0)]
def am_b117 : List Nat := [0, 1, 4, 5, 8, 11, 12, 15, 18, 21]
/-- WordEach.means(II)I -/
def am_c118 : List mo := [(.iload_n 1, 1, 0, 0, vi 0), (.ifCond .lt 11, 6, 0, 0, vi 0), (.aload_n 0, 0, 0, 0, vi 0), (.invokevirtual 217, 117, 1, 1, vi 0), (.iconst (-1), 0, 0, 0, vi (-1)), (.if_icmp .eq 5, 8, 0, 0, vi 0), (.iconst (-1), 0, 0, 0, vi (-1)), (.ireturn, 0, 0, 0, vi 0), (.aload_n 0, 0, 0, 0, vi 0), (.getfield 28, 11, 2, 2, vi 0), (.aload_n 0, 0, 0, 0, vi 0), (.getfield 35, 11, 3, 2, vi 0), (.getfield 150, 7, 0, 2, vi 0), (.aload_n 0, 0, 0, 0, vi 0), (.getfield 35, 11, 3, 2, vi 0), (.getfield 104, 7, 3, 0, vi 0), (.iload_n 1, 1, 0, 0, vi 0), (.iload_n 2, 2, 0, 0, vi 0), (.invokevirtual 220, 47, 5, 1, vi 0), (.ireturn, 0, 0, 0, vi 0)]
def am_b118 : List Nat := [0, 1, 4, 5, 8, 9, 12, 13, 14, 15, 18, 19, 22, 25, 26, 29, 32, 33, 34, 37]
/-- WordEach.exact(I)I -/
def am_c119 : List mo := [(.aload_n 0, 0, 0, 0, vi 0), (.getfield 28, 11, 2, 2, vi 0), (.aload_n 0, 0, 0, 0, vi 0), (.invokevirtual 224, 120, 1, 1, vi 0), (.invokevirtual 227, 43, 2, 1, vi 0), (.istore_n 2, 2, 0, 0, vi 0), (.iload_n 1, 1, 0, 0, vi 0), (.ifCond .lt 13, 14, 0, 0, vi 0), (.iload_n 1, 1, 0, 0, vi 0), (.iconst 2, 0, 0, 0, vi 2), (.if_icmp .gt 8, 14, 0, 0, vi 0), (.iload_n 2, 2, 0, 0, vi 0), (.iconst (-1), 0, 0, 0, vi (-1)), (.if_icmp .ne 5, 16, 0, 0, vi 0), (.iconst (-1), 0, 0, 0, vi (-1)), (.ireturn, 0, 0, 0, vi 0), (.iload_n 2, 2, 0, 0, vi 0), (.iload_n 1, 1, 0, 0, vi 0), (.ishr, 0, 0, 0, vi 0), (.iconst 1, 0, 0, 0, vi 1), (.iand, 0, 0, 0, vi 0), (.ireturn, 0, 0, 0, vi 0)]
def am_b119 : List Nat := [0, 1, 4, 5, 8, 11, 12, 13, 16, 17, 18, 21, 22, 23, 26, 27, 28, 29, 30, 31, 32, 33]
/-- WordEach.stateSpoken()I -/
def am_c120 : List mo := [(.aload_n 0, 0, 0, 0, vi 0), (.getfield 28, 11, 2, 2, vi 0), (.aload_n 0, 0, 0, 0, vi 0), (.getfield 35, 11, 3, 2, vi 0), (.getfield 150, 7, 0, 2, vi 0), (.aload_n 0, 0, 0, 0, vi 0), (.getfield 35, 11, 3, 2, vi 0), (.getfield 104, 7, 3, 0, vi 0), (.iconst (-1), 0, 0, 0, vi (-1)), (.invokevirtual 257, 49, 4, 1, vi 0), (.ireturn, 0, 0, 0, vi 0)]
def am_b120 : List Nat := [0, 1, 4, 5, 8, 11, 12, 15, 18, 19, 22]
/-- WordEach.ruling(I)I -/
def am_c121 : List mo := [(.aload_n 0, 0, 0, 0, vi 0), (.getfield 28, 11, 2, 2, vi 0), (.aload_n 0, 0, 0, 0, vi 0), (.invokevirtual 224, 120, 1, 1, vi 0), (.invokevirtual 230, 50, 2, 1, vi 0), (.istore_n 2, 2, 0, 0, vi 0), (.aload_n 0, 0, 0, 0, vi 0), (.getfield 28, 11, 2, 2, vi 0), (.getfield 97, 4, 2, 2, vi 0), (.invokevirtual 233, 23, 1, 1, vi 0), (.istore_n 3, 3, 0, 0, vi 0), (.iload_n 1, 1, 0, 0, vi 0), (.tableswitch 43 0 2 #[28, 30, 32], 5, 0, 0, vi 0), (.iload_n 2, 2, 0, 0, vi 0), (.ireturn, 0, 0, 0, vi 0), (.iload_n 3, 3, 0, 0, vi 0), (.ireturn, 0, 0, 0, vi 0), (.iload_n 2, 2, 0, 0, vi 0), (.iload_n 3, 3, 0, 0, vi 0), (.if_icmp .ne 7, 22, 0, 0, vi 0), (.iconst 1, 0, 0, 0, vi 1), (.goto 4, 23, 0, 0, vi 0), (.iconst 0, 0, 0, 0, vi 0), (.ireturn, 0, 0, 0, vi 0), (.iconst (-1), 0, 0, 0, vi (-1)), (.ireturn, 0, 0, 0, vi 0)]
def am_b121 : List Nat := [0, 1, 4, 5, 8, 11, 12, 13, 16, 19, 22, 23, 24, 52, 53, 54, 55, 56, 57, 58, 61, 62, 65, 66, 67, 68]
/-- WordEach.instance(II)I -/
def am_c122 : List mo := [(.aload_n 0, 0, 0, 0, vi 0), (.getfield 28, 11, 2, 2, vi 0), (.getfield 97, 4, 2, 2, vi 0), (.astore_n 3, 3, 0, 0, vi 0), (.iload_n 1, 1, 0, 0, vi 0), (.ifCond .lt 11, 10, 0, 0, vi 0), (.iload_n 1, 1, 0, 0, vi 0), (.aload_n 3, 3, 0, 0, vi 0), (.getfield 131, 2, 13, 0, vi 0), (.if_icmp .lt 5, 12, 0, 0, vi 0), (.iconst (-1), 0, 0, 0, vi (-1)), (.ireturn, 0, 0, 0, vi 0), (.iload_n 2, 2, 0, 0, vi 0), (.tableswitch 61 0 2 #[25, 34, 54], 6, 0, 0, vi 0), (.aload_n 0, 0, 0, 0, vi 0), (.getfield 28, 11, 2, 2, vi 0), (.iload_n 1, 1, 0, 0, vi 0), (.invokevirtual 236, 51, 2, 1, vi 0), (.ireturn, 0, 0, 0, vi 0), (.aload_n 0, 0, 0, 0, vi 0), (.getfield 28, 11, 2, 2, vi 0), (.aload_n 3, 3, 0, 0, vi 0), (.getfield 239, 2, 7, 2, vi 0), (.iload_n 1, 1, 0, 0, vi 0), (.aaload, 0, 0, 0, vi 0), (.aload_n 3, 3, 0, 0, vi 0), (.getfield 242, 2, 8, 2, vi 0), (.iload_n 1, 1, 0, 0, vi 0), (.iaload, 0, 0, 0, vi 0), (.invokevirtual 213, 39, 3, 1, vi 0), (.ireturn, 0, 0, 0, vi 0), (.aload_n 3, 3, 0, 0, vi 0), (.getfield 242, 2, 8, 2, vi 0), (.iload_n 1, 1, 0, 0, vi 0), (.iaload, 0, 0, 0, vi 0), (.ireturn, 0, 0, 0, vi 0), (.iconst (-1), 0, 0, 0, vi (-1)), (.ireturn, 0, 0, 0, vi 0)]
def am_b122 : List Nat := [0, 1, 4, 7, 8, 9, 12, 13, 14, 17, 20, 21, 22, 23, 48, 49, 52, 53, 56, 57, 58, 61, 62, 65, 66, 67, 68, 71, 72, 73, 76, 77, 78, 81, 82, 83, 84, 85]
/-- WordEach.plan(IIII)I -/
def am_c123 : List mo := [(.iload_n 1, 1, 0, 0, vi 0), (.iconst 1, 0, 0, 0, vi 1), (.if_icmp .lt 27, 17, 0, 0, vi 0), (.iload_n 1, 1, 0, 0, vi 0), (.iconst 2, 0, 0, 0, vi 2), (.if_icmp .gt 22, 17, 0, 0, vi 0), (.iload_n 2, 2, 0, 0, vi 0), (.iconst (-1), 0, 0, 0, vi (-1)), (.if_icmp .lt 17, 17, 0, 0, vi 0), (.iload_n 2, 2, 0, 0, vi 0), (.iconst 1, 0, 0, 0, vi 1), (.if_icmp .gt 12, 17, 0, 0, vi 0), (.iload_n 3, 3, 0, 0, vi 0), (.ifCond .lt 8, 17, 0, 0, vi 0), (.iload_n 3, 3, 0, 0, vi 0), (.iconst 2, 0, 0, 0, vi 2), (.if_icmp .le 5, 19, 0, 0, vi 0), (.iconst (-1), 0, 0, 0, vi (-1)), (.ireturn, 0, 0, 0, vi 0), (.iload_n 3, 3, 0, 0, vi 0), (.ifCond .eq 5, 23, 0, 0, vi 0), (.iconst (-1), 0, 0, 0, vi (-1)), (.ireturn, 0, 0, 0, vi 0), (.aload_n 0, 0, 0, 0, vi 0), (.getfield 44, 11, 4, 2, vi 0), (.iload_n 1, 1, 0, 0, vi 0), (.iload_n 2, 2, 0, 0, vi 0), (.iload 4, 4, 0, 0, vi 0), (.invokevirtual 245, 54, 4, 1, vi 0), (.ireturn, 0, 0, 0, vi 0)]
def am_b123 : List Nat := [0, 1, 2, 5, 6, 7, 10, 11, 12, 15, 16, 17, 20, 21, 24, 25, 26, 29, 30, 31, 32, 35, 36, 37, 38, 41, 42, 43, 45, 48]
/-- WordEach.all(I)I -/
def am_c124 : List mo := [(.iload_n 1, 1, 0, 0, vi 0), (.ifCond .lt 8, 5, 0, 0, vi 0), (.iload_n 1, 1, 0, 0, vi 0), (.iconst 2, 0, 0, 0, vi 2), (.if_icmp .le 5, 7, 0, 0, vi 0), (.iconst (-1), 0, 0, 0, vi (-1)), (.ireturn, 0, 0, 0, vi 0), (.iconst 0, 0, 0, 0, vi 0), (.istore_n 2, 2, 0, 0, vi 0), (.iconst 0, 0, 0, 0, vi 0), (.istore_n 3, 3, 0, 0, vi 0), (.iconst 0, 0, 0, 0, vi 0), (.istore 4, 4, 0, 0, vi 0), (.aload_n 0, 0, 0, 0, vi 0), (.getfield 28, 11, 2, 2, vi 0), (.aload_n 0, 0, 0, 0, vi 0), (.invokevirtual 224, 120, 1, 1, vi 0), (.invokevirtual 230, 50, 2, 1, vi 0), (.istore 5, 5, 0, 0, vi 0), (.iconst 0, 0, 0, 0, vi 0), (.istore 6, 6, 0, 0, vi 0), (.iload 6, 6, 0, 0, vi 0), (.aload_n 0, 0, 0, 0, vi 0), (.getfield 35, 11, 3, 2, vi 0), (.getfield 104, 7, 3, 0, vi 0), (.if_icmp .gt 75, 62, 0, 0, vi 0), (.iload_n 2, 2, 0, 0, vi 0), (.istore 7, 7, 0, 0, vi 0), (.iconst 0, 0, 0, 0, vi 0), (.istore 8, 8, 0, 0, vi 0), (.iload 8, 8, 0, 0, vi 0), (.aload_n 0, 0, 0, 0, vi 0), (.getfield 28, 11, 2, 2, vi 0), (.getfield 97, 4, 2, 2, vi 0), (.getfield 119, 2, 9, 0, vi 0), (.if_icmp .ge 34, 51, 0, 0, vi 0), (.aload_n 0, 0, 0, 0, vi 0), (.iload 6, 6, 0, 0, vi 0), (.iload 8, 8, 0, 0, vi 0), (.invokevirtual 248, 125, 3, 1, vi 0), (.iload 5, 5, 0, 0, vi 0), (.if_icmp .eq 15, 49, 0, 0, vi 0), (.iinc 2 1, 2, 0, 0, vi 1), (.iload 4, 4, 0, 0, vi 0), (.iconst 1, 0, 0, 0, vi 1), (.iload 8, 8, 0, 0, vi 0), (.ishl, 0, 0, 0, vi 0), (.ior, 0, 0, 0, vi 0), (.istore 4, 4, 0, 0, vi 0), (.iinc 8 1, 8, 0, 0, vi 1), (.goto (-43), 30, 0, 0, vi 0), (.iload_n 3, 3, 0, 0, vi 0), (.iload_n 2, 2, 0, 0, vi 0), (.iload 7, 7, 0, 0, vi 0), (.if_icmp .le 7, 57, 0, 0, vi 0), (.iconst 1, 0, 0, 0, vi 1), (.goto 4, 58, 0, 0, vi 0), (.iconst 0, 0, 0, 0, vi 0), (.iadd, 0, 0, 0, vi 0), (.istore_n 3, 3, 0, 0, vi 0), (.iinc 6 1, 6, 0, 0, vi 1), (.goto (-81), 21, 0, 0, vi 0), (.iload_n 1, 1, 0, 0, vi 0), (.ifCond .ne 5, 66, 0, 0, vi 0), (.iload_n 2, 2, 0, 0, vi 0), (.ireturn, 0, 0, 0, vi 0), (.iload_n 1, 1, 0, 0, vi 0), (.iconst 1, 0, 0, 0, vi 1), (.if_icmp .ne 7, 71, 0, 0, vi 0), (.iload_n 3, 3, 0, 0, vi 0), (.goto 8, 73, 0, 0, vi 0), (.iload 4, 4, 0, 0, vi 0), (.invokestatic 252, 299, 1, 1, vi 0), (.ireturn, 0, 0, 0, vi 0)]
def am_b124 : List Nat := [0, 1, 4, 5, 6, 9, 10, 11, 12, 13, 14, 15, 16, 18, 19, 22, 23, 26, 29, 31, 32, 34, 36, 37, 40, 43, 46, 47, 49, 50, 52, 54, 55, 58, 61, 64, 67, 68, 70, 72, 75, 77, 80, 83, 85, 86, 88, 89, 90, 92, 95, 98, 99, 100, 102, 105, 106, 109, 110, 111, 112, 115, 118, 119, 122, 123, 124, 125, 126, 129, 130, 133, 135, 138]
/-- WordEach.rulingWith(II)I -/
def am_c125 : List mo := [(.ldc_w 338, 0, 0, 0, vi 32768), (.istore_n 3, 3, 0, 0, vi 0), (.iconst 0, 0, 0, 0, vi 0), (.istore 4, 4, 0, 0, vi 0), (.iload 4, 4, 0, 0, vi 0), (.aload_n 0, 0, 0, 0, vi 0), (.getfield 35, 11, 3, 2, vi 0), (.getfield 104, 7, 3, 0, vi 0), (.if_icmp .gt 56, 35, 0, 0, vi 0), (.iload 4, 4, 0, 0, vi 0), (.iload_n 1, 1, 0, 0, vi 0), (.if_icmp .ne 13, 18, 0, 0, vi 0), (.aload_n 0, 0, 0, 0, vi 0), (.getfield 28, 11, 2, 2, vi 0), (.iload_n 3, 3, 0, 0, vi 0), (.iload_n 2, 2, 0, 0, vi 0), (.invokevirtual 339, 40, 3, 1, vi 0), (.istore_n 3, 3, 0, 0, vi 0), (.iload 4, 4, 0, 0, vi 0), (.aload_n 0, 0, 0, 0, vi 0), (.getfield 35, 11, 3, 2, vi 0), (.getfield 104, 7, 3, 0, vi 0), (.if_icmp .ge 22, 33, 0, 0, vi 0), (.aload_n 0, 0, 0, 0, vi 0), (.getfield 28, 11, 2, 2, vi 0), (.iload_n 3, 3, 0, 0, vi 0), (.aload_n 0, 0, 0, 0, vi 0), (.getfield 35, 11, 3, 2, vi 0), (.getfield 150, 7, 0, 2, vi 0), (.iload 4, 4, 0, 0, vi 0), (.iaload, 0, 0, 0, vi 0), (.invokevirtual 339, 40, 3, 1, vi 0), (.istore_n 3, 3, 0, 0, vi 0), (.iinc 4 1, 4, 0, 0, vi 1), (.goto (-62), 4, 0, 0, vi 0), (.aload_n 0, 0, 0, 0, vi 0), (.getfield 28, 11, 2, 2, vi 0), (.iload_n 3, 3, 0, 0, vi 0), (.invokevirtual 230, 50, 2, 1, vi 0), (.ireturn, 0, 0, 0, vi 0)]
def am_b125 : List Nat := [0, 3, 4, 5, 7, 9, 10, 13, 16, 19, 21, 22, 25, 26, 29, 30, 31, 34, 35, 37, 38, 41, 44, 47, 48, 51, 52, 53, 56, 59, 61, 62, 65, 66, 69, 72, 73, 76, 77, 80]
/-- WordEach.one(I)I -/
def am_c126 : List mo := [(.aload_n 0, 0, 0, 0, vi 0), (.getfield 28, 11, 2, 2, vi 0), (.aload_n 0, 0, 0, 0, vi 0), (.invokevirtual 224, 120, 1, 1, vi 0), (.invokevirtual 230, 50, 2, 1, vi 0), (.istore_n 2, 2, 0, 0, vi 0), (.iconst 0, 0, 0, 0, vi 0), (.istore_n 3, 3, 0, 0, vi 0), (.iconst 0, 0, 0, 0, vi 0), (.istore 4, 4, 0, 0, vi 0), (.iload 4, 4, 0, 0, vi 0), (.aload_n 0, 0, 0, 0, vi 0), (.getfield 35, 11, 3, 2, vi 0), (.getfield 104, 7, 3, 0, vi 0), (.if_icmp .gt 62, 43, 0, 0, vi 0), (.iconst 0, 0, 0, 0, vi 0), (.istore 5, 5, 0, 0, vi 0), (.iload 5, 5, 0, 0, vi 0), (.aload_n 0, 0, 0, 0, vi 0), (.getfield 28, 11, 2, 2, vi 0), (.getfield 97, 4, 2, 2, vi 0), (.getfield 119, 2, 9, 0, vi 0), (.if_icmp .ge 38, 41, 0, 0, vi 0), (.aload_n 0, 0, 0, 0, vi 0), (.iload 4, 4, 0, 0, vi 0), (.iload 5, 5, 0, 0, vi 0), (.invokevirtual 248, 125, 3, 1, vi 0), (.iload_n 2, 2, 0, 0, vi 0), (.if_icmp .eq 20, 39, 0, 0, vi 0), (.iload_n 3, 3, 0, 0, vi 0), (.iload_n 1, 1, 0, 0, vi 0), (.if_icmp .ne 12, 38, 0, 0, vi 0), (.bipush 100, 0, 0, 0, vi 100), (.iload 4, 4, 0, 0, vi 0), (.imul, 0, 0, 0, vi 0), (.iload 5, 5, 0, 0, vi 0), (.iadd, 0, 0, 0, vi 0), (.ireturn, 0, 0, 0, vi 0), (.iinc 3 1, 3, 0, 0, vi 1), (.iinc 5 1, 5, 0, 0, vi 1), (.goto (-47), 17, 0, 0, vi 0), (.iinc 4 1, 4, 0, 0, vi 1), (.goto (-68), 10, 0, 0, vi 0), (.iconst (-1), 0, 0, 0, vi (-1)), (.ireturn, 0, 0, 0, vi 0)]
def am_b126 : List Nat := [0, 1, 4, 5, 8, 11, 12, 13, 14, 15, 17, 19, 20, 23, 26, 29, 30, 32, 34, 35, 38, 41, 44, 47, 48, 50, 52, 55, 56, 59, 60, 61, 64, 66, 68, 69, 71, 72, 73, 76, 79, 82, 85, 88, 89]
/-- WordEach.ill(I)I -/
def am_c127 : List mo := [(.aload_n 0, 0, 0, 0, vi 0), (.getfield 35, 11, 3, 2, vi 0), (.iload_n 1, 1, 0, 0, vi 0), (.invokevirtual 182, 77, 2, 1, vi 0), (.istore_n 2, 2, 0, 0, vi 0), (.iload_n 2, 2, 0, 0, vi 0), (.iconst (-1), 0, 0, 0, vi (-1)), (.if_icmp .ne 7, 10, 0, 0, vi 0), (.iconst (-1), 0, 0, 0, vi (-1)), (.goto 32, 23, 0, 0, vi 0), (.aload_n 0, 0, 0, 0, vi 0), (.getfield 28, 11, 2, 2, vi 0), (.aload_n 0, 0, 0, 0, vi 0), (.getfield 28, 11, 2, 2, vi 0), (.aload_n 0, 0, 0, 0, vi 0), (.getfield 35, 11, 3, 2, vi 0), (.getfield 150, 7, 0, 2, vi 0), (.aload_n 0, 0, 0, 0, vi 0), (.getfield 35, 11, 3, 2, vi 0), (.getfield 104, 7, 3, 0, vi 0), (.iload_n 2, 2, 0, 0, vi 0), (.invokevirtual 257, 49, 4, 1, vi 0), (.invokevirtual 230, 50, 2, 1, vi 0), (.ireturn, 0, 0, 0, vi 0)]
def am_b127 : List Nat := [0, 1, 4, 5, 8, 9, 10, 11, 14, 15, 18, 19, 22, 23, 26, 27, 30, 33, 34, 37, 40, 41, 44, 47]
/-- WordEach.between(II)I -/
def am_c128 : List mo := [(.iload_n 1, 1, 0, 0, vi 0), (.ifCond .lt 32, 15, 0, 0, vi 0), (.iload_n 1, 1, 0, 0, vi 0), (.aload_n 0, 0, 0, 0, vi 0), (.getfield 35, 11, 3, 2, vi 0), (.getfield 104, 7, 3, 0, vi 0), (.if_icmp .gt 21, 15, 0, 0, vi 0), (.iload_n 2, 2, 0, 0, vi 0), (.ifCond .lt 17, 15, 0, 0, vi 0), (.iload_n 2, 2, 0, 0, vi 0), (.aload_n 0, 0, 0, 0, vi 0), (.getfield 28, 11, 2, 2, vi 0), (.getfield 97, 4, 2, 2, vi 0), (.getfield 119, 2, 9, 0, vi 0), (.if_icmp .lt 5, 17, 0, 0, vi 0), (.iconst (-1), 0, 0, 0, vi (-1)), (.ireturn, 0, 0, 0, vi 0), (.aload_n 0, 0, 0, 0, vi 0), (.iload_n 1, 1, 0, 0, vi 0), (.iload_n 2, 2, 0, 0, vi 0), (.invokevirtual 248, 125, 3, 1, vi 0), (.ireturn, 0, 0, 0, vi 0)]
def am_b128 : List Nat := [0, 1, 4, 5, 6, 9, 12, 15, 16, 19, 20, 21, 24, 27, 30, 33, 34, 35, 36, 37, 38, 41]
/-- WordEach.game(II)I -/
def am_c129 : List mo := [(.iload_n 1, 1, 0, 0, vi 0), (.ifCond .lt 17, 10, 0, 0, vi 0), (.iload_n 1, 1, 0, 0, vi 0), (.iconst 3, 0, 0, 0, vi 3), (.if_icmp .gt 12, 10, 0, 0, vi 0), (.iload_n 2, 2, 0, 0, vi 0), (.ifCond .lt 8, 10, 0, 0, vi 0), (.iload_n 2, 2, 0, 0, vi 0), (.iconst 2, 0, 0, 0, vi 2), (.if_icmp .le 6, 12, 0, 0, vi 0), (.bipush (-2), 0, 0, 0, vi (-2)), (.ireturn, 0, 0, 0, vi 0), (.aload_n 0, 0, 0, 0, vi 0), (.getfield 51, 11, 5, 2, vi 0), (.iload_n 1, 1, 0, 0, vi 0), (.aload_n 0, 0, 0, 0, vi 0), (.invokevirtual 224, 120, 1, 1, vi 0), (.aload_n 0, 0, 0, 0, vi 0), (.getfield 35, 11, 3, 2, vi 0), (.invokevirtual 260, 79, 1, 1, vi 0), (.invokevirtual 263, 9, 4, 1, vi 0), (.istore_n 3, 3, 0, 0, vi 0), (.iload_n 2, 2, 0, 0, vi 0), (.ifCond .ne 5, 26, 0, 0, vi 0), (.iload_n 3, 3, 0, 0, vi 0), (.ireturn, 0, 0, 0, vi 0), (.iload_n 2, 2, 0, 0, vi 0), (.iconst 1, 0, 0, 0, vi 1), (.if_icmp .ne 13, 33, 0, 0, vi 0), (.aload_n 0, 0, 0, 0, vi 0), (.getfield 51, 11, 5, 2, vi 0), (.getfield 266, 1, 2, 0, vi 0), (.goto 10, 36, 0, 0, vi 0), (.aload_n 0, 0, 0, 0, vi 0), (.getfield 51, 11, 5, 2, vi 0), (.getfield 269, 1, 3, 0, vi 0), (.ireturn, 0, 0, 0, vi 0)]
def am_b129 : List Nat := [0, 1, 4, 5, 6, 9, 10, 13, 14, 15, 18, 20, 21, 22, 25, 26, 27, 30, 31, 34, 37, 40, 41, 42, 45, 46, 47, 48, 49, 52, 53, 56, 59, 62, 63, 66, 69]
/-- WordEach.place(I)I -/
def am_c130 : List mo := [(.iload_n 1, 1, 0, 0, vi 0), (.ifCond .lt 9, 5, 0, 0, vi 0), (.iload_n 1, 1, 0, 0, vi 0), (.bipush 8, 0, 0, 0, vi 8), (.if_icmp .lt 5, 7, 0, 0, vi 0), (.iconst (-1), 0, 0, 0, vi (-1)), (.ireturn, 0, 0, 0, vi 0), (.aload_n 0, 0, 0, 0, vi 0), (.getfield 28, 11, 2, 2, vi 0), (.getfield 97, 4, 2, 2, vi 0), (.astore_n 2, 2, 0, 0, vi 0), (.iconst 0, 0, 0, 0, vi 0), (.istore_n 3, 3, 0, 0, vi 0), (.iconst 0, 0, 0, 0, vi 0), (.istore 4, 4, 0, 0, vi 0), (.iload 4, 4, 0, 0, vi 0), (.aload_n 2, 2, 0, 0, vi 0), (.getfield 131, 2, 13, 0, vi 0), (.if_icmp .ge 62, 49, 0, 0, vi 0), (.aload_n 0, 0, 0, 0, vi 0), (.getfield 28, 11, 2, 2, vi 0), (.aload_n 2, 2, 0, 0, vi 0), (.getfield 239, 2, 7, 2, vi 0), (.iload 4, 4, 0, 0, vi 0), (.aaload, 0, 0, 0, vi 0), (.aload_n 2, 2, 0, 0, vi 0), (.getfield 242, 2, 8, 2, vi 0), (.iload 4, 4, 0, 0, vi 0), (.iaload, 0, 0, 0, vi 0), (.iload_n 1, 1, 0, 0, vi 0), (.invokevirtual 257, 49, 4, 1, vi 0), (.istore 5, 5, 0, 0, vi 0), (.iload_n 3, 3, 0, 0, vi 0), (.aload_n 0, 0, 0, 0, vi 0), (.getfield 28, 11, 2, 2, vi 0), (.iload 5, 5, 0, 0, vi 0), (.invokevirtual 230, 50, 2, 1, vi 0), (.aload_n 0, 0, 0, 0, vi 0), (.getfield 28, 11, 2, 2, vi 0), (.iload 4, 4, 0, 0, vi 0), (.invokevirtual 236, 51, 2, 1, vi 0), (.if_icmp .eq 7, 44, 0, 0, vi 0), (.iconst 1, 0, 0, 0, vi 1), (.goto 4, 45, 0, 0, vi 0), (.iconst 0, 0, 0, 0, vi 0), (.iadd, 0, 0, 0, vi 0), (.istore_n 3, 3, 0, 0, vi 0), (.iinc 4 1, 4, 0, 0, vi 1), (.goto (-65), 15, 0, 0, vi 0), (.iload_n 3, 3, 0, 0, vi 0), (.ireturn, 0, 0, 0, vi 0)]
def am_b130 : List Nat := [0, 1, 4, 5, 7, 10, 11, 12, 13, 16, 19, 20, 21, 22, 23, 25, 27, 28, 31, 34, 35, 38, 39, 42, 44, 45, 46, 49, 51, 52, 53, 56, 58, 59, 60, 63, 65, 68, 69, 72, 74, 77, 80, 81, 84, 85, 86, 87, 90, 93, 94]
/-- WordEach.turned(I)I -/
def am_c131 : List mo := [(.aload_n 0, 0, 0, 0, vi 0), (.getfield 28, 11, 2, 2, vi 0), (.getfield 97, 4, 2, 2, vi 0), (.iload_n 1, 1, 0, 0, vi 0), (.invokevirtual 189, 20, 2, 1, vi 0), (.ifCond .ne 5, 8, 0, 0, vi 0), (.iconst (-1), 0, 0, 0, vi (-1)), (.ireturn, 0, 0, 0, vi 0), (.aload_n 0, 0, 0, 0, vi 0), (.getfield 28, 11, 2, 2, vi 0), (.iload_n 1, 1, 0, 0, vi 0), (.invokevirtual 210, 38, 2, 1, vi 0), (.ifCond .ne 5, 15, 0, 0, vi 0), (.iconst 0, 0, 0, 0, vi 0), (.ireturn, 0, 0, 0, vi 0), (.aload_n 0, 0, 0, 0, vi 0), (.getfield 28, 11, 2, 2, vi 0), (.getfield 134, 4, 3, 0, vi 0), (.istore_n 2, 2, 0, 0, vi 0), (.aload_n 0, 0, 0, 0, vi 0), (.invokevirtual 272, 132, 1, 0, vi 0), (.aload_n 0, 0, 0, 0, vi 0), (.getfield 28, 11, 2, 2, vi 0), (.iload_n 2, 2, 0, 0, vi 0), (.iconst 1, 0, 0, 0, vi 1), (.iload_n 1, 1, 0, 0, vi 0), (.ishl, 0, 0, 0, vi 0), (.ixor, 0, 0, 0, vi 0), (.invokevirtual 275, 37, 2, 0, vi 0), (.iconst 0, 0, 0, 0, vi 0), (.istore_n 3, 3, 0, 0, vi 0), (.iconst 0, 0, 0, 0, vi 0), (.istore 4, 4, 0, 0, vi 0), (.iload 4, 4, 0, 0, vi 0), (.aload_n 0, 0, 0, 0, vi 0), (.getfield 28, 11, 2, 2, vi 0), (.getfield 97, 4, 2, 2, vi 0), (.getfield 131, 2, 13, 0, vi 0), (.if_icmp .ge 36, 56, 0, 0, vi 0), (.iload_n 3, 3, 0, 0, vi 0), (.aload_n 0, 0, 0, 0, vi 0), (.getfield 28, 11, 2, 2, vi 0), (.iload 4, 4, 0, 0, vi 0), (.invokevirtual 236, 51, 2, 1, vi 0), (.aload_n 0, 0, 0, 0, vi 0), (.getfield 82, 11, 10, 2, vi 0), (.iload 4, 4, 0, 0, vi 0), (.iaload, 0, 0, 0, vi 0), (.if_icmp .eq 7, 51, 0, 0, vi 0), (.iconst 1, 0, 0, 0, vi 1), (.goto 4, 52, 0, 0, vi 0), (.iconst 0, 0, 0, 0, vi 0), (.iadd, 0, 0, 0, vi 0), (.istore_n 3, 3, 0, 0, vi 0), (.iinc 4 1, 4, 0, 0, vi 1), (.goto (-45), 33, 0, 0, vi 0), (.aload_n 0, 0, 0, 0, vi 0), (.getfield 28, 11, 2, 2, vi 0), (.iload_n 2, 2, 0, 0, vi 0), (.invokevirtual 275, 37, 2, 0, vi 0), (.iload_n 3, 3, 0, 0, vi 0), (.ireturn, 0, 0, 0, vi 0)]
def am_b131 : List Nat := [0, 1, 4, 7, 8, 11, 14, 15, 16, 17, 20, 21, 24, 27, 28, 29, 30, 33, 36, 37, 38, 41, 42, 45, 46, 47, 48, 49, 50, 53, 54, 55, 56, 58, 60, 61, 64, 67, 70, 73, 74, 75, 78, 80, 83, 84, 87, 89, 90, 93, 94, 97, 98, 99, 100, 103, 106, 107, 110, 111, 114, 115]
/-- WordEach.ruleCases()V -/
def am_c132 : List mo := [(.iconst 0, 0, 0, 0, vi 0), (.istore_n 1, 1, 0, 0, vi 0), (.iload_n 1, 1, 0, 0, vi 0), (.aload_n 0, 0, 0, 0, vi 0), (.getfield 28, 11, 2, 2, vi 0), (.getfield 97, 4, 2, 2, vi 0), (.getfield 131, 2, 13, 0, vi 0), (.if_icmp .ge 23, 18, 0, 0, vi 0), (.aload_n 0, 0, 0, 0, vi 0), (.getfield 82, 11, 10, 2, vi 0), (.iload_n 1, 1, 0, 0, vi 0), (.aload_n 0, 0, 0, 0, vi 0), (.getfield 28, 11, 2, 2, vi 0), (.iload_n 1, 1, 0, 0, vi 0), (.invokevirtual 236, 51, 2, 1, vi 0), (.iastore, 0, 0, 0, vi 0), (.iinc 1 1, 1, 0, 0, vi 1), (.goto (-31), 2, 0, 0, vi 0), (.return_, 0, 0, 0, vi 0)]
def am_b132 : List Nat := [0, 1, 2, 3, 4, 7, 10, 13, 16, 17, 20, 21, 22, 25, 26, 29, 30, 33, 36]
/-- WordEach.cases(I)I -/
def am_c133 : List mo := [(.iload_n 1, 1, 0, 0, vi 0), (.invokestatic 278, 134, 1, 1, vi 0), (.ifCond .ne 5, 5, 0, 0, vi 0), (.iconst (-1), 0, 0, 0, vi (-1)), (.ireturn, 0, 0, 0, vi 0), (.aload_n 0, 0, 0, 0, vi 0), (.invokevirtual 272, 132, 1, 0, vi 0), (.aload_n 0, 0, 0, 0, vi 0), (.getfield 82, 11, 10, 2, vi 0), (.aload_n 0, 0, 0, 0, vi 0), (.getfield 28, 11, 2, 2, vi 0), (.getfield 97, 4, 2, 2, vi 0), (.getfield 131, 2, 13, 0, vi 0), (.iload_n 1, 1, 0, 0, vi 0), (.invokestatic 152, 104, 3, 1, vi 0), (.ireturn, 0, 0, 0, vi 0)]
def am_b133 : List Nat := [0, 1, 4, 7, 8, 9, 10, 13, 14, 17, 18, 21, 24, 27, 28, 31]
/-- WordEach.isRuling(I)Z -/
def am_c134 : List mo := [(.iload_n 0, 0, 0, 0, vi 0), (.ifCond .lt 12, 7, 0, 0, vi 0), (.iload_n 0, 0, 0, 0, vi 0), (.iconst 3, 0, 0, 0, vi 3), (.if_icmp .ge 7, 7, 0, 0, vi 0), (.iconst 1, 0, 0, 0, vi 1), (.goto 4, 8, 0, 0, vi 0), (.iconst 0, 0, 0, 0, vi 0), (.ireturn, 1, 0, 0, vi 0)]
def am_b134 : List Nat := [0, 1, 4, 5, 6, 9, 10, 13, 14]
/-- WordEach.order(II)I -/
def am_c135 : List mo := [(.iload_n 1, 1, 0, 0, vi 0), (.ifCond .lt 27, 14, 0, 0, vi 0), (.iload_n 1, 1, 0, 0, vi 0), (.iconst 2, 0, 0, 0, vi 2), (.if_icmp .gt 22, 14, 0, 0, vi 0), (.iload_n 2, 2, 0, 0, vi 0), (.iconst (-1), 0, 0, 0, vi (-1)), (.if_icmp .lt 17, 14, 0, 0, vi 0), (.iload_n 2, 2, 0, 0, vi 0), (.aload_n 0, 0, 0, 0, vi 0), (.getfield 28, 11, 2, 2, vi 0), (.getfield 97, 4, 2, 2, vi 0), (.getfield 128, 2, 12, 0, vi 0), (.if_icmp .lt 5, 16, 0, 0, vi 0), (.iconst (-1), 0, 0, 0, vi (-1)), (.ireturn, 0, 0, 0, vi 0), (.aload_n 0, 0, 0, 0, vi 0), (.getfield 58, 11, 6, 2, vi 0), (.iload_n 1, 1, 0, 0, vi 0), (.invokevirtual 281, 85, 2, 0, vi 0), (.iload_n 2, 2, 0, 0, vi 0), (.iconst (-1), 0, 0, 0, vi (-1)), (.if_icmp .ne 13, 27, 0, 0, vi 0), (.aload_n 0, 0, 0, 0, vi 0), (.getfield 58, 11, 6, 2, vi 0), (.invokevirtual 284, 87, 1, 1, vi 0), (.goto 12, 32, 0, 0, vi 0), (.aload_n 0, 0, 0, 0, vi 0), (.getfield 58, 11, 6, 2, vi 0), (.getfield 287, 8, 1, 2, vi 0), (.iload_n 2, 2, 0, 0, vi 0), (.iaload, 0, 0, 0, vi 0), (.ireturn, 0, 0, 0, vi 0)]
def am_b135 : List Nat := [0, 1, 4, 5, 6, 9, 10, 11, 14, 15, 16, 19, 22, 25, 28, 29, 30, 31, 34, 35, 38, 39, 40, 43, 44, 47, 50, 53, 54, 57, 60, 61, 62]
/-- WordEach.lots(I)I -/
def am_c136 : List mo := [(.iload_n 1, 1, 0, 0, vi 0), (.iconst 1, 0, 0, 0, vi 1), (.if_icmp .lt 10, 6, 0, 0, vi 0), (.iload_n 1, 1, 0, 0, vi 0), (.sipush 200, 0, 0, 0, vi 200), (.if_icmp .le 5, 8, 0, 0, vi 0), (.iconst (-1), 0, 0, 0, vi (-1)), (.ireturn, 0, 0, 0, vi 0), (.aload_n 0, 0, 0, 0, vi 0), (.getfield 28, 11, 2, 2, vi 0), (.getfield 97, 4, 2, 2, vi 0), (.invokevirtual 233, 23, 1, 1, vi 0), (.istore_n 2, 2, 0, 0, vi 0), (.iconst 0, 0, 0, 0, vi 0), (.istore_n 3, 3, 0, 0, vi 0), (.iconst 0, 0, 0, 0, vi 0), (.istore 4, 4, 0, 0, vi 0), (.iload 4, 4, 0, 0, vi 0), (.iload_n 1, 1, 0, 0, vi 0), (.if_icmp .ge 35, 36, 0, 0, vi 0), (.aload_n 0, 0, 0, 0, vi 0), (.getfield 58, 11, 6, 2, vi 0), (.invokevirtual 290, 88, 1, 0, vi 0), (.iload_n 3, 3, 0, 0, vi 0), (.aload_n 0, 0, 0, 0, vi 0), (.getfield 58, 11, 6, 2, vi 0), (.invokevirtual 284, 87, 1, 1, vi 0), (.iload_n 2, 2, 0, 0, vi 0), (.if_icmp .ne 7, 31, 0, 0, vi 0), (.iconst 1, 0, 0, 0, vi 1), (.goto 4, 32, 0, 0, vi 0), (.iconst 0, 0, 0, 0, vi 0), (.iadd, 0, 0, 0, vi 0), (.istore_n 3, 3, 0, 0, vi 0), (.iinc 4 1, 4, 0, 0, vi 1), (.goto (-35), 17, 0, 0, vi 0), (.iload_n 3, 3, 0, 0, vi 0), (.ireturn, 0, 0, 0, vi 0)]
def am_b136 : List Nat := [0, 1, 2, 5, 6, 9, 12, 13, 14, 15, 18, 21, 24, 25, 26, 27, 28, 30, 32, 33, 36, 37, 40, 43, 44, 45, 48, 51, 52, 55, 56, 59, 60, 61, 62, 65, 68, 69]
/-- WordEach.seed(I)Z -/
def am_c137 : List mo := [(.iload_n 1, 1, 0, 0, vi 0), (.ifCond .ge 15, 12, 0, 0, vi 0), (.aload_n 0, 0, 0, 0, vi 0), (.getfield 78, 11, 9, 2, vi 0), (.iconst 4, 0, 0, 0, vi 4), (.dup2, 0, 0, 0, vi 0), (.iaload, 0, 0, 0, vi 0), (.iconst 1, 0, 0, 0, vi 1), (.iadd, 0, 0, 0, vi 0), (.iastore, 0, 0, 0, vi 0), (.iconst 0, 0, 0, 0, vi 0), (.ireturn, 1, 0, 0, vi 0), (.aload_n 0, 0, 0, 0, vi 0), (.getfield 58, 11, 6, 2, vi 0), (.iload_n 1, 1, 0, 0, vi 0), (.putfield 293, 8, 2, 0, vi 0), (.iconst 1, 0, 0, 0, vi 1), (.ireturn, 1, 0, 0, vi 0)]
def am_b137 : List Nat := [0, 1, 4, 5, 8, 9, 10, 11, 12, 13, 14, 15, 16, 17, 20, 21, 24, 25]
/-- WordEach.odds(I)I -/
def am_c138 : List mo := [(.iload_n 1, 1, 0, 0, vi 0), (.invokestatic 278, 134, 1, 1, vi 0), (.ifCond .ne 5, 5, 0, 0, vi 0), (.iconst (-1), 0, 0, 0, vi (-1)), (.ireturn, 0, 0, 0, vi 0), (.aload_n 0, 0, 0, 0, vi 0), (.getfield 65, 11, 7, 2, vi 0), (.iload_n 1, 1, 0, 0, vi 0), (.invokevirtual 296, 1, 2, 1, vi 0), (.aload_n 0, 0, 0, 0, vi 0), (.getfield 65, 11, 7, 2, vi 0), (.invokevirtual 299, 5, 1, 1, vi 0), (.invokestatic 302, 139, 2, 1, vi 0), (.ireturn, 0, 0, 0, vi 0)]
def am_b138 : List Nat := [0, 1, 4, 7, 8, 9, 10, 13, 14, 17, 18, 21, 24, 27]
/-- WordEach.thousandths(II)I -/
def am_c139 : List mo := [(.iload_n 1, 1, 0, 0, vi 0), (.ifCond .ne 7, 4, 0, 0, vi 0), (.iconst 0, 0, 0, 0, vi 0), (.goto 10, 9, 0, 0, vi 0), (.sipush 1000, 0, 0, 0, vi 1000), (.iload_n 0, 0, 0, 0, vi 0), (.imul, 0, 0, 0, vi 0), (.iload_n 1, 1, 0, 0, vi 0), (.idiv, 0, 0, 0, vi 0), (.ireturn, 0, 0, 0, vi 0)]
def am_b139 : List Nat := [0, 1, 4, 5, 8, 11, 12, 13, 14, 15]
/-- WordEach.parts(III)I -/
def am_c140 : List mo := [(.iload_n 1, 1, 0, 0, vi 0), (.invokestatic 278, 134, 1, 1, vi 0), (.ifCond .eq 18, 10, 0, 0, vi 0), (.aload_n 0, 0, 0, 0, vi 0), (.getfield 28, 11, 2, 2, vi 0), (.getfield 97, 4, 2, 2, vi 0), (.iload_n 2, 2, 0, 0, vi 0), (.iload_n 3, 3, 0, 0, vi 0), (.invokevirtual 202, 21, 3, 1, vi 0), (.ifCond .ne 5, 12, 0, 0, vi 0), (.iconst (-1), 0, 0, 0, vi (-1)), (.ireturn, 0, 0, 0, vi 0), (.aload_n 0, 0, 0, 0, vi 0), (.getfield 65, 11, 7, 2, vi 0), (.iload_n 1, 1, 0, 0, vi 0), (.iload_n 2, 2, 0, 0, vi 0), (.iload_n 3, 3, 0, 0, vi 0), (.invokevirtual 305, 6, 4, 1, vi 0), (.aload_n 0, 0, 0, 0, vi 0), (.getfield 65, 11, 7, 2, vi 0), (.iload_n 1, 1, 0, 0, vi 0), (.invokevirtual 296, 1, 2, 1, vi 0), (.invokestatic 302, 139, 2, 1, vi 0), (.ireturn, 0, 0, 0, vi 0)]
def am_b140 : List Nat := [0, 1, 4, 7, 8, 11, 14, 15, 16, 19, 22, 23, 24, 25, 28, 29, 30, 31, 34, 35, 38, 39, 42, 45]
/-- WordEach.inn(II)I -/
def am_c141 : List mo := [(.iload_n 1, 1, 0, 0, vi 0), (.invokestatic 278, 134, 1, 1, vi 0), (.ifCond .eq 17, 9, 0, 0, vi 0), (.aload_n 0, 0, 0, 0, vi 0), (.getfield 28, 11, 2, 2, vi 0), (.getfield 97, 4, 2, 2, vi 0), (.iload_n 2, 2, 0, 0, vi 0), (.invokevirtual 163, 19, 2, 1, vi 0), (.ifCond .ne 5, 11, 0, 0, vi 0), (.iconst (-1), 0, 0, 0, vi (-1)), (.ireturn, 0, 0, 0, vi 0), (.aload_n 0, 0, 0, 0, vi 0), (.getfield 65, 11, 7, 2, vi 0), (.iload_n 1, 1, 0, 0, vi 0), (.iload_n 2, 2, 0, 0, vi 0), (.invokevirtual 308, 7, 3, 1, vi 0), (.ireturn, 0, 0, 0, vi 0)]
def am_b141 : List Nat := [0, 1, 4, 7, 8, 11, 14, 15, 18, 21, 22, 23, 24, 27, 28, 29, 32]
/-- WordEach.ask()J -/
def am_c142 : List mo := [(.aload_n 0, 0, 0, 0, vi 0), (.invokevirtual 272, 132, 1, 0, vi 0), (.aload_n 0, 0, 0, 0, vi 0), (.getfield 74, 11, 8, 2, vi 0), (.aload_n 0, 0, 0, 0, vi 0), (.getfield 82, 11, 10, 2, vi 0), (.invokevirtual 311, 58, 2, 2, vi 0), (.lstore_n 1, 1, 0, 0, vi 0), (.aload_n 0, 0, 0, 0, vi 0), (.getfield 10, 11, 0, 2, vi 0), (.iconst 0, 0, 0, 0, vi 0), (.putfield 85, 9, 1, 0, vi 0), (.lload_n 1, 1, 0, 0, vi 0), (.lreturn, 0, 0, 0, vi 0)]
def am_b142 : List Nat := [0, 1, 4, 5, 8, 9, 12, 15, 16, 17, 20, 21, 24, 25]
/-- WordEach.image()I -/
def am_c143 : List mo := [(.aload_n 0, 0, 0, 0, vi 0), (.getfield 35, 11, 3, 2, vi 0), (.aload_n 0, 0, 0, 0, vi 0), (.getfield 28, 11, 2, 2, vi 0), (.getfield 134, 4, 3, 0, vi 0), (.invokevirtual 315, 80, 2, 0, vi 0), (.aload_n 0, 0, 0, 0, vi 0), (.getfield 35, 11, 3, 2, vi 0), (.getfield 318, 7, 4, 0, vi 0), (.ireturn, 0, 0, 0, vi 0)]
def am_b143 : List Nat := [0, 1, 4, 5, 8, 11, 14, 15, 18, 21]
/-- WordEach.octet(I)I -/
def am_c144 : List mo := [(.iload_n 1, 1, 0, 0, vi 0), (.ifCond .lt 14, 7, 0, 0, vi 0), (.iload_n 1, 1, 0, 0, vi 0), (.aload_n 0, 0, 0, 0, vi 0), (.getfield 35, 11, 3, 2, vi 0), (.getfield 318, 7, 4, 0, vi 0), (.if_icmp .lt 7, 9, 0, 0, vi 0), (.iconst (-1), 0, 0, 0, vi (-1)), (.goto 12, 14, 0, 0, vi 0), (.aload_n 0, 0, 0, 0, vi 0), (.getfield 35, 11, 3, 2, vi 0), (.getfield 321, 7, 2, 2, vi 0), (.iload_n 1, 1, 0, 0, vi 0), (.iaload, 0, 0, 0, vi 0), (.ireturn, 0, 0, 0, vi 0)]
def am_b144 : List Nat := [0, 1, 4, 5, 6, 9, 12, 15, 16, 19, 20, 23, 26, 27, 28]
/-- WordEach.restore()Z -/
def am_c145 : List mo := [(.aload_n 0, 0, 0, 0, vi 0), (.getfield 10, 11, 0, 2, vi 0), (.aload_n 0, 0, 0, 0, vi 0), (.getfield 28, 11, 2, 2, vi 0), (.getfield 97, 4, 2, 2, vi 0), (.invokestatic 324, 82, 2, 1, vi 0), (.istore_n 1, 1, 0, 0, vi 0), (.iload_n 1, 1, 0, 0, vi 0), (.ifCond .eq 37, 25, 0, 0, vi 0), (.aload_n 0, 0, 0, 0, vi 0), (.getfield 35, 11, 3, 2, vi 0), (.aload_n 0, 0, 0, 0, vi 0), (.getfield 10, 11, 0, 2, vi 0), (.invokevirtual 328, 84, 2, 0, vi 0), (.aload_n 0, 0, 0, 0, vi 0), (.aload_n 0, 0, 0, 0, vi 0), (.getfield 10, 11, 0, 2, vi 0), (.aload_n 0, 0, 0, 0, vi 0), (.getfield 10, 11, 0, 2, vi 0), (.getfield 85, 9, 1, 0, vi 0), (.iconst 2, 0, 0, 0, vi 2), (.isub, 0, 0, 0, vi 0), (.invokevirtual 331, 99, 2, 1, vi 0), (.invokevirtual 110, 105, 2, 0, vi 0), (.goto 13, 33, 0, 0, vi 0), (.aload_n 0, 0, 0, 0, vi 0), (.getfield 78, 11, 9, 2, vi 0), (.iconst 5, 0, 0, 0, vi 5), (.dup2, 0, 0, 0, vi 0), (.iaload, 0, 0, 0, vi 0), (.iconst 1, 0, 0, 0, vi 1), (.iadd, 0, 0, 0, vi 0), (.iastore, 0, 0, 0, vi 0), (.aload_n 0, 0, 0, 0, vi 0), (.getfield 10, 11, 0, 2, vi 0), (.iconst 0, 0, 0, 0, vi 0), (.putfield 85, 9, 1, 0, vi 0), (.iload_n 1, 1, 0, 0, vi 0), (.ireturn, 1, 0, 0, vi 0)]
def am_b145 : List Nat := [0, 1, 4, 5, 8, 11, 14, 15, 16, 19, 20, 23, 24, 27, 30, 31, 32, 35, 36, 39, 42, 43, 44, 47, 50, 53, 54, 57, 58, 59, 60, 61, 62, 63, 64, 67, 68, 71, 72]
/-- WordEach.status(I)I -/
def am_c146 : List mo := [(.iload_n 1, 1, 0, 0, vi 0), (.ifCond .lt 12, 7, 0, 0, vi 0), (.iload_n 1, 1, 0, 0, vi 0), (.aload_n 0, 0, 0, 0, vi 0), (.getfield 78, 11, 9, 2, vi 0), (.arraylength, 0, 0, 0, vi 0), (.if_icmp .lt 7, 9, 0, 0, vi 0), (.iconst (-1), 0, 0, 0, vi (-1)), (.goto 9, 13, 0, 0, vi 0), (.aload_n 0, 0, 0, 0, vi 0), (.getfield 78, 11, 9, 2, vi 0), (.iload_n 1, 1, 0, 0, vi 0), (.iaload, 0, 0, 0, vi 0), (.ireturn, 0, 0, 0, vi 0)]
def am_b146 : List Nat := [0, 1, 4, 5, 6, 9, 10, 13, 14, 17, 18, 21, 22, 23]
/-- WordEachModel.feed(IIIII)I -/
def am_c147 : List mo := [(.aload_n 0, 0, 0, 0, vi 0), (.getfield 209, 12, 1, 0, vi 0), (.bipush 20, 0, 0, 0, vi 20), (.iadd, 0, 0, 0, vi 0), (.sipush 1600, 0, 0, 0, vi 1600), (.if_icmp .le 15, 16, 0, 0, vi 0), (.aload_n 0, 0, 0, 0, vi 0), (.getfield 17, 12, 9, 2, vi 0), (.iconst 0, 0, 0, 0, vi 0), (.dup2, 0, 0, 0, vi 0), (.iaload, 0, 0, 0, vi 0), (.iconst 1, 0, 0, 0, vi 1), (.iadd, 0, 0, 0, vi 0), (.iastore, 0, 0, 0, vi 0), (.iconst (-1), 0, 0, 0, vi (-1)), (.ireturn, 0, 0, 0, vi 0), (.iconst 0, 0, 0, 0, vi 0), (.istore 6, 6, 0, 0, vi 0), (.iload 6, 6, 0, 0, vi 0), (.bipush 20, 0, 0, 0, vi 20), (.if_icmp .ge 92, 67, 0, 0, vi 0), (.iload 6, 6, 0, 0, vi 0), (.iconst 4, 0, 0, 0, vi 4), (.if_icmp .ge 7, 26, 0, 0, vi 0), (.iload_n 1, 1, 0, 0, vi 0), (.goto 39, 42, 0, 0, vi 0), (.iload 6, 6, 0, 0, vi 0), (.bipush 8, 0, 0, 0, vi 8), (.if_icmp .ge 7, 31, 0, 0, vi 0), (.iload_n 2, 2, 0, 0, vi 0), (.goto 28, 42, 0, 0, vi 0), (.iload 6, 6, 0, 0, vi 0), (.bipush 12, 0, 0, 0, vi 12), (.if_icmp .ge 7, 36, 0, 0, vi 0), (.iload_n 3, 3, 0, 0, vi 0), (.goto 17, 42, 0, 0, vi 0), (.iload 6, 6, 0, 0, vi 0), (.bipush 16, 0, 0, 0, vi 16), (.if_icmp .ge 8, 41, 0, 0, vi 0), (.iload 4, 4, 0, 0, vi 0), (.goto 5, 42, 0, 0, vi 0), (.iload 5, 5, 0, 0, vi 0), (.istore 7, 7, 0, 0, vi 0), (.aload_n 0, 0, 0, 0, vi 0), (.getfield 7, 12, 0, 2, vi 0), (.aload_n 0, 0, 0, 0, vi 0), (.getfield 209, 12, 1, 0, vi 0), (.iload 7, 7, 0, 0, vi 0), (.bipush 8, 0, 0, 0, vi 8), (.iconst 3, 0, 0, 0, vi 3), (.iload 6, 6, 0, 0, vi 0), (.iconst 4, 0, 0, 0, vi 4), (.irem, 0, 0, 0, vi 0), (.isub, 0, 0, 0, vi 0), (.imul, 0, 0, 0, vi 0), (.ishr, 0, 0, 0, vi 0), (.sipush 255, 0, 0, 0, vi 255), (.iand, 0, 0, 0, vi 0), (.iastore, 0, 0, 0, vi 0), (.aload_n 0, 0, 0, 0, vi 0), (.dup, 0, 0, 0, vi 0), (.getfield 209, 12, 1, 0, vi 0), (.iconst 1, 0, 0, 0, vi 1), (.iadd, 0, 0, 0, vi 0), (.putfield 209, 12, 1, 0, vi 0), (.iinc 6 1, 6, 0, 0, vi 1), (.goto (-93), 18, 0, 0, vi 0), (.aload_n 0, 0, 0, 0, vi 0), (.getfield 209, 12, 1, 0, vi 0), (.ireturn, 0, 0, 0, vi 0)]
def am_b147 : List Nat := [0, 1, 4, 6, 7, 10, 13, 14, 17, 18, 19, 20, 21, 22, 23, 24, 25, 26, 28, 30, 32, 35, 37, 38, 41, 42, 45, 47, 49, 52, 53, 56, 58, 60, 63, 64, 67, 69, 71, 74, 76, 79, 81, 83, 84, 87, 88, 91, 93, 95, 96, 98, 99, 100, 101, 102, 103, 106, 107, 108, 109, 110, 113, 114, 115, 118, 121, 124, 125, 128]
/-- WordEachModel.end(I)Z -/
def am_c148 : List mo := [(.iload_n 1, 1, 0, 0, vi 0), (.ifCond .lt 11, 6, 0, 0, vi 0), (.iload_n 1, 1, 0, 0, vi 0), (.aload_n 0, 0, 0, 0, vi 0), (.getfield 209, 12, 1, 0, vi 0), (.if_icmp .le 15, 16, 0, 0, vi 0), (.aload_n 0, 0, 0, 0, vi 0), (.getfield 17, 12, 9, 2, vi 0), (.iconst 0, 0, 0, 0, vi 0), (.dup2, 0, 0, 0, vi 0), (.iaload, 0, 0, 0, vi 0), (.iconst 1, 0, 0, 0, vi 1), (.iadd, 0, 0, 0, vi 0), (.iastore, 0, 0, 0, vi 0), (.iconst 0, 0, 0, 0, vi 0), (.ireturn, 1, 0, 0, vi 0), (.aload_n 0, 0, 0, 0, vi 0), (.iload_n 1, 1, 0, 0, vi 0), (.putfield 209, 12, 1, 0, vi 0), (.iconst 1, 0, 0, 0, vi 1), (.ireturn, 1, 0, 0, vi 0)]
def am_b148 : List Nat := [0, 1, 4, 5, 6, 9, 12, 13, 16, 17, 18, 19, 20, 21, 22, 23, 24, 25, 26, 29, 30]
/-- WordEachModel.text()I -/
def am_c149 : List mo := [(.aload_n 0, 0, 0, 0, vi 0), (.aload_n 0, 0, 0, 0, vi 0), (.getfield 209, 12, 1, 0, vi 0), (.putfield 221, 12, 3, 0, vi 0), (.aload_n 0, 0, 0, 0, vi 0), (.iconst 0, 0, 0, 0, vi 0), (.putfield 209, 12, 1, 0, vi 0), (.aload_n 0, 0, 0, 0, vi 0), (.iconst 0, 0, 0, 0, vi 0), (.putfield 218, 12, 2, 0, vi 0), (.aload_n 0, 0, 0, 0, vi 0), (.iconst (-1), 0, 0, 0, vi (-1)), (.putfield 232, 12, 4, 0, vi 0), (.aload_n 0, 0, 0, 0, vi 0), (.iconst 0, 0, 0, 0, vi 0), (.putfield 212, 12, 5, 0, vi 0), (.aload_n 0, 0, 0, 0, vi 0), (.iconst (-1), 0, 0, 0, vi (-1)), (.putfield 215, 12, 6, 0, vi 0), (.aload_n 0, 0, 0, 0, vi 0), (.iconst 0, 0, 0, 0, vi 0), (.putfield 301, 12, 37, 0, vi 0), (.aload_n 0, 0, 0, 0, vi 0), (.getfield 97, 12, 36, 2, vi 0), (.iconst 0, 0, 0, 0, vi 0), (.iconst (-1), 0, 0, 0, vi (-1)), (.iastore, 0, 0, 0, vi 0), (.aload_n 0, 0, 0, 0, vi 0), (.getfield 97, 12, 36, 2, vi 0), (.iconst 1, 0, 0, 0, vi 1), (.iconst (-1), 0, 0, 0, vi (-1)), (.iastore, 0, 0, 0, vi 0), (.iconst 0, 0, 0, 0, vi 0), (.istore_n 1, 1, 0, 0, vi 0), (.iload_n 1, 1, 0, 0, vi 0), (.iconst 5, 0, 0, 0, vi 5), (.if_icmp .ge 16, 44, 0, 0, vi 0), (.aload_n 0, 0, 0, 0, vi 0), (.getfield 72, 12, 28, 2, vi 0), (.iload_n 1, 1, 0, 0, vi 0), (.iconst 0, 0, 0, 0, vi 0), (.iastore, 0, 0, 0, vi 0), (.iinc 1 1, 1, 0, 0, vi 1), (.goto (-15), 34, 0, 0, vi 0), (.aload_n 0, 0, 0, 0, vi 0), (.getfield 212, 12, 5, 0, vi 0), (.ifCond .ne 18, 54, 0, 0, vi 0), (.aload_n 0, 0, 0, 0, vi 0), (.invokevirtual 224, 150, 1, 1, vi 0), (.iconst (-1), 0, 0, 0, vi (-1)), (.if_icmp .eq 10, 54, 0, 0, vi 0), (.aload_n 0, 0, 0, 0, vi 0), (.invokevirtual 326, 151, 1, 0, vi 0), (.goto (-19), 44, 0, 0, vi 0), (.aload_n 0, 0, 0, 0, vi 0), (.aload_n 0, 0, 0, 0, vi 0), (.getfield 212, 12, 5, 0, vi 0), (.putfield 329, 12, 7, 0, vi 0), (.aload_n 0, 0, 0, 0, vi 0), (.aload_n 0, 0, 0, 0, vi 0), (.getfield 215, 12, 6, 0, vi 0), (.putfield 13, 12, 8, 0, vi 0), (.aload_n 0, 0, 0, 0, vi 0), (.getfield 212, 12, 5, 0, vi 0), (.ifCond .eq 15, 75, 0, 0, vi 0), (.aload_n 0, 0, 0, 0, vi 0), (.getfield 17, 12, 9, 2, vi 0), (.iconst 1, 0, 0, 0, vi 1), (.dup2, 0, 0, 0, vi 0), (.iaload, 0, 0, 0, vi 0), (.iconst 1, 0, 0, 0, vi 1), (.iadd, 0, 0, 0, vi 0), (.iastore, 0, 0, 0, vi 0), (.iconst (-1), 0, 0, 0, vi (-1)), (.ireturn, 0, 0, 0, vi 0), (.aload_n 0, 0, 0, 0, vi 0), (.invokevirtual 332, 176, 1, 0, vi 0), (.aload_n 0, 0, 0, 0, vi 0), (.getfield 301, 12, 37, 0, vi 0), (.ireturn, 0, 0, 0, vi 0)]
def am_b149 : List Nat := [0, 1, 2, 5, 8, 9, 10, 13, 14, 15, 18, 19, 20, 23, 24, 25, 28, 29, 30, 33, 34, 35, 38, 39, 42, 43, 44, 45, 46, 49, 50, 51, 52, 53, 54, 55, 56, 59, 60, 63, 64, 65, 66, 69, 72, 73, 76, 79, 80, 83, 84, 87, 88, 91, 94, 95, 96, 99, 102, 103, 104, 107, 110, 111, 114, 117, 118, 121, 122, 123, 124, 125, 126, 127, 128, 129, 130, 133, 134, 137]
/-- WordEachModel.look()I -/
def am_c150 : List mo := [(.aload_n 0, 0, 0, 0, vi 0), (.getfield 218, 12, 2, 0, vi 0), (.aload_n 0, 0, 0, 0, vi 0), (.getfield 221, 12, 3, 0, vi 0), (.if_icmp .ge 44, 26, 0, 0, vi 0), (.aload_n 0, 0, 0, 0, vi 0), (.getfield 7, 12, 0, 2, vi 0), (.aload_n 0, 0, 0, 0, vi 0), (.getfield 218, 12, 2, 0, vi 0), (.iaload, 0, 0, 0, vi 0), (.bipush 10, 0, 0, 0, vi 10), (.if_icmp .eq 17, 19, 0, 0, vi 0), (.aload_n 0, 0, 0, 0, vi 0), (.getfield 7, 12, 0, 2, vi 0), (.aload_n 0, 0, 0, 0, vi 0), (.getfield 218, 12, 2, 0, vi 0), (.iaload, 0, 0, 0, vi 0), (.bipush 32, 0, 0, 0, vi 32), (.if_icmp .ne 16, 26, 0, 0, vi 0), (.aload_n 0, 0, 0, 0, vi 0), (.dup, 0, 0, 0, vi 0), (.getfield 218, 12, 2, 0, vi 0), (.iconst 1, 0, 0, 0, vi 1), (.iadd, 0, 0, 0, vi 0), (.putfield 218, 12, 2, 0, vi 0), (.goto (-49), 0, 0, 0, vi 0), (.aload_n 0, 0, 0, 0, vi 0), (.getfield 218, 12, 2, 0, vi 0), (.aload_n 0, 0, 0, 0, vi 0), (.getfield 221, 12, 3, 0, vi 0), (.if_icmp .ge 15, 37, 0, 0, vi 0), (.aload_n 0, 0, 0, 0, vi 0), (.getfield 7, 12, 0, 2, vi 0), (.aload_n 0, 0, 0, 0, vi 0), (.getfield 218, 12, 2, 0, vi 0), (.iaload, 0, 0, 0, vi 0), (.goto 4, 38, 0, 0, vi 0), (.iconst (-1), 0, 0, 0, vi (-1)), (.ireturn, 0, 0, 0, vi 0)]
def am_b150 : List Nat := [0, 1, 4, 5, 8, 11, 12, 15, 16, 19, 20, 22, 25, 26, 29, 30, 33, 34, 36, 39, 40, 41, 44, 45, 46, 49, 52, 53, 56, 57, 60, 63, 64, 67, 68, 71, 72, 75, 76]
/-- WordEachModel.statementTold()V -/
def am_c151 : List mo := [(.aload_n 0, 0, 0, 0, vi 0), (.getfield 218, 12, 2, 0, vi 0), (.istore_n 1, 1, 0, 0, vi 0), (.aload_n 0, 0, 0, 0, vi 0), (.getfield 301, 12, 37, 0, vi 0), (.bipush 70, 0, 0, 0, vi 70), (.if_icmp .ne 10, 12, 0, 0, vi 0), (.aload_n 0, 0, 0, 0, vi 0), (.iconst 5, 0, 0, 0, vi 5), (.iload_n 1, 1, 0, 0, vi 0), (.invokevirtual 242, 152, 3, 0, vi 0), (.return_, 0, 0, 0, vi 0), (.aload_n 0, 0, 0, 0, vi 0), (.aload_n 0, 0, 0, 0, vi 0), (.getfield 20, 12, 10, 2, vi 0), (.invokevirtual 239, 153, 2, 1, vi 0), (.ifCond .eq 12, 22, 0, 0, vi 0), (.aload_n 0, 0, 0, 0, vi 0), (.iconst 0, 0, 0, 0, vi 0), (.iload_n 1, 1, 0, 0, vi 0), (.invokevirtual 304, 156, 3, 0, vi 0), (.goto 198, 117, 0, 0, vi 0), (.aload_n 0, 0, 0, 0, vi 0), (.aload_n 0, 0, 0, 0, vi 0), (.getfield 24, 12, 11, 2, vi 0), (.invokevirtual 239, 153, 2, 1, vi 0), (.ifCond .eq 12, 32, 0, 0, vi 0), (.aload_n 0, 0, 0, 0, vi 0), (.iconst 1, 0, 0, 0, vi 1), (.iload_n 1, 1, 0, 0, vi 0), (.invokevirtual 304, 156, 3, 0, vi 0), (.goto 178, 117, 0, 0, vi 0), (.aload_n 0, 0, 0, 0, vi 0), (.aload_n 0, 0, 0, 0, vi 0), (.getfield 27, 12, 12, 2, vi 0), (.invokevirtual 239, 153, 2, 1, vi 0), (.ifCond .eq 12, 42, 0, 0, vi 0), (.aload_n 0, 0, 0, 0, vi 0), (.iconst 2, 0, 0, 0, vi 2), (.iload_n 1, 1, 0, 0, vi 0), (.invokevirtual 304, 156, 3, 0, vi 0), (.goto 158, 117, 0, 0, vi 0), (.aload_n 0, 0, 0, 0, vi 0), (.aload_n 0, 0, 0, 0, vi 0), (.getfield 30, 12, 13, 2, vi 0), (.invokevirtual 239, 153, 2, 1, vi 0), (.ifCond .eq 12, 52, 0, 0, vi 0), (.aload_n 0, 0, 0, 0, vi 0), (.iconst 3, 0, 0, 0, vi 3), (.iload_n 1, 1, 0, 0, vi 0), (.invokevirtual 304, 156, 3, 0, vi 0), (.goto 138, 117, 0, 0, vi 0), (.aload_n 0, 0, 0, 0, vi 0), (.aload_n 0, 0, 0, 0, vi 0), (.getfield 33, 12, 14, 2, vi 0), (.invokevirtual 239, 153, 2, 1, vi 0), (.ifCond .eq 12, 62, 0, 0, vi 0), (.aload_n 0, 0, 0, 0, vi 0), (.iconst 4, 0, 0, 0, vi 4), (.iload_n 1, 1, 0, 0, vi 0), (.invokevirtual 304, 156, 3, 0, vi 0), (.goto 118, 117, 0, 0, vi 0), (.aload_n 0, 0, 0, 0, vi 0), (.aload_n 0, 0, 0, 0, vi 0), (.getfield 36, 12, 15, 2, vi 0), (.invokevirtual 239, 153, 2, 1, vi 0), (.ifCond .eq 12, 72, 0, 0, vi 0), (.aload_n 0, 0, 0, 0, vi 0), (.iconst 5, 0, 0, 0, vi 5), (.iload_n 1, 1, 0, 0, vi 0), (.invokevirtual 304, 156, 3, 0, vi 0), (.goto 98, 117, 0, 0, vi 0), (.aload_n 0, 0, 0, 0, vi 0), (.aload_n 0, 0, 0, 0, vi 0), (.getfield 39, 12, 16, 2, vi 0), (.invokevirtual 239, 153, 2, 1, vi 0), (.ifCond .eq 11, 81, 0, 0, vi 0), (.aload_n 0, 0, 0, 0, vi 0), (.iload_n 1, 1, 0, 0, vi 0), (.invokevirtual 307, 163, 2, 0, vi 0), (.goto 79, 117, 0, 0, vi 0), (.aload_n 0, 0, 0, 0, vi 0), (.aload_n 0, 0, 0, 0, vi 0), (.getfield 51, 12, 20, 2, vi 0), (.invokevirtual 239, 153, 2, 1, vi 0), (.ifCond .eq 11, 90, 0, 0, vi 0), (.aload_n 0, 0, 0, 0, vi 0), (.iload_n 1, 1, 0, 0, vi 0), (.invokevirtual 311, 166, 2, 0, vi 0), (.goto 60, 117, 0, 0, vi 0), (.aload_n 0, 0, 0, 0, vi 0), (.aload_n 0, 0, 0, 0, vi 0), (.getfield 54, 12, 21, 2, vi 0), (.invokevirtual 239, 153, 2, 1, vi 0), (.ifCond .eq 11, 99, 0, 0, vi 0), (.aload_n 0, 0, 0, 0, vi 0), (.iload_n 1, 1, 0, 0, vi 0), (.invokevirtual 314, 168, 2, 0, vi 0), (.goto 41, 117, 0, 0, vi 0), (.aload_n 0, 0, 0, 0, vi 0), (.aload_n 0, 0, 0, 0, vi 0), (.getfield 66, 12, 25, 2, vi 0), (.invokevirtual 239, 153, 2, 1, vi 0), (.ifCond .eq 10, 107, 0, 0, vi 0), (.aload_n 0, 0, 0, 0, vi 0), (.invokevirtual 317, 172, 1, 0, vi 0), (.goto 23, 117, 0, 0, vi 0), (.aload_n 0, 0, 0, 0, vi 0), (.aload_n 0, 0, 0, 0, vi 0), (.getfield 69, 12, 26, 2, vi 0), (.invokevirtual 286, 165, 2, 0, vi 0), (.aload_n 0, 0, 0, 0, vi 0), (.getfield 212, 12, 5, 0, vi 0), (.ifCond .ne 8, 117, 0, 0, vi 0), (.aload_n 0, 0, 0, 0, vi 0), (.iload_n 1, 1, 0, 0, vi 0), (.invokevirtual 320, 173, 2, 0, vi 0), (.aload_n 0, 0, 0, 0, vi 0), (.bipush 59, 0, 0, 0, vi 59), (.invokevirtual 323, 174, 2, 0, vi 0), (.aload_n 0, 0, 0, 0, vi 0), (.dup, 0, 0, 0, vi 0), (.getfield 301, 12, 37, 0, vi 0), (.iconst 1, 0, 0, 0, vi 1), (.iadd, 0, 0, 0, vi 0), (.putfield 301, 12, 37, 0, vi 0), (.return_, 0, 0, 0, vi 0)]
def am_b151 : List Nat := [0, 1, 4, 5, 6, 9, 11, 14, 15, 16, 17, 20, 21, 22, 23, 26, 29, 32, 33, 34, 35, 38, 41, 42, 43, 46, 49, 52, 53, 54, 55, 58, 61, 62, 63, 66, 69, 72, 73, 74, 75, 78, 81, 82, 83, 86, 89, 92, 93, 94, 95, 98, 101, 102, 103, 106, 109, 112, 113, 114, 115, 118, 121, 122, 123, 126, 129, 132, 133, 134, 135, 138, 141, 142, 143, 146, 149, 152, 153, 154, 157, 160, 161, 162, 165, 168, 171, 172, 173, 176, 179, 180, 181, 184, 187, 190, 191, 192, 195, 198, 199, 200, 203, 206, 209, 210, 213, 216, 217, 218, 221, 224, 225, 228, 231, 232, 233, 236, 237, 239, 242, 243, 244, 247, 248, 249, 252]
/-- WordEachModel.fail(II)V -/
def am_c152 : List mo := [(.aload_n 0, 0, 0, 0, vi 0), (.getfield 212, 12, 5, 0, vi 0), (.ifCond .eq 4, 4, 0, 0, vi 0), (.return_, 0, 0, 0, vi 0), (.aload_n 0, 0, 0, 0, vi 0), (.iload_n 1, 1, 0, 0, vi 0), (.putfield 212, 12, 5, 0, vi 0), (.aload_n 0, 0, 0, 0, vi 0), (.iload_n 2, 2, 0, 0, vi 0), (.putfield 215, 12, 6, 0, vi 0), (.return_, 0, 0, 0, vi 0)]
def am_b152 : List Nat := [0, 1, 4, 7, 8, 9, 10, 13, 14, 15, 18]
/-- WordEachModel.takes([C)Z -/
def am_c153 : List mo := [(.aload_n 0, 0, 0, 0, vi 0), (.aload_n 1, 1, 0, 0, vi 0), (.invokevirtual 235, 154, 2, 1, vi 0), (.ifCond .ne 5, 6, 0, 0, vi 0), (.iconst 0, 0, 0, 0, vi 0), (.ireturn, 1, 0, 0, vi 0), (.aload_n 0, 0, 0, 0, vi 0), (.dup, 0, 0, 0, vi 0), (.getfield 218, 12, 2, 0, vi 0), (.aload_n 1, 1, 0, 0, vi 0), (.arraylength, 0, 0, 0, vi 0), (.iadd, 0, 0, 0, vi 0), (.putfield 218, 12, 2, 0, vi 0), (.aload_n 0, 0, 0, 0, vi 0), (.aload_n 0, 0, 0, 0, vi 0), (.getfield 218, 12, 2, 0, vi 0), (.putfield 232, 12, 4, 0, vi 0), (.iconst 1, 0, 0, 0, vi 1), (.ireturn, 1, 0, 0, vi 0)]
def am_b153 : List Nat := [0, 1, 2, 5, 8, 9, 10, 11, 12, 15, 16, 17, 18, 21, 22, 23, 26, 29, 30]
/-- WordEachModel.isHere([C)Z -/
def am_c154 : List mo := [(.aload_n 0, 0, 0, 0, vi 0), (.getfield 212, 12, 5, 0, vi 0), (.ifCond .ne 24, 12, 0, 0, vi 0), (.aload_n 0, 0, 0, 0, vi 0), (.invokevirtual 224, 150, 1, 1, vi 0), (.invokestatic 228, 155, 1, 1, vi 0), (.ifCond .eq 14, 12, 0, 0, vi 0), (.aload_n 0, 0, 0, 0, vi 0), (.getfield 218, 12, 2, 0, vi 0), (.aload_n 0, 0, 0, 0, vi 0), (.getfield 232, 12, 4, 0, vi 0), (.if_icmp .ne 5, 14, 0, 0, vi 0), (.iconst 0, 0, 0, 0, vi 0), (.ireturn, 1, 0, 0, vi 0), (.aload_n 0, 0, 0, 0, vi 0), (.getfield 218, 12, 2, 0, vi 0), (.istore_n 2, 2, 0, 0, vi 0), (.iload_n 2, 2, 0, 0, vi 0), (.aload_n 0, 0, 0, 0, vi 0), (.getfield 221, 12, 3, 0, vi 0), (.if_icmp .ge 21, 29, 0, 0, vi 0), (.aload_n 0, 0, 0, 0, vi 0), (.getfield 7, 12, 0, 2, vi 0), (.iload_n 2, 2, 0, 0, vi 0), (.iaload, 0, 0, 0, vi 0), (.invokestatic 228, 155, 1, 1, vi 0), (.ifCond .eq 9, 29, 0, 0, vi 0), (.iinc 2 1, 2, 0, 0, vi 1), (.goto (-23), 17, 0, 0, vi 0), (.iload_n 2, 2, 0, 0, vi 0), (.aload_n 0, 0, 0, 0, vi 0), (.getfield 218, 12, 2, 0, vi 0), (.isub, 0, 0, 0, vi 0), (.aload_n 1, 1, 0, 0, vi 0), (.arraylength, 0, 0, 0, vi 0), (.if_icmp .eq 5, 38, 0, 0, vi 0), (.iconst 0, 0, 0, 0, vi 0), (.ireturn, 1, 0, 0, vi 0), (.iconst 0, 0, 0, 0, vi 0), (.istore_n 3, 3, 0, 0, vi 0), (.iload_n 3, 3, 0, 0, vi 0), (.aload_n 1, 1, 0, 0, vi 0), (.arraylength, 0, 0, 0, vi 0), (.if_icmp .ge 28, 59, 0, 0, vi 0), (.aload_n 0, 0, 0, 0, vi 0), (.getfield 7, 12, 0, 2, vi 0), (.aload_n 0, 0, 0, 0, vi 0), (.getfield 218, 12, 2, 0, vi 0), (.iload_n 3, 3, 0, 0, vi 0), (.iadd, 0, 0, 0, vi 0), (.iaload, 0, 0, 0, vi 0), (.aload_n 1, 1, 0, 0, vi 0), (.iload_n 3, 3, 0, 0, vi 0), (.caload, 0, 0, 0, vi 0), (.if_icmp .eq 5, 57, 0, 0, vi 0), (.iconst 0, 0, 0, 0, vi 0), (.ireturn, 1, 0, 0, vi 0), (.iinc 3 1, 3, 0, 0, vi 1), (.goto (-28), 40, 0, 0, vi 0), (.iconst 1, 0, 0, 0, vi 1), (.ireturn, 1, 0, 0, vi 0)]
def am_b154 : List Nat := [0, 1, 4, 7, 8, 11, 14, 17, 18, 21, 22, 25, 28, 29, 30, 31, 34, 35, 36, 37, 40, 43, 44, 47, 48, 49, 52, 55, 58, 61, 62, 63, 66, 67, 68, 69, 72, 73, 74, 75, 76, 77, 78, 79, 82, 83, 86, 87, 90, 91, 92, 93, 94, 95, 96, 99, 100, 101, 104, 107, 108]
/-- WordEachModel.isLetter(I)Z -/
def am_c155 : List mo := [(.iload_n 0, 0, 0, 0, vi 0), (.bipush 97, 0, 0, 0, vi 97), (.if_icmp .lt 13, 8, 0, 0, vi 0), (.iload_n 0, 0, 0, 0, vi 0), (.bipush 122, 0, 0, 0, vi 122), (.if_icmp .gt 7, 8, 0, 0, vi 0), (.iconst 1, 0, 0, 0, vi 1), (.goto 4, 9, 0, 0, vi 0), (.iconst 0, 0, 0, 0, vi 0), (.ireturn, 1, 0, 0, vi 0)]
def am_b155 : List Nat := [0, 1, 3, 6, 7, 9, 12, 13, 16, 17]
/-- WordEachModel.newWord(II)V -/
def am_c156 : List mo := [(.aload_n 0, 0, 0, 0, vi 0), (.iconst 0, 0, 0, 0, vi 0), (.bipush 20, 0, 0, 0, vi 20), (.iload_n 2, 2, 0, 0, vi 0), (.invokevirtual 279, 157, 4, 1, vi 0), (.ifCond .eq 4, 7, 0, 0, vi 0), (.return_, 0, 0, 0, vi 0), (.aload_n 0, 0, 0, 0, vi 0), (.invokevirtual 283, 158, 1, 2, vi 0), (.lstore_n 3, 3, 0, 0, vi 0), (.aload_n 0, 0, 0, 0, vi 0), (.getfield 212, 12, 5, 0, vi 0), (.ifCond .eq 4, 14, 0, 0, vi 0), (.return_, 0, 0, 0, vi 0), (.aload_n 0, 0, 0, 0, vi 0), (.getfield 75, 12, 29, 2, vi 0), (.aload_n 0, 0, 0, 0, vi 0), (.getfield 72, 12, 28, 2, vi 0), (.iconst 0, 0, 0, 0, vi 0), (.iaload, 0, 0, 0, vi 0), (.lload_n 3, 3, 0, 0, vi 0), (.lastore, 0, 0, 0, vi 0), (.aload_n 0, 0, 0, 0, vi 0), (.getfield 79, 12, 30, 2, vi 0), (.aload_n 0, 0, 0, 0, vi 0), (.getfield 72, 12, 28, 2, vi 0), (.iconst 0, 0, 0, 0, vi 0), (.iaload, 0, 0, 0, vi 0), (.iload_n 1, 1, 0, 0, vi 0), (.iastore, 0, 0, 0, vi 0), (.aload_n 0, 0, 0, 0, vi 0), (.getfield 72, 12, 28, 2, vi 0), (.iconst 0, 0, 0, 0, vi 0), (.dup2, 0, 0, 0, vi 0), (.iaload, 0, 0, 0, vi 0), (.iconst 1, 0, 0, 0, vi 1), (.iadd, 0, 0, 0, vi 0), (.iastore, 0, 0, 0, vi 0), (.return_, 0, 0, 0, vi 0)]
def am_b156 : List Nat := [0, 1, 2, 4, 5, 8, 11, 12, 13, 16, 17, 18, 21, 24, 25, 26, 29, 30, 33, 34, 35, 36, 37, 38, 41, 42, 45, 46, 47, 48, 49, 50, 53, 54, 55, 56, 57, 58, 59]
/-- WordEachModel.isFull(III)Z -/
def am_c157 : List mo := [(.aload_n 0, 0, 0, 0, vi 0), (.getfield 212, 12, 5, 0, vi 0), (.ifCond .ne 19, 13, 0, 0, vi 0), (.aload_n 0, 0, 0, 0, vi 0), (.getfield 72, 12, 28, 2, vi 0), (.iload_n 1, 1, 0, 0, vi 0), (.iaload, 0, 0, 0, vi 0), (.iload_n 2, 2, 0, 0, vi 0), (.if_icmp .ne 9, 13, 0, 0, vi 0), (.aload_n 0, 0, 0, 0, vi 0), (.iconst 5, 0, 0, 0, vi 5), (.iload_n 3, 3, 0, 0, vi 0), (.invokevirtual 242, 152, 3, 0, vi 0), (.aload_n 0, 0, 0, 0, vi 0), (.getfield 212, 12, 5, 0, vi 0), (.ifCond .eq 7, 18, 0, 0, vi 0), (.iconst 1, 0, 0, 0, vi 1), (.goto 4, 19, 0, 0, vi 0), (.iconst 0, 0, 0, 0, vi 0), (.ireturn, 1, 0, 0, vi 0)]
def am_b157 : List Nat := [0, 1, 4, 7, 8, 11, 12, 13, 14, 17, 18, 19, 20, 23, 24, 27, 30, 31, 34, 35]
/-- WordEachModel.newSpelt()J -/
def am_c158 : List mo := [(.aload_n 0, 0, 0, 0, vi 0), (.invokevirtual 267, 159, 1, 2, vi 0), (.lstore_n 1, 1, 0, 0, vi 0), (.aload_n 0, 0, 0, 0, vi 0), (.getfield 212, 12, 5, 0, vi 0), (.ifCond .ne 29, 20, 0, 0, vi 0), (.aload_n 0, 0, 0, 0, vi 0), (.lload_n 1, 1, 0, 0, vi 0), (.invokevirtual 271, 161, 2, 1, vi 0), (.iconst (-1), 0, 0, 0, vi (-1)), (.if_icmp .ne 11, 15, 0, 0, vi 0), (.aload_n 0, 0, 0, 0, vi 0), (.lload_n 1, 1, 0, 0, vi 0), (.invokevirtual 275, 162, 2, 1, vi 0), (.ifCond .eq 12, 20, 0, 0, vi 0), (.aload_n 0, 0, 0, 0, vi 0), (.iconst 3, 0, 0, 0, vi 3), (.aload_n 0, 0, 0, 0, vi 0), (.getfield 260, 12, 27, 0, vi 0), (.invokevirtual 242, 152, 3, 0, vi 0), (.lload_n 1, 1, 0, 0, vi 0), (.lreturn, 0, 0, 0, vi 0)]
def am_b158 : List Nat := [0, 1, 4, 5, 6, 9, 12, 13, 14, 17, 18, 21, 22, 23, 26, 29, 30, 31, 32, 35, 38, 39]
/-- WordEachModel.spelt()J -/
def am_c159 : List mo := [(.aload_n 0, 0, 0, 0, vi 0), (.getfield 212, 12, 5, 0, vi 0), (.ifCond .eq 5, 5, 0, 0, vi 0), (.lconst 0, 0, 0, 0, vl 0), (.lreturn, 0, 0, 0, vi 0), (.aload_n 0, 0, 0, 0, vi 0), (.invokevirtual 224, 150, 1, 1, vi 0), (.invokestatic 228, 155, 1, 1, vi 0), (.ifCond .eq 21, 17, 0, 0, vi 0), (.aload_n 0, 0, 0, 0, vi 0), (.getfield 218, 12, 2, 0, vi 0), (.aload_n 0, 0, 0, 0, vi 0), (.getfield 232, 12, 4, 0, vi 0), (.if_icmp .eq 10, 17, 0, 0, vi 0), (.aload_n 0, 0, 0, 0, vi 0), (.invokevirtual 256, 160, 1, 1, vi 0), (.ifCond .eq 14, 24, 0, 0, vi 0), (.aload_n 0, 0, 0, 0, vi 0), (.iconst 1, 0, 0, 0, vi 1), (.aload_n 0, 0, 0, 0, vi 0), (.getfield 218, 12, 2, 0, vi 0), (.invokevirtual 242, 152, 3, 0, vi 0), (.lconst 0, 0, 0, 0, vl 0), (.lreturn, 0, 0, 0, vi 0), (.aload_n 0, 0, 0, 0, vi 0), (.aload_n 0, 0, 0, 0, vi 0), (.getfield 218, 12, 2, 0, vi 0), (.putfield 260, 12, 27, 0, vi 0), (.lconst 0, 0, 0, 0, vl 0), (.lstore_n 1, 1, 0, 0, vi 0), (.aload_n 0, 0, 0, 0, vi 0), (.getfield 218, 12, 2, 0, vi 0), (.aload_n 0, 0, 0, 0, vi 0), (.getfield 221, 12, 3, 0, vi 0), (.if_icmp .ge 79, 78, 0, 0, vi 0), (.aload_n 0, 0, 0, 0, vi 0), (.getfield 7, 12, 0, 2, vi 0), (.aload_n 0, 0, 0, 0, vi 0), (.getfield 218, 12, 2, 0, vi 0), (.iaload, 0, 0, 0, vi 0), (.invokestatic 228, 155, 1, 1, vi 0), (.ifCond .eq 64, 78, 0, 0, vi 0), (.aload_n 0, 0, 0, 0, vi 0), (.getfield 218, 12, 2, 0, vi 0), (.aload_n 0, 0, 0, 0, vi 0), (.getfield 260, 12, 27, 0, vi 0), (.isub, 0, 0, 0, vi 0), (.bipush 6, 0, 0, 0, vi 6), (.if_icmp .ne 14, 56, 0, 0, vi 0), (.aload_n 0, 0, 0, 0, vi 0), (.iconst 1, 0, 0, 0, vi 1), (.aload_n 0, 0, 0, 0, vi 0), (.getfield 218, 12, 2, 0, vi 0), (.invokevirtual 242, 152, 3, 0, vi 0), (.lconst 0, 0, 0, 0, vl 0), (.lreturn, 0, 0, 0, vi 0), (.ldc2_w 263, 0, 0, 0, vl 27), (.lload_n 1, 1, 0, 0, vi 0), (.lmul, 0, 0, 0, vi 0), (.aload_n 0, 0, 0, 0, vi 0), (.getfield 7, 12, 0, 2, vi 0), (.aload_n 0, 0, 0, 0, vi 0), (.getfield 218, 12, 2, 0, vi 0), (.iaload, 0, 0, 0, vi 0), (.i2l, 0, 0, 0, vi 0), (.ladd, 0, 0, 0, vi 0), (.ldc2_w 265, 0, 0, 0, vl 97), (.lsub, 0, 0, 0, vi 0), (.lconst 1, 0, 0, 0, vl 1), (.ladd, 0, 0, 0, vi 0), (.lstore_n 1, 1, 0, 0, vi 0), (.aload_n 0, 0, 0, 0, vi 0), (.dup, 0, 0, 0, vi 0), (.getfield 218, 12, 2, 0, vi 0), (.iconst 1, 0, 0, 0, vi 1), (.iadd, 0, 0, 0, vi 0), (.putfield 218, 12, 2, 0, vi 0), (.goto (-84), 30, 0, 0, vi 0), (.aload_n 0, 0, 0, 0, vi 0), (.aload_n 0, 0, 0, 0, vi 0), (.getfield 218, 12, 2, 0, vi 0), (.putfield 232, 12, 4, 0, vi 0), (.lload_n 1, 1, 0, 0, vi 0), (.lreturn, 0, 0, 0, vi 0)]
def am_b159 : List Nat := [0, 1, 4, 7, 8, 9, 10, 13, 16, 19, 20, 23, 24, 27, 30, 31, 34, 37, 38, 39, 40, 43, 46, 47, 48, 49, 50, 53, 56, 57, 58, 59, 62, 63, 66, 69, 70, 73, 74, 77, 78, 81, 84, 85, 88, 89, 92, 93, 95, 98, 99, 100, 101, 104, 107, 108, 109, 112, 113, 114, 115, 118, 119, 122, 123, 124, 125, 128, 129, 130, 131, 132, 133, 134, 137, 138, 139, 142, 145, 146, 147, 150, 153, 154]
/-- WordEachModel.isOwnHere()Z -/
def am_c160 : List mo := [(.aload_n 0, 0, 0, 0, vi 0), (.aload_n 0, 0, 0, 0, vi 0), (.getfield 20, 12, 10, 2, vi 0), (.invokevirtual 235, 154, 2, 1, vi 0), (.ifCond .ne 58, 30, 0, 0, vi 0), (.aload_n 0, 0, 0, 0, vi 0), (.aload_n 0, 0, 0, 0, vi 0), (.getfield 24, 12, 11, 2, vi 0), (.invokevirtual 235, 154, 2, 1, vi 0), (.ifCond .ne 47, 30, 0, 0, vi 0), (.aload_n 0, 0, 0, 0, vi 0), (.aload_n 0, 0, 0, 0, vi 0), (.getfield 27, 12, 12, 2, vi 0), (.invokevirtual 235, 154, 2, 1, vi 0), (.ifCond .ne 36, 30, 0, 0, vi 0), (.aload_n 0, 0, 0, 0, vi 0), (.aload_n 0, 0, 0, 0, vi 0), (.getfield 30, 12, 13, 2, vi 0), (.invokevirtual 235, 154, 2, 1, vi 0), (.ifCond .ne 25, 30, 0, 0, vi 0), (.aload_n 0, 0, 0, 0, vi 0), (.aload_n 0, 0, 0, 0, vi 0), (.getfield 33, 12, 14, 2, vi 0), (.invokevirtual 235, 154, 2, 1, vi 0), (.ifCond .ne 14, 30, 0, 0, vi 0), (.aload_n 0, 0, 0, 0, vi 0), (.aload_n 0, 0, 0, 0, vi 0), (.getfield 36, 12, 15, 2, vi 0), (.invokevirtual 235, 154, 2, 1, vi 0), (.ifCond .eq 7, 32, 0, 0, vi 0), (.iconst 1, 0, 0, 0, vi 1), (.goto 4, 33, 0, 0, vi 0), (.iconst 0, 0, 0, 0, vi 0), (.istore_n 1, 1, 0, 0, vi 0), (.iload_n 1, 1, 0, 0, vi 0), (.ifCond .ne 69, 66, 0, 0, vi 0), (.aload_n 0, 0, 0, 0, vi 0), (.aload_n 0, 0, 0, 0, vi 0), (.getfield 39, 12, 16, 2, vi 0), (.invokevirtual 235, 154, 2, 1, vi 0), (.ifCond .ne 58, 66, 0, 0, vi 0), (.aload_n 0, 0, 0, 0, vi 0), (.aload_n 0, 0, 0, 0, vi 0), (.getfield 42, 12, 17, 2, vi 0), (.invokevirtual 235, 154, 2, 1, vi 0), (.ifCond .ne 47, 66, 0, 0, vi 0), (.aload_n 0, 0, 0, 0, vi 0), (.aload_n 0, 0, 0, 0, vi 0), (.getfield 45, 12, 18, 2, vi 0), (.invokevirtual 235, 154, 2, 1, vi 0), (.ifCond .ne 36, 66, 0, 0, vi 0), (.aload_n 0, 0, 0, 0, vi 0), (.aload_n 0, 0, 0, 0, vi 0), (.getfield 48, 12, 19, 2, vi 0), (.invokevirtual 235, 154, 2, 1, vi 0), (.ifCond .ne 25, 66, 0, 0, vi 0), (.aload_n 0, 0, 0, 0, vi 0), (.aload_n 0, 0, 0, 0, vi 0), (.getfield 51, 12, 20, 2, vi 0), (.invokevirtual 235, 154, 2, 1, vi 0), (.ifCond .ne 14, 66, 0, 0, vi 0), (.aload_n 0, 0, 0, 0, vi 0), (.aload_n 0, 0, 0, 0, vi 0), (.getfield 54, 12, 21, 2, vi 0), (.invokevirtual 235, 154, 2, 1, vi 0), (.ifCond .eq 7, 68, 0, 0, vi 0), (.iconst 1, 0, 0, 0, vi 1), (.goto 4, 69, 0, 0, vi 0), (.iconst 0, 0, 0, 0, vi 0), (.istore_n 1, 1, 0, 0, vi 0), (.iload_n 1, 1, 0, 0, vi 0), (.ifCond .ne 58, 97, 0, 0, vi 0), (.aload_n 0, 0, 0, 0, vi 0), (.aload_n 0, 0, 0, 0, vi 0), (.getfield 57, 12, 22, 2, vi 0), (.invokevirtual 235, 154, 2, 1, vi 0), (.ifCond .ne 47, 97, 0, 0, vi 0), (.aload_n 0, 0, 0, 0, vi 0), (.aload_n 0, 0, 0, 0, vi 0), (.getfield 60, 12, 23, 2, vi 0), (.invokevirtual 235, 154, 2, 1, vi 0), (.ifCond .ne 36, 97, 0, 0, vi 0), (.aload_n 0, 0, 0, 0, vi 0), (.aload_n 0, 0, 0, 0, vi 0), (.getfield 63, 12, 24, 2, vi 0), (.invokevirtual 235, 154, 2, 1, vi 0), (.ifCond .ne 25, 97, 0, 0, vi 0), (.aload_n 0, 0, 0, 0, vi 0), (.aload_n 0, 0, 0, 0, vi 0), (.getfield 66, 12, 25, 2, vi 0), (.invokevirtual 235, 154, 2, 1, vi 0), (.ifCond .ne 14, 97, 0, 0, vi 0), (.aload_n 0, 0, 0, 0, vi 0), (.aload_n 0, 0, 0, 0, vi 0), (.getfield 69, 12, 26, 2, vi 0), (.invokevirtual 235, 154, 2, 1, vi 0), (.ifCond .eq 7, 99, 0, 0, vi 0), (.iconst 1, 0, 0, 0, vi 1), (.goto 4, 100, 0, 0, vi 0), (.iconst 0, 0, 0, 0, vi 0), (.istore_n 1, 1, 0, 0, vi 0), (.iload_n 1, 1, 0, 0, vi 0), (.ireturn, 1, 0, 0, vi 0)]
def am_b160 : List Nat := [0, 1, 2, 5, 8, 11, 12, 13, 16, 19, 22, 23, 24, 27, 30, 33, 34, 35, 38, 41, 44, 45, 46, 49, 52, 55, 56, 57, 60, 63, 66, 67, 70, 71, 72, 73, 76, 77, 78, 81, 84, 87, 88, 89, 92, 95, 98, 99, 100, 103, 106, 109, 110, 111, 114, 117, 120, 121, 122, 125, 128, 131, 132, 133, 136, 139, 142, 143, 146, 147, 148, 149, 152, 153, 154, 157, 160, 163, 164, 165, 168, 171, 174, 175, 176, 179, 182, 185, 186, 187, 190, 193, 196, 197, 198, 201, 204, 207, 208, 211, 212, 213, 214]
/-- WordEachModel.wordOf(J)I -/
def am_c161 : List mo := [(.iconst 0, 0, 0, 0, vi 0), (.istore_n 3, 3, 0, 0, vi 0), (.iload_n 3, 3, 0, 0, vi 0), (.aload_n 0, 0, 0, 0, vi 0), (.getfield 72, 12, 28, 2, vi 0), (.iconst 0, 0, 0, 0, vi 0), (.iaload, 0, 0, 0, vi 0), (.if_icmp .ge 22, 19, 0, 0, vi 0), (.aload_n 0, 0, 0, 0, vi 0), (.getfield 75, 12, 29, 2, vi 0), (.iload_n 3, 3, 0, 0, vi 0), (.laload, 0, 0, 0, vi 0), (.lload_n 1, 1, 0, 0, vi 0), (.lcmp, 0, 0, 0, vi 0), (.ifCond .ne 5, 17, 0, 0, vi 0), (.iload_n 3, 3, 0, 0, vi 0), (.ireturn, 0, 0, 0, vi 0), (.iinc 3 1, 3, 0, 0, vi 1), (.goto (-26), 2, 0, 0, vi 0), (.iconst (-1), 0, 0, 0, vi (-1)), (.ireturn, 0, 0, 0, vi 0)]
def am_b161 : List Nat := [0, 1, 2, 3, 4, 7, 8, 9, 12, 13, 16, 17, 18, 19, 20, 23, 24, 25, 28, 31, 32]
/-- WordEachModel.isWitness(J)Z -/
def am_c162 : List mo := [(.iconst 0, 0, 0, 0, vi 0), (.istore_n 3, 3, 0, 0, vi 0), (.iload_n 3, 3, 0, 0, vi 0), (.aload_n 0, 0, 0, 0, vi 0), (.getfield 72, 12, 28, 2, vi 0), (.iconst 3, 0, 0, 0, vi 3), (.iaload, 0, 0, 0, vi 0), (.if_icmp .ge 22, 19, 0, 0, vi 0), (.aload_n 0, 0, 0, 0, vi 0), (.getfield 82, 12, 31, 2, vi 0), (.iload_n 3, 3, 0, 0, vi 0), (.laload, 0, 0, 0, vi 0), (.lload_n 1, 1, 0, 0, vi 0), (.lcmp, 0, 0, 0, vi 0), (.ifCond .ne 5, 17, 0, 0, vi 0), (.iconst 1, 0, 0, 0, vi 1), (.ireturn, 1, 0, 0, vi 0), (.iinc 3 1, 3, 0, 0, vi 1), (.goto (-26), 2, 0, 0, vi 0), (.iconst 0, 0, 0, 0, vi 0), (.ireturn, 1, 0, 0, vi 0)]
def am_b162 : List Nat := [0, 1, 2, 3, 4, 7, 8, 9, 12, 13, 16, 17, 18, 19, 20, 23, 24, 25, 28, 31, 32]
/-- WordEachModel.newLine(I)V -/
def am_c163 : List mo := [(.aload_n 0, 0, 0, 0, vi 0), (.iconst 1, 0, 0, 0, vi 1), (.bipush 6, 0, 0, 0, vi 6), (.iload_n 1, 1, 0, 0, vi 0), (.invokevirtual 279, 157, 4, 1, vi 0), (.ifCond .eq 4, 7, 0, 0, vi 0), (.return_, 0, 0, 0, vi 0), (.iconst 3, 0, 0, 0, vi 3), (.aload_n 0, 0, 0, 0, vi 0), (.getfield 72, 12, 28, 2, vi 0), (.iconst 1, 0, 0, 0, vi 1), (.iaload, 0, 0, 0, vi 0), (.imul, 0, 0, 0, vi 0), (.istore_n 2, 2, 0, 0, vi 0), (.iconst 0, 0, 0, 0, vi 0), (.istore_n 3, 3, 0, 0, vi 0), (.iconst 0, 0, 0, 0, vi 0), (.istore 4, 4, 0, 0, vi 0), (.aload_n 0, 0, 0, 0, vi 0), (.getfield 212, 12, 5, 0, vi 0), (.ifCond .ne 80, 64, 0, 0, vi 0), (.aload_n 0, 0, 0, 0, vi 0), (.invokevirtual 224, 150, 1, 1, vi 0), (.bipush 59, 0, 0, 0, vi 59), (.if_icmp .eq 71, 64, 0, 0, vi 0), (.aload_n 0, 0, 0, 0, vi 0), (.getfield 218, 12, 2, 0, vi 0), (.istore 5, 5, 0, 0, vi 0), (.aload_n 0, 0, 0, 0, vi 0), (.invokevirtual 290, 164, 1, 1, vi 0), (.istore 6, 6, 0, 0, vi 0), (.aload_n 0, 0, 0, 0, vi 0), (.getfield 212, 12, 5, 0, vi 0), (.ifCond .ne 20, 45, 0, 0, vi 0), (.iload_n 3, 3, 0, 0, vi 0), (.iload 6, 6, 0, 0, vi 0), (.ishr, 0, 0, 0, vi 0), (.iconst 1, 0, 0, 0, vi 1), (.iand, 0, 0, 0, vi 0), (.iconst 1, 0, 0, 0, vi 1), (.if_icmp .ne 10, 45, 0, 0, vi 0), (.aload_n 0, 0, 0, 0, vi 0), (.iconst 1, 0, 0, 0, vi 1), (.iload 5, 5, 0, 0, vi 0), (.invokevirtual 242, 152, 3, 0, vi 0), (.aload_n 0, 0, 0, 0, vi 0), (.getfield 212, 12, 5, 0, vi 0), (.ifCond .eq 4, 49, 0, 0, vi 0), (.return_, 0, 0, 0, vi 0), (.iload_n 3, 3, 0, 0, vi 0), (.iconst 1, 0, 0, 0, vi 1), (.iload 6, 6, 0, 0, vi 0), (.ishl, 0, 0, 0, vi 0), (.ior, 0, 0, 0, vi 0), (.istore_n 3, 3, 0, 0, vi 0), (.aload_n 0, 0, 0, 0, vi 0), (.getfield 85, 12, 32, 2, vi 0), (.iload_n 2, 2, 0, 0, vi 0), (.iload 4, 4, 0, 0, vi 0), (.iadd, 0, 0, 0, vi 0), (.iload 6, 6, 0, 0, vi 0), (.iastore, 0, 0, 0, vi 0), (.iinc 4 1, 4, 0, 0, vi 1), (.goto (-81), 18, 0, 0, vi 0), (.aload_n 0, 0, 0, 0, vi 0), (.getfield 212, 12, 5, 0, vi 0), (.ifCond .ne 19, 77, 0, 0, vi 0), (.iload_n 3, 3, 0, 0, vi 0), (.iconst 3, 0, 0, 0, vi 3), (.iand, 0, 0, 0, vi 0), (.iconst 3, 0, 0, 0, vi 3), (.if_icmp .eq 12, 77, 0, 0, vi 0), (.aload_n 0, 0, 0, 0, vi 0), (.iconst 1, 0, 0, 0, vi 1), (.aload_n 0, 0, 0, 0, vi 0), (.getfield 218, 12, 2, 0, vi 0), (.invokevirtual 242, 152, 3, 0, vi 0), (.iload 4, 4, 0, 0, vi 0), (.istore 5, 5, 0, 0, vi 0), (.iload 5, 5, 0, 0, vi 0), (.iconst 3, 0, 0, 0, vi 3), (.if_icmp .ge 19, 91, 0, 0, vi 0), (.aload_n 0, 0, 0, 0, vi 0), (.getfield 85, 12, 32, 2, vi 0), (.iload_n 2, 2, 0, 0, vi 0), (.iload 5, 5, 0, 0, vi 0), (.iadd, 0, 0, 0, vi 0), (.iconst (-1), 0, 0, 0, vi (-1)), (.iastore, 0, 0, 0, vi 0), (.iinc 5 1, 5, 0, 0, vi 1), (.goto (-19), 79, 0, 0, vi 0), (.aload_n 0, 0, 0, 0, vi 0), (.getfield 212, 12, 5, 0, vi 0), (.ifCond .ne 13, 102, 0, 0, vi 0), (.aload_n 0, 0, 0, 0, vi 0), (.getfield 72, 12, 28, 2, vi 0), (.iconst 1, 0, 0, 0, vi 1), (.dup2, 0, 0, 0, vi 0), (.iaload, 0, 0, 0, vi 0), (.iconst 1, 0, 0, 0, vi 1), (.iadd, 0, 0, 0, vi 0), (.iastore, 0, 0, 0, vi 0), (.return_, 0, 0, 0, vi 0)]
def am_b163 : List Nat := [0, 1, 2, 4, 5, 8, 11, 12, 13, 14, 17, 18, 19, 20, 21, 22, 23, 24, 26, 27, 30, 33, 34, 37, 39, 42, 43, 46, 48, 49, 52, 54, 55, 58, 61, 62, 64, 65, 66, 67, 68, 71, 72, 73, 75, 78, 79, 82, 85, 86, 87, 88, 90, 91, 92, 93, 94, 97, 98, 100, 101, 103, 104, 107, 110, 111, 114, 117, 118, 119, 120, 121, 124, 125, 126, 127, 130, 133, 135, 137, 139, 140, 143, 144, 147, 148, 150, 151, 152, 153, 156, 159, 160, 163, 166, 167, 170, 171, 172, 173, 174, 175, 176]
/-- WordEachModel.slotTold()I -/
def am_c164 : List mo := [(.aload_n 0, 0, 0, 0, vi 0), (.aload_n 0, 0, 0, 0, vi 0), (.getfield 42, 12, 17, 2, vi 0), (.invokevirtual 239, 153, 2, 1, vi 0), (.ifCond .eq 5, 7, 0, 0, vi 0), (.iconst 0, 0, 0, 0, vi 0), (.ireturn, 0, 0, 0, vi 0), (.aload_n 0, 0, 0, 0, vi 0), (.aload_n 0, 0, 0, 0, vi 0), (.getfield 45, 12, 18, 2, vi 0), (.invokevirtual 239, 153, 2, 1, vi 0), (.ifCond .eq 5, 14, 0, 0, vi 0), (.iconst 1, 0, 0, 0, vi 1), (.ireturn, 0, 0, 0, vi 0), (.aload_n 0, 0, 0, 0, vi 0), (.aload_n 0, 0, 0, 0, vi 0), (.getfield 48, 12, 19, 2, vi 0), (.invokevirtual 286, 165, 2, 0, vi 0), (.iconst 2, 0, 0, 0, vi 2), (.ireturn, 0, 0, 0, vi 0)]
def am_b164 : List Nat := [0, 1, 2, 5, 8, 11, 12, 13, 14, 15, 18, 21, 24, 25, 26, 27, 28, 31, 34, 35]
/-- WordEachModel.asks([C)V -/
def am_c165 : List mo := [(.aload_n 0, 0, 0, 0, vi 0), (.getfield 212, 12, 5, 0, vi 0), (.ifCond .ne 20, 12, 0, 0, vi 0), (.aload_n 0, 0, 0, 0, vi 0), (.aload_n 1, 1, 0, 0, vi 0), (.invokevirtual 239, 153, 2, 1, vi 0), (.ifCond .ne 12, 12, 0, 0, vi 0), (.aload_n 0, 0, 0, 0, vi 0), (.iconst 1, 0, 0, 0, vi 1), (.aload_n 0, 0, 0, 0, vi 0), (.getfield 218, 12, 2, 0, vi 0), (.invokevirtual 242, 152, 3, 0, vi 0), (.return_, 0, 0, 0, vi 0)]
def am_b165 : List Nat := [0, 1, 4, 7, 8, 9, 12, 15, 16, 17, 18, 21, 24]
/-- WordEachModel.newFact(I)V -/
def am_c166 : List mo := [(.aload_n 0, 0, 0, 0, vi 0), (.iconst 2, 0, 0, 0, vi 2), (.bipush 16, 0, 0, 0, vi 16), (.iload_n 1, 1, 0, 0, vi 0), (.invokevirtual 279, 157, 4, 1, vi 0), (.ifCond .eq 4, 7, 0, 0, vi 0), (.return_, 0, 0, 0, vi 0), (.iconst 3, 0, 0, 0, vi 3), (.aload_n 0, 0, 0, 0, vi 0), (.getfield 72, 12, 28, 2, vi 0), (.iconst 2, 0, 0, 0, vi 2), (.iaload, 0, 0, 0, vi 0), (.imul, 0, 0, 0, vi 0), (.istore_n 2, 2, 0, 0, vi 0), (.aload_n 0, 0, 0, 0, vi 0), (.getfield 88, 12, 33, 2, vi 0), (.iload_n 2, 2, 0, 0, vi 0), (.aload_n 0, 0, 0, 0, vi 0), (.iconst 0, 0, 0, 0, vi 0), (.invokevirtual 293, 167, 2, 1, vi 0), (.iastore, 0, 0, 0, vi 0), (.aload_n 0, 0, 0, 0, vi 0), (.getfield 88, 12, 33, 2, vi 0), (.iload_n 2, 2, 0, 0, vi 0), (.iconst 1, 0, 0, 0, vi 1), (.iadd, 0, 0, 0, vi 0), (.aload_n 0, 0, 0, 0, vi 0), (.iconst 1, 0, 0, 0, vi 1), (.invokevirtual 293, 167, 2, 1, vi 0), (.iastore, 0, 0, 0, vi 0), (.aload_n 0, 0, 0, 0, vi 0), (.getfield 88, 12, 33, 2, vi 0), (.iload_n 2, 2, 0, 0, vi 0), (.iconst 2, 0, 0, 0, vi 2), (.iadd, 0, 0, 0, vi 0), (.aload_n 0, 0, 0, 0, vi 0), (.getfield 212, 12, 5, 0, vi 0), (.ifCond .ne 21, 46, 0, 0, vi 0), (.aload_n 0, 0, 0, 0, vi 0), (.invokevirtual 224, 150, 1, 1, vi 0), (.invokestatic 228, 155, 1, 1, vi 0), (.ifCond .eq 11, 46, 0, 0, vi 0), (.aload_n 0, 0, 0, 0, vi 0), (.iconst 0, 0, 0, 0, vi 0), (.invokevirtual 293, 167, 2, 1, vi 0), (.goto 4, 47, 0, 0, vi 0), (.iconst (-1), 0, 0, 0, vi (-1)), (.iastore, 0, 0, 0, vi 0), (.aload_n 0, 0, 0, 0, vi 0), (.getfield 212, 12, 5, 0, vi 0), (.ifCond .ne 13, 59, 0, 0, vi 0), (.aload_n 0, 0, 0, 0, vi 0), (.getfield 72, 12, 28, 2, vi 0), (.iconst 2, 0, 0, 0, vi 2), (.dup2, 0, 0, 0, vi 0), (.iaload, 0, 0, 0, vi 0), (.iconst 1, 0, 0, 0, vi 1), (.iadd, 0, 0, 0, vi 0), (.iastore, 0, 0, 0, vi 0), (.return_, 0, 0, 0, vi 0)]
def am_b166 : List Nat := [0, 1, 2, 4, 5, 8, 11, 12, 13, 14, 17, 18, 19, 20, 21, 22, 25, 26, 27, 28, 31, 32, 33, 36, 37, 38, 39, 40, 41, 44, 45, 46, 49, 50, 51, 52, 53, 56, 59, 60, 63, 66, 69, 70, 71, 74, 77, 78, 79, 80, 83, 86, 87, 90, 91, 92, 93, 94, 95, 96]
end
section
/-- WordEachModel.wordTold(I)I -/
def am_c167 : List mo := [(.aload_n 0, 0, 0, 0, vi 0), (.invokevirtual 267, 159, 1, 2, vi 0), (.lstore_n 2, 2, 0, 0, vi 0), (.aload_n 0, 0, 0, 0, vi 0), (.lload_n 2, 2, 0, 0, vi 0), (.invokevirtual 271, 161, 2, 1, vi 0), (.istore 4, 4, 0, 0, vi 0), (.aload_n 0, 0, 0, 0, vi 0), (.getfield 212, 12, 5, 0, vi 0), (.ifCond .ne 34, 27, 0, 0, vi 0), (.iload 4, 4, 0, 0, vi 0), (.iconst (-1), 0, 0, 0, vi (-1)), (.if_icmp .eq 19, 22, 0, 0, vi 0), (.iload_n 1, 1, 0, 0, vi 0), (.iconst (-1), 0, 0, 0, vi (-1)), (.if_icmp .eq 23, 27, 0, 0, vi 0), (.aload_n 0, 0, 0, 0, vi 0), (.getfield 79, 12, 30, 2, vi 0), (.iload 4, 4, 0, 0, vi 0), (.iaload, 0, 0, 0, vi 0), (.iload_n 1, 1, 0, 0, vi 0), (.if_icmp .eq 12, 27, 0, 0, vi 0), (.aload_n 0, 0, 0, 0, vi 0), (.iconst 3, 0, 0, 0, vi 3), (.aload_n 0, 0, 0, 0, vi 0), (.getfield 260, 12, 27, 0, vi 0), (.invokevirtual 242, 152, 3, 0, vi 0), (.aload_n 0, 0, 0, 0, vi 0), (.getfield 212, 12, 5, 0, vi 0), (.ifCond .ne 8, 32, 0, 0, vi 0), (.iload 4, 4, 0, 0, vi 0), (.goto 4, 33, 0, 0, vi 0), (.iconst 0, 0, 0, 0, vi 0), (.ireturn, 0, 0, 0, vi 0)]
def am_b167 : List Nat := [0, 1, 4, 5, 6, 7, 10, 12, 13, 16, 19, 21, 22, 25, 26, 27, 30, 31, 34, 36, 37, 38, 41, 42, 43, 44, 47, 50, 51, 54, 57, 59, 62, 63]
/-- WordEachModel.newWitness(I)V -/
def am_c168 : List mo := [(.aload_n 0, 0, 0, 0, vi 0), (.iconst 3, 0, 0, 0, vi 3), (.bipush 7, 0, 0, 0, vi 7), (.iload_n 1, 1, 0, 0, vi 0), (.invokevirtual 279, 157, 4, 1, vi 0), (.ifCond .eq 4, 7, 0, 0, vi 0), (.return_, 0, 0, 0, vi 0), (.bipush 7, 0, 0, 0, vi 7), (.aload_n 0, 0, 0, 0, vi 0), (.getfield 72, 12, 28, 2, vi 0), (.iconst 3, 0, 0, 0, vi 3), (.iaload, 0, 0, 0, vi 0), (.imul, 0, 0, 0, vi 0), (.istore_n 2, 2, 0, 0, vi 0), (.aload_n 0, 0, 0, 0, vi 0), (.invokevirtual 283, 158, 1, 2, vi 0), (.lstore_n 3, 3, 0, 0, vi 0), (.aload_n 0, 0, 0, 0, vi 0), (.aload_n 0, 0, 0, 0, vi 0), (.getfield 57, 12, 22, 2, vi 0), (.invokevirtual 286, 165, 2, 0, vi 0), (.aload_n 0, 0, 0, 0, vi 0), (.getfield 91, 12, 34, 2, vi 0), (.iload_n 2, 2, 0, 0, vi 0), (.aload_n 0, 0, 0, 0, vi 0), (.iconst 0, 0, 0, 0, vi 0), (.bipush 99, 0, 0, 0, vi 99), (.invokevirtual 297, 169, 3, 1, vi 0), (.iastore, 0, 0, 0, vi 0), (.aload_n 0, 0, 0, 0, vi 0), (.aload_n 0, 0, 0, 0, vi 0), (.getfield 60, 12, 23, 2, vi 0), (.invokevirtual 286, 165, 2, 0, vi 0), (.aload_n 0, 0, 0, 0, vi 0), (.getfield 91, 12, 34, 2, vi 0), (.iload_n 2, 2, 0, 0, vi 0), (.iconst 1, 0, 0, 0, vi 1), (.iadd, 0, 0, 0, vi 0), (.aload_n 0, 0, 0, 0, vi 0), (.iconst 0, 0, 0, 0, vi 0), (.iconst 1, 0, 0, 0, vi 1), (.invokevirtual 297, 169, 3, 1, vi 0), (.iastore, 0, 0, 0, vi 0), (.aload_n 0, 0, 0, 0, vi 0), (.aload_n 0, 0, 0, 0, vi 0), (.getfield 63, 12, 24, 2, vi 0), (.invokevirtual 286, 165, 2, 0, vi 0), (.iconst 0, 0, 0, 0, vi 0), (.istore 5, 5, 0, 0, vi 0), (.iload 5, 5, 0, 0, vi 0), (.iconst 4, 0, 0, 0, vi 4), (.if_icmp .ne 13, 58, 0, 0, vi 0), (.aload_n 0, 0, 0, 0, vi 0), (.iconst 1, 0, 0, 0, vi 1), (.aload_n 0, 0, 0, 0, vi 0), (.getfield 218, 12, 2, 0, vi 0), (.invokevirtual 242, 152, 3, 0, vi 0), (.return_, 0, 0, 0, vi 0), (.aload_n 0, 0, 0, 0, vi 0), (.iconst (-1), 0, 0, 0, vi (-1)), (.invokevirtual 293, 167, 2, 1, vi 0), (.istore 6, 6, 0, 0, vi 0), (.iconst 0, 0, 0, 0, vi 0), (.istore 7, 7, 0, 0, vi 0), (.iload 7, 7, 0, 0, vi 0), (.iload 5, 5, 0, 0, vi 0), (.if_icmp .ge 41, 87, 0, 0, vi 0), (.aload_n 0, 0, 0, 0, vi 0), (.getfield 212, 12, 5, 0, vi 0), (.ifCond .ne 28, 85, 0, 0, vi 0), (.aload_n 0, 0, 0, 0, vi 0), (.getfield 91, 12, 34, 2, vi 0), (.iload_n 2, 2, 0, 0, vi 0), (.iconst 3, 0, 0, 0, vi 3), (.iadd, 0, 0, 0, vi 0), (.iload 7, 7, 0, 0, vi 0), (.iadd, 0, 0, 0, vi 0), (.iaload, 0, 0, 0, vi 0), (.iload 6, 6, 0, 0, vi 0), (.if_icmp .ne 12, 85, 0, 0, vi 0), (.aload_n 0, 0, 0, 0, vi 0), (.iconst 3, 0, 0, 0, vi 3), (.aload_n 0, 0, 0, 0, vi 0), (.getfield 260, 12, 27, 0, vi 0), (.invokevirtual 242, 152, 3, 0, vi 0), (.iinc 7 1, 7, 0, 0, vi 1), (.goto (-42), 64, 0, 0, vi 0), (.aload_n 0, 0, 0, 0, vi 0), (.getfield 212, 12, 5, 0, vi 0), (.ifCond .eq 4, 91, 0, 0, vi 0), (.return_, 0, 0, 0, vi 0), (.aload_n 0, 0, 0, 0, vi 0), (.getfield 91, 12, 34, 2, vi 0), (.iload_n 2, 2, 0, 0, vi 0), (.iconst 3, 0, 0, 0, vi 3), (.iadd, 0, 0, 0, vi 0), (.iload 5, 5, 0, 0, vi 0), (.iadd, 0, 0, 0, vi 0), (.iload 6, 6, 0, 0, vi 0), (.iastore, 0, 0, 0, vi 0), (.iinc 5 1, 5, 0, 0, vi 1), (.aload_n 0, 0, 0, 0, vi 0), (.invokevirtual 224, 150, 1, 1, vi 0), (.invokestatic 228, 155, 1, 1, vi 0), (.ifCond .ne (-102), 49, 0, 0, vi 0), (.aload_n 0, 0, 0, 0, vi 0), (.getfield 91, 12, 34, 2, vi 0), (.iload_n 2, 2, 0, 0, vi 0), (.iconst 2, 0, 0, 0, vi 2), (.iadd, 0, 0, 0, vi 0), (.iload 5, 5, 0, 0, vi 0), (.iastore, 0, 0, 0, vi 0), (.aload_n 0, 0, 0, 0, vi 0), (.getfield 82, 12, 31, 2, vi 0), (.aload_n 0, 0, 0, 0, vi 0), (.getfield 72, 12, 28, 2, vi 0), (.iconst 3, 0, 0, 0, vi 3), (.iaload, 0, 0, 0, vi 0), (.lload_n 3, 3, 0, 0, vi 0), (.lastore, 0, 0, 0, vi 0), (.aload_n 0, 0, 0, 0, vi 0), (.getfield 72, 12, 28, 2, vi 0), (.iconst 3, 0, 0, 0, vi 3), (.dup2, 0, 0, 0, vi 0), (.iaload, 0, 0, 0, vi 0), (.iconst 1, 0, 0, 0, vi 1), (.iadd, 0, 0, 0, vi 0), (.iastore, 0, 0, 0, vi 0), (.return_, 0, 0, 0, vi 0)]
def am_b168 : List Nat := [0, 1, 2, 4, 5, 8, 11, 12, 14, 15, 18, 19, 20, 21, 22, 23, 26, 27, 28, 29, 32, 35, 36, 39, 40, 41, 42, 44, 47, 48, 49, 50, 53, 56, 57, 60, 61, 62, 63, 64, 65, 66, 69, 70, 71, 72, 75, 78, 79, 81, 83, 84, 87, 88, 89, 90, 93, 96, 97, 98, 99, 102, 104, 105, 107, 109, 111, 114, 115, 118, 121, 122, 125, 126, 127, 128, 130, 131, 132, 134, 137, 138, 139, 140, 143, 146, 149, 152, 153, 156, 159, 160, 161, 164, 165, 166, 167, 169, 170, 172, 173, 176, 177, 180, 183, 186, 187, 190, 191, 192, 193, 195, 196, 197, 200, 201, 204, 205, 206, 207, 208, 209, 212, 213, 214, 215, 216, 217, 218]
/-- WordEachModel.number(II)I -/
def am_c169 : List mo := [(.aload_n 0, 0, 0, 0, vi 0), (.getfield 212, 12, 5, 0, vi 0), (.ifCond .eq 5, 5, 0, 0, vi 0), (.iconst 0, 0, 0, 0, vi 0), (.ireturn, 0, 0, 0, vi 0), (.aload_n 0, 0, 0, 0, vi 0), (.invokevirtual 224, 150, 1, 1, vi 0), (.invokestatic 249, 170, 1, 1, vi 0), (.ifCond .eq 14, 14, 0, 0, vi 0), (.aload_n 0, 0, 0, 0, vi 0), (.getfield 218, 12, 2, 0, vi 0), (.aload_n 0, 0, 0, 0, vi 0), (.getfield 232, 12, 4, 0, vi 0), (.if_icmp .ne 14, 21, 0, 0, vi 0), (.aload_n 0, 0, 0, 0, vi 0), (.iconst 1, 0, 0, 0, vi 1), (.aload_n 0, 0, 0, 0, vi 0), (.getfield 218, 12, 2, 0, vi 0), (.invokevirtual 242, 152, 3, 0, vi 0), (.iconst 0, 0, 0, 0, vi 0), (.ireturn, 0, 0, 0, vi 0), (.aload_n 0, 0, 0, 0, vi 0), (.getfield 218, 12, 2, 0, vi 0), (.istore_n 3, 3, 0, 0, vi 0), (.iconst 0, 0, 0, 0, vi 0), (.istore 4, 4, 0, 0, vi 0), (.aload_n 0, 0, 0, 0, vi 0), (.getfield 218, 12, 2, 0, vi 0), (.aload_n 0, 0, 0, 0, vi 0), (.getfield 221, 12, 3, 0, vi 0), (.if_icmp .ge 72, 70, 0, 0, vi 0), (.aload_n 0, 0, 0, 0, vi 0), (.getfield 7, 12, 0, 2, vi 0), (.aload_n 0, 0, 0, 0, vi 0), (.getfield 218, 12, 2, 0, vi 0), (.iaload, 0, 0, 0, vi 0), (.invokestatic 249, 170, 1, 1, vi 0), (.ifCond .eq 57, 70, 0, 0, vi 0), (.aload_n 0, 0, 0, 0, vi 0), (.getfield 218, 12, 2, 0, vi 0), (.iload_n 3, 3, 0, 0, vi 0), (.isub, 0, 0, 0, vi 0), (.iconst 4, 0, 0, 0, vi 4), (.if_icmp .ne 14, 51, 0, 0, vi 0), (.aload_n 0, 0, 0, 0, vi 0), (.iconst 1, 0, 0, 0, vi 1), (.aload_n 0, 0, 0, 0, vi 0), (.getfield 218, 12, 2, 0, vi 0), (.invokevirtual 242, 152, 3, 0, vi 0), (.iconst 0, 0, 0, 0, vi 0), (.ireturn, 0, 0, 0, vi 0), (.bipush 10, 0, 0, 0, vi 10), (.iload 4, 4, 0, 0, vi 0), (.imul, 0, 0, 0, vi 0), (.aload_n 0, 0, 0, 0, vi 0), (.getfield 7, 12, 0, 2, vi 0), (.aload_n 0, 0, 0, 0, vi 0), (.getfield 218, 12, 2, 0, vi 0), (.iaload, 0, 0, 0, vi 0), (.iadd, 0, 0, 0, vi 0), (.bipush 48, 0, 0, 0, vi 48), (.isub, 0, 0, 0, vi 0), (.istore 4, 4, 0, 0, vi 0), (.aload_n 0, 0, 0, 0, vi 0), (.dup, 0, 0, 0, vi 0), (.getfield 218, 12, 2, 0, vi 0), (.iconst 1, 0, 0, 0, vi 1), (.iadd, 0, 0, 0, vi 0), (.putfield 218, 12, 2, 0, vi 0), (.goto (-77), 26, 0, 0, vi 0), (.aload_n 0, 0, 0, 0, vi 0), (.aload_n 0, 0, 0, 0, vi 0), (.getfield 218, 12, 2, 0, vi 0), (.putfield 232, 12, 4, 0, vi 0), (.iload 4, 4, 0, 0, vi 0), (.i2l, 0, 0, 0, vi 0), (.iload_n 1, 1, 0, 0, vi 0), (.i2l, 0, 0, 0, vi 0), (.iload_n 2, 2, 0, 0, vi 0), (.i2l, 0, 0, 0, vi 0), (.invokestatic 252, 171, 3, 1, vi 0), (.ifCond .ne 9, 86, 0, 0, vi 0), (.aload_n 0, 0, 0, 0, vi 0), (.iconst 2, 0, 0, 0, vi 2), (.iload_n 3, 3, 0, 0, vi 0), (.invokevirtual 242, 152, 3, 0, vi 0), (.iload 4, 4, 0, 0, vi 0), (.ireturn, 0, 0, 0, vi 0)]
def am_b169 : List Nat := [0, 1, 4, 7, 8, 9, 10, 13, 16, 19, 20, 23, 24, 27, 30, 31, 32, 33, 36, 39, 40, 41, 42, 45, 46, 47, 49, 50, 53, 54, 57, 60, 61, 64, 65, 68, 69, 72, 75, 76, 79, 80, 81, 82, 85, 86, 87, 88, 91, 94, 95, 96, 98, 100, 101, 102, 105, 106, 109, 110, 111, 113, 114, 116, 117, 118, 121, 122, 123, 126, 129, 130, 131, 134, 137, 139, 140, 141, 142, 143, 144, 147, 150, 151, 152, 153, 156, 158]
/-- WordEachModel.isDigit(I)Z -/
def am_c170 : List mo := [(.iload_n 0, 0, 0, 0, vi 0), (.bipush 48, 0, 0, 0, vi 48), (.if_icmp .lt 13, 8, 0, 0, vi 0), (.iload_n 0, 0, 0, 0, vi 0), (.bipush 57, 0, 0, 0, vi 57), (.if_icmp .gt 7, 8, 0, 0, vi 0), (.iconst 1, 0, 0, 0, vi 1), (.goto 4, 9, 0, 0, vi 0), (.iconst 0, 0, 0, 0, vi 0), (.ireturn, 1, 0, 0, vi 0)]
def am_b170 : List Nat := [0, 1, 3, 6, 7, 9, 12, 13, 16, 17]
/-- WordEachModel.isIn(JJJ)Z -/
def am_c171 : List mo := [(.lload_n 0, 0, 0, 0, vi 0), (.lload_n 2, 2, 0, 0, vi 0), (.lcmp, 0, 0, 0, vi 0), (.ifCond .lt 14, 10, 0, 0, vi 0), (.lload_n 0, 0, 0, 0, vi 0), (.lload 4, 4, 0, 0, vi 0), (.lcmp, 0, 0, 0, vi 0), (.ifCond .gt 7, 10, 0, 0, vi 0), (.iconst 1, 0, 0, 0, vi 1), (.goto 4, 11, 0, 0, vi 0), (.iconst 0, 0, 0, 0, vi 0), (.ireturn, 1, 0, 0, vi 0)]
def am_b171 : List Nat := [0, 1, 2, 3, 6, 7, 9, 10, 13, 14, 17, 18]
/-- WordEachModel.accusedTold()V -/
def am_c172 : List mo := [(.aload_n 0, 0, 0, 0, vi 0), (.iconst 0, 0, 0, 0, vi 0), (.invokevirtual 293, 167, 2, 1, vi 0), (.istore_n 1, 1, 0, 0, vi 0), (.aload_n 0, 0, 0, 0, vi 0), (.iconst 1, 0, 0, 0, vi 1), (.invokevirtual 293, 167, 2, 1, vi 0), (.istore_n 2, 2, 0, 0, vi 0), (.aload_n 0, 0, 0, 0, vi 0), (.getfield 212, 12, 5, 0, vi 0), (.ifCond .eq 4, 12, 0, 0, vi 0), (.return_, 0, 0, 0, vi 0), (.aload_n 0, 0, 0, 0, vi 0), (.getfield 97, 12, 36, 2, vi 0), (.iconst 0, 0, 0, 0, vi 0), (.iload_n 1, 1, 0, 0, vi 0), (.iastore, 0, 0, 0, vi 0), (.aload_n 0, 0, 0, 0, vi 0), (.getfield 97, 12, 36, 2, vi 0), (.iconst 1, 0, 0, 0, vi 1), (.iload_n 2, 2, 0, 0, vi 0), (.iastore, 0, 0, 0, vi 0), (.return_, 0, 0, 0, vi 0)]
def am_b172 : List Nat := [0, 1, 2, 5, 6, 7, 8, 11, 12, 13, 16, 19, 20, 21, 24, 25, 26, 27, 28, 31, 32, 33, 34]
/-- WordEachModel.newCase(I)V -/
def am_c173 : List mo := [(.aload_n 0, 0, 0, 0, vi 0), (.iconst 4, 0, 0, 0, vi 4), (.bipush 8, 0, 0, 0, vi 8), (.iload_n 1, 1, 0, 0, vi 0), (.invokevirtual 279, 157, 4, 1, vi 0), (.ifCond .eq 4, 7, 0, 0, vi 0), (.return_, 0, 0, 0, vi 0), (.bipush 9, 0, 0, 0, vi 9), (.aload_n 0, 0, 0, 0, vi 0), (.getfield 72, 12, 28, 2, vi 0), (.iconst 4, 0, 0, 0, vi 4), (.iaload, 0, 0, 0, vi 0), (.imul, 0, 0, 0, vi 0), (.istore_n 2, 2, 0, 0, vi 0), (.iconst 0, 0, 0, 0, vi 0), (.istore_n 3, 3, 0, 0, vi 0), (.iload_n 3, 3, 0, 0, vi 0), (.bipush 8, 0, 0, 0, vi 8), (.if_icmp .ne 13, 25, 0, 0, vi 0), (.aload_n 0, 0, 0, 0, vi 0), (.iconst 1, 0, 0, 0, vi 1), (.aload_n 0, 0, 0, 0, vi 0), (.getfield 218, 12, 2, 0, vi 0), (.invokevirtual 242, 152, 3, 0, vi 0), (.return_, 0, 0, 0, vi 0), (.aload_n 0, 0, 0, 0, vi 0), (.iconst (-1), 0, 0, 0, vi (-1)), (.invokevirtual 293, 167, 2, 1, vi 0), (.istore 4, 4, 0, 0, vi 0), (.aload_n 0, 0, 0, 0, vi 0), (.getfield 212, 12, 5, 0, vi 0), (.ifCond .eq 4, 33, 0, 0, vi 0), (.return_, 0, 0, 0, vi 0), (.aload_n 0, 0, 0, 0, vi 0), (.getfield 94, 12, 35, 2, vi 0), (.iload_n 2, 2, 0, 0, vi 0), (.iconst 1, 0, 0, 0, vi 1), (.iadd, 0, 0, 0, vi 0), (.iload_n 3, 3, 0, 0, vi 0), (.iadd, 0, 0, 0, vi 0), (.iload 4, 4, 0, 0, vi 0), (.iastore, 0, 0, 0, vi 0), (.iinc 3 1, 3, 0, 0, vi 1), (.aload_n 0, 0, 0, 0, vi 0), (.invokevirtual 224, 150, 1, 1, vi 0), (.invokestatic 228, 155, 1, 1, vi 0), (.ifCond .ne (-53), 16, 0, 0, vi 0), (.aload_n 0, 0, 0, 0, vi 0), (.getfield 94, 12, 35, 2, vi 0), (.iload_n 2, 2, 0, 0, vi 0), (.iload_n 3, 3, 0, 0, vi 0), (.iastore, 0, 0, 0, vi 0), (.aload_n 0, 0, 0, 0, vi 0), (.getfield 72, 12, 28, 2, vi 0), (.iconst 4, 0, 0, 0, vi 4), (.dup2, 0, 0, 0, vi 0), (.iaload, 0, 0, 0, vi 0), (.iconst 1, 0, 0, 0, vi 1), (.iadd, 0, 0, 0, vi 0), (.iastore, 0, 0, 0, vi 0), (.return_, 0, 0, 0, vi 0)]
def am_b173 : List Nat := [0, 1, 2, 4, 5, 8, 11, 12, 14, 15, 18, 19, 20, 21, 22, 23, 24, 25, 27, 30, 31, 32, 33, 36, 39, 40, 41, 42, 45, 47, 48, 51, 54, 55, 56, 59, 60, 61, 62, 63, 64, 66, 67, 70, 71, 74, 77, 80, 81, 84, 85, 86, 87, 88, 91, 92, 93, 94, 95, 96, 97]
/-- WordEachModel.asksSign(I)V -/
def am_c174 : List mo := [(.aload_n 0, 0, 0, 0, vi 0), (.getfield 212, 12, 5, 0, vi 0), (.ifCond .ne 20, 12, 0, 0, vi 0), (.aload_n 0, 0, 0, 0, vi 0), (.iload_n 1, 1, 0, 0, vi 0), (.invokevirtual 246, 175, 2, 1, vi 0), (.ifCond .ne 12, 12, 0, 0, vi 0), (.aload_n 0, 0, 0, 0, vi 0), (.iconst 1, 0, 0, 0, vi 1), (.aload_n 0, 0, 0, 0, vi 0), (.getfield 218, 12, 2, 0, vi 0), (.invokevirtual 242, 152, 3, 0, vi 0), (.return_, 0, 0, 0, vi 0)]
def am_b174 : List Nat := [0, 1, 4, 7, 8, 9, 12, 15, 16, 17, 18, 21, 24]
/-- WordEachModel.takesSign(I)Z -/
def am_c175 : List mo := [(.aload_n 0, 0, 0, 0, vi 0), (.getfield 212, 12, 5, 0, vi 0), (.ifCond .ne 11, 7, 0, 0, vi 0), (.aload_n 0, 0, 0, 0, vi 0), (.invokevirtual 224, 150, 1, 1, vi 0), (.iload_n 1, 1, 0, 0, vi 0), (.if_icmp .eq 5, 9, 0, 0, vi 0), (.iconst 0, 0, 0, 0, vi 0), (.ireturn, 1, 0, 0, vi 0), (.aload_n 0, 0, 0, 0, vi 0), (.dup, 0, 0, 0, vi 0), (.getfield 218, 12, 2, 0, vi 0), (.iconst 1, 0, 0, 0, vi 1), (.iadd, 0, 0, 0, vi 0), (.putfield 218, 12, 2, 0, vi 0), (.iconst 1, 0, 0, 0, vi 1), (.ireturn, 1, 0, 0, vi 0)]
def am_b175 : List Nat := [0, 1, 4, 7, 8, 11, 12, 15, 16, 17, 18, 19, 22, 23, 24, 27, 28]
/-- WordEachModel.stands()V -/
def am_c176 : List mo := [(.iconst 0, 0, 0, 0, vi 0), (.istore_n 1, 1, 0, 0, vi 0), (.iload_n 1, 1, 0, 0, vi 0), (.iconst 5, 0, 0, 0, vi 5), (.if_icmp .ge 23, 17, 0, 0, vi 0), (.aload_n 0, 0, 0, 0, vi 0), (.getfield 72, 12, 28, 2, vi 0), (.iconst 5, 0, 0, 0, vi 5), (.iload_n 1, 1, 0, 0, vi 0), (.iadd, 0, 0, 0, vi 0), (.aload_n 0, 0, 0, 0, vi 0), (.getfield 72, 12, 28, 2, vi 0), (.iload_n 1, 1, 0, 0, vi 0), (.iaload, 0, 0, 0, vi 0), (.iastore, 0, 0, 0, vi 0), (.iinc 1 1, 1, 0, 0, vi 1), (.goto (-22), 2, 0, 0, vi 0), (.iconst 0, 0, 0, 0, vi 0), (.istore_n 1, 1, 0, 0, vi 0), (.iload_n 1, 1, 0, 0, vi 0), (.bipush 20, 0, 0, 0, vi 20), (.if_icmp .ge 39, 44, 0, 0, vi 0), (.aload_n 0, 0, 0, 0, vi 0), (.getfield 75, 12, 29, 2, vi 0), (.bipush 20, 0, 0, 0, vi 20), (.iload_n 1, 1, 0, 0, vi 0), (.iadd, 0, 0, 0, vi 0), (.aload_n 0, 0, 0, 0, vi 0), (.getfield 75, 12, 29, 2, vi 0), (.iload_n 1, 1, 0, 0, vi 0), (.laload, 0, 0, 0, vi 0), (.lastore, 0, 0, 0, vi 0), (.aload_n 0, 0, 0, 0, vi 0), (.getfield 79, 12, 30, 2, vi 0), (.bipush 20, 0, 0, 0, vi 20), (.iload_n 1, 1, 0, 0, vi 0), (.iadd, 0, 0, 0, vi 0), (.aload_n 0, 0, 0, 0, vi 0), (.getfield 79, 12, 30, 2, vi 0), (.iload_n 1, 1, 0, 0, vi 0), (.iaload, 0, 0, 0, vi 0), (.iastore, 0, 0, 0, vi 0), (.iinc 1 1, 1, 0, 0, vi 1), (.goto (-39), 19, 0, 0, vi 0), (.iconst 0, 0, 0, 0, vi 0), (.istore_n 1, 1, 0, 0, vi 0), (.iload_n 1, 1, 0, 0, vi 0), (.bipush 7, 0, 0, 0, vi 7), (.if_icmp .ge 24, 61, 0, 0, vi 0), (.aload_n 0, 0, 0, 0, vi 0), (.getfield 82, 12, 31, 2, vi 0), (.bipush 7, 0, 0, 0, vi 7), (.iload_n 1, 1, 0, 0, vi 0), (.iadd, 0, 0, 0, vi 0), (.aload_n 0, 0, 0, 0, vi 0), (.getfield 82, 12, 31, 2, vi 0), (.iload_n 1, 1, 0, 0, vi 0), (.laload, 0, 0, 0, vi 0), (.lastore, 0, 0, 0, vi 0), (.iinc 1 1, 1, 0, 0, vi 1), (.goto (-24), 46, 0, 0, vi 0), (.iconst 0, 0, 0, 0, vi 0), (.istore_n 1, 1, 0, 0, vi 0), (.iload_n 1, 1, 0, 0, vi 0), (.bipush 18, 0, 0, 0, vi 18), (.if_icmp .ge 24, 78, 0, 0, vi 0), (.aload_n 0, 0, 0, 0, vi 0), (.getfield 85, 12, 32, 2, vi 0), (.bipush 18, 0, 0, 0, vi 18), (.iload_n 1, 1, 0, 0, vi 0), (.iadd, 0, 0, 0, vi 0), (.aload_n 0, 0, 0, 0, vi 0), (.getfield 85, 12, 32, 2, vi 0), (.iload_n 1, 1, 0, 0, vi 0), (.iaload, 0, 0, 0, vi 0), (.iastore, 0, 0, 0, vi 0), (.iinc 1 1, 1, 0, 0, vi 1), (.goto (-24), 63, 0, 0, vi 0), (.iconst 0, 0, 0, 0, vi 0), (.istore_n 1, 1, 0, 0, vi 0), (.iload_n 1, 1, 0, 0, vi 0), (.bipush 48, 0, 0, 0, vi 48), (.if_icmp .ge 24, 95, 0, 0, vi 0), (.aload_n 0, 0, 0, 0, vi 0), (.getfield 88, 12, 33, 2, vi 0), (.bipush 48, 0, 0, 0, vi 48), (.iload_n 1, 1, 0, 0, vi 0), (.iadd, 0, 0, 0, vi 0), (.aload_n 0, 0, 0, 0, vi 0), (.getfield 88, 12, 33, 2, vi 0), (.iload_n 1, 1, 0, 0, vi 0), (.iaload, 0, 0, 0, vi 0), (.iastore, 0, 0, 0, vi 0), (.iinc 1 1, 1, 0, 0, vi 1), (.goto (-24), 80, 0, 0, vi 0), (.iconst 0, 0, 0, 0, vi 0), (.istore_n 1, 1, 0, 0, vi 0), (.iload_n 1, 1, 0, 0, vi 0), (.bipush 49, 0, 0, 0, vi 49), (.if_icmp .ge 24, 112, 0, 0, vi 0), (.aload_n 0, 0, 0, 0, vi 0), (.getfield 91, 12, 34, 2, vi 0), (.bipush 49, 0, 0, 0, vi 49), (.iload_n 1, 1, 0, 0, vi 0), (.iadd, 0, 0, 0, vi 0), (.aload_n 0, 0, 0, 0, vi 0), (.getfield 91, 12, 34, 2, vi 0), (.iload_n 1, 1, 0, 0, vi 0), (.iaload, 0, 0, 0, vi 0), (.iastore, 0, 0, 0, vi 0), (.iinc 1 1, 1, 0, 0, vi 1), (.goto (-24), 97, 0, 0, vi 0), (.iconst 0, 0, 0, 0, vi 0), (.istore_n 1, 1, 0, 0, vi 0), (.iload_n 1, 1, 0, 0, vi 0), (.bipush 72, 0, 0, 0, vi 72), (.if_icmp .ge 24, 129, 0, 0, vi 0), (.aload_n 0, 0, 0, 0, vi 0), (.getfield 94, 12, 35, 2, vi 0), (.bipush 72, 0, 0, 0, vi 72), (.iload_n 1, 1, 0, 0, vi 0), (.iadd, 0, 0, 0, vi 0), (.aload_n 0, 0, 0, 0, vi 0), (.getfield 94, 12, 35, 2, vi 0), (.iload_n 1, 1, 0, 0, vi 0), (.iaload, 0, 0, 0, vi 0), (.iastore, 0, 0, 0, vi 0), (.iinc 1 1, 1, 0, 0, vi 1), (.goto (-24), 114, 0, 0, vi 0), (.aload_n 0, 0, 0, 0, vi 0), (.getfield 97, 12, 36, 2, vi 0), (.iconst 2, 0, 0, 0, vi 2), (.aload_n 0, 0, 0, 0, vi 0), (.getfield 97, 12, 36, 2, vi 0), (.iconst 0, 0, 0, 0, vi 0), (.iaload, 0, 0, 0, vi 0), (.iastore, 0, 0, 0, vi 0), (.aload_n 0, 0, 0, 0, vi 0), (.getfield 97, 12, 36, 2, vi 0), (.iconst 3, 0, 0, 0, vi 3), (.aload_n 0, 0, 0, 0, vi 0), (.getfield 97, 12, 36, 2, vi 0), (.iconst 1, 0, 0, 0, vi 1), (.iaload, 0, 0, 0, vi 0), (.iastore, 0, 0, 0, vi 0), (.aload_n 0, 0, 0, 0, vi 0), (.iconst 1, 0, 0, 0, vi 1), (.aload_n 0, 0, 0, 0, vi 0), (.invokevirtual 335, 177, 1, 1, vi 0), (.ishl, 0, 0, 0, vi 0), (.iconst 1, 0, 0, 0, vi 1), (.isub, 0, 0, 0, vi 0), (.putfield 338, 12, 39, 0, vi 0), (.aload_n 0, 0, 0, 0, vi 0), (.iconst 0, 0, 0, 0, vi 0), (.putfield 341, 12, 42, 0, vi 0), (.aload_n 0, 0, 0, 0, vi 0), (.iconst 1, 0, 0, 0, vi 1), (.putfield 344, 12, 38, 3, vi 0), (.return_, 0, 0, 0, vi 0)]
def am_b176 : List Nat := [0, 1, 2, 3, 4, 7, 8, 11, 12, 13, 14, 15, 18, 19, 20, 21, 24, 27, 28, 29, 30, 32, 35, 36, 39, 41, 42, 43, 44, 47, 48, 49, 50, 51, 54, 56, 57, 58, 59, 62, 63, 64, 65, 68, 71, 72, 73, 74, 76, 79, 80, 83, 85, 86, 87, 88, 91, 92, 93, 94, 97, 100, 101, 102, 103, 105, 108, 109, 112, 114, 115, 116, 117, 120, 121, 122, 123, 126, 129, 130, 131, 132, 134, 137, 138, 141, 143, 144, 145, 146, 149, 150, 151, 152, 155, 158, 159, 160, 161, 163, 166, 167, 170, 172, 173, 174, 175, 178, 179, 180, 181, 184, 187, 188, 189, 190, 192, 195, 196, 199, 201, 202, 203, 204, 207, 208, 209, 210, 213, 216, 217, 220, 221, 222, 225, 226, 227, 228, 229, 232, 233, 234, 237, 238, 239, 240, 241, 242, 243, 246, 247, 248, 249, 252, 253, 254, 257, 258, 259, 262]
/-- WordEachModel.lineMany()I -/
def am_c177 : List mo := [(.aload_n 0, 0, 0, 0, vi 0), (.getfield 72, 12, 28, 2, vi 0), (.bipush 6, 0, 0, 0, vi 6), (.iaload, 0, 0, 0, vi 0), (.ireturn, 0, 0, 0, vi 0)]
def am_b177 : List Nat := [0, 1, 4, 6, 7]
/-- WordEachModel.fault(I)I -/
def am_c178 : List mo := [(.iload_n 1, 1, 0, 0, vi 0), (.ifCond .ne 10, 5, 0, 0, vi 0), (.aload_n 0, 0, 0, 0, vi 0), (.getfield 329, 12, 7, 0, vi 0), (.goto 16, 12, 0, 0, vi 0), (.iload_n 1, 1, 0, 0, vi 0), (.iconst 1, 0, 0, 0, vi 1), (.if_icmp .ne 10, 11, 0, 0, vi 0), (.aload_n 0, 0, 0, 0, vi 0), (.getfield 13, 12, 8, 0, vi 0), (.goto 4, 12, 0, 0, vi 0), (.iconst (-1), 0, 0, 0, vi (-1)), (.ireturn, 0, 0, 0, vi 0)]
def am_b178 : List Nat := [0, 1, 4, 5, 8, 11, 12, 13, 16, 17, 20, 23, 24]
/-- WordEachModel.court(I)I -/
def am_c179 : List mo := [(.iload_n 1, 1, 0, 0, vi 0), (.tableswitch 94 0 8 #[51, 51, 51, 51, 51, 60, 65, 70, 75], 7, 0, 0, vi 0), (.aload_n 0, 0, 0, 0, vi 0), (.getfield 72, 12, 28, 2, vi 0), (.iconst 5, 0, 0, 0, vi 5), (.iload_n 1, 1, 0, 0, vi 0), (.iadd, 0, 0, 0, vi 0), (.iaload, 0, 0, 0, vi 0), (.ireturn, 0, 0, 0, vi 0), (.aload_n 0, 0, 0, 0, vi 0), (.getfield 341, 12, 42, 0, vi 0), (.ireturn, 0, 0, 0, vi 0), (.aload_n 0, 0, 0, 0, vi 0), (.getfield 338, 12, 39, 0, vi 0), (.ireturn, 0, 0, 0, vi 0), (.aload_n 0, 0, 0, 0, vi 0), (.invokevirtual 381, 180, 1, 1, vi 0), (.ireturn, 0, 0, 0, vi 0), (.aload_n 0, 0, 0, 0, vi 0), (.invokevirtual 381, 180, 1, 1, vi 0), (.iconst (-1), 0, 0, 0, vi (-1)), (.if_icmp .ne 7, 24, 0, 0, vi 0), (.iconst (-1), 0, 0, 0, vi (-1)), (.goto 9, 28, 0, 0, vi 0), (.aload_n 0, 0, 0, 0, vi 0), (.getfield 97, 12, 36, 2, vi 0), (.iconst 3, 0, 0, 0, vi 3), (.iaload, 0, 0, 0, vi 0), (.ireturn, 0, 0, 0, vi 0), (.iconst (-1), 0, 0, 0, vi (-1)), (.ireturn, 0, 0, 0, vi 0)]
def am_b179 : List Nat := [0, 1, 52, 53, 56, 57, 58, 59, 60, 61, 62, 65, 66, 67, 70, 71, 72, 75, 76, 77, 80, 81, 84, 85, 88, 89, 92, 93, 94, 95, 96]
/-- WordEachModel.accusedName()I -/
def am_c180 : List mo := [(.aload_n 0, 0, 0, 0, vi 0), (.getfield 344, 12, 38, 3, vi 0), (.ifCond .eq 12, 8, 0, 0, vi 0), (.aload_n 0, 0, 0, 0, vi 0), (.getfield 97, 12, 36, 2, vi 0), (.iconst 2, 0, 0, 0, vi 2), (.iaload, 0, 0, 0, vi 0), (.goto 4, 9, 0, 0, vi 0), (.iconst (-1), 0, 0, 0, vi (-1)), (.ireturn, 0, 0, 0, vi 0)]
def am_b180 : List Nat := [0, 1, 4, 7, 8, 11, 12, 13, 16, 17]
/-- WordEachModel.word(II)I -/
def am_c181 : List mo := [(.aload_n 0, 0, 0, 0, vi 0), (.iload_n 1, 1, 0, 0, vi 0), (.invokevirtual 403, 182, 2, 1, vi 0), (.ifCond .ne 5, 6, 0, 0, vi 0), (.iconst (-1), 0, 0, 0, vi (-1)), (.ireturn, 0, 0, 0, vi 0), (.iconst 0, 0, 0, 0, vi 0), (.istore_n 3, 3, 0, 0, vi 0), (.iload_n 2, 2, 0, 0, vi 0), (.tableswitch 100 0 2 #[27, 33, 66], 8, 0, 0, vi 0), (.aload_n 0, 0, 0, 0, vi 0), (.iload_n 1, 1, 0, 0, vi 0), (.invokevirtual 363, 184, 2, 1, vi 0), (.ireturn, 0, 0, 0, vi 0), (.iconst 0, 0, 0, 0, vi 0), (.istore 4, 4, 0, 0, vi 0), (.iload 4, 4, 0, 0, vi 0), (.aload_n 0, 0, 0, 0, vi 0), (.invokevirtual 351, 185, 1, 1, vi 0), (.if_icmp .ge 22, 28, 0, 0, vi 0), (.aload_n 0, 0, 0, 0, vi 0), (.iload 4, 4, 0, 0, vi 0), (.iload_n 1, 1, 0, 0, vi 0), (.invokevirtual 406, 186, 3, 1, vi 0), (.ifCond .eq 6, 26, 0, 0, vi 0), (.iinc 3 1, 3, 0, 0, vi 1), (.iinc 4 1, 4, 0, 0, vi 1), (.goto (-25), 16, 0, 0, vi 0), (.iload_n 3, 3, 0, 0, vi 0), (.ireturn, 0, 0, 0, vi 0), (.iconst 0, 0, 0, 0, vi 0), (.istore 4, 4, 0, 0, vi 0), (.iload 4, 4, 0, 0, vi 0), (.aload_n 0, 0, 0, 0, vi 0), (.getfield 341, 12, 42, 0, vi 0), (.if_icmp .ge 23, 45, 0, 0, vi 0), (.aload_n 0, 0, 0, 0, vi 0), (.getfield 100, 12, 40, 2, vi 0), (.iload 4, 4, 0, 0, vi 0), (.iaload, 0, 0, 0, vi 0), (.iload_n 1, 1, 0, 0, vi 0), (.if_icmp .ne 6, 43, 0, 0, vi 0), (.iinc 3 1, 3, 0, 0, vi 1), (.iinc 4 1, 4, 0, 0, vi 1), (.goto (-26), 32, 0, 0, vi 0), (.iload_n 3, 3, 0, 0, vi 0), (.ireturn, 0, 0, 0, vi 0), (.iload_n 2, 2, 0, 0, vi 0), (.i2l, 0, 0, 0, vi 0), (.ldc2_w 409, 0, 0, 0, vl 10), (.ldc2_w 411, 0, 0, 0, vl 15), (.invokestatic 252, 171, 3, 1, vi 0), (.ifCond .eq 22, 64, 0, 0, vi 0), (.aload_n 0, 0, 0, 0, vi 0), (.getfield 75, 12, 29, 2, vi 0), (.bipush 20, 0, 0, 0, vi 20), (.iload_n 1, 1, 0, 0, vi 0), (.iadd, 0, 0, 0, vi 0), (.laload, 0, 0, 0, vi 0), (.iload_n 2, 2, 0, 0, vi 0), (.bipush 10, 0, 0, 0, vi 10), (.isub, 0, 0, 0, vi 0), (.invokestatic 413, 189, 2, 1, vi 0), (.goto 4, 65, 0, 0, vi 0), (.iconst (-1), 0, 0, 0, vi (-1)), (.ireturn, 0, 0, 0, vi 0)]
def am_b181 : List Nat := [0, 1, 2, 5, 8, 9, 10, 11, 12, 13, 40, 41, 42, 45, 46, 47, 49, 51, 52, 55, 58, 59, 61, 62, 65, 68, 71, 74, 77, 78, 79, 80, 82, 84, 85, 88, 91, 92, 95, 97, 98, 99, 102, 105, 108, 111, 112, 113, 114, 115, 118, 121, 124, 127, 128, 131, 133, 134, 135, 136, 137, 139, 140, 143, 146, 147]
/-- WordEachModel.isWord(I)Z -/
def am_c182 : List mo := [(.iload_n 1, 1, 0, 0, vi 0), (.i2l, 0, 0, 0, vi 0), (.lconst 0, 0, 0, 0, vl 0), (.aload_n 0, 0, 0, 0, vi 0), (.invokevirtual 348, 183, 1, 1, vi 0), (.iconst 1, 0, 0, 0, vi 1), (.isub, 0, 0, 0, vi 0), (.i2l, 0, 0, 0, vi 0), (.invokestatic 252, 171, 3, 1, vi 0), (.ireturn, 1, 0, 0, vi 0)]
def am_b182 : List Nat := [0, 1, 2, 3, 4, 7, 8, 9, 10, 13]
/-- WordEachModel.wordMany()I -/
def am_c183 : List mo := [(.aload_n 0, 0, 0, 0, vi 0), (.getfield 72, 12, 28, 2, vi 0), (.iconst 5, 0, 0, 0, vi 5), (.iaload, 0, 0, 0, vi 0), (.ireturn, 0, 0, 0, vi 0)]
def am_b183 : List Nat := [0, 1, 4, 5, 6]
/-- WordEachModel.kindOf(I)I -/
def am_c184 : List mo := [(.aload_n 0, 0, 0, 0, vi 0), (.getfield 79, 12, 30, 2, vi 0), (.bipush 20, 0, 0, 0, vi 20), (.iload_n 1, 1, 0, 0, vi 0), (.iadd, 0, 0, 0, vi 0), (.iaload, 0, 0, 0, vi 0), (.ireturn, 0, 0, 0, vi 0)]
def am_b184 : List Nat := [0, 1, 4, 6, 7, 8, 9]
/-- WordEachModel.witnessMany()I -/
def am_c185 : List mo := [(.aload_n 0, 0, 0, 0, vi 0), (.getfield 72, 12, 28, 2, vi 0), (.bipush 8, 0, 0, 0, vi 8), (.iaload, 0, 0, 0, vi 0), (.ireturn, 0, 0, 0, vi 0)]
def am_b185 : List Nat := [0, 1, 4, 6, 7]
/-- WordEachModel.says(II)Z -/
def am_c186 : List mo := [(.iconst 0, 0, 0, 0, vi 0), (.istore_n 3, 3, 0, 0, vi 0), (.iload_n 3, 3, 0, 0, vi 0), (.aload_n 0, 0, 0, 0, vi 0), (.iload_n 1, 1, 0, 0, vi 0), (.invokevirtual 397, 187, 2, 1, vi 0), (.if_icmp .ge 21, 17, 0, 0, vi 0), (.aload_n 0, 0, 0, 0, vi 0), (.iload_n 1, 1, 0, 0, vi 0), (.iload_n 3, 3, 0, 0, vi 0), (.invokevirtual 400, 188, 3, 1, vi 0), (.iload_n 2, 2, 0, 0, vi 0), (.if_icmp .ne 5, 15, 0, 0, vi 0), (.iconst 1, 0, 0, 0, vi 1), (.ireturn, 1, 0, 0, vi 0), (.iinc 3 1, 3, 0, 0, vi 1), (.goto (-24), 2, 0, 0, vi 0), (.iconst 0, 0, 0, 0, vi 0), (.ireturn, 1, 0, 0, vi 0)]
def am_b186 : List Nat := [0, 1, 2, 3, 4, 5, 8, 11, 12, 13, 14, 17, 18, 21, 22, 23, 26, 29, 30]
/-- WordEachModel.saysMany(I)I -/
def am_c187 : List mo := [(.aload_n 0, 0, 0, 0, vi 0), (.getfield 91, 12, 34, 2, vi 0), (.bipush 49, 0, 0, 0, vi 49), (.bipush 7, 0, 0, 0, vi 7), (.iload_n 1, 1, 0, 0, vi 0), (.imul, 0, 0, 0, vi 0), (.iadd, 0, 0, 0, vi 0), (.iconst 2, 0, 0, 0, vi 2), (.iadd, 0, 0, 0, vi 0), (.iaload, 0, 0, 0, vi 0), (.ireturn, 0, 0, 0, vi 0)]
def am_b187 : List Nat := [0, 1, 4, 6, 8, 9, 10, 11, 12, 13, 14]
/-- WordEachModel.saysOf(II)I -/
def am_c188 : List mo := [(.aload_n 0, 0, 0, 0, vi 0), (.getfield 91, 12, 34, 2, vi 0), (.bipush 49, 0, 0, 0, vi 49), (.bipush 7, 0, 0, 0, vi 7), (.iload_n 1, 1, 0, 0, vi 0), (.imul, 0, 0, 0, vi 0), (.iadd, 0, 0, 0, vi 0), (.iconst 3, 0, 0, 0, vi 3), (.iadd, 0, 0, 0, vi 0), (.iload_n 2, 2, 0, 0, vi 0), (.iadd, 0, 0, 0, vi 0), (.iaload, 0, 0, 0, vi 0), (.ireturn, 0, 0, 0, vi 0)]
def am_b188 : List Nat := [0, 1, 4, 6, 8, 9, 10, 11, 12, 13, 14, 15, 16]
/-- WordEachModel.letterOf(JI)I -/
def am_c189 : List mo := [(.lload_n 0, 0, 0, 0, vi 0), (.lstore_n 3, 3, 0, 0, vi 0), (.iconst 0, 0, 0, 0, vi 0), (.istore 5, 5, 0, 0, vi 0), (.lload_n 3, 3, 0, 0, vi 0), (.lstore 6, 6, 0, 0, vi 0), (.lload 6, 6, 0, 0, vi 0), (.lconst 0, 0, 0, 0, vl 0), (.lcmp, 0, 0, 0, vi 0), (.ifCond .le 17, 16, 0, 0, vi 0), (.iinc 5 1, 5, 0, 0, vi 1), (.lload 6, 6, 0, 0, vi 0), (.ldc2_w 263, 0, 0, 0, vl 27), (.ldiv, 0, 0, 0, vi 0), (.lstore 6, 6, 0, 0, vi 0), (.goto (-18), 6, 0, 0, vi 0), (.iload_n 2, 2, 0, 0, vi 0), (.iload 5, 5, 0, 0, vi 0), (.if_icmp .lt 5, 21, 0, 0, vi 0), (.iconst 0, 0, 0, 0, vi 0), (.ireturn, 0, 0, 0, vi 0), (.iload 5, 5, 0, 0, vi 0), (.iconst 1, 0, 0, 0, vi 1), (.isub, 0, 0, 0, vi 0), (.istore 6, 6, 0, 0, vi 0), (.iload 6, 6, 0, 0, vi 0), (.iload_n 2, 2, 0, 0, vi 0), (.if_icmp .le 15, 34, 0, 0, vi 0), (.lload_n 3, 3, 0, 0, vi 0), (.ldc2_w 263, 0, 0, 0, vl 27), (.ldiv, 0, 0, 0, vi 0), (.lstore_n 3, 3, 0, 0, vi 0), (.iinc 6 (-1), 6, 0, 0, vi (-1)), (.goto (-15), 25, 0, 0, vi 0), (.lload_n 3, 3, 0, 0, vi 0), (.ldc2_w 263, 0, 0, 0, vl 27), (.lrem, 0, 0, 0, vi 0), (.l2i, 0, 0, 0, vi 0), (.ireturn, 0, 0, 0, vi 0)]
def am_b189 : List Nat := [0, 1, 2, 3, 5, 6, 8, 10, 11, 12, 15, 18, 20, 23, 24, 26, 29, 30, 32, 35, 36, 37, 39, 40, 41, 43, 45, 46, 49, 50, 53, 54, 55, 58, 61, 62, 65, 66, 67]
/-- WordEachModel.bench(II)I -/
def am_c190 : List mo := [(.aload_n 0, 0, 0, 0, vi 0), (.iload_n 1, 1, 0, 0, vi 0), (.invokevirtual 417, 191, 2, 1, vi 0), (.ifCond .ne 5, 6, 0, 0, vi 0), (.iconst (-1), 0, 0, 0, vi (-1)), (.ireturn, 0, 0, 0, vi 0), (.iload_n 2, 2, 0, 0, vi 0), (.i2l, 0, 0, 0, vi 0), (.lconst 0, 0, 0, 0, vl 0), (.ldc2_w 420, 0, 0, 0, vl 2), (.invokestatic 252, 171, 3, 1, vi 0), (.ifCond .eq 18, 23, 0, 0, vi 0), (.aload_n 0, 0, 0, 0, vi 0), (.getfield 91, 12, 34, 2, vi 0), (.bipush 49, 0, 0, 0, vi 49), (.bipush 7, 0, 0, 0, vi 7), (.iload_n 1, 1, 0, 0, vi 0), (.imul, 0, 0, 0, vi 0), (.iadd, 0, 0, 0, vi 0), (.iload_n 2, 2, 0, 0, vi 0), (.iadd, 0, 0, 0, vi 0), (.iaload, 0, 0, 0, vi 0), (.ireturn, 0, 0, 0, vi 0), (.iload_n 2, 2, 0, 0, vi 0), (.iconst 3, 0, 0, 0, vi 3), (.if_icmp .ne 9, 30, 0, 0, vi 0), (.aload_n 0, 0, 0, 0, vi 0), (.iload_n 1, 1, 0, 0, vi 0), (.invokevirtual 422, 192, 2, 1, vi 0), (.ireturn, 0, 0, 0, vi 0), (.iload_n 2, 2, 0, 0, vi 0), (.i2l, 0, 0, 0, vi 0), (.ldc2_w 425, 0, 0, 0, vl 20), (.ldc2_w 427, 0, 0, 0, vl 25), (.invokestatic 252, 171, 3, 1, vi 0), (.ifCond .eq 20, 47, 0, 0, vi 0), (.aload_n 0, 0, 0, 0, vi 0), (.getfield 82, 12, 31, 2, vi 0), (.bipush 7, 0, 0, 0, vi 7), (.iload_n 1, 1, 0, 0, vi 0), (.iadd, 0, 0, 0, vi 0), (.laload, 0, 0, 0, vi 0), (.iload_n 2, 2, 0, 0, vi 0), (.bipush 20, 0, 0, 0, vi 20), (.isub, 0, 0, 0, vi 0), (.invokestatic 413, 189, 2, 1, vi 0), (.ireturn, 0, 0, 0, vi 0), (.iload_n 2, 2, 0, 0, vi 0), (.bipush 10, 0, 0, 0, vi 10), (.isub, 0, 0, 0, vi 0), (.i2l, 0, 0, 0, vi 0), (.lconst 0, 0, 0, 0, vl 0), (.aload_n 0, 0, 0, 0, vi 0), (.iload_n 1, 1, 0, 0, vi 0), (.invokevirtual 397, 187, 2, 1, vi 0), (.iconst 1, 0, 0, 0, vi 1), (.isub, 0, 0, 0, vi 0), (.i2l, 0, 0, 0, vi 0), (.invokestatic 252, 171, 3, 1, vi 0), (.ifCond .eq 15, 67, 0, 0, vi 0), (.aload_n 0, 0, 0, 0, vi 0), (.iload_n 1, 1, 0, 0, vi 0), (.iload_n 2, 2, 0, 0, vi 0), (.bipush 10, 0, 0, 0, vi 10), (.isub, 0, 0, 0, vi 0), (.invokevirtual 400, 188, 3, 1, vi 0), (.goto 4, 68, 0, 0, vi 0), (.iconst (-1), 0, 0, 0, vi (-1)), (.ireturn, 0, 0, 0, vi 0)]
def am_b190 : List Nat := [0, 1, 2, 5, 8, 9, 10, 11, 12, 13, 16, 19, 22, 23, 26, 28, 30, 31, 32, 33, 34, 35, 36, 37, 38, 39, 42, 43, 44, 47, 48, 49, 50, 53, 56, 59, 62, 63, 66, 68, 69, 70, 71, 72, 74, 75, 78, 79, 80, 82, 83, 84, 85, 86, 87, 90, 91, 92, 93, 96, 99, 100, 101, 102, 104, 105, 108, 111, 112]
/-- WordEachModel.isBench(I)Z -/
def am_c191 : List mo := [(.iload_n 1, 1, 0, 0, vi 0), (.i2l, 0, 0, 0, vi 0), (.lconst 0, 0, 0, 0, vl 0), (.aload_n 0, 0, 0, 0, vi 0), (.invokevirtual 351, 185, 1, 1, vi 0), (.iconst 1, 0, 0, 0, vi 1), (.isub, 0, 0, 0, vi 0), (.i2l, 0, 0, 0, vi 0), (.invokestatic 252, 171, 3, 1, vi 0), (.ireturn, 1, 0, 0, vi 0)]
def am_b191 : List Nat := [0, 1, 2, 3, 4, 7, 8, 9, 10, 13]
/-- WordEachModel.spokeAt(I)I -/
def am_c192 : List mo := [(.iconst 0, 0, 0, 0, vi 0), (.istore_n 2, 2, 0, 0, vi 0), (.iload_n 2, 2, 0, 0, vi 0), (.aload_n 0, 0, 0, 0, vi 0), (.getfield 341, 12, 42, 0, vi 0), (.if_icmp .ge 21, 16, 0, 0, vi 0), (.aload_n 0, 0, 0, 0, vi 0), (.getfield 103, 12, 41, 2, vi 0), (.iload_n 2, 2, 0, 0, vi 0), (.iaload, 0, 0, 0, vi 0), (.iload_n 1, 1, 0, 0, vi 0), (.if_icmp .ne 5, 14, 0, 0, vi 0), (.iload_n 2, 2, 0, 0, vi 0), (.ireturn, 0, 0, 0, vi 0), (.iinc 2 1, 2, 0, 0, vi 1), (.goto (-23), 2, 0, 0, vi 0), (.iconst (-1), 0, 0, 0, vi (-1)), (.ireturn, 0, 0, 0, vi 0)]
def am_b192 : List Nat := [0, 1, 2, 3, 4, 7, 10, 11, 14, 15, 16, 17, 20, 21, 22, 25, 28, 29]
/-- WordEachModel.grammar(II)I -/
def am_c193 : List mo := [(.iload_n 1, 1, 0, 0, vi 0), (.i2l, 0, 0, 0, vi 0), (.lconst 0, 0, 0, 0, vl 0), (.aload_n 0, 0, 0, 0, vi 0), (.invokevirtual 335, 177, 1, 1, vi 0), (.iconst 1, 0, 0, 0, vi 1), (.isub, 0, 0, 0, vi 0), (.i2l, 0, 0, 0, vi 0), (.invokestatic 252, 171, 3, 1, vi 0), (.ifCond .eq 31, 27, 0, 0, vi 0), (.iload_n 2, 2, 0, 0, vi 0), (.i2l, 0, 0, 0, vi 0), (.lconst 0, 0, 0, 0, vl 0), (.ldc2_w 420, 0, 0, 0, vl 2), (.invokestatic 252, 171, 3, 1, vi 0), (.ifCond .eq 19, 27, 0, 0, vi 0), (.aload_n 0, 0, 0, 0, vi 0), (.getfield 85, 12, 32, 2, vi 0), (.bipush 18, 0, 0, 0, vi 18), (.iconst 3, 0, 0, 0, vi 3), (.iload_n 1, 1, 0, 0, vi 0), (.imul, 0, 0, 0, vi 0), (.iadd, 0, 0, 0, vi 0), (.iload_n 2, 2, 0, 0, vi 0), (.iadd, 0, 0, 0, vi 0), (.iaload, 0, 0, 0, vi 0), (.goto 4, 28, 0, 0, vi 0), (.iconst (-1), 0, 0, 0, vi (-1)), (.ireturn, 0, 0, 0, vi 0)]
def am_b193 : List Nat := [0, 1, 2, 3, 4, 7, 8, 9, 10, 13, 16, 17, 18, 19, 22, 25, 28, 29, 32, 34, 35, 36, 37, 38, 39, 40, 41, 44, 45]
/-- WordEachModel.row(IZ)I -/
def am_c194 : List mo := [(.iload_n 1, 1, 0, 0, vi 0), (.i2l, 0, 0, 0, vi 0), (.lconst 0, 0, 0, 0, vl 0), (.aload_n 0, 0, 0, 0, vi 0), (.getfield 341, 12, 42, 0, vi 0), (.iconst 1, 0, 0, 0, vi 1), (.isub, 0, 0, 0, vi 0), (.i2l, 0, 0, 0, vi 0), (.invokestatic 252, 171, 3, 1, vi 0), (.ifCond .ne 7, 12, 0, 0, vi 0), (.iconst (-1), 0, 0, 0, vi (-1)), (.goto 22, 23, 0, 0, vi 0), (.iload_n 2, 2, 0, 0, vi 0), (.ifCond .eq 12, 19, 0, 0, vi 0), (.aload_n 0, 0, 0, 0, vi 0), (.getfield 103, 12, 41, 2, vi 0), (.iload_n 1, 1, 0, 0, vi 0), (.iaload, 0, 0, 0, vi 0), (.goto 9, 23, 0, 0, vi 0), (.aload_n 0, 0, 0, 0, vi 0), (.getfield 100, 12, 40, 2, vi 0), (.iload_n 1, 1, 0, 0, vi 0), (.iaload, 0, 0, 0, vi 0), (.ireturn, 0, 0, 0, vi 0)]
def am_b194 : List Nat := [0, 1, 2, 3, 4, 7, 8, 9, 10, 13, 16, 17, 20, 21, 24, 25, 28, 29, 30, 33, 34, 37, 38, 39]
/-- WordEachModel.say(II)I -/
def am_c195 : List mo := [(.aload_n 0, 0, 0, 0, vi 0), (.iload_n 1, 1, 0, 0, vi 0), (.invokevirtual 417, 191, 2, 1, vi 0), (.ifCond .eq 29, 20, 0, 0, vi 0), (.iload_n 2, 2, 0, 0, vi 0), (.i2l, 0, 0, 0, vi 0), (.lconst 0, 0, 0, 0, vl 0), (.aload_n 0, 0, 0, 0, vi 0), (.iload_n 1, 1, 0, 0, vi 0), (.invokevirtual 397, 187, 2, 1, vi 0), (.iconst 1, 0, 0, 0, vi 1), (.isub, 0, 0, 0, vi 0), (.i2l, 0, 0, 0, vi 0), (.invokestatic 252, 171, 3, 1, vi 0), (.ifCond .eq 12, 20, 0, 0, vi 0), (.aload_n 0, 0, 0, 0, vi 0), (.iload_n 1, 1, 0, 0, vi 0), (.invokevirtual 422, 192, 2, 1, vi 0), (.iconst (-1), 0, 0, 0, vi (-1)), (.if_icmp .eq 15, 30, 0, 0, vi 0), (.aload_n 0, 0, 0, 0, vi 0), (.getfield 17, 12, 9, 2, vi 0), (.iconst 2, 0, 0, 0, vi 2), (.dup2, 0, 0, 0, vi 0), (.iaload, 0, 0, 0, vi 0), (.iconst 1, 0, 0, 0, vi 1), (.iadd, 0, 0, 0, vi 0), (.iastore, 0, 0, 0, vi 0), (.iconst (-1), 0, 0, 0, vi (-1)), (.ireturn, 0, 0, 0, vi 0), (.aload_n 0, 0, 0, 0, vi 0), (.iload_n 1, 1, 0, 0, vi 0), (.aload_n 0, 0, 0, 0, vi 0), (.iload_n 1, 1, 0, 0, vi 0), (.iload_n 2, 2, 0, 0, vi 0), (.invokevirtual 400, 188, 3, 1, vi 0), (.invokevirtual 429, 196, 3, 0, vi 0), (.aload_n 0, 0, 0, 0, vi 0), (.getfield 341, 12, 42, 0, vi 0), (.ireturn, 0, 0, 0, vi 0)]
def am_b195 : List Nat := [0, 1, 2, 5, 8, 9, 10, 11, 12, 13, 16, 17, 18, 19, 22, 25, 26, 27, 30, 31, 34, 35, 38, 39, 40, 41, 42, 43, 44, 45, 46, 47, 48, 49, 50, 51, 54, 57, 58, 61]
/-- WordEachModel.adds(II)V -/
def am_c196 : List mo := [(.aload_n 0, 0, 0, 0, vi 0), (.getfield 103, 12, 41, 2, vi 0), (.aload_n 0, 0, 0, 0, vi 0), (.getfield 341, 12, 42, 0, vi 0), (.iload_n 1, 1, 0, 0, vi 0), (.iastore, 0, 0, 0, vi 0), (.aload_n 0, 0, 0, 0, vi 0), (.getfield 100, 12, 40, 2, vi 0), (.aload_n 0, 0, 0, 0, vi 0), (.getfield 341, 12, 42, 0, vi 0), (.iload_n 2, 2, 0, 0, vi 0), (.iastore, 0, 0, 0, vi 0), (.aload_n 0, 0, 0, 0, vi 0), (.dup, 0, 0, 0, vi 0), (.getfield 341, 12, 42, 0, vi 0), (.iconst 1, 0, 0, 0, vi 1), (.iadd, 0, 0, 0, vi 0), (.putfield 341, 12, 42, 0, vi 0), (.return_, 0, 0, 0, vi 0)]
def am_b196 : List Nat := [0, 1, 4, 5, 8, 9, 10, 11, 14, 15, 18, 19, 20, 21, 22, 25, 26, 27, 30]
/-- WordEachModel.back()Z -/
def am_c197 : List mo := [(.aload_n 0, 0, 0, 0, vi 0), (.getfield 341, 12, 42, 0, vi 0), (.ifCond .ne 15, 13, 0, 0, vi 0), (.aload_n 0, 0, 0, 0, vi 0), (.getfield 17, 12, 9, 2, vi 0), (.iconst 2, 0, 0, 0, vi 2), (.dup2, 0, 0, 0, vi 0), (.iaload, 0, 0, 0, vi 0), (.iconst 1, 0, 0, 0, vi 1), (.iadd, 0, 0, 0, vi 0), (.iastore, 0, 0, 0, vi 0), (.iconst 0, 0, 0, 0, vi 0), (.ireturn, 1, 0, 0, vi 0), (.aload_n 0, 0, 0, 0, vi 0), (.dup, 0, 0, 0, vi 0), (.getfield 341, 12, 42, 0, vi 0), (.iconst 1, 0, 0, 0, vi 1), (.isub, 0, 0, 0, vi 0), (.putfield 341, 12, 42, 0, vi 0), (.iconst 1, 0, 0, 0, vi 1), (.ireturn, 1, 0, 0, vi 0)]
def am_b197 : List Nat := [0, 1, 4, 7, 8, 11, 12, 13, 14, 15, 16, 17, 18, 19, 20, 21, 24, 25, 26, 29, 30]
/-- WordEachModel.clear()I -/
def am_c198 : List mo := [(.aload_n 0, 0, 0, 0, vi 0), (.getfield 341, 12, 42, 0, vi 0), (.istore_n 1, 1, 0, 0, vi 0), (.aload_n 0, 0, 0, 0, vi 0), (.iconst 0, 0, 0, 0, vi 0), (.putfield 341, 12, 42, 0, vi 0), (.iload_n 1, 1, 0, 0, vi 0), (.ireturn, 0, 0, 0, vi 0)]
def am_b198 : List Nat := [0, 1, 4, 5, 6, 7, 10, 11]
/-- WordEachModel.line(IZ)Z -/
def am_c199 : List mo := [(.iload_n 1, 1, 0, 0, vi 0), (.i2l, 0, 0, 0, vi 0), (.lconst 0, 0, 0, 0, vl 0), (.aload_n 0, 0, 0, 0, vi 0), (.invokevirtual 335, 177, 1, 1, vi 0), (.iconst 1, 0, 0, 0, vi 1), (.isub, 0, 0, 0, vi 0), (.i2l, 0, 0, 0, vi 0), (.invokestatic 252, 171, 3, 1, vi 0), (.ifCond .eq 24, 23, 0, 0, vi 0), (.aload_n 0, 0, 0, 0, vi 0), (.getfield 338, 12, 39, 0, vi 0), (.iload_n 1, 1, 0, 0, vi 0), (.ishr, 0, 0, 0, vi 0), (.iconst 1, 0, 0, 0, vi 1), (.iand, 0, 0, 0, vi 0), (.iconst 1, 0, 0, 0, vi 1), (.if_icmp .ne 7, 20, 0, 0, vi 0), (.iconst 1, 0, 0, 0, vi 1), (.goto 4, 21, 0, 0, vi 0), (.iconst 0, 0, 0, 0, vi 0), (.iload_n 2, 2, 0, 0, vi 0), (.if_icmp .ne 15, 33, 0, 0, vi 0), (.aload_n 0, 0, 0, 0, vi 0), (.getfield 17, 12, 9, 2, vi 0), (.iconst 3, 0, 0, 0, vi 3), (.dup2, 0, 0, 0, vi 0), (.iaload, 0, 0, 0, vi 0), (.iconst 1, 0, 0, 0, vi 1), (.iadd, 0, 0, 0, vi 0), (.iastore, 0, 0, 0, vi 0), (.iconst 0, 0, 0, 0, vi 0), (.ireturn, 1, 0, 0, vi 0), (.aload_n 0, 0, 0, 0, vi 0), (.dup, 0, 0, 0, vi 0), (.getfield 338, 12, 39, 0, vi 0), (.iconst 1, 0, 0, 0, vi 1), (.iload_n 1, 1, 0, 0, vi 0), (.ishl, 0, 0, 0, vi 0), (.ixor, 0, 0, 0, vi 0), (.putfield 338, 12, 39, 0, vi 0), (.iconst 1, 0, 0, 0, vi 1), (.ireturn, 1, 0, 0, vi 0)]
def am_b199 : List Nat := [0, 1, 2, 3, 4, 7, 8, 9, 10, 13, 16, 17, 20, 21, 22, 23, 24, 25, 28, 29, 32, 33, 34, 37, 38, 41, 42, 43, 44, 45, 46, 47, 48, 49, 50, 51, 54, 55, 56, 57, 58, 61, 62]
/-- WordEachModel.sense()I -/
def am_c200 : List mo := [(.aload_n 0, 0, 0, 0, vi 0), (.invokevirtual 435, 201, 1, 1, vi 0), (.ifCond .eq 7, 5, 0, 0, vi 0), (.iconst (-1), 0, 0, 0, vi (-1)), (.goto 7, 7, 0, 0, vi 0), (.aload_n 0, 0, 0, 0, vi 0), (.getfield 375, 12, 48, 0, vi 0), (.ireturn, 0, 0, 0, vi 0)]
def am_b200 : List Nat := [0, 1, 4, 7, 8, 11, 12, 15]
/-- WordEachModel.readsRow()Z -/
def am_c201 : List mo := [(.aload_n 0, 0, 0, 0, vi 0), (.iconst (-1), 0, 0, 0, vi (-1)), (.invokevirtual 432, 202, 2, 0, vi 0), (.aload_n 0, 0, 0, 0, vi 0), (.invokevirtual 391, 204, 1, 1, vi 0), (.ireturn, 1, 0, 0, vi 0)]
def am_b201 : List Nat := [0, 1, 2, 5, 6, 9]
/-- WordEachModel.triesRow(I)V -/
def am_c202 : List mo := [(.aload_n 0, 0, 0, 0, vi 0), (.iconst 0, 0, 0, 0, vi 0), (.putfield 354, 12, 44, 0, vi 0), (.iconst 0, 0, 0, 0, vi 0), (.istore_n 2, 2, 0, 0, vi 0), (.iload_n 2, 2, 0, 0, vi 0), (.aload_n 0, 0, 0, 0, vi 0), (.getfield 341, 12, 42, 0, vi 0), (.if_icmp .ge 24, 20, 0, 0, vi 0), (.iload_n 2, 2, 0, 0, vi 0), (.iload_n 1, 1, 0, 0, vi 0), (.if_icmp .eq 13, 18, 0, 0, vi 0), (.aload_n 0, 0, 0, 0, vi 0), (.aload_n 0, 0, 0, 0, vi 0), (.getfield 100, 12, 40, 2, vi 0), (.iload_n 2, 2, 0, 0, vi 0), (.iaload, 0, 0, 0, vi 0), (.invokevirtual 357, 203, 2, 0, vi 0), (.iinc 2 1, 2, 0, 0, vi 1), (.goto (-26), 5, 0, 0, vi 0), (.return_, 0, 0, 0, vi 0)]
def am_b202 : List Nat := [0, 1, 2, 5, 6, 7, 8, 9, 12, 15, 16, 17, 20, 21, 22, 25, 26, 27, 30, 33, 36]
/-- WordEachModel.tries(I)V -/
def am_c203 : List mo := [(.aload_n 0, 0, 0, 0, vi 0), (.getfield 106, 12, 43, 2, vi 0), (.aload_n 0, 0, 0, 0, vi 0), (.getfield 354, 12, 44, 0, vi 0), (.iload_n 1, 1, 0, 0, vi 0), (.iastore, 0, 0, 0, vi 0), (.aload_n 0, 0, 0, 0, vi 0), (.dup, 0, 0, 0, vi 0), (.getfield 354, 12, 44, 0, vi 0), (.iconst 1, 0, 0, 0, vi 1), (.iadd, 0, 0, 0, vi 0), (.putfield 354, 12, 44, 0, vi 0), (.return_, 0, 0, 0, vi 0)]
def am_b203 : List Nat := [0, 1, 4, 5, 8, 9, 10, 11, 12, 15, 16, 17, 20]
/-- WordEachModel.reads()Z -/
def am_c204 : List mo := [(.aload_n 0, 0, 0, 0, vi 0), (.iconst 0, 0, 0, 0, vi 0), (.putfield 360, 12, 47, 0, vi 0), (.iconst 0, 0, 0, 0, vi 0), (.istore_n 1, 1, 0, 0, vi 0), (.iload_n 1, 1, 0, 0, vi 0), (.aload_n 0, 0, 0, 0, vi 0), (.getfield 354, 12, 44, 0, vi 0), (.if_icmp .ge 61, 41, 0, 0, vi 0), (.aload_n 0, 0, 0, 0, vi 0), (.aload_n 0, 0, 0, 0, vi 0), (.getfield 106, 12, 43, 2, vi 0), (.iload_n 1, 1, 0, 0, vi 0), (.iaload, 0, 0, 0, vi 0), (.invokevirtual 363, 184, 2, 1, vi 0), (.iconst 5, 0, 0, 0, vi 5), (.if_icmp .ne 6, 18, 0, 0, vi 0), (.goto 38, 39, 0, 0, vi 0), (.aload_n 0, 0, 0, 0, vi 0), (.getfield 109, 12, 45, 2, vi 0), (.aload_n 0, 0, 0, 0, vi 0), (.getfield 360, 12, 47, 0, vi 0), (.aload_n 0, 0, 0, 0, vi 0), (.getfield 106, 12, 43, 2, vi 0), (.iload_n 1, 1, 0, 0, vi 0), (.iaload, 0, 0, 0, vi 0), (.iastore, 0, 0, 0, vi 0), (.aload_n 0, 0, 0, 0, vi 0), (.getfield 112, 12, 46, 2, vi 0), (.aload_n 0, 0, 0, 0, vi 0), (.getfield 360, 12, 47, 0, vi 0), (.iload_n 1, 1, 0, 0, vi 0), (.iastore, 0, 0, 0, vi 0), (.aload_n 0, 0, 0, 0, vi 0), (.dup, 0, 0, 0, vi 0), (.getfield 360, 12, 47, 0, vi 0), (.iconst 1, 0, 0, 0, vi 1), (.iadd, 0, 0, 0, vi 0), (.putfield 360, 12, 47, 0, vi 0), (.iinc 1 1, 1, 0, 0, vi 1), (.goto (-63), 5, 0, 0, vi 0), (.aload_n 0, 0, 0, 0, vi 0), (.iconst 0, 0, 0, 0, vi 0), (.putfield 372, 12, 50, 0, vi 0), (.aload_n 0, 0, 0, 0, vi 0), (.iconst (-1), 0, 0, 0, vi (-1)), (.putfield 375, 12, 48, 0, vi 0), (.iconst 0, 0, 0, 0, vi 0), (.istore_n 1, 1, 0, 0, vi 0), (.iconst 0, 0, 0, 0, vi 0), (.istore_n 2, 2, 0, 0, vi 0), (.aload_n 0, 0, 0, 0, vi 0), (.getfield 375, 12, 48, 0, vi 0), (.iconst (-1), 0, 0, 0, vi (-1)), (.if_icmp .ne 71, 95, 0, 0, vi 0), (.aload_n 0, 0, 0, 0, vi 0), (.iload_n 1, 1, 0, 0, vi 0), (.iload_n 2, 2, 0, 0, vi 0), (.invokevirtual 378, 205, 3, 1, vi 0), (.istore_n 3, 3, 0, 0, vi 0), (.iload_n 3, 3, 0, 0, vi 0), (.iconst (-1), 0, 0, 0, vi (-1)), (.if_icmp .ne 31, 77, 0, 0, vi 0), (.aload_n 0, 0, 0, 0, vi 0), (.iload_n 1, 1, 0, 0, vi 0), (.aload_n 0, 0, 0, 0, vi 0), (.getfield 360, 12, 47, 0, vi 0), (.if_icmp .ge 12, 73, 0, 0, vi 0), (.aload_n 0, 0, 0, 0, vi 0), (.getfield 112, 12, 46, 2, vi 0), (.iload_n 1, 1, 0, 0, vi 0), (.iaload, 0, 0, 0, vi 0), (.goto 7, 75, 0, 0, vi 0), (.aload_n 0, 0, 0, 0, vi 0), (.getfield 354, 12, 44, 0, vi 0), (.putfield 375, 12, 48, 0, vi 0), (.goto 28, 94, 0, 0, vi 0), (.iload_n 3, 3, 0, 0, vi 0), (.aload_n 0, 0, 0, 0, vi 0), (.getfield 360, 12, 47, 0, vi 0), (.if_icmp .ne 5, 83, 0, 0, vi 0), (.iconst 1, 0, 0, 0, vi 1), (.ireturn, 1, 0, 0, vi 0), (.aload_n 0, 0, 0, 0, vi 0), (.aload_n 0, 0, 0, 0, vi 0), (.getfield 109, 12, 45, 2, vi 0), (.iload_n 3, 3, 0, 0, vi 0), (.iaload, 0, 0, 0, vi 0), (.invokevirtual 363, 184, 2, 1, vi 0), (.istore_n 2, 2, 0, 0, vi 0), (.iload_n 3, 3, 0, 0, vi 0), (.iconst 1, 0, 0, 0, vi 1), (.iadd, 0, 0, 0, vi 0), (.istore_n 1, 1, 0, 0, vi 0), (.goto (-73), 51, 0, 0, vi 0), (.iconst 0, 0, 0, 0, vi 0), (.ireturn, 1, 0, 0, vi 0)]
def am_b204 : List Nat := [0, 1, 2, 5, 6, 7, 8, 9, 12, 15, 16, 17, 20, 21, 22, 25, 26, 29, 32, 33, 36, 37, 40, 41, 44, 45, 46, 47, 48, 51, 52, 55, 56, 57, 58, 59, 62, 63, 64, 67, 70, 73, 74, 75, 78, 79, 80, 83, 84, 85, 86, 87, 88, 91, 92, 95, 96, 97, 98, 101, 102, 103, 104, 107, 108, 109, 110, 113, 116, 117, 120, 121, 122, 125, 126, 129, 132, 135, 136, 137, 140, 143, 144, 145, 146, 147, 150, 151, 152, 155, 156, 157, 158, 159, 160, 163, 164]
/-- WordEachModel.clauseFrom(II)I -/
def am_c205 : List mo := [(.iload_n 1, 1, 0, 0, vi 0), (.istore_n 3, 3, 0, 0, vi 0), (.iload_n 3, 3, 0, 0, vi 0), (.aload_n 0, 0, 0, 0, vi 0), (.getfield 360, 12, 47, 0, vi 0), (.if_icmp .ge 23, 16, 0, 0, vi 0), (.aload_n 0, 0, 0, 0, vi 0), (.aload_n 0, 0, 0, 0, vi 0), (.getfield 109, 12, 45, 2, vi 0), (.iload_n 3, 3, 0, 0, vi 0), (.iaload, 0, 0, 0, vi 0), (.invokevirtual 363, 184, 2, 1, vi 0), (.iconst 2, 0, 0, 0, vi 2), (.if_icmp .ne 9, 16, 0, 0, vi 0), (.iinc 3 1, 3, 0, 0, vi 1), (.goto (-25), 2, 0, 0, vi 0), (.iconst 0, 0, 0, 0, vi 0), (.istore 4, 4, 0, 0, vi 0), (.iload 4, 4, 0, 0, vi 0), (.aload_n 0, 0, 0, 0, vi 0), (.invokevirtual 335, 177, 1, 1, vi 0), (.if_icmp .ge 129, 94, 0, 0, vi 0), (.aload_n 0, 0, 0, 0, vi 0), (.getfield 338, 12, 39, 0, vi 0), (.iload 4, 4, 0, 0, vi 0), (.ishr, 0, 0, 0, vi 0), (.iconst 1, 0, 0, 0, vi 1), (.iand, 0, 0, 0, vi 0), (.ifCond .ne 6, 30, 0, 0, vi 0), (.goto 108, 92, 0, 0, vi 0), (.aload_n 0, 0, 0, 0, vi 0), (.iload 4, 4, 0, 0, vi 0), (.iload_n 3, 3, 0, 0, vi 0), (.invokevirtual 369, 206, 3, 1, vi 0), (.istore 5, 5, 0, 0, vi 0), (.iload 5, 5, 0, 0, vi 0), (.iconst (-1), 0, 0, 0, vi (-1)), (.if_icmp .ne 6, 39, 0, 0, vi 0), (.goto 90, 92, 0, 0, vi 0), (.bipush 6, 0, 0, 0, vi 6), (.aload_n 0, 0, 0, 0, vi 0), (.getfield 372, 12, 50, 0, vi 0), (.imul, 0, 0, 0, vi 0), (.istore 6, 6, 0, 0, vi 0), (.iconst 0, 0, 0, 0, vi 0), (.istore 7, 7, 0, 0, vi 0), (.iload 7, 7, 0, 0, vi 0), (.iconst 3, 0, 0, 0, vi 3), (.if_icmp .ge 26, 61, 0, 0, vi 0), (.aload_n 0, 0, 0, 0, vi 0), (.getfield 115, 12, 49, 2, vi 0), (.iload 6, 6, 0, 0, vi 0), (.iload 7, 7, 0, 0, vi 0), (.iadd, 0, 0, 0, vi 0), (.aload_n 0, 0, 0, 0, vi 0), (.getfield 118, 12, 51, 2, vi 0), (.iload 7, 7, 0, 0, vi 0), (.iaload, 0, 0, 0, vi 0), (.iastore, 0, 0, 0, vi 0), (.iinc 7 1, 7, 0, 0, vi 1), (.goto (-26), 46, 0, 0, vi 0), (.aload_n 0, 0, 0, 0, vi 0), (.getfield 115, 12, 49, 2, vi 0), (.iload 6, 6, 0, 0, vi 0), (.iconst 3, 0, 0, 0, vi 3), (.iadd, 0, 0, 0, vi 0), (.iload_n 3, 3, 0, 0, vi 0), (.iload_n 1, 1, 0, 0, vi 0), (.isub, 0, 0, 0, vi 0), (.iastore, 0, 0, 0, vi 0), (.aload_n 0, 0, 0, 0, vi 0), (.getfield 115, 12, 49, 2, vi 0), (.iload 6, 6, 0, 0, vi 0), (.iconst 4, 0, 0, 0, vi 4), (.iadd, 0, 0, 0, vi 0), (.iload 4, 4, 0, 0, vi 0), (.iastore, 0, 0, 0, vi 0), (.aload_n 0, 0, 0, 0, vi 0), (.getfield 115, 12, 49, 2, vi 0), (.iload 6, 6, 0, 0, vi 0), (.iconst 5, 0, 0, 0, vi 5), (.iadd, 0, 0, 0, vi 0), (.iload_n 2, 2, 0, 0, vi 0), (.iastore, 0, 0, 0, vi 0), (.aload_n 0, 0, 0, 0, vi 0), (.dup, 0, 0, 0, vi 0), (.getfield 372, 12, 50, 0, vi 0), (.iconst 1, 0, 0, 0, vi 1), (.iadd, 0, 0, 0, vi 0), (.putfield 372, 12, 50, 0, vi 0), (.iload 5, 5, 0, 0, vi 0), (.ireturn, 0, 0, 0, vi 0), (.iinc 4 1, 4, 0, 0, vi 1), (.goto (-132), 18, 0, 0, vi 0), (.iconst (-1), 0, 0, 0, vi (-1)), (.ireturn, 0, 0, 0, vi 0)]
def am_b205 : List Nat := [0, 1, 2, 3, 4, 7, 10, 11, 12, 15, 16, 17, 20, 21, 24, 27, 30, 31, 33, 35, 36, 39, 42, 43, 46, 48, 49, 50, 51, 54, 57, 58, 60, 61, 64, 66, 68, 69, 72, 75, 77, 78, 81, 82, 84, 85, 87, 89, 90, 93, 94, 97, 99, 101, 102, 103, 106, 108, 109, 110, 113, 116, 117, 120, 122, 123, 124, 125, 126, 127, 128, 129, 132, 134, 135, 136, 138, 139, 140, 143, 145, 146, 147, 148, 149, 150, 151, 154, 155, 156, 159, 161, 162, 165, 168, 169]
/-- WordEachModel.fits(II)I -/
def am_c206 : List mo := [(.iload_n 2, 2, 0, 0, vi 0), (.istore_n 3, 3, 0, 0, vi 0), (.aload_n 0, 0, 0, 0, vi 0), (.getfield 118, 12, 51, 2, vi 0), (.iconst 2, 0, 0, 0, vi 2), (.iconst (-1), 0, 0, 0, vi (-1)), (.iastore, 0, 0, 0, vi 0), (.bipush 18, 0, 0, 0, vi 18), (.iconst 3, 0, 0, 0, vi 3), (.iload_n 1, 1, 0, 0, vi 0), (.imul, 0, 0, 0, vi 0), (.iadd, 0, 0, 0, vi 0), (.istore 4, 4, 0, 0, vi 0), (.iload 4, 4, 0, 0, vi 0), (.bipush 21, 0, 0, 0, vi 21), (.iconst 3, 0, 0, 0, vi 3), (.iload_n 1, 1, 0, 0, vi 0), (.imul, 0, 0, 0, vi 0), (.iadd, 0, 0, 0, vi 0), (.if_icmp .ge 80, 62, 0, 0, vi 0), (.aload_n 0, 0, 0, 0, vi 0), (.getfield 85, 12, 32, 2, vi 0), (.iload 4, 4, 0, 0, vi 0), (.iaload, 0, 0, 0, vi 0), (.iconst (-1), 0, 0, 0, vi (-1)), (.if_icmp .eq 69, 62, 0, 0, vi 0), (.iload_n 3, 3, 0, 0, vi 0), (.aload_n 0, 0, 0, 0, vi 0), (.getfield 360, 12, 47, 0, vi 0), (.if_icmp .eq 32, 46, 0, 0, vi 0), (.aload_n 0, 0, 0, 0, vi 0), (.aload_n 0, 0, 0, 0, vi 0), (.getfield 109, 12, 45, 2, vi 0), (.iload_n 3, 3, 0, 0, vi 0), (.iaload, 0, 0, 0, vi 0), (.invokevirtual 363, 184, 2, 1, vi 0), (.aload_n 0, 0, 0, 0, vi 0), (.getfield 85, 12, 32, 2, vi 0), (.iload 4, 4, 0, 0, vi 0), (.iaload, 0, 0, 0, vi 0), (.iconst 1, 0, 0, 0, vi 1), (.if_icmp .ne 7, 44, 0, 0, vi 0), (.iconst 1, 0, 0, 0, vi 1), (.goto 4, 45, 0, 0, vi 0), (.iconst 0, 0, 0, 0, vi 0), (.if_icmp .eq 5, 48, 0, 0, vi 0), (.iconst (-1), 0, 0, 0, vi (-1)), (.ireturn, 0, 0, 0, vi 0), (.aload_n 0, 0, 0, 0, vi 0), (.getfield 118, 12, 51, 2, vi 0), (.aload_n 0, 0, 0, 0, vi 0), (.getfield 85, 12, 32, 2, vi 0), (.iload 4, 4, 0, 0, vi 0), (.iaload, 0, 0, 0, vi 0), (.aload_n 0, 0, 0, 0, vi 0), (.getfield 109, 12, 45, 2, vi 0), (.iload_n 3, 3, 0, 0, vi 0), (.iaload, 0, 0, 0, vi 0), (.iastore, 0, 0, 0, vi 0), (.iinc 3 1, 3, 0, 0, vi 1), (.iinc 4 1, 4, 0, 0, vi 1), (.goto (-85), 13, 0, 0, vi 0), (.iload_n 3, 3, 0, 0, vi 0), (.aload_n 0, 0, 0, 0, vi 0), (.getfield 360, 12, 47, 0, vi 0), (.if_icmp .eq 11, 70, 0, 0, vi 0), (.aload_n 0, 0, 0, 0, vi 0), (.iload_n 3, 3, 0, 0, vi 0), (.invokevirtual 366, 207, 2, 1, vi 0), (.ifCond .eq 7, 72, 0, 0, vi 0), (.iload_n 3, 3, 0, 0, vi 0), (.goto 4, 73, 0, 0, vi 0), (.iconst (-1), 0, 0, 0, vi (-1)), (.ireturn, 0, 0, 0, vi 0)]
def am_b206 : List Nat := [0, 1, 2, 3, 6, 7, 8, 9, 11, 12, 13, 14, 15, 17, 19, 21, 22, 23, 24, 25, 28, 29, 32, 34, 35, 36, 39, 40, 41, 44, 47, 48, 49, 52, 53, 54, 57, 58, 61, 63, 64, 65, 68, 69, 72, 73, 76, 77, 78, 79, 82, 83, 86, 88, 89, 90, 93, 94, 95, 96, 99, 102, 105, 106, 107, 110, 113, 114, 115, 118, 121, 122, 125, 126]
/-- WordEachModel.isBinding(I)Z -/
def am_c207 : List mo := [(.iload_n 1, 1, 0, 0, vi 0), (.aload_n 0, 0, 0, 0, vi 0), (.getfield 360, 12, 47, 0, vi 0), (.if_icmp .ge 35, 22, 0, 0, vi 0), (.aload_n 0, 0, 0, 0, vi 0), (.aload_n 0, 0, 0, 0, vi 0), (.getfield 109, 12, 45, 2, vi 0), (.iload_n 1, 1, 0, 0, vi 0), (.iaload, 0, 0, 0, vi 0), (.invokevirtual 363, 184, 2, 1, vi 0), (.iconst 3, 0, 0, 0, vi 3), (.if_icmp .eq 17, 20, 0, 0, vi 0), (.aload_n 0, 0, 0, 0, vi 0), (.aload_n 0, 0, 0, 0, vi 0), (.getfield 109, 12, 45, 2, vi 0), (.iload_n 1, 1, 0, 0, vi 0), (.iaload, 0, 0, 0, vi 0), (.invokevirtual 363, 184, 2, 1, vi 0), (.iconst 4, 0, 0, 0, vi 4), (.if_icmp .ne 7, 22, 0, 0, vi 0), (.iconst 1, 0, 0, 0, vi 1), (.goto 4, 23, 0, 0, vi 0), (.iconst 0, 0, 0, 0, vi 0), (.ireturn, 1, 0, 0, vi 0)]
def am_b207 : List Nat := [0, 1, 2, 5, 8, 9, 10, 13, 14, 15, 18, 19, 22, 23, 24, 27, 28, 29, 32, 33, 36, 37, 40, 41]
/-- WordEachModel.means(II)I -/
def am_c208 : List mo := [(.aload_n 0, 0, 0, 0, vi 0), (.invokevirtual 435, 201, 1, 1, vi 0), (.ifCond .eq 45, 28, 0, 0, vi 0), (.iload_n 1, 1, 0, 0, vi 0), (.i2l, 0, 0, 0, vi 0), (.lconst 0, 0, 0, 0, vl 0), (.aload_n 0, 0, 0, 0, vi 0), (.getfield 372, 12, 50, 0, vi 0), (.iconst 1, 0, 0, 0, vi 1), (.isub, 0, 0, 0, vi 0), (.i2l, 0, 0, 0, vi 0), (.invokestatic 252, 171, 3, 1, vi 0), (.ifCond .eq 29, 28, 0, 0, vi 0), (.iload_n 2, 2, 0, 0, vi 0), (.i2l, 0, 0, 0, vi 0), (.lconst 0, 0, 0, 0, vl 0), (.ldc2_w 438, 0, 0, 0, vl 5), (.invokestatic 252, 171, 3, 1, vi 0), (.ifCond .eq 17, 28, 0, 0, vi 0), (.aload_n 0, 0, 0, 0, vi 0), (.getfield 115, 12, 49, 2, vi 0), (.bipush 6, 0, 0, 0, vi 6), (.iload_n 1, 1, 0, 0, vi 0), (.imul, 0, 0, 0, vi 0), (.iload_n 2, 2, 0, 0, vi 0), (.iadd, 0, 0, 0, vi 0), (.iaload, 0, 0, 0, vi 0), (.goto 4, 29, 0, 0, vi 0), (.iconst (-1), 0, 0, 0, vi (-1)), (.ireturn, 0, 0, 0, vi 0)]
def am_b208 : List Nat := [0, 1, 4, 7, 8, 9, 10, 11, 14, 15, 16, 17, 20, 23, 24, 25, 26, 29, 32, 35, 36, 39, 41, 42, 43, 44, 45, 46, 49, 50]
/-- WordEachModel.exact(I)I -/
def am_c209 : List mo := [(.iload_n 1, 1, 0, 0, vi 0), (.i2l, 0, 0, 0, vi 0), (.lconst 0, 0, 0, 0, vl 0), (.ldc2_w 420, 0, 0, 0, vl 2), (.invokestatic 252, 171, 3, 1, vi 0), (.ifCond .eq 26, 17, 0, 0, vi 0), (.aload_n 0, 0, 0, 0, vi 0), (.invokevirtual 435, 201, 1, 1, vi 0), (.ifCond .eq 19, 17, 0, 0, vi 0), (.aload_n 0, 0, 0, 0, vi 0), (.iload_n 1, 1, 0, 0, vi 0), (.invokevirtual 394, 210, 2, 1, vi 0), (.ifCond .eq 7, 15, 0, 0, vi 0), (.iconst 1, 0, 0, 0, vi 1), (.goto 8, 18, 0, 0, vi 0), (.iconst 0, 0, 0, 0, vi 0), (.goto 4, 18, 0, 0, vi 0), (.iconst (-1), 0, 0, 0, vi (-1)), (.ireturn, 0, 0, 0, vi 0)]
def am_b209 : List Nat := [0, 1, 2, 3, 6, 9, 12, 13, 16, 19, 20, 21, 24, 27, 28, 31, 32, 35, 36]
/-- WordEachModel.isAllSo(I)Z -/
def am_c210 : List mo := [(.aload_n 0, 0, 0, 0, vi 0), (.iconst 0, 0, 0, 0, vi 0), (.iload_n 1, 1, 0, 0, vi 0), (.invokevirtual 387, 211, 3, 1, vi 0), (.istore_n 2, 2, 0, 0, vi 0), (.iconst 1, 0, 0, 0, vi 1), (.istore_n 3, 3, 0, 0, vi 0), (.iload_n 3, 3, 0, 0, vi 0), (.aload_n 0, 0, 0, 0, vi 0), (.getfield 372, 12, 50, 0, vi 0), (.if_icmp .ge 64, 45, 0, 0, vi 0), (.aload_n 0, 0, 0, 0, vi 0), (.getfield 115, 12, 49, 2, vi 0), (.bipush 6, 0, 0, 0, vi 6), (.iload_n 3, 3, 0, 0, vi 0), (.imul, 0, 0, 0, vi 0), (.iconst 5, 0, 0, 0, vi 5), (.iadd, 0, 0, 0, vi 0), (.iaload, 0, 0, 0, vi 0), (.iconst 3, 0, 0, 0, vi 3), (.if_icmp .ne 24, 32, 0, 0, vi 0), (.iload_n 2, 2, 0, 0, vi 0), (.ifCond .eq 16, 30, 0, 0, vi 0), (.aload_n 0, 0, 0, 0, vi 0), (.iload_n 3, 3, 0, 0, vi 0), (.iload_n 1, 1, 0, 0, vi 0), (.invokevirtual 387, 211, 3, 1, vi 0), (.ifCond .eq 7, 30, 0, 0, vi 0), (.iconst 1, 0, 0, 0, vi 1), (.goto 25, 42, 0, 0, vi 0), (.iconst 0, 0, 0, 0, vi 0), (.goto 21, 42, 0, 0, vi 0), (.iload_n 2, 2, 0, 0, vi 0), (.ifCond .ne 12, 39, 0, 0, vi 0), (.aload_n 0, 0, 0, 0, vi 0), (.iload_n 3, 3, 0, 0, vi 0), (.iload_n 1, 1, 0, 0, vi 0), (.invokevirtual 387, 211, 3, 1, vi 0), (.ifCond .eq 7, 41, 0, 0, vi 0), (.iconst 1, 0, 0, 0, vi 1), (.goto 4, 42, 0, 0, vi 0), (.iconst 0, 0, 0, 0, vi 0), (.istore_n 2, 2, 0, 0, vi 0), (.iinc 3 1, 3, 0, 0, vi 1), (.goto (-66), 7, 0, 0, vi 0), (.iload_n 2, 2, 0, 0, vi 0), (.ireturn, 1, 0, 0, vi 0)]
def am_b210 : List Nat := [0, 1, 2, 3, 6, 7, 8, 9, 10, 11, 14, 17, 18, 21, 23, 24, 25, 26, 27, 28, 29, 32, 33, 36, 37, 38, 39, 42, 45, 46, 49, 50, 53, 54, 57, 58, 59, 60, 63, 66, 67, 70, 71, 72, 75, 78, 79]
/-- WordEachModel.isSo(II)Z -/
def am_c211 : List mo := [(.bipush 6, 0, 0, 0, vi 6), (.iload_n 1, 1, 0, 0, vi 0), (.imul, 0, 0, 0, vi 0), (.istore_n 3, 3, 0, 0, vi 0), (.aload_n 0, 0, 0, 0, vi 0), (.invokevirtual 381, 180, 1, 1, vi 0), (.iconst (-1), 0, 0, 0, vi (-1)), (.if_icmp .eq 37, 28, 0, 0, vi 0), (.aload_n 0, 0, 0, 0, vi 0), (.getfield 115, 12, 49, 2, vi 0), (.iload_n 3, 3, 0, 0, vi 0), (.iaload, 0, 0, 0, vi 0), (.aload_n 0, 0, 0, 0, vi 0), (.invokevirtual 381, 180, 1, 1, vi 0), (.if_icmp .ne 24, 28, 0, 0, vi 0), (.aload_n 0, 0, 0, 0, vi 0), (.getfield 115, 12, 49, 2, vi 0), (.iload_n 3, 3, 0, 0, vi 0), (.iconst 1, 0, 0, 0, vi 1), (.iadd, 0, 0, 0, vi 0), (.iaload, 0, 0, 0, vi 0), (.aload_n 0, 0, 0, 0, vi 0), (.getfield 97, 12, 36, 2, vi 0), (.iconst 3, 0, 0, 0, vi 3), (.iaload, 0, 0, 0, vi 0), (.if_icmp .ne 7, 28, 0, 0, vi 0), (.iconst 1, 0, 0, 0, vi 1), (.goto 4, 29, 0, 0, vi 0), (.iconst 0, 0, 0, 0, vi 0), (.istore 4, 4, 0, 0, vi 0), (.iload_n 2, 2, 0, 0, vi 0), (.ifCond .le 21, 41, 0, 0, vi 0), (.iload 4, 4, 0, 0, vi 0), (.ifCond .eq 16, 41, 0, 0, vi 0), (.iload_n 2, 2, 0, 0, vi 0), (.iconst 1, 0, 0, 0, vi 1), (.if_icmp .ne 7, 39, 0, 0, vi 0), (.iconst 1, 0, 0, 0, vi 1), (.goto 33, 59, 0, 0, vi 0), (.iconst 0, 0, 0, 0, vi 0), (.goto 29, 59, 0, 0, vi 0), (.aload_n 0, 0, 0, 0, vi 0), (.aload_n 0, 0, 0, 0, vi 0), (.getfield 115, 12, 49, 2, vi 0), (.iload_n 3, 3, 0, 0, vi 0), (.iaload, 0, 0, 0, vi 0), (.aload_n 0, 0, 0, 0, vi 0), (.getfield 115, 12, 49, 2, vi 0), (.iload_n 3, 3, 0, 0, vi 0), (.iconst 1, 0, 0, 0, vi 1), (.iadd, 0, 0, 0, vi 0), (.iaload, 0, 0, 0, vi 0), (.aload_n 0, 0, 0, 0, vi 0), (.getfield 115, 12, 49, 2, vi 0), (.iload_n 3, 3, 0, 0, vi 0), (.iconst 2, 0, 0, 0, vi 2), (.iadd, 0, 0, 0, vi 0), (.iaload, 0, 0, 0, vi 0), (.invokevirtual 384, 212, 4, 1, vi 0), (.istore 5, 5, 0, 0, vi 0), (.aload_n 0, 0, 0, 0, vi 0), (.getfield 115, 12, 49, 2, vi 0), (.iload_n 3, 3, 0, 0, vi 0), (.iconst 3, 0, 0, 0, vi 3), (.iadd, 0, 0, 0, vi 0), (.iaload, 0, 0, 0, vi 0), (.iconst 2, 0, 0, 0, vi 2), (.irem, 0, 0, 0, vi 0), (.ifCond .ne 8, 71, 0, 0, vi 0), (.iload 5, 5, 0, 0, vi 0), (.goto 13, 76, 0, 0, vi 0), (.iload 5, 5, 0, 0, vi 0), (.ifCond .ne 7, 75, 0, 0, vi 0), (.iconst 1, 0, 0, 0, vi 1), (.goto 4, 76, 0, 0, vi 0), (.iconst 0, 0, 0, 0, vi 0), (.ireturn, 1, 0, 0, vi 0)]
def am_b211 : List Nat := [0, 2, 3, 4, 5, 6, 9, 10, 13, 14, 17, 18, 19, 20, 23, 26, 27, 30, 31, 32, 33, 34, 35, 38, 39, 40, 43, 44, 47, 48, 50, 51, 54, 56, 59, 60, 61, 64, 65, 68, 69, 72, 73, 74, 77, 78, 79, 80, 83, 84, 85, 86, 87, 88, 91, 92, 93, 94, 95, 98, 100, 101, 104, 105, 106, 107, 108, 109, 110, 113, 115, 118, 120, 123, 124, 127, 128]
/-- WordEachModel.isFact(III)Z -/
def am_c212 : List mo := [(.bipush 48, 0, 0, 0, vi 48), (.istore 4, 4, 0, 0, vi 0), (.iload 4, 4, 0, 0, vi 0), (.bipush 48, 0, 0, 0, vi 48), (.iconst 3, 0, 0, 0, vi 3), (.aload_n 0, 0, 0, 0, vi 0), (.getfield 72, 12, 28, 2, vi 0), (.bipush 7, 0, 0, 0, vi 7), (.iaload, 0, 0, 0, vi 0), (.imul, 0, 0, 0, vi 0), (.iadd, 0, 0, 0, vi 0), (.if_icmp .ge 53, 41, 0, 0, vi 0), (.aload_n 0, 0, 0, 0, vi 0), (.getfield 88, 12, 33, 2, vi 0), (.iload 4, 4, 0, 0, vi 0), (.iaload, 0, 0, 0, vi 0), (.iload_n 1, 1, 0, 0, vi 0), (.if_icmp .ne 36, 39, 0, 0, vi 0), (.aload_n 0, 0, 0, 0, vi 0), (.getfield 88, 12, 33, 2, vi 0), (.iload 4, 4, 0, 0, vi 0), (.iconst 1, 0, 0, 0, vi 1), (.iadd, 0, 0, 0, vi 0), (.iaload, 0, 0, 0, vi 0), (.iload_n 2, 2, 0, 0, vi 0), (.if_icmp .ne 23, 39, 0, 0, vi 0), (.iload_n 3, 3, 0, 0, vi 0), (.iconst (-1), 0, 0, 0, vi (-1)), (.if_icmp .eq 16, 37, 0, 0, vi 0), (.aload_n 0, 0, 0, 0, vi 0), (.getfield 88, 12, 33, 2, vi 0), (.iload 4, 4, 0, 0, vi 0), (.iconst 2, 0, 0, 0, vi 2), (.iadd, 0, 0, 0, vi 0), (.iaload, 0, 0, 0, vi 0), (.iload_n 3, 3, 0, 0, vi 0), (.if_icmp .ne 5, 39, 0, 0, vi 0), (.iconst 1, 0, 0, 0, vi 1), (.ireturn, 1, 0, 0, vi 0), (.iinc 4 3, 4, 0, 0, vi 3), (.goto (-64), 2, 0, 0, vi 0), (.iconst 0, 0, 0, 0, vi 0), (.ireturn, 1, 0, 0, vi 0)]
def am_b212 : List Nat := [0, 2, 4, 6, 8, 9, 10, 13, 15, 16, 17, 18, 21, 22, 25, 27, 28, 29, 32, 33, 36, 38, 39, 40, 41, 42, 45, 46, 47, 50, 51, 54, 56, 57, 58, 59, 60, 63, 64, 65, 68, 71, 72]
/-- WordEachModel.ruling(I)I -/
def am_c213 : List mo := [(.iload_n 1, 1, 0, 0, vi 0), (.tableswitch 54 0 2 #[27, 32, 37], 9, 0, 0, vi 0), (.aload_n 0, 0, 0, 0, vi 0), (.invokevirtual 443, 214, 1, 1, vi 0), (.ireturn, 0, 0, 0, vi 0), (.aload_n 0, 0, 0, 0, vi 0), (.invokevirtual 446, 216, 1, 1, vi 0), (.ireturn, 0, 0, 0, vi 0), (.aload_n 0, 0, 0, 0, vi 0), (.invokevirtual 443, 214, 1, 1, vi 0), (.aload_n 0, 0, 0, 0, vi 0), (.invokevirtual 446, 216, 1, 1, vi 0), (.if_icmp .ne 7, 15, 0, 0, vi 0), (.iconst 1, 0, 0, 0, vi 1), (.goto 4, 16, 0, 0, vi 0), (.iconst 0, 0, 0, 0, vi 0), (.ireturn, 0, 0, 0, vi 0), (.iconst (-1), 0, 0, 0, vi (-1)), (.ireturn, 0, 0, 0, vi 0)]
def am_b213 : List Nat := [0, 1, 28, 29, 32, 33, 34, 37, 38, 39, 42, 43, 46, 49, 50, 53, 54, 55, 56]
/-- WordEachModel.rulesRow()I -/
def am_c214 : List mo := [(.aload_n 0, 0, 0, 0, vi 0), (.iconst (-1), 0, 0, 0, vi (-1)), (.invokevirtual 432, 202, 2, 0, vi 0), (.aload_n 0, 0, 0, 0, vi 0), (.invokevirtual 440, 215, 1, 1, vi 0), (.ireturn, 0, 0, 0, vi 0)]
def am_b214 : List Nat := [0, 1, 2, 5, 6, 9]
/-- WordEachModel.rules()I -/
def am_c215 : List mo := [(.aload_n 0, 0, 0, 0, vi 0), (.invokevirtual 381, 180, 1, 1, vi 0), (.iconst (-1), 0, 0, 0, vi (-1)), (.if_icmp .eq 10, 7, 0, 0, vi 0), (.aload_n 0, 0, 0, 0, vi 0), (.invokevirtual 391, 204, 1, 1, vi 0), (.ifCond .ne 5, 9, 0, 0, vi 0), (.iconst 0, 0, 0, 0, vi 0), (.ireturn, 0, 0, 0, vi 0), (.aload_n 0, 0, 0, 0, vi 0), (.iconst 1, 0, 0, 0, vi 1), (.invokevirtual 394, 210, 2, 1, vi 0), (.istore_n 1, 1, 0, 0, vi 0), (.aload_n 0, 0, 0, 0, vi 0), (.iconst 2, 0, 0, 0, vi 2), (.invokevirtual 394, 210, 2, 1, vi 0), (.istore_n 2, 2, 0, 0, vi 0), (.iload_n 1, 1, 0, 0, vi 0), (.ifCond .eq 11, 23, 0, 0, vi 0), (.iload_n 2, 2, 0, 0, vi 0), (.ifCond .ne 7, 23, 0, 0, vi 0), (.iconst 1, 0, 0, 0, vi 1), (.goto 16, 30, 0, 0, vi 0), (.iload_n 2, 2, 0, 0, vi 0), (.ifCond .eq 11, 29, 0, 0, vi 0), (.iload_n 1, 1, 0, 0, vi 0), (.ifCond .ne 7, 29, 0, 0, vi 0), (.iconst 2, 0, 0, 0, vi 2), (.goto 4, 30, 0, 0, vi 0), (.iconst 0, 0, 0, 0, vi 0), (.ireturn, 0, 0, 0, vi 0)]
def am_b215 : List Nat := [0, 1, 4, 5, 8, 9, 12, 15, 16, 17, 18, 19, 22, 23, 24, 25, 28, 29, 30, 33, 34, 37, 38, 41, 42, 45, 46, 49, 50, 53, 54]
/-- WordEachModel.truth()I -/
def am_c216 : List mo := [(.aload_n 0, 0, 0, 0, vi 0), (.invokevirtual 381, 180, 1, 1, vi 0), (.iconst (-1), 0, 0, 0, vi (-1)), (.if_icmp .ne 7, 6, 0, 0, vi 0), (.iconst 0, 0, 0, 0, vi 0), (.goto 28, 21, 0, 0, vi 0), (.aload_n 0, 0, 0, 0, vi 0), (.aload_n 0, 0, 0, 0, vi 0), (.getfield 97, 12, 36, 2, vi 0), (.iconst 2, 0, 0, 0, vi 2), (.iaload, 0, 0, 0, vi 0), (.aload_n 0, 0, 0, 0, vi 0), (.getfield 97, 12, 36, 2, vi 0), (.iconst 3, 0, 0, 0, vi 3), (.iaload, 0, 0, 0, vi 0), (.iconst (-1), 0, 0, 0, vi (-1)), (.invokevirtual 384, 212, 4, 1, vi 0), (.ifCond .eq 7, 20, 0, 0, vi 0), (.iconst 1, 0, 0, 0, vi 1), (.goto 4, 21, 0, 0, vi 0), (.iconst 2, 0, 0, 0, vi 2), (.ireturn, 0, 0, 0, vi 0)]
def am_b216 : List Nat := [0, 1, 4, 5, 8, 9, 12, 13, 14, 17, 18, 19, 20, 23, 24, 25, 26, 29, 32, 33, 36, 37]
/-- WordEachModel.instance(II)I -/
def am_c217 : List mo := [(.iload_n 1, 1, 0, 0, vi 0), (.i2l, 0, 0, 0, vi 0), (.lconst 0, 0, 0, 0, vl 0), (.aload_n 0, 0, 0, 0, vi 0), (.invokevirtual 452, 218, 1, 1, vi 0), (.iconst 1, 0, 0, 0, vi 1), (.isub, 0, 0, 0, vi 0), (.i2l, 0, 0, 0, vi 0), (.invokestatic 252, 171, 3, 1, vi 0), (.ifCond .ne 5, 12, 0, 0, vi 0), (.iconst (-1), 0, 0, 0, vi (-1)), (.ireturn, 0, 0, 0, vi 0), (.iload_n 2, 2, 0, 0, vi 0), (.tableswitch 66 0 2 #[25, 31, 53], 10, 0, 0, vi 0), (.aload_n 0, 0, 0, 0, vi 0), (.iload_n 1, 1, 0, 0, vi 0), (.invokevirtual 455, 219, 2, 1, vi 0), (.ireturn, 0, 0, 0, vi 0), (.aload_n 0, 0, 0, 0, vi 0), (.iload_n 1, 1, 0, 0, vi 0), (.iconst (-1), 0, 0, 0, vi (-1)), (.invokevirtual 449, 220, 3, 0, vi 0), (.aload_n 0, 0, 0, 0, vi 0), (.invokevirtual 391, 204, 1, 1, vi 0), (.ifCond .eq 7, 27, 0, 0, vi 0), (.iconst (-1), 0, 0, 0, vi (-1)), (.goto 7, 29, 0, 0, vi 0), (.aload_n 0, 0, 0, 0, vi 0), (.getfield 375, 12, 48, 0, vi 0), (.ireturn, 0, 0, 0, vi 0), (.aload_n 0, 0, 0, 0, vi 0), (.getfield 94, 12, 35, 2, vi 0), (.bipush 72, 0, 0, 0, vi 72), (.bipush 9, 0, 0, 0, vi 9), (.iload_n 1, 1, 0, 0, vi 0), (.imul, 0, 0, 0, vi 0), (.iadd, 0, 0, 0, vi 0), (.iaload, 0, 0, 0, vi 0), (.ireturn, 0, 0, 0, vi 0), (.iconst (-1), 0, 0, 0, vi (-1)), (.ireturn, 0, 0, 0, vi 0)]
def am_b217 : List Nat := [0, 1, 2, 3, 4, 7, 8, 9, 10, 13, 16, 17, 18, 19, 44, 45, 46, 49, 50, 51, 52, 53, 56, 57, 60, 63, 64, 67, 68, 71, 72, 73, 76, 78, 80, 81, 82, 83, 84, 85, 86]
/-- WordEachModel.caseMany()I -/
def am_c218 : List mo := [(.aload_n 0, 0, 0, 0, vi 0), (.getfield 72, 12, 28, 2, vi 0), (.bipush 9, 0, 0, 0, vi 9), (.iaload, 0, 0, 0, vi 0), (.ireturn, 0, 0, 0, vi 0)]
def am_b218 : List Nat := [0, 1, 4, 6, 7]
/-- WordEachModel.rulesCase(I)I -/
def am_c219 : List mo := [(.aload_n 0, 0, 0, 0, vi 0), (.iload_n 1, 1, 0, 0, vi 0), (.iconst (-1), 0, 0, 0, vi (-1)), (.invokevirtual 449, 220, 3, 0, vi 0), (.aload_n 0, 0, 0, 0, vi 0), (.invokevirtual 440, 215, 1, 1, vi 0), (.ireturn, 0, 0, 0, vi 0)]
def am_b219 : List Nat := [0, 1, 2, 3, 6, 7, 10]
/-- WordEachModel.triesCase(II)V -/
def am_c220 : List mo := [(.bipush 72, 0, 0, 0, vi 72), (.bipush 9, 0, 0, 0, vi 9), (.iload_n 1, 1, 0, 0, vi 0), (.imul, 0, 0, 0, vi 0), (.iadd, 0, 0, 0, vi 0), (.istore_n 3, 3, 0, 0, vi 0), (.aload_n 0, 0, 0, 0, vi 0), (.iconst 0, 0, 0, 0, vi 0), (.putfield 354, 12, 44, 0, vi 0), (.iconst 0, 0, 0, 0, vi 0), (.istore 4, 4, 0, 0, vi 0), (.iload 4, 4, 0, 0, vi 0), (.aload_n 0, 0, 0, 0, vi 0), (.getfield 94, 12, 35, 2, vi 0), (.iload_n 3, 3, 0, 0, vi 0), (.iaload, 0, 0, 0, vi 0), (.if_icmp .ge 30, 32, 0, 0, vi 0), (.iload 4, 4, 0, 0, vi 0), (.iload_n 2, 2, 0, 0, vi 0), (.if_icmp .eq 18, 30, 0, 0, vi 0), (.aload_n 0, 0, 0, 0, vi 0), (.aload_n 0, 0, 0, 0, vi 0), (.getfield 94, 12, 35, 2, vi 0), (.iload_n 3, 3, 0, 0, vi 0), (.iconst 1, 0, 0, 0, vi 1), (.iadd, 0, 0, 0, vi 0), (.iload 4, 4, 0, 0, vi 0), (.iadd, 0, 0, 0, vi 0), (.iaload, 0, 0, 0, vi 0), (.invokevirtual 357, 203, 2, 0, vi 0), (.iinc 4 1, 4, 0, 0, vi 1), (.goto (-35), 11, 0, 0, vi 0), (.return_, 0, 0, 0, vi 0)]
def am_b220 : List Nat := [0, 2, 4, 5, 6, 7, 8, 9, 10, 13, 14, 16, 18, 19, 22, 23, 24, 27, 29, 30, 33, 34, 35, 38, 39, 40, 41, 43, 44, 45, 48, 51, 54]
/-- WordEachModel.plan(IIII)I -/
def am_c221 : List mo := [(.iload_n 1, 1, 0, 0, vi 0), (.i2l, 0, 0, 0, vi 0), (.lconst 1, 0, 0, 0, vl 1), (.ldc2_w 420, 0, 0, 0, vl 2), (.invokestatic 252, 171, 3, 1, vi 0), (.ifCond .eq 35, 22, 0, 0, vi 0), (.iload_n 2, 2, 0, 0, vi 0), (.i2l, 0, 0, 0, vi 0), (.ldc2_w 482, 0, 0, 0, vl (-1)), (.lconst 1, 0, 0, 0, vl 1), (.invokestatic 252, 171, 3, 1, vi 0), (.ifCond .eq 23, 22, 0, 0, vi 0), (.iload_n 3, 3, 0, 0, vi 0), (.i2l, 0, 0, 0, vi 0), (.lconst 0, 0, 0, 0, vl 0), (.ldc2_w 420, 0, 0, 0, vl 2), (.invokestatic 252, 171, 3, 1, vi 0), (.ifCond .eq 11, 22, 0, 0, vi 0), (.aload_n 0, 0, 0, 0, vi 0), (.invokevirtual 381, 180, 1, 1, vi 0), (.iconst (-1), 0, 0, 0, vi (-1)), (.if_icmp .ne 5, 24, 0, 0, vi 0), (.iconst (-1), 0, 0, 0, vi (-1)), (.ireturn, 0, 0, 0, vi 0), (.iconst 1, 0, 0, 0, vi 1), (.istore 5, 5, 0, 0, vi 0), (.iload 5, 5, 0, 0, vi 0), (.iconst 5, 0, 0, 0, vi 5), (.if_icmp .gt 21, 38, 0, 0, vi 0), (.aload_n 0, 0, 0, 0, vi 0), (.iload 5, 5, 0, 0, vi 0), (.iload_n 1, 1, 0, 0, vi 0), (.iload_n 2, 2, 0, 0, vi 0), (.iload_n 3, 3, 0, 0, vi 0), (.invokevirtual 484, 222, 5, 1, vi 0), (.ifCond .ne 9, 38, 0, 0, vi 0), (.iinc 5 1, 5, 0, 0, vi 1), (.goto (-21), 26, 0, 0, vi 0), (.iload 5, 5, 0, 0, vi 0), (.iconst 5, 0, 0, 0, vi 5), (.if_icmp .le 5, 43, 0, 0, vi 0), (.iconst (-1), 0, 0, 0, vi (-1)), (.ireturn, 0, 0, 0, vi 0), (.iload 4, 4, 0, 0, vi 0), (.iconst (-1), 0, 0, 0, vi (-1)), (.if_icmp .ne 6, 48, 0, 0, vi 0), (.iload 5, 5, 0, 0, vi 0), (.ireturn, 0, 0, 0, vi 0), (.iload 4, 4, 0, 0, vi 0), (.i2l, 0, 0, 0, vi 0), (.lconst 0, 0, 0, 0, vl 0), (.iload 5, 5, 0, 0, vi 0), (.iconst 1, 0, 0, 0, vi 1), (.isub, 0, 0, 0, vi 0), (.i2l, 0, 0, 0, vi 0), (.invokestatic 252, 171, 3, 1, vi 0), (.ifCond .eq 13, 64, 0, 0, vi 0), (.aload_n 0, 0, 0, 0, vi 0), (.getfield 121, 12, 52, 2, vi 0), (.iload 4, 4, 0, 0, vi 0), (.iaload, 0, 0, 0, vi 0), (.iconst 4, 0, 0, 0, vi 4), (.idiv, 0, 0, 0, vi 0), (.ireturn, 0, 0, 0, vi 0), (.iload 4, 4, 0, 0, vi 0), (.bipush 10, 0, 0, 0, vi 10), (.isub, 0, 0, 0, vi 0), (.i2l, 0, 0, 0, vi 0), (.lconst 0, 0, 0, 0, vl 0), (.iload 5, 5, 0, 0, vi 0), (.iconst 1, 0, 0, 0, vi 1), (.isub, 0, 0, 0, vi 0), (.i2l, 0, 0, 0, vi 0), (.invokestatic 252, 171, 3, 1, vi 0), (.ifCond .eq 18, 84, 0, 0, vi 0), (.aload_n 0, 0, 0, 0, vi 0), (.getfield 121, 12, 52, 2, vi 0), (.iload 4, 4, 0, 0, vi 0), (.bipush 10, 0, 0, 0, vi 10), (.isub, 0, 0, 0, vi 0), (.iaload, 0, 0, 0, vi 0), (.iconst 4, 0, 0, 0, vi 4), (.irem, 0, 0, 0, vi 0), (.goto 4, 85, 0, 0, vi 0), (.iconst (-1), 0, 0, 0, vi (-1)), (.ireturn, 0, 0, 0, vi 0)]
def am_b221 : List Nat := [0, 1, 2, 3, 6, 9, 12, 13, 14, 17, 18, 21, 24, 25, 26, 27, 30, 33, 36, 37, 40, 41, 44, 45, 46, 47, 49, 51, 52, 55, 56, 58, 59, 60, 61, 64, 67, 70, 73, 75, 76, 79, 80, 81, 83, 84, 87, 89, 90, 92, 93, 94, 96, 97, 98, 99, 102, 105, 106, 109, 111, 112, 113, 114, 115, 117, 119, 120, 121, 122, 124, 125, 126, 127, 130, 133, 134, 137, 139, 141, 142, 143, 144, 145, 148, 149]
/-- WordEachModel.isFound(IIII)Z -/
def am_c222 : List mo := [(.iconst 0, 0, 0, 0, vi 0), (.istore 5, 5, 0, 0, vi 0), (.aload_n 0, 0, 0, 0, vi 0), (.getfield 121, 12, 52, 2, vi 0), (.iconst 0, 0, 0, 0, vi 0), (.iconst (-1), 0, 0, 0, vi (-1)), (.iastore, 0, 0, 0, vi 0), (.iload 5, 5, 0, 0, vi 0), (.ifCond .lt 111, 71, 0, 0, vi 0), (.aload_n 0, 0, 0, 0, vi 0), (.getfield 121, 12, 52, 2, vi 0), (.iload 5, 5, 0, 0, vi 0), (.dup2, 0, 0, 0, vi 0), (.iaload, 0, 0, 0, vi 0), (.iconst 1, 0, 0, 0, vi 1), (.iadd, 0, 0, 0, vi 0), (.iastore, 0, 0, 0, vi 0), (.aload_n 0, 0, 0, 0, vi 0), (.getfield 121, 12, 52, 2, vi 0), (.iload 5, 5, 0, 0, vi 0), (.iaload, 0, 0, 0, vi 0), (.iconst 4, 0, 0, 0, vi 4), (.aload_n 0, 0, 0, 0, vi 0), (.invokevirtual 351, 185, 1, 1, vi 0), (.imul, 0, 0, 0, vi 0), (.if_icmp .ge 27, 40, 0, 0, vi 0), (.aload_n 0, 0, 0, 0, vi 0), (.iload 5, 5, 0, 0, vi 0), (.iload_n 3, 3, 0, 0, vi 0), (.invokevirtual 476, 223, 3, 1, vi 0), (.ifCond .ne 17, 40, 0, 0, vi 0), (.aload_n 0, 0, 0, 0, vi 0), (.getfield 121, 12, 52, 2, vi 0), (.iload 5, 5, 0, 0, vi 0), (.dup2, 0, 0, 0, vi 0), (.iaload, 0, 0, 0, vi 0), (.iconst 1, 0, 0, 0, vi 1), (.iadd, 0, 0, 0, vi 0), (.iastore, 0, 0, 0, vi 0), (.goto (-37), 17, 0, 0, vi 0), (.aload_n 0, 0, 0, 0, vi 0), (.getfield 121, 12, 52, 2, vi 0), (.iload 5, 5, 0, 0, vi 0), (.iaload, 0, 0, 0, vi 0), (.iconst 4, 0, 0, 0, vi 4), (.aload_n 0, 0, 0, 0, vi 0), (.invokevirtual 351, 185, 1, 1, vi 0), (.imul, 0, 0, 0, vi 0), (.if_icmp .lt 9, 51, 0, 0, vi 0), (.iinc 5 (-1), 5, 0, 0, vi (-1)), (.goto (-75), 7, 0, 0, vi 0), (.iload 5, 5, 0, 0, vi 0), (.iload_n 1, 1, 0, 0, vi 0), (.iconst 1, 0, 0, 0, vi 1), (.isub, 0, 0, 0, vi 0), (.if_icmp .ne 16, 64, 0, 0, vi 0), (.aload_n 0, 0, 0, 0, vi 0), (.iload_n 1, 1, 0, 0, vi 0), (.iload_n 2, 2, 0, 0, vi 0), (.iload 4, 4, 0, 0, vi 0), (.invokevirtual 479, 225, 4, 1, vi 0), (.ifCond .eq (-94), 7, 0, 0, vi 0), (.iconst 1, 0, 0, 0, vi 1), (.ireturn, 1, 0, 0, vi 0), (.iinc 5 1, 5, 0, 0, vi 1), (.aload_n 0, 0, 0, 0, vi 0), (.getfield 121, 12, 52, 2, vi 0), (.iload 5, 5, 0, 0, vi 0), (.iconst (-1), 0, 0, 0, vi (-1)), (.iastore, 0, 0, 0, vi 0), (.goto (-110), 7, 0, 0, vi 0), (.iconst 0, 0, 0, 0, vi 0), (.ireturn, 1, 0, 0, vi 0)]
def am_b222 : List Nat := [0, 1, 3, 4, 7, 8, 9, 10, 12, 15, 16, 19, 21, 22, 23, 24, 25, 26, 27, 30, 32, 33, 34, 35, 38, 39, 42, 43, 45, 46, 49, 52, 53, 56, 58, 59, 60, 61, 62, 63, 66, 67, 70, 72, 73, 74, 75, 78, 79, 82, 85, 88, 90, 91, 92, 93, 96, 97, 98, 99, 101, 104, 107, 108, 109, 112, 113, 116, 118, 119, 120, 123, 124]
/-- WordEachModel.canChoose(II)Z -/
def am_c223 : List mo := [(.aload_n 0, 0, 0, 0, vi 0), (.getfield 121, 12, 52, 2, vi 0), (.iload_n 1, 1, 0, 0, vi 0), (.iaload, 0, 0, 0, vi 0), (.iconst 4, 0, 0, 0, vi 4), (.idiv, 0, 0, 0, vi 0), (.istore_n 3, 3, 0, 0, vi 0), (.aload_n 0, 0, 0, 0, vi 0), (.getfield 121, 12, 52, 2, vi 0), (.iload_n 1, 1, 0, 0, vi 0), (.iaload, 0, 0, 0, vi 0), (.iconst 4, 0, 0, 0, vi 4), (.irem, 0, 0, 0, vi 0), (.aload_n 0, 0, 0, 0, vi 0), (.iload_n 3, 3, 0, 0, vi 0), (.invokevirtual 397, 187, 2, 1, vi 0), (.if_icmp .ge 17, 25, 0, 0, vi 0), (.iload_n 2, 2, 0, 0, vi 0), (.iconst (-1), 0, 0, 0, vi (-1)), (.if_icmp .eq 14, 27, 0, 0, vi 0), (.aload_n 0, 0, 0, 0, vi 0), (.iload_n 3, 3, 0, 0, vi 0), (.invokevirtual 458, 224, 2, 1, vi 0), (.iload_n 2, 2, 0, 0, vi 0), (.if_icmp .eq 5, 27, 0, 0, vi 0), (.iconst 0, 0, 0, 0, vi 0), (.ireturn, 1, 0, 0, vi 0), (.iconst 0, 0, 0, 0, vi 0), (.istore 4, 4, 0, 0, vi 0), (.iload 4, 4, 0, 0, vi 0), (.iload_n 1, 1, 0, 0, vi 0), (.if_icmp .ge 24, 44, 0, 0, vi 0), (.aload_n 0, 0, 0, 0, vi 0), (.getfield 121, 12, 52, 2, vi 0), (.iload 4, 4, 0, 0, vi 0), (.iaload, 0, 0, 0, vi 0), (.iconst 4, 0, 0, 0, vi 4), (.idiv, 0, 0, 0, vi 0), (.iload_n 3, 3, 0, 0, vi 0), (.if_icmp .ne 5, 42, 0, 0, vi 0), (.iconst 0, 0, 0, 0, vi 0), (.ireturn, 1, 0, 0, vi 0), (.iinc 4 1, 4, 0, 0, vi 1), (.goto (-24), 29, 0, 0, vi 0), (.iconst 1, 0, 0, 0, vi 1), (.ireturn, 1, 0, 0, vi 0)]
def am_b223 : List Nat := [0, 1, 4, 5, 6, 7, 8, 9, 10, 13, 14, 15, 16, 17, 18, 19, 22, 25, 26, 27, 30, 31, 32, 35, 36, 39, 40, 41, 42, 44, 46, 47, 50, 51, 54, 56, 57, 58, 59, 60, 63, 64, 65, 68, 71, 72]
/-- WordEachModel.sideOf(I)I -/
def am_c224 : List mo := [(.aload_n 0, 0, 0, 0, vi 0), (.getfield 91, 12, 34, 2, vi 0), (.bipush 49, 0, 0, 0, vi 49), (.bipush 7, 0, 0, 0, vi 7), (.iload_n 1, 1, 0, 0, vi 0), (.imul, 0, 0, 0, vi 0), (.iadd, 0, 0, 0, vi 0), (.iconst 1, 0, 0, 0, vi 1), (.iadd, 0, 0, 0, vi 0), (.iaload, 0, 0, 0, vi 0), (.ireturn, 0, 0, 0, vi 0)]
def am_b224 : List Nat := [0, 1, 4, 6, 8, 9, 10, 11, 12, 13, 14]
/-- WordEachModel.isPlan(III)Z -/
def am_c225 : List mo := [(.aload_n 0, 0, 0, 0, vi 0), (.iload_n 1, 1, 0, 0, vi 0), (.invokevirtual 461, 226, 2, 0, vi 0), (.aload_n 0, 0, 0, 0, vi 0), (.invokevirtual 440, 215, 1, 1, vi 0), (.iload_n 2, 2, 0, 0, vi 0), (.if_icmp .eq 5, 9, 0, 0, vi 0), (.iconst 0, 0, 0, 0, vi 0), (.ireturn, 1, 0, 0, vi 0), (.iload_n 3, 3, 0, 0, vi 0), (.ifCond .eq 29, 25, 0, 0, vi 0), (.iload_n 3, 3, 0, 0, vi 0), (.iconst 1, 0, 0, 0, vi 1), (.if_icmp .ne 15, 20, 0, 0, vi 0), (.aload_n 0, 0, 0, 0, vi 0), (.iload_n 1, 1, 0, 0, vi 0), (.iload_n 2, 2, 0, 0, vi 0), (.invokevirtual 470, 227, 3, 1, vi 0), (.ifCond .eq 19, 27, 0, 0, vi 0), (.goto 12, 25, 0, 0, vi 0), (.aload_n 0, 0, 0, 0, vi 0), (.iload_n 1, 1, 0, 0, vi 0), (.iload_n 2, 2, 0, 0, vi 0), (.invokevirtual 473, 229, 3, 1, vi 0), (.ifCond .eq 7, 27, 0, 0, vi 0), (.iconst 1, 0, 0, 0, vi 1), (.goto 4, 28, 0, 0, vi 0), (.iconst 0, 0, 0, 0, vi 0), (.ireturn, 1, 0, 0, vi 0)]
def am_b225 : List Nat := [0, 1, 2, 5, 6, 9, 10, 13, 14, 15, 16, 19, 20, 21, 24, 25, 26, 27, 30, 33, 36, 37, 38, 39, 42, 45, 46, 49, 50]
/-- WordEachModel.triesChoices(I)V -/
def am_c226 : List mo := [(.aload_n 0, 0, 0, 0, vi 0), (.iconst 0, 0, 0, 0, vi 0), (.putfield 354, 12, 44, 0, vi 0), (.iconst 0, 0, 0, 0, vi 0), (.istore_n 2, 2, 0, 0, vi 0), (.iload_n 2, 2, 0, 0, vi 0), (.iload_n 1, 1, 0, 0, vi 0), (.if_icmp .ge 33, 26, 0, 0, vi 0), (.aload_n 0, 0, 0, 0, vi 0), (.aload_n 0, 0, 0, 0, vi 0), (.aload_n 0, 0, 0, 0, vi 0), (.getfield 121, 12, 52, 2, vi 0), (.iload_n 2, 2, 0, 0, vi 0), (.iaload, 0, 0, 0, vi 0), (.iconst 4, 0, 0, 0, vi 4), (.idiv, 0, 0, 0, vi 0), (.aload_n 0, 0, 0, 0, vi 0), (.getfield 121, 12, 52, 2, vi 0), (.iload_n 2, 2, 0, 0, vi 0), (.iaload, 0, 0, 0, vi 0), (.iconst 4, 0, 0, 0, vi 4), (.irem, 0, 0, 0, vi 0), (.invokevirtual 400, 188, 3, 1, vi 0), (.invokevirtual 357, 203, 2, 0, vi 0), (.iinc 2 1, 2, 0, 0, vi 1), (.goto (-32), 5, 0, 0, vi 0), (.return_, 0, 0, 0, vi 0)]
def am_b226 : List Nat := [0, 1, 2, 5, 6, 7, 8, 9, 12, 13, 14, 15, 18, 19, 20, 21, 22, 23, 26, 27, 28, 29, 30, 33, 36, 39, 42]
/-- WordEachModel.isStandingPlan(II)Z -/
def am_c227 : List mo := [(.iconst 0, 0, 0, 0, vi 0), (.istore_n 3, 3, 0, 0, vi 0), (.iload_n 3, 3, 0, 0, vi 0), (.iload_n 1, 1, 0, 0, vi 0), (.if_icmp .ge 29, 19, 0, 0, vi 0), (.aload_n 0, 0, 0, 0, vi 0), (.iload_n 1, 1, 0, 0, vi 0), (.invokevirtual 461, 226, 2, 0, vi 0), (.aload_n 0, 0, 0, 0, vi 0), (.iload_n 3, 3, 0, 0, vi 0), (.invokevirtual 464, 228, 2, 0, vi 0), (.aload_n 0, 0, 0, 0, vi 0), (.invokevirtual 440, 215, 1, 1, vi 0), (.iload_n 2, 2, 0, 0, vi 0), (.if_icmp .eq 5, 17, 0, 0, vi 0), (.iconst 0, 0, 0, 0, vi 0), (.ireturn, 1, 0, 0, vi 0), (.iinc 3 1, 3, 0, 0, vi 1), (.goto (-28), 2, 0, 0, vi 0), (.iload_n 1, 1, 0, 0, vi 0), (.iconst 1, 0, 0, 0, vi 1), (.if_icmp .le 7, 24, 0, 0, vi 0), (.iconst 1, 0, 0, 0, vi 1), (.goto 4, 25, 0, 0, vi 0), (.iconst 0, 0, 0, 0, vi 0), (.ireturn, 1, 0, 0, vi 0)]
def am_b227 : List Nat := [0, 1, 2, 3, 4, 7, 8, 9, 12, 13, 14, 17, 18, 21, 22, 25, 26, 27, 30, 33, 34, 35, 38, 39, 42, 43]
/-- WordEachModel.takesOut(I)V -/
def am_c228 : List mo := [(.aload_n 0, 0, 0, 0, vi 0), (.dup, 0, 0, 0, vi 0), (.getfield 354, 12, 44, 0, vi 0), (.iconst 1, 0, 0, 0, vi 1), (.isub, 0, 0, 0, vi 0), (.putfield 354, 12, 44, 0, vi 0), (.iload_n 1, 1, 0, 0, vi 0), (.istore_n 2, 2, 0, 0, vi 0), (.iload_n 2, 2, 0, 0, vi 0), (.aload_n 0, 0, 0, 0, vi 0), (.getfield 354, 12, 44, 0, vi 0), (.if_icmp .ge 23, 24, 0, 0, vi 0), (.aload_n 0, 0, 0, 0, vi 0), (.getfield 106, 12, 43, 2, vi 0), (.iload_n 2, 2, 0, 0, vi 0), (.aload_n 0, 0, 0, 0, vi 0), (.getfield 106, 12, 43, 2, vi 0), (.iload_n 2, 2, 0, 0, vi 0), (.iconst 1, 0, 0, 0, vi 1), (.iadd, 0, 0, 0, vi 0), (.iaload, 0, 0, 0, vi 0), (.iastore, 0, 0, 0, vi 0), (.iinc 2 1, 2, 0, 0, vi 1), (.goto (-25), 8, 0, 0, vi 0), (.return_, 0, 0, 0, vi 0)]
def am_b228 : List Nat := [0, 1, 2, 5, 6, 7, 10, 11, 12, 13, 14, 17, 20, 21, 24, 25, 26, 29, 30, 31, 32, 33, 34, 37, 40]
/-- WordEachModel.isFirm(II)Z -/
def am_c229 : List mo := [(.iconst 0, 0, 0, 0, vi 0), (.istore_n 3, 3, 0, 0, vi 0), (.iload_n 3, 3, 0, 0, vi 0), (.iload_n 1, 1, 0, 0, vi 0), (.if_icmp .gt 49, 28, 0, 0, vi 0), (.iconst 0, 0, 0, 0, vi 0), (.istore 4, 4, 0, 0, vi 0), (.iload 4, 4, 0, 0, vi 0), (.aload_n 0, 0, 0, 0, vi 0), (.invokevirtual 348, 183, 1, 1, vi 0), (.if_icmp .ge 31, 26, 0, 0, vi 0), (.aload_n 0, 0, 0, 0, vi 0), (.iload_n 1, 1, 0, 0, vi 0), (.invokevirtual 461, 226, 2, 0, vi 0), (.aload_n 0, 0, 0, 0, vi 0), (.iload_n 3, 3, 0, 0, vi 0), (.iload 4, 4, 0, 0, vi 0), (.invokevirtual 467, 230, 3, 0, vi 0), (.aload_n 0, 0, 0, 0, vi 0), (.invokevirtual 440, 215, 1, 1, vi 0), (.iload_n 2, 2, 0, 0, vi 0), (.if_icmp .eq 5, 24, 0, 0, vi 0), (.iconst 0, 0, 0, 0, vi 0), (.ireturn, 1, 0, 0, vi 0), (.iinc 4 1, 4, 0, 0, vi 1), (.goto (-34), 7, 0, 0, vi 0), (.iinc 3 1, 3, 0, 0, vi 1), (.goto (-48), 2, 0, 0, vi 0), (.iconst 1, 0, 0, 0, vi 1), (.ireturn, 1, 0, 0, vi 0)]
def am_b229 : List Nat := [0, 1, 2, 3, 4, 7, 8, 10, 12, 13, 16, 19, 20, 21, 24, 25, 26, 28, 31, 32, 35, 36, 39, 40, 41, 44, 47, 50, 53, 54]
/-- WordEachModel.putsIn(II)V -/
def am_c230 : List mo := [(.aload_n 0, 0, 0, 0, vi 0), (.getfield 354, 12, 44, 0, vi 0), (.istore_n 3, 3, 0, 0, vi 0), (.iload_n 3, 3, 0, 0, vi 0), (.iload_n 1, 1, 0, 0, vi 0), (.if_icmp .le 23, 18, 0, 0, vi 0), (.aload_n 0, 0, 0, 0, vi 0), (.getfield 106, 12, 43, 2, vi 0), (.iload_n 3, 3, 0, 0, vi 0), (.aload_n 0, 0, 0, 0, vi 0), (.getfield 106, 12, 43, 2, vi 0), (.iload_n 3, 3, 0, 0, vi 0), (.iconst 1, 0, 0, 0, vi 1), (.isub, 0, 0, 0, vi 0), (.iaload, 0, 0, 0, vi 0), (.iastore, 0, 0, 0, vi 0), (.iinc 3 (-1), 3, 0, 0, vi (-1)), (.goto (-22), 3, 0, 0, vi 0), (.aload_n 0, 0, 0, 0, vi 0), (.getfield 106, 12, 43, 2, vi 0), (.iload_n 1, 1, 0, 0, vi 0), (.iload_n 2, 2, 0, 0, vi 0), (.iastore, 0, 0, 0, vi 0), (.aload_n 0, 0, 0, 0, vi 0), (.dup, 0, 0, 0, vi 0), (.getfield 354, 12, 44, 0, vi 0), (.iconst 1, 0, 0, 0, vi 1), (.iadd, 0, 0, 0, vi 0), (.putfield 354, 12, 44, 0, vi 0), (.return_, 0, 0, 0, vi 0)]
def am_b230 : List Nat := [0, 1, 4, 5, 6, 7, 10, 11, 14, 15, 16, 19, 20, 21, 22, 23, 24, 27, 30, 31, 34, 35, 36, 37, 38, 39, 42, 43, 44, 47]
/-- WordEachModel.all(I)I -/
def am_c231 : List mo := [(.iload_n 1, 1, 0, 0, vi 0), (.i2l, 0, 0, 0, vi 0), (.lconst 0, 0, 0, 0, vl 0), (.ldc2_w 420, 0, 0, 0, vl 2), (.invokestatic 252, 171, 3, 1, vi 0), (.ifCond .ne 5, 8, 0, 0, vi 0), (.iconst (-1), 0, 0, 0, vi (-1)), (.ireturn, 0, 0, 0, vi 0), (.aload_n 0, 0, 0, 0, vi 0), (.invokevirtual 443, 214, 1, 1, vi 0), (.istore_n 2, 2, 0, 0, vi 0), (.iconst 0, 0, 0, 0, vi 0), (.istore_n 3, 3, 0, 0, vi 0), (.iconst 0, 0, 0, 0, vi 0), (.istore 4, 4, 0, 0, vi 0), (.iconst 0, 0, 0, 0, vi 0), (.istore 5, 5, 0, 0, vi 0), (.iconst 0, 0, 0, 0, vi 0), (.istore 6, 6, 0, 0, vi 0), (.iload 6, 6, 0, 0, vi 0), (.aload_n 0, 0, 0, 0, vi 0), (.getfield 341, 12, 42, 0, vi 0), (.if_icmp .gt 68, 54, 0, 0, vi 0), (.iconst 0, 0, 0, 0, vi 0), (.istore 7, 7, 0, 0, vi 0), (.iconst 0, 0, 0, 0, vi 0), (.istore 8, 8, 0, 0, vi 0), (.iload 8, 8, 0, 0, vi 0), (.aload_n 0, 0, 0, 0, vi 0), (.invokevirtual 348, 183, 1, 1, vi 0), (.if_icmp .ge 39, 49, 0, 0, vi 0), (.aload_n 0, 0, 0, 0, vi 0), (.iload 6, 6, 0, 0, vi 0), (.iload 8, 8, 0, 0, vi 0), (.iload_n 2, 2, 0, 0, vi 0), (.invokevirtual 488, 232, 4, 1, vi 0), (.ifCond .ne 6, 38, 0, 0, vi 0), (.goto 18, 47, 0, 0, vi 0), (.iinc 3 1, 3, 0, 0, vi 1), (.iconst 1, 0, 0, 0, vi 1), (.istore 7, 7, 0, 0, vi 0), (.iload 5, 5, 0, 0, vi 0), (.iconst 1, 0, 0, 0, vi 1), (.iload 8, 8, 0, 0, vi 0), (.ishl, 0, 0, 0, vi 0), (.ior, 0, 0, 0, vi 0), (.istore 5, 5, 0, 0, vi 0), (.iinc 8 1, 8, 0, 0, vi 1), (.goto (-42), 27, 0, 0, vi 0), (.iload 7, 7, 0, 0, vi 0), (.ifCond .eq 6, 52, 0, 0, vi 0), (.iinc 4 1, 4, 0, 0, vi 1), (.iinc 6 1, 6, 0, 0, vi 1), (.goto (-71), 19, 0, 0, vi 0), (.iload_n 1, 1, 0, 0, vi 0), (.iconst 2, 0, 0, 0, vi 2), (.if_icmp .ge 14, 63, 0, 0, vi 0), (.iload_n 1, 1, 0, 0, vi 0), (.ifCond .ne 7, 61, 0, 0, vi 0), (.iload_n 3, 3, 0, 0, vi 0), (.goto 5, 62, 0, 0, vi 0), (.iload 4, 4, 0, 0, vi 0), (.ireturn, 0, 0, 0, vi 0), (.iconst 0, 0, 0, 0, vi 0), (.istore 6, 6, 0, 0, vi 0), (.iload 5, 5, 0, 0, vi 0), (.istore 7, 7, 0, 0, vi 0), (.iload 7, 7, 0, 0, vi 0), (.ifCond .eq 18, 77, 0, 0, vi 0), (.iinc 6 1, 6, 0, 0, vi 1), (.iload 7, 7, 0, 0, vi 0), (.iload 7, 7, 0, 0, vi 0), (.iconst 1, 0, 0, 0, vi 1), (.isub, 0, 0, 0, vi 0), (.iand, 0, 0, 0, vi 0), (.istore 7, 7, 0, 0, vi 0), (.goto (-17), 67, 0, 0, vi 0), (.iload 6, 6, 0, 0, vi 0), (.ireturn, 0, 0, 0, vi 0)]
def am_b231 : List Nat := [0, 1, 2, 3, 6, 9, 12, 13, 14, 15, 18, 19, 20, 21, 22, 24, 25, 27, 28, 30, 32, 33, 36, 39, 40, 42, 43, 45, 47, 48, 51, 54, 55, 57, 59, 60, 63, 66, 69, 72, 73, 75, 77, 78, 80, 81, 82, 84, 87, 90, 92, 95, 98, 101, 104, 105, 106, 109, 110, 113, 114, 117, 119, 120, 121, 123, 125, 127, 129, 132, 135, 137, 139, 140, 141, 142, 144, 147, 149]
/-- WordEachModel.undoes(III)Z -/
def am_c232 : List mo := [(.aload_n 0, 0, 0, 0, vi 0), (.iconst (-1), 0, 0, 0, vi (-1)), (.invokevirtual 432, 202, 2, 0, vi 0), (.aload_n 0, 0, 0, 0, vi 0), (.iload_n 1, 1, 0, 0, vi 0), (.iload_n 2, 2, 0, 0, vi 0), (.invokevirtual 467, 230, 3, 0, vi 0), (.aload_n 0, 0, 0, 0, vi 0), (.invokevirtual 440, 215, 1, 1, vi 0), (.iload_n 3, 3, 0, 0, vi 0), (.if_icmp .eq 7, 13, 0, 0, vi 0), (.iconst 1, 0, 0, 0, vi 1), (.goto 4, 14, 0, 0, vi 0), (.iconst 0, 0, 0, 0, vi 0), (.ireturn, 1, 0, 0, vi 0)]
def am_b232 : List Nat := [0, 1, 2, 5, 6, 7, 8, 11, 12, 15, 16, 19, 20, 23, 24]
/-- WordEachModel.one(I)I -/
def am_c233 : List mo := [(.aload_n 0, 0, 0, 0, vi 0), (.invokevirtual 443, 214, 1, 1, vi 0), (.istore_n 2, 2, 0, 0, vi 0), (.iconst 0, 0, 0, 0, vi 0), (.istore_n 3, 3, 0, 0, vi 0), (.iconst 0, 0, 0, 0, vi 0), (.istore 4, 4, 0, 0, vi 0), (.iload 4, 4, 0, 0, vi 0), (.aload_n 0, 0, 0, 0, vi 0), (.getfield 341, 12, 42, 0, vi 0), (.if_icmp .gt 59, 38, 0, 0, vi 0), (.iconst 0, 0, 0, 0, vi 0), (.istore 5, 5, 0, 0, vi 0), (.iload 5, 5, 0, 0, vi 0), (.aload_n 0, 0, 0, 0, vi 0), (.invokevirtual 348, 183, 1, 1, vi 0), (.if_icmp .ge 41, 36, 0, 0, vi 0), (.aload_n 0, 0, 0, 0, vi 0), (.iload 4, 4, 0, 0, vi 0), (.iload 5, 5, 0, 0, vi 0), (.iload_n 2, 2, 0, 0, vi 0), (.invokevirtual 488, 232, 4, 1, vi 0), (.ifCond .ne 6, 24, 0, 0, vi 0), (.goto 20, 34, 0, 0, vi 0), (.iload_n 3, 3, 0, 0, vi 0), (.iload_n 1, 1, 0, 0, vi 0), (.if_icmp .ne 12, 33, 0, 0, vi 0), (.bipush 100, 0, 0, 0, vi 100), (.iload 4, 4, 0, 0, vi 0), (.imul, 0, 0, 0, vi 0), (.iload 5, 5, 0, 0, vi 0), (.iadd, 0, 0, 0, vi 0), (.ireturn, 0, 0, 0, vi 0), (.iinc 3 1, 3, 0, 0, vi 1), (.iinc 5 1, 5, 0, 0, vi 1), (.goto (-44), 13, 0, 0, vi 0), (.iinc 4 1, 4, 0, 0, vi 1), (.goto (-62), 7, 0, 0, vi 0), (.iconst (-1), 0, 0, 0, vi (-1)), (.ireturn, 0, 0, 0, vi 0)]
def am_b233 : List Nat := [0, 1, 4, 5, 6, 7, 8, 10, 12, 13, 16, 19, 20, 22, 24, 25, 28, 31, 32, 34, 36, 37, 40, 43, 46, 47, 48, 51, 53, 55, 56, 58, 59, 60, 63, 66, 69, 72, 75, 76]
/-- WordEachModel.ill(I)I -/
def am_c234 : List mo := [(.aload_n 0, 0, 0, 0, vi 0), (.iload_n 1, 1, 0, 0, vi 0), (.invokevirtual 417, 191, 2, 1, vi 0), (.ifCond .eq 12, 9, 0, 0, vi 0), (.aload_n 0, 0, 0, 0, vi 0), (.iload_n 1, 1, 0, 0, vi 0), (.invokevirtual 422, 192, 2, 1, vi 0), (.iconst (-1), 0, 0, 0, vi (-1)), (.if_icmp .ne 5, 11, 0, 0, vi 0), (.iconst (-1), 0, 0, 0, vi (-1)), (.ireturn, 0, 0, 0, vi 0), (.aload_n 0, 0, 0, 0, vi 0), (.aload_n 0, 0, 0, 0, vi 0), (.iload_n 1, 1, 0, 0, vi 0), (.invokevirtual 422, 192, 2, 1, vi 0), (.invokevirtual 432, 202, 2, 0, vi 0), (.aload_n 0, 0, 0, 0, vi 0), (.invokevirtual 440, 215, 1, 1, vi 0), (.ireturn, 0, 0, 0, vi 0)]
def am_b234 : List Nat := [0, 1, 2, 5, 8, 9, 10, 13, 14, 17, 18, 19, 20, 21, 22, 25, 28, 29, 32]
/-- WordEachModel.between(II)I -/
def am_c235 : List mo := [(.iload_n 1, 1, 0, 0, vi 0), (.i2l, 0, 0, 0, vi 0), (.lconst 0, 0, 0, 0, vl 0), (.aload_n 0, 0, 0, 0, vi 0), (.getfield 341, 12, 42, 0, vi 0), (.i2l, 0, 0, 0, vi 0), (.invokestatic 252, 171, 3, 1, vi 0), (.ifCond .eq 11, 12, 0, 0, vi 0), (.aload_n 0, 0, 0, 0, vi 0), (.iload_n 2, 2, 0, 0, vi 0), (.invokevirtual 403, 182, 2, 1, vi 0), (.ifCond .ne 5, 14, 0, 0, vi 0), (.iconst (-1), 0, 0, 0, vi (-1)), (.ireturn, 0, 0, 0, vi 0), (.aload_n 0, 0, 0, 0, vi 0), (.iconst (-1), 0, 0, 0, vi (-1)), (.invokevirtual 432, 202, 2, 0, vi 0), (.aload_n 0, 0, 0, 0, vi 0), (.iload_n 1, 1, 0, 0, vi 0), (.iload_n 2, 2, 0, 0, vi 0), (.invokevirtual 467, 230, 3, 0, vi 0), (.aload_n 0, 0, 0, 0, vi 0), (.invokevirtual 440, 215, 1, 1, vi 0), (.ireturn, 0, 0, 0, vi 0)]
def am_b235 : List Nat := [0, 1, 2, 3, 4, 7, 8, 11, 14, 15, 16, 19, 22, 23, 24, 25, 26, 29, 30, 31, 32, 35, 36, 39]
/-- WordEachModel.game(II)I -/
def am_c236 : List mo := [(.iload_n 1, 1, 0, 0, vi 0), (.i2l, 0, 0, 0, vi 0), (.lconst 0, 0, 0, 0, vl 0), (.ldc2_w 500, 0, 0, 0, vl 3), (.invokestatic 252, 171, 3, 1, vi 0), (.ifCond .eq 15, 12, 0, 0, vi 0), (.iload_n 2, 2, 0, 0, vi 0), (.i2l, 0, 0, 0, vi 0), (.lconst 0, 0, 0, 0, vl 0), (.ldc2_w 420, 0, 0, 0, vl 2), (.invokestatic 252, 171, 3, 1, vi 0), (.ifCond .ne 6, 14, 0, 0, vi 0), (.bipush (-2), 0, 0, 0, vi (-2)), (.ireturn, 0, 0, 0, vi 0), (.aload_n 0, 0, 0, 0, vi 0), (.iload_n 1, 1, 0, 0, vi 0), (.invokevirtual 502, 237, 2, 1, vi 0), (.istore_n 3, 3, 0, 0, vi 0), (.iload_n 2, 2, 0, 0, vi 0), (.ifCond .ne 5, 22, 0, 0, vi 0), (.iload_n 3, 3, 0, 0, vi 0), (.ireturn, 0, 0, 0, vi 0), (.aload_n 0, 0, 0, 0, vi 0), (.getfield 127, 12, 54, 2, vi 0), (.iconst 0, 0, 0, 0, vi 0), (.iaload, 0, 0, 0, vi 0), (.ifCond .ne 7, 29, 0, 0, vi 0), (.iconst (-1), 0, 0, 0, vi (-1)), (.goto 31, 49, 0, 0, vi 0), (.iload_n 2, 2, 0, 0, vi 0), (.iconst 1, 0, 0, 0, vi 1), (.if_icmp .ne 16, 41, 0, 0, vi 0), (.aload_n 0, 0, 0, 0, vi 0), (.getfield 127, 12, 54, 2, vi 0), (.iconst 0, 0, 0, 0, vi 0), (.iaload, 0, 0, 0, vi 0), (.iconst 1, 0, 0, 0, vi 1), (.isub, 0, 0, 0, vi 0), (.iconst 4, 0, 0, 0, vi 4), (.idiv, 0, 0, 0, vi 0), (.goto 13, 49, 0, 0, vi 0), (.aload_n 0, 0, 0, 0, vi 0), (.getfield 127, 12, 54, 2, vi 0), (.iconst 0, 0, 0, 0, vi 0), (.iaload, 0, 0, 0, vi 0), (.iconst 1, 0, 0, 0, vi 1), (.isub, 0, 0, 0, vi 0), (.iconst 4, 0, 0, 0, vi 4), (.irem, 0, 0, 0, vi 0), (.ireturn, 0, 0, 0, vi 0)]
def am_b236 : List Nat := [0, 1, 2, 3, 6, 9, 12, 13, 14, 15, 18, 21, 24, 26, 27, 28, 29, 32, 33, 34, 37, 38, 39, 40, 43, 44, 45, 48, 49, 52, 53, 54, 57, 58, 61, 62, 63, 64, 65, 66, 67, 70, 71, 74, 75, 76, 77, 78, 79, 80]
/-- WordEachModel.games(I)I -/
def am_c237 : List mo := [(.iload_n 1, 1, 0, 0, vi 0), (.ifCond .ne 24, 15, 0, 0, vi 0), (.aload_n 0, 0, 0, 0, vi 0), (.getfield 127, 12, 54, 2, vi 0), (.iconst 0, 0, 0, 0, vi 0), (.iconst 0, 0, 0, 0, vi 0), (.iastore, 0, 0, 0, vi 0), (.aload_n 0, 0, 0, 0, vi 0), (.invokevirtual 443, 214, 1, 1, vi 0), (.iconst 1, 0, 0, 0, vi 1), (.if_icmp .ne 7, 13, 0, 0, vi 0), (.iconst 1, 0, 0, 0, vi 1), (.goto 4, 14, 0, 0, vi 0), (.iconst 0, 0, 0, 0, vi 0), (.ireturn, 0, 0, 0, vi 0), (.iconst 0, 0, 0, 0, vi 0), (.istore_n 2, 2, 0, 0, vi 0), (.aload_n 0, 0, 0, 0, vi 0), (.iconst 0, 0, 0, 0, vi 0), (.invokevirtual 491, 238, 2, 0, vi 0), (.iload_n 2, 2, 0, 0, vi 0), (.ifCond .lt 199, 144, 0, 0, vi 0), (.aload_n 0, 0, 0, 0, vi 0), (.getfield 124, 12, 53, 2, vi 0), (.iload_n 2, 2, 0, 0, vi 0), (.iaload, 0, 0, 0, vi 0), (.ifCond .le 13, 33, 0, 0, vi 0), (.aload_n 0, 0, 0, 0, vi 0), (.dup, 0, 0, 0, vi 0), (.getfield 341, 12, 42, 0, vi 0), (.iconst 1, 0, 0, 0, vi 1), (.isub, 0, 0, 0, vi 0), (.putfield 341, 12, 42, 0, vi 0), (.aload_n 0, 0, 0, 0, vi 0), (.getfield 124, 12, 53, 2, vi 0), (.iload_n 2, 2, 0, 0, vi 0), (.dup2, 0, 0, 0, vi 0), (.iaload, 0, 0, 0, vi 0), (.iconst 1, 0, 0, 0, vi 1), (.iadd, 0, 0, 0, vi 0), (.iastore, 0, 0, 0, vi 0), (.aload_n 0, 0, 0, 0, vi 0), (.getfield 124, 12, 53, 2, vi 0), (.iload_n 2, 2, 0, 0, vi 0), (.iaload, 0, 0, 0, vi 0), (.iconst 4, 0, 0, 0, vi 4), (.aload_n 0, 0, 0, 0, vi 0), (.invokevirtual 351, 185, 1, 1, vi 0), (.imul, 0, 0, 0, vi 0), (.if_icmp .gt 24, 63, 0, 0, vi 0), (.aload_n 0, 0, 0, 0, vi 0), (.iload_n 2, 2, 0, 0, vi 0), (.invokevirtual 494, 239, 2, 1, vi 0), (.ifCond .ne 16, 63, 0, 0, vi 0), (.aload_n 0, 0, 0, 0, vi 0), (.getfield 124, 12, 53, 2, vi 0), (.iload_n 2, 2, 0, 0, vi 0), (.dup2, 0, 0, 0, vi 0), (.iaload, 0, 0, 0, vi 0), (.iconst 1, 0, 0, 0, vi 1), (.iadd, 0, 0, 0, vi 0), (.iastore, 0, 0, 0, vi 0), (.goto (-33), 41, 0, 0, vi 0), (.aload_n 0, 0, 0, 0, vi 0), (.getfield 124, 12, 53, 2, vi 0), (.iload_n 2, 2, 0, 0, vi 0), (.iaload, 0, 0, 0, vi 0), (.iconst 4, 0, 0, 0, vi 4), (.aload_n 0, 0, 0, 0, vi 0), (.invokevirtual 351, 185, 1, 1, vi 0), (.imul, 0, 0, 0, vi 0), (.if_icmp .le 33, 90, 0, 0, vi 0), (.aload_n 0, 0, 0, 0, vi 0), (.getfield 124, 12, 53, 2, vi 0), (.iload_n 2, 2, 0, 0, vi 0), (.iconst 0, 0, 0, 0, vi 0), (.iastore, 0, 0, 0, vi 0), (.iinc 2 (-1), 2, 0, 0, vi (-1)), (.iload_n 2, 2, 0, 0, vi 0), (.ifCond .lt (-95), 20, 0, 0, vi 0), (.aload_n 0, 0, 0, 0, vi 0), (.iload_n 2, 2, 0, 0, vi 0), (.aload_n 0, 0, 0, 0, vi 0), (.getfield 130, 12, 55, 2, vi 0), (.iload_n 2, 2, 0, 0, vi 0), (.iconst 1, 0, 0, 0, vi 1), (.iadd, 0, 0, 0, vi 0), (.iaload, 0, 0, 0, vi 0), (.invokevirtual 497, 240, 3, 0, vi 0), (.goto (-111), 20, 0, 0, vi 0), (.aload_n 0, 0, 0, 0, vi 0), (.getfield 124, 12, 53, 2, vi 0), (.iload_n 2, 2, 0, 0, vi 0), (.iaload, 0, 0, 0, vi 0), (.ifCond .le 41, 123, 0, 0, vi 0), (.aload_n 0, 0, 0, 0, vi 0), (.aload_n 0, 0, 0, 0, vi 0), (.getfield 124, 12, 53, 2, vi 0), (.iload_n 2, 2, 0, 0, vi 0), (.iaload, 0, 0, 0, vi 0), (.iconst 1, 0, 0, 0, vi 1), (.isub, 0, 0, 0, vi 0), (.iconst 4, 0, 0, 0, vi 4), (.idiv, 0, 0, 0, vi 0), (.aload_n 0, 0, 0, 0, vi 0), (.aload_n 0, 0, 0, 0, vi 0), (.getfield 124, 12, 53, 2, vi 0), (.iload_n 2, 2, 0, 0, vi 0), (.iaload, 0, 0, 0, vi 0), (.iconst 1, 0, 0, 0, vi 1), (.isub, 0, 0, 0, vi 0), (.iconst 4, 0, 0, 0, vi 4), (.idiv, 0, 0, 0, vi 0), (.aload_n 0, 0, 0, 0, vi 0), (.getfield 124, 12, 53, 2, vi 0), (.iload_n 2, 2, 0, 0, vi 0), (.iaload, 0, 0, 0, vi 0), (.iconst 1, 0, 0, 0, vi 1), (.isub, 0, 0, 0, vi 0), (.iconst 4, 0, 0, 0, vi 4), (.irem, 0, 0, 0, vi 0), (.invokevirtual 400, 188, 3, 1, vi 0), (.invokevirtual 429, 196, 3, 0, vi 0), (.iload_n 2, 2, 0, 0, vi 0), (.iload_n 1, 1, 0, 0, vi 0), (.iconst 1, 0, 0, 0, vi 1), (.isub, 0, 0, 0, vi 0), (.if_icmp .ne 24, 139, 0, 0, vi 0), (.aload_n 0, 0, 0, 0, vi 0), (.iload_n 2, 2, 0, 0, vi 0), (.aload_n 0, 0, 0, 0, vi 0), (.invokevirtual 443, 214, 1, 1, vi 0), (.iconst 1, 0, 0, 0, vi 1), (.if_icmp .ne 7, 136, 0, 0, vi 0), (.iconst 1, 0, 0, 0, vi 1), (.goto 4, 137, 0, 0, vi 0), (.iconst 0, 0, 0, 0, vi 0), (.invokevirtual 497, 240, 3, 0, vi 0), (.goto (-186), 20, 0, 0, vi 0), (.iinc 2 1, 2, 0, 0, vi 1), (.aload_n 0, 0, 0, 0, vi 0), (.iload_n 2, 2, 0, 0, vi 0), (.invokevirtual 491, 238, 2, 0, vi 0), (.goto (-197), 20, 0, 0, vi 0), (.aload_n 0, 0, 0, 0, vi 0), (.getfield 130, 12, 55, 2, vi 0), (.iconst 0, 0, 0, 0, vi 0), (.iaload, 0, 0, 0, vi 0), (.ireturn, 0, 0, 0, vi 0)]
def am_b237 : List Nat := [0, 1, 4, 5, 8, 9, 10, 11, 12, 15, 16, 19, 20, 23, 24, 25, 26, 27, 28, 29, 32, 33, 36, 37, 40, 41, 42, 45, 46, 47, 50, 51, 52, 55, 56, 59, 60, 61, 62, 63, 64, 65, 66, 69, 70, 71, 72, 73, 76, 77, 80, 81, 82, 85, 88, 89, 92, 93, 94, 95, 96, 97, 98, 101, 102, 105, 106, 107, 108, 109, 112, 113, 116, 117, 120, 121, 122, 123, 126, 127, 130, 131, 132, 133, 136, 137, 138, 139, 140, 143, 146, 147, 150, 151, 152, 155, 156, 157, 160, 161, 162, 163, 164, 165, 166, 167, 168, 171, 172, 173, 174, 175, 176, 177, 178, 181, 182, 183, 184, 185, 186, 187, 190, 193, 194, 195, 196, 197, 200, 201, 202, 203, 206, 207, 210, 211, 214, 215, 218, 221, 224, 225, 226, 229, 232, 233, 236, 237, 238]
/-- WordEachModel.opens(I)V -/
def am_c238 : List mo := [(.aload_n 0, 0, 0, 0, vi 0), (.getfield 124, 12, 53, 2, vi 0), (.iload_n 1, 1, 0, 0, vi 0), (.iconst (-1), 0, 0, 0, vi (-1)), (.iastore, 0, 0, 0, vi 0), (.aload_n 0, 0, 0, 0, vi 0), (.getfield 127, 12, 54, 2, vi 0), (.iload_n 1, 1, 0, 0, vi 0), (.iconst (-1), 0, 0, 0, vi (-1)), (.iastore, 0, 0, 0, vi 0), (.return_, 0, 0, 0, vi 0)]
def am_b238 : List Nat := [0, 1, 4, 5, 6, 7, 8, 11, 12, 13, 14]
/-- WordEachModel.canMove(I)Z -/
def am_c239 : List mo := [(.aload_n 0, 0, 0, 0, vi 0), (.getfield 124, 12, 53, 2, vi 0), (.iload_n 1, 1, 0, 0, vi 0), (.iaload, 0, 0, 0, vi 0), (.ifCond .ne 5, 7, 0, 0, vi 0), (.iconst 1, 0, 0, 0, vi 1), (.ireturn, 1, 0, 0, vi 0), (.aload_n 0, 0, 0, 0, vi 0), (.getfield 124, 12, 53, 2, vi 0), (.iload_n 1, 1, 0, 0, vi 0), (.iaload, 0, 0, 0, vi 0), (.iconst 1, 0, 0, 0, vi 1), (.isub, 0, 0, 0, vi 0), (.iconst 4, 0, 0, 0, vi 4), (.idiv, 0, 0, 0, vi 0), (.istore_n 2, 2, 0, 0, vi 0), (.aload_n 0, 0, 0, 0, vi 0), (.getfield 124, 12, 53, 2, vi 0), (.iload_n 1, 1, 0, 0, vi 0), (.iaload, 0, 0, 0, vi 0), (.iconst 1, 0, 0, 0, vi 1), (.isub, 0, 0, 0, vi 0), (.iconst 4, 0, 0, 0, vi 4), (.irem, 0, 0, 0, vi 0), (.aload_n 0, 0, 0, 0, vi 0), (.iload_n 2, 2, 0, 0, vi 0), (.invokevirtual 397, 187, 2, 1, vi 0), (.if_icmp .ge 27, 42, 0, 0, vi 0), (.aload_n 0, 0, 0, 0, vi 0), (.iload_n 2, 2, 0, 0, vi 0), (.invokevirtual 458, 224, 2, 1, vi 0), (.iload_n 1, 1, 0, 0, vi 0), (.iconst 2, 0, 0, 0, vi 2), (.irem, 0, 0, 0, vi 0), (.if_icmp .ne 16, 42, 0, 0, vi 0), (.aload_n 0, 0, 0, 0, vi 0), (.iload_n 2, 2, 0, 0, vi 0), (.invokevirtual 422, 192, 2, 1, vi 0), (.iconst (-1), 0, 0, 0, vi (-1)), (.if_icmp .ne 7, 42, 0, 0, vi 0), (.iconst 1, 0, 0, 0, vi 1), (.goto 4, 43, 0, 0, vi 0), (.iconst 0, 0, 0, 0, vi 0), (.ireturn, 1, 0, 0, vi 0)]
def am_b239 : List Nat := [0, 1, 4, 5, 6, 9, 10, 11, 12, 15, 16, 17, 18, 19, 20, 21, 22, 23, 26, 27, 28, 29, 30, 31, 32, 33, 34, 37, 40, 41, 42, 45, 46, 47, 48, 51, 52, 53, 56, 57, 60, 61, 64, 65]
/-- WordEachModel.weighs(II)V -/
def am_c240 : List mo := [(.aload_n 0, 0, 0, 0, vi 0), (.getfield 127, 12, 54, 2, vi 0), (.iload_n 1, 1, 0, 0, vi 0), (.iaload, 0, 0, 0, vi 0), (.iconst (-1), 0, 0, 0, vi (-1)), (.if_icmp .ne 7, 8, 0, 0, vi 0), (.iconst 1, 0, 0, 0, vi 1), (.goto 4, 9, 0, 0, vi 0), (.iconst 0, 0, 0, 0, vi 0), (.istore_n 3, 3, 0, 0, vi 0), (.iload_n 3, 3, 0, 0, vi 0), (.ifCond .ne 33, 30, 0, 0, vi 0), (.iload_n 1, 1, 0, 0, vi 0), (.iconst 2, 0, 0, 0, vi 2), (.irem, 0, 0, 0, vi 0), (.ifCond .ne 16, 23, 0, 0, vi 0), (.iload_n 2, 2, 0, 0, vi 0), (.aload_n 0, 0, 0, 0, vi 0), (.getfield 130, 12, 55, 2, vi 0), (.iload_n 1, 1, 0, 0, vi 0), (.iaload, 0, 0, 0, vi 0), (.if_icmp .gt 17, 30, 0, 0, vi 0), (.goto 13, 29, 0, 0, vi 0), (.iload_n 2, 2, 0, 0, vi 0), (.aload_n 0, 0, 0, 0, vi 0), (.getfield 130, 12, 55, 2, vi 0), (.iload_n 1, 1, 0, 0, vi 0), (.iaload, 0, 0, 0, vi 0), (.if_icmp .lt 4, 30, 0, 0, vi 0), (.return_, 0, 0, 0, vi 0), (.aload_n 0, 0, 0, 0, vi 0), (.getfield 127, 12, 54, 2, vi 0), (.iload_n 1, 1, 0, 0, vi 0), (.aload_n 0, 0, 0, 0, vi 0), (.getfield 124, 12, 53, 2, vi 0), (.iload_n 1, 1, 0, 0, vi 0), (.iaload, 0, 0, 0, vi 0), (.iastore, 0, 0, 0, vi 0), (.aload_n 0, 0, 0, 0, vi 0), (.getfield 130, 12, 55, 2, vi 0), (.iload_n 1, 1, 0, 0, vi 0), (.iload_n 2, 2, 0, 0, vi 0), (.iastore, 0, 0, 0, vi 0), (.return_, 0, 0, 0, vi 0)]
def am_b240 : List Nat := [0, 1, 4, 5, 6, 7, 10, 11, 14, 15, 16, 17, 20, 21, 22, 23, 26, 27, 28, 31, 32, 33, 36, 39, 40, 41, 44, 45, 46, 49, 50, 51, 54, 55, 56, 59, 60, 61, 62, 63, 66, 67, 68, 69]
/-- WordEachModel.place(I)I -/
def am_c241 : List mo := [(.iload_n 1, 1, 0, 0, vi 0), (.i2l, 0, 0, 0, vi 0), (.lconst 0, 0, 0, 0, vl 0), (.ldc2_w 505, 0, 0, 0, vl 7), (.invokestatic 252, 171, 3, 1, vi 0), (.ifCond .ne 5, 8, 0, 0, vi 0), (.iconst (-1), 0, 0, 0, vi (-1)), (.ireturn, 0, 0, 0, vi 0), (.iconst 0, 0, 0, 0, vi 0), (.istore_n 2, 2, 0, 0, vi 0), (.iconst 0, 0, 0, 0, vi 0), (.istore_n 3, 3, 0, 0, vi 0), (.iload_n 3, 3, 0, 0, vi 0), (.aload_n 0, 0, 0, 0, vi 0), (.invokevirtual 452, 218, 1, 1, vi 0), (.if_icmp .ge 53, 42, 0, 0, vi 0), (.iload_n 1, 1, 0, 0, vi 0), (.aload_n 0, 0, 0, 0, vi 0), (.getfield 94, 12, 35, 2, vi 0), (.bipush 72, 0, 0, 0, vi 72), (.bipush 9, 0, 0, 0, vi 9), (.iload_n 3, 3, 0, 0, vi 0), (.imul, 0, 0, 0, vi 0), (.iadd, 0, 0, 0, vi 0), (.iaload, 0, 0, 0, vi 0), (.if_icmp .lt 6, 27, 0, 0, vi 0), (.goto 28, 40, 0, 0, vi 0), (.aload_n 0, 0, 0, 0, vi 0), (.iload_n 3, 3, 0, 0, vi 0), (.invokevirtual 455, 219, 2, 1, vi 0), (.istore 4, 4, 0, 0, vi 0), (.aload_n 0, 0, 0, 0, vi 0), (.iload_n 3, 3, 0, 0, vi 0), (.iload_n 1, 1, 0, 0, vi 0), (.invokevirtual 449, 220, 3, 0, vi 0), (.aload_n 0, 0, 0, 0, vi 0), (.invokevirtual 440, 215, 1, 1, vi 0), (.iload 4, 4, 0, 0, vi 0), (.if_icmp .eq 6, 40, 0, 0, vi 0), (.iinc 2 1, 2, 0, 0, vi 1), (.iinc 3 1, 3, 0, 0, vi 1), (.goto (-55), 12, 0, 0, vi 0), (.iload_n 2, 2, 0, 0, vi 0), (.ireturn, 0, 0, 0, vi 0)]
def am_b241 : List Nat := [0, 1, 2, 3, 6, 9, 12, 13, 14, 15, 16, 17, 18, 19, 20, 23, 26, 27, 28, 31, 33, 35, 36, 37, 38, 39, 42, 45, 46, 47, 50, 52, 53, 54, 55, 58, 59, 62, 64, 67, 70, 73, 76, 77]
/-- WordEachModel.turned(I)I -/
def am_c242 : List mo := [(.iload_n 1, 1, 0, 0, vi 0), (.i2l, 0, 0, 0, vi 0), (.lconst 0, 0, 0, 0, vl 0), (.aload_n 0, 0, 0, 0, vi 0), (.invokevirtual 335, 177, 1, 1, vi 0), (.iconst 1, 0, 0, 0, vi 1), (.isub, 0, 0, 0, vi 0), (.i2l, 0, 0, 0, vi 0), (.invokestatic 252, 171, 3, 1, vi 0), (.ifCond .ne 5, 12, 0, 0, vi 0), (.iconst (-1), 0, 0, 0, vi (-1)), (.ireturn, 0, 0, 0, vi 0), (.aload_n 0, 0, 0, 0, vi 0), (.getfield 338, 12, 39, 0, vi 0), (.iload_n 1, 1, 0, 0, vi 0), (.ishr, 0, 0, 0, vi 0), (.iconst 1, 0, 0, 0, vi 1), (.iand, 0, 0, 0, vi 0), (.ifCond .ne 5, 21, 0, 0, vi 0), (.iconst 0, 0, 0, 0, vi 0), (.ireturn, 0, 0, 0, vi 0), (.iconst 0, 0, 0, 0, vi 0), (.istore_n 2, 2, 0, 0, vi 0), (.iconst 0, 0, 0, 0, vi 0), (.istore_n 3, 3, 0, 0, vi 0), (.iload_n 3, 3, 0, 0, vi 0), (.aload_n 0, 0, 0, 0, vi 0), (.invokevirtual 452, 218, 1, 1, vi 0), (.if_icmp .ge 53, 57, 0, 0, vi 0), (.aload_n 0, 0, 0, 0, vi 0), (.iload_n 3, 3, 0, 0, vi 0), (.invokevirtual 455, 219, 2, 1, vi 0), (.istore 4, 4, 0, 0, vi 0), (.aload_n 0, 0, 0, 0, vi 0), (.dup, 0, 0, 0, vi 0), (.getfield 338, 12, 39, 0, vi 0), (.iconst 1, 0, 0, 0, vi 1), (.iload_n 1, 1, 0, 0, vi 0), (.ishl, 0, 0, 0, vi 0), (.ixor, 0, 0, 0, vi 0), (.putfield 338, 12, 39, 0, vi 0), (.aload_n 0, 0, 0, 0, vi 0), (.iload_n 3, 3, 0, 0, vi 0), (.invokevirtual 455, 219, 2, 1, vi 0), (.iload 4, 4, 0, 0, vi 0), (.if_icmp .eq 6, 47, 0, 0, vi 0), (.iinc 2 1, 2, 0, 0, vi 1), (.aload_n 0, 0, 0, 0, vi 0), (.dup, 0, 0, 0, vi 0), (.getfield 338, 12, 39, 0, vi 0), (.iconst 1, 0, 0, 0, vi 1), (.iload_n 1, 1, 0, 0, vi 0), (.ishl, 0, 0, 0, vi 0), (.ixor, 0, 0, 0, vi 0), (.putfield 338, 12, 39, 0, vi 0), (.iinc 3 1, 3, 0, 0, vi 1), (.goto (-55), 25, 0, 0, vi 0), (.iload_n 2, 2, 0, 0, vi 0), (.ireturn, 0, 0, 0, vi 0)]
def am_b242 : List Nat := [0, 1, 2, 3, 4, 7, 8, 9, 10, 13, 16, 17, 18, 19, 22, 23, 24, 25, 26, 29, 30, 31, 32, 33, 34, 35, 36, 37, 40, 43, 44, 45, 48, 50, 51, 52, 55, 56, 57, 58, 59, 62, 63, 64, 67, 69, 72, 75, 76, 77, 80, 81, 82, 83, 84, 87, 90, 93, 94]
/-- WordEachModel.cases(I)I -/
def am_c243 : List mo := [(.iload_n 1, 1, 0, 0, vi 0), (.i2l, 0, 0, 0, vi 0), (.lconst 0, 0, 0, 0, vl 0), (.ldc2_w 420, 0, 0, 0, vl 2), (.invokestatic 252, 171, 3, 1, vi 0), (.ifCond .ne 5, 8, 0, 0, vi 0), (.iconst (-1), 0, 0, 0, vi (-1)), (.ireturn, 0, 0, 0, vi 0), (.iconst 0, 0, 0, 0, vi 0), (.istore_n 2, 2, 0, 0, vi 0), (.iconst 0, 0, 0, 0, vi 0), (.istore_n 3, 3, 0, 0, vi 0), (.iload_n 3, 3, 0, 0, vi 0), (.aload_n 0, 0, 0, 0, vi 0), (.invokevirtual 452, 218, 1, 1, vi 0), (.if_icmp .ge 21, 24, 0, 0, vi 0), (.aload_n 0, 0, 0, 0, vi 0), (.iload_n 3, 3, 0, 0, vi 0), (.invokevirtual 455, 219, 2, 1, vi 0), (.iload_n 1, 1, 0, 0, vi 0), (.if_icmp .ne 6, 22, 0, 0, vi 0), (.iinc 2 1, 2, 0, 0, vi 1), (.iinc 3 1, 3, 0, 0, vi 1), (.goto (-23), 12, 0, 0, vi 0), (.iload_n 2, 2, 0, 0, vi 0), (.ireturn, 0, 0, 0, vi 0)]
def am_b243 : List Nat := [0, 1, 2, 3, 6, 9, 12, 13, 14, 15, 16, 17, 18, 19, 20, 23, 26, 27, 28, 31, 32, 35, 38, 41, 44, 45]
/-- WordEachModel.order(II)I -/
def am_c244 : List mo := [(.iload_n 1, 1, 0, 0, vi 0), (.i2l, 0, 0, 0, vi 0), (.lconst 0, 0, 0, 0, vl 0), (.ldc2_w 420, 0, 0, 0, vl 2), (.invokestatic 252, 171, 3, 1, vi 0), (.ifCond .ne 5, 8, 0, 0, vi 0), (.iconst (-1), 0, 0, 0, vi (-1)), (.ireturn, 0, 0, 0, vi 0), (.aload_n 0, 0, 0, 0, vi 0), (.iload_n 1, 1, 0, 0, vi 0), (.invokevirtual 510, 245, 2, 0, vi 0), (.iload_n 2, 2, 0, 0, vi 0), (.iconst (-1), 0, 0, 0, vi (-1)), (.if_icmp .ne 8, 17, 0, 0, vi 0), (.aload_n 0, 0, 0, 0, vi 0), (.invokevirtual 513, 247, 1, 1, vi 0), (.ireturn, 0, 0, 0, vi 0), (.aload_n 0, 0, 0, 0, vi 0), (.iload_n 2, 2, 0, 0, vi 0), (.invokevirtual 417, 191, 2, 1, vi 0), (.ifCond .eq 12, 26, 0, 0, vi 0), (.aload_n 0, 0, 0, 0, vi 0), (.getfield 133, 12, 56, 2, vi 0), (.iload_n 2, 2, 0, 0, vi 0), (.iaload, 0, 0, 0, vi 0), (.goto 4, 27, 0, 0, vi 0), (.iconst (-1), 0, 0, 0, vi (-1)), (.ireturn, 0, 0, 0, vi 0)]
def am_b244 : List Nat := [0, 1, 2, 3, 6, 9, 12, 13, 14, 15, 16, 19, 20, 21, 24, 25, 28, 29, 30, 31, 34, 37, 38, 41, 42, 43, 46, 47]
/-- WordEachModel.orders(I)V -/
def am_c245 : List mo := [(.iconst 0, 0, 0, 0, vi 0), (.istore_n 2, 2, 0, 0, vi 0), (.iload_n 2, 2, 0, 0, vi 0), (.aload_n 0, 0, 0, 0, vi 0), (.invokevirtual 351, 185, 1, 1, vi 0), (.if_icmp .ge 56, 33, 0, 0, vi 0), (.iconst 0, 0, 0, 0, vi 0), (.istore_n 3, 3, 0, 0, vi 0), (.iconst 0, 0, 0, 0, vi 0), (.istore 4, 4, 0, 0, vi 0), (.iload 4, 4, 0, 0, vi 0), (.aload_n 0, 0, 0, 0, vi 0), (.invokevirtual 351, 185, 1, 1, vi 0), (.if_icmp .ge 29, 26, 0, 0, vi 0), (.iload 4, 4, 0, 0, vi 0), (.iload_n 2, 2, 0, 0, vi 0), (.if_icmp .eq 17, 24, 0, 0, vi 0), (.aload_n 0, 0, 0, 0, vi 0), (.iload_n 1, 1, 0, 0, vi 0), (.iload 4, 4, 0, 0, vi 0), (.iload_n 2, 2, 0, 0, vi 0), (.invokevirtual 507, 246, 4, 1, vi 0), (.ifCond .eq 6, 24, 0, 0, vi 0), (.iinc 3 1, 3, 0, 0, vi 1), (.iinc 4 1, 4, 0, 0, vi 1), (.goto (-32), 10, 0, 0, vi 0), (.aload_n 0, 0, 0, 0, vi 0), (.getfield 133, 12, 56, 2, vi 0), (.iload_n 3, 3, 0, 0, vi 0), (.iload_n 2, 2, 0, 0, vi 0), (.iastore, 0, 0, 0, vi 0), (.iinc 2 1, 2, 0, 0, vi 1), (.goto (-58), 2, 0, 0, vi 0), (.return_, 0, 0, 0, vi 0)]
def am_b245 : List Nat := [0, 1, 2, 3, 4, 7, 10, 11, 12, 13, 15, 17, 18, 21, 24, 26, 27, 30, 31, 32, 34, 35, 38, 41, 44, 47, 50, 51, 54, 55, 56, 57, 60, 63]
/-- WordEachModel.isAhead(III)Z -/
def am_c246 : List mo := [(.aload_n 0, 0, 0, 0, vi 0), (.getfield 91, 12, 34, 2, vi 0), (.bipush 49, 0, 0, 0, vi 49), (.bipush 7, 0, 0, 0, vi 7), (.iload_n 2, 2, 0, 0, vi 0), (.imul, 0, 0, 0, vi 0), (.iadd, 0, 0, 0, vi 0), (.iaload, 0, 0, 0, vi 0), (.istore 4, 4, 0, 0, vi 0), (.aload_n 0, 0, 0, 0, vi 0), (.getfield 91, 12, 34, 2, vi 0), (.bipush 49, 0, 0, 0, vi 49), (.bipush 7, 0, 0, 0, vi 7), (.iload_n 3, 3, 0, 0, vi 0), (.imul, 0, 0, 0, vi 0), (.iadd, 0, 0, 0, vi 0), (.iaload, 0, 0, 0, vi 0), (.istore 5, 5, 0, 0, vi 0), (.iload_n 1, 1, 0, 0, vi 0), (.ifCond .eq 10, 23, 0, 0, vi 0), (.iload 4, 4, 0, 0, vi 0), (.iload 5, 5, 0, 0, vi 0), (.if_icmp .ne 14, 30, 0, 0, vi 0), (.iload_n 2, 2, 0, 0, vi 0), (.iload_n 3, 3, 0, 0, vi 0), (.if_icmp .ge 7, 28, 0, 0, vi 0), (.iconst 1, 0, 0, 0, vi 1), (.goto 4, 29, 0, 0, vi 0), (.iconst 0, 0, 0, 0, vi 0), (.ireturn, 1, 0, 0, vi 0), (.iload_n 1, 1, 0, 0, vi 0), (.iconst 1, 0, 0, 0, vi 1), (.if_icmp .ne 18, 40, 0, 0, vi 0), (.iload 4, 4, 0, 0, vi 0), (.iload 5, 5, 0, 0, vi 0), (.if_icmp .le 7, 38, 0, 0, vi 0), (.iconst 1, 0, 0, 0, vi 1), (.goto 19, 46, 0, 0, vi 0), (.iconst 0, 0, 0, 0, vi 0), (.goto 15, 46, 0, 0, vi 0), (.iload 4, 4, 0, 0, vi 0), (.iload 5, 5, 0, 0, vi 0), (.if_icmp .ge 7, 45, 0, 0, vi 0), (.iconst 1, 0, 0, 0, vi 1), (.goto 4, 46, 0, 0, vi 0), (.iconst 0, 0, 0, 0, vi 0), (.ireturn, 1, 0, 0, vi 0)]
def am_b246 : List Nat := [0, 1, 4, 6, 8, 9, 10, 11, 12, 14, 15, 18, 20, 22, 23, 24, 25, 26, 28, 29, 32, 34, 36, 39, 40, 41, 44, 45, 48, 49, 50, 51, 52, 55, 57, 59, 62, 63, 66, 67, 70, 72, 74, 77, 78, 81, 82]
/-- WordEachModel.rulesOrder()I -/
def am_c247 : List mo := [(.aload_n 0, 0, 0, 0, vi 0), (.iconst 0, 0, 0, 0, vi 0), (.putfield 354, 12, 44, 0, vi 0), (.iconst 0, 0, 0, 0, vi 0), (.istore_n 1, 1, 0, 0, vi 0), (.iload_n 1, 1, 0, 0, vi 0), (.aload_n 0, 0, 0, 0, vi 0), (.invokevirtual 351, 185, 1, 1, vi 0), (.if_icmp .ge 24, 20, 0, 0, vi 0), (.aload_n 0, 0, 0, 0, vi 0), (.aload_n 0, 0, 0, 0, vi 0), (.aload_n 0, 0, 0, 0, vi 0), (.getfield 133, 12, 56, 2, vi 0), (.iload_n 1, 1, 0, 0, vi 0), (.iaload, 0, 0, 0, vi 0), (.iconst 0, 0, 0, 0, vi 0), (.invokevirtual 400, 188, 3, 1, vi 0), (.invokevirtual 357, 203, 2, 0, vi 0), (.iinc 1 1, 1, 0, 0, vi 1), (.goto (-26), 5, 0, 0, vi 0), (.aload_n 0, 0, 0, 0, vi 0), (.invokevirtual 440, 215, 1, 1, vi 0), (.ireturn, 0, 0, 0, vi 0)]
def am_b247 : List Nat := [0, 1, 2, 5, 6, 7, 8, 9, 12, 15, 16, 17, 18, 21, 22, 23, 24, 27, 30, 33, 36, 37, 40]
/-- WordEachModel.seed(I)Z -/
def am_c248 : List mo := [(.iload_n 1, 1, 0, 0, vi 0), (.ifCond .ge 15, 12, 0, 0, vi 0), (.aload_n 0, 0, 0, 0, vi 0), (.getfield 17, 12, 9, 2, vi 0), (.iconst 4, 0, 0, 0, vi 4), (.dup2, 0, 0, 0, vi 0), (.iaload, 0, 0, 0, vi 0), (.iconst 1, 0, 0, 0, vi 1), (.iadd, 0, 0, 0, vi 0), (.iastore, 0, 0, 0, vi 0), (.iconst 0, 0, 0, 0, vi 0), (.ireturn, 1, 0, 0, vi 0), (.aload_n 0, 0, 0, 0, vi 0), (.iload_n 1, 1, 0, 0, vi 0), (.i2l, 0, 0, 0, vi 0), (.putfield 136, 12, 57, 1, vi 0), (.iconst 1, 0, 0, 0, vi 1), (.ireturn, 1, 0, 0, vi 0)]
def am_b248 : List Nat := [0, 1, 4, 5, 8, 9, 10, 11, 12, 13, 14, 15, 16, 17, 18, 19, 22, 23]
/-- WordEachModel.lots(I)I -/
def am_c249 : List mo := [(.iload_n 1, 1, 0, 0, vi 0), (.i2l, 0, 0, 0, vi 0), (.lconst 1, 0, 0, 0, vl 1), (.ldc2_w 527, 0, 0, 0, vl 200), (.invokestatic 252, 171, 3, 1, vi 0), (.ifCond .ne 5, 8, 0, 0, vi 0), (.iconst (-1), 0, 0, 0, vi (-1)), (.ireturn, 0, 0, 0, vi 0), (.iconst 0, 0, 0, 0, vi 0), (.istore_n 2, 2, 0, 0, vi 0), (.iconst 0, 0, 0, 0, vi 0), (.istore_n 3, 3, 0, 0, vi 0), (.iload_n 3, 3, 0, 0, vi 0), (.iload_n 1, 1, 0, 0, vi 0), (.if_icmp .ge 27, 25, 0, 0, vi 0), (.aload_n 0, 0, 0, 0, vi 0), (.invokevirtual 529, 250, 1, 0, vi 0), (.aload_n 0, 0, 0, 0, vi 0), (.invokevirtual 513, 247, 1, 1, vi 0), (.aload_n 0, 0, 0, 0, vi 0), (.invokevirtual 446, 216, 1, 1, vi 0), (.if_icmp .ne 6, 23, 0, 0, vi 0), (.iinc 2 1, 2, 0, 0, vi 1), (.iinc 3 1, 3, 0, 0, vi 1), (.goto (-26), 12, 0, 0, vi 0), (.iload_n 2, 2, 0, 0, vi 0), (.ireturn, 0, 0, 0, vi 0)]
def am_b249 : List Nat := [0, 1, 2, 3, 6, 9, 12, 13, 14, 15, 16, 17, 18, 19, 20, 23, 24, 27, 28, 31, 32, 35, 38, 41, 44, 47, 48]
/-- WordEachModel.draws()V -/
def am_c250 : List mo := [(.iconst 0, 0, 0, 0, vi 0), (.istore_n 1, 1, 0, 0, vi 0), (.iconst 0, 0, 0, 0, vi 0), (.istore_n 2, 2, 0, 0, vi 0), (.iload_n 2, 2, 0, 0, vi 0), (.aload_n 0, 0, 0, 0, vi 0), (.invokevirtual 351, 185, 1, 1, vi 0), (.if_icmp .ge 70, 48, 0, 0, vi 0), (.aload_n 0, 0, 0, 0, vi 0), (.aload_n 0, 0, 0, 0, vi 0), (.invokevirtual 351, 185, 1, 1, vi 0), (.iload_n 2, 2, 0, 0, vi 0), (.isub, 0, 0, 0, vi 0), (.invokevirtual 524, 251, 2, 1, vi 0), (.istore_n 3, 3, 0, 0, vi 0), (.iconst 0, 0, 0, 0, vi 0), (.istore 4, 4, 0, 0, vi 0), (.iload_n 1, 1, 0, 0, vi 0), (.iload 4, 4, 0, 0, vi 0), (.ishr, 0, 0, 0, vi 0), (.iconst 1, 0, 0, 0, vi 1), (.iand, 0, 0, 0, vi 0), (.iconst 1, 0, 0, 0, vi 1), (.if_icmp .eq 7, 26, 0, 0, vi 0), (.iload_n 3, 3, 0, 0, vi 0), (.ifCond .le 21, 35, 0, 0, vi 0), (.iload_n 1, 1, 0, 0, vi 0), (.iload 4, 4, 0, 0, vi 0), (.ishr, 0, 0, 0, vi 0), (.iconst 1, 0, 0, 0, vi 1), (.iand, 0, 0, 0, vi 0), (.ifCond .ne 6, 33, 0, 0, vi 0), (.iinc 3 (-1), 3, 0, 0, vi (-1)), (.iinc 4 1, 4, 0, 0, vi 1), (.goto (-29), 17, 0, 0, vi 0), (.aload_n 0, 0, 0, 0, vi 0), (.getfield 133, 12, 56, 2, vi 0), (.iload_n 2, 2, 0, 0, vi 0), (.iload 4, 4, 0, 0, vi 0), (.iastore, 0, 0, 0, vi 0), (.iload_n 1, 1, 0, 0, vi 0), (.iconst 1, 0, 0, 0, vi 1), (.iload 4, 4, 0, 0, vi 0), (.ishl, 0, 0, 0, vi 0), (.ior, 0, 0, 0, vi 0), (.istore_n 1, 1, 0, 0, vi 0), (.iinc 2 1, 2, 0, 0, vi 1), (.goto (-72), 4, 0, 0, vi 0), (.return_, 0, 0, 0, vi 0)]
def am_b250 : List Nat := [0, 1, 2, 3, 4, 5, 6, 9, 12, 13, 14, 17, 18, 19, 22, 23, 24, 26, 27, 29, 30, 31, 32, 33, 36, 37, 40, 41, 43, 44, 45, 46, 49, 52, 55, 58, 59, 62, 63, 65, 66, 67, 68, 70, 71, 72, 73, 76, 79]
/-- WordEachModel.drawOf(I)I -/
def am_c251 : List mo := [(.aload_n 0, 0, 0, 0, vi 0), (.ldc2_w 516, 0, 0, 0, vl 1103515245), (.aload_n 0, 0, 0, 0, vi 0), (.getfield 136, 12, 57, 1, vi 0), (.lmul, 0, 0, 0, vi 0), (.ldc2_w 518, 0, 0, 0, vl 12345), (.ladd, 0, 0, 0, vi 0), (.ldc2_w 520, 0, 0, 0, vl 2147483648), (.lrem, 0, 0, 0, vi 0), (.putfield 136, 12, 57, 1, vi 0), (.aload_n 0, 0, 0, 0, vi 0), (.getfield 136, 12, 57, 1, vi 0), (.ldc2_w 522, 0, 0, 0, vl 64), (.ldiv, 0, 0, 0, vi 0), (.iload_n 1, 1, 0, 0, vi 0), (.i2l, 0, 0, 0, vi 0), (.lrem, 0, 0, 0, vi 0), (.l2i, 0, 0, 0, vi 0), (.ireturn, 0, 0, 0, vi 0)]
def am_b251 : List Nat := [0, 1, 4, 5, 8, 9, 12, 13, 16, 17, 20, 21, 24, 27, 28, 29, 30, 31, 32]
end
section
/-- WordEachModel.odds(I)I -/
def am_c252 : List mo := [(.iload_n 1, 1, 0, 0, vi 0), (.i2l, 0, 0, 0, vi 0), (.lconst 0, 0, 0, 0, vl 0), (.ldc2_w 420, 0, 0, 0, vl 2), (.invokestatic 252, 171, 3, 1, vi 0), (.ifCond .ne 5, 8, 0, 0, vi 0), (.iconst (-1), 0, 0, 0, vi (-1)), (.ireturn, 0, 0, 0, vi 0), (.iconst 0, 0, 0, 0, vi 0), (.istore_n 2, 2, 0, 0, vi 0), (.iconst 0, 0, 0, 0, vi 0), (.istore_n 3, 3, 0, 0, vi 0), (.iload_n 3, 3, 0, 0, vi 0), (.aload_n 0, 0, 0, 0, vi 0), (.invokevirtual 532, 253, 1, 1, vi 0), (.if_icmp .ge 26, 27, 0, 0, vi 0), (.aload_n 0, 0, 0, 0, vi 0), (.iload_n 3, 3, 0, 0, vi 0), (.invokevirtual 535, 254, 2, 0, vi 0), (.aload_n 0, 0, 0, 0, vi 0), (.iconst (-1), 0, 0, 0, vi (-1)), (.invokevirtual 538, 255, 2, 1, vi 0), (.iload_n 1, 1, 0, 0, vi 0), (.if_icmp .ne 6, 25, 0, 0, vi 0), (.iinc 2 1, 2, 0, 0, vi 1), (.iinc 3 1, 3, 0, 0, vi 1), (.goto (-28), 12, 0, 0, vi 0), (.sipush 1000, 0, 0, 0, vi 1000), (.iload_n 2, 2, 0, 0, vi 0), (.imul, 0, 0, 0, vi 0), (.aload_n 0, 0, 0, 0, vi 0), (.invokevirtual 532, 253, 1, 1, vi 0), (.idiv, 0, 0, 0, vi 0), (.ireturn, 0, 0, 0, vi 0)]
def am_b252 : List Nat := [0, 1, 2, 3, 6, 9, 12, 13, 14, 15, 16, 17, 18, 19, 20, 23, 26, 27, 28, 31, 32, 33, 36, 37, 40, 43, 46, 49, 52, 53, 54, 55, 58, 59]
/-- WordEachModel.waysAll()I -/
def am_c253 : List mo := [(.iconst 1, 0, 0, 0, vi 1), (.istore_n 1, 1, 0, 0, vi 0), (.iconst 0, 0, 0, 0, vi 0), (.istore_n 2, 2, 0, 0, vi 0), (.iload_n 2, 2, 0, 0, vi 0), (.aload_n 0, 0, 0, 0, vi 0), (.invokevirtual 351, 185, 1, 1, vi 0), (.if_icmp .ge 17, 16, 0, 0, vi 0), (.iload_n 1, 1, 0, 0, vi 0), (.aload_n 0, 0, 0, 0, vi 0), (.iload_n 2, 2, 0, 0, vi 0), (.invokevirtual 397, 187, 2, 1, vi 0), (.imul, 0, 0, 0, vi 0), (.istore_n 1, 1, 0, 0, vi 0), (.iinc 2 1, 2, 0, 0, vi 1), (.goto (-19), 4, 0, 0, vi 0), (.iload_n 1, 1, 0, 0, vi 0), (.ireturn, 0, 0, 0, vi 0)]
def am_b253 : List Nat := [0, 1, 2, 3, 4, 5, 6, 9, 12, 13, 14, 15, 18, 19, 20, 23, 26, 27]
/-- WordEachModel.waysAt(I)V -/
def am_c254 : List mo := [(.iload_n 1, 1, 0, 0, vi 0), (.istore_n 2, 2, 0, 0, vi 0), (.iconst 0, 0, 0, 0, vi 0), (.istore_n 3, 3, 0, 0, vi 0), (.iload_n 3, 3, 0, 0, vi 0), (.aload_n 0, 0, 0, 0, vi 0), (.invokevirtual 351, 185, 1, 1, vi 0), (.if_icmp .ge 30, 25, 0, 0, vi 0), (.aload_n 0, 0, 0, 0, vi 0), (.getfield 140, 12, 58, 2, vi 0), (.iload_n 3, 3, 0, 0, vi 0), (.iload_n 2, 2, 0, 0, vi 0), (.aload_n 0, 0, 0, 0, vi 0), (.iload_n 3, 3, 0, 0, vi 0), (.invokevirtual 397, 187, 2, 1, vi 0), (.irem, 0, 0, 0, vi 0), (.iastore, 0, 0, 0, vi 0), (.iload_n 2, 2, 0, 0, vi 0), (.aload_n 0, 0, 0, 0, vi 0), (.iload_n 3, 3, 0, 0, vi 0), (.invokevirtual 397, 187, 2, 1, vi 0), (.idiv, 0, 0, 0, vi 0), (.istore_n 2, 2, 0, 0, vi 0), (.iinc 3 1, 3, 0, 0, vi 1), (.goto (-32), 4, 0, 0, vi 0), (.return_, 0, 0, 0, vi 0)]
def am_b254 : List Nat := [0, 1, 2, 3, 4, 5, 6, 9, 12, 13, 16, 17, 18, 19, 20, 23, 24, 25, 26, 27, 28, 31, 32, 33, 36, 39]
/-- WordEachModel.rulesWay(I)I -/
def am_c255 : List mo := [(.aload_n 0, 0, 0, 0, vi 0), (.iconst 0, 0, 0, 0, vi 0), (.putfield 354, 12, 44, 0, vi 0), (.iconst 0, 0, 0, 0, vi 0), (.istore_n 2, 2, 0, 0, vi 0), (.iload_n 2, 2, 0, 0, vi 0), (.aload_n 0, 0, 0, 0, vi 0), (.invokevirtual 351, 185, 1, 1, vi 0), (.if_icmp .ge 29, 23, 0, 0, vi 0), (.iload_n 2, 2, 0, 0, vi 0), (.iload_n 1, 1, 0, 0, vi 0), (.if_icmp .eq 18, 21, 0, 0, vi 0), (.aload_n 0, 0, 0, 0, vi 0), (.aload_n 0, 0, 0, 0, vi 0), (.iload_n 2, 2, 0, 0, vi 0), (.aload_n 0, 0, 0, 0, vi 0), (.getfield 140, 12, 58, 2, vi 0), (.iload_n 2, 2, 0, 0, vi 0), (.iaload, 0, 0, 0, vi 0), (.invokevirtual 400, 188, 3, 1, vi 0), (.invokevirtual 357, 203, 2, 0, vi 0), (.iinc 2 1, 2, 0, 0, vi 1), (.goto (-31), 5, 0, 0, vi 0), (.aload_n 0, 0, 0, 0, vi 0), (.invokevirtual 440, 215, 1, 1, vi 0), (.ireturn, 0, 0, 0, vi 0)]
def am_b255 : List Nat := [0, 1, 2, 5, 6, 7, 8, 9, 12, 15, 16, 17, 20, 21, 22, 23, 24, 27, 28, 29, 32, 35, 38, 41, 42, 45]
/-- WordEachModel.parts(III)I -/
def am_c256 : List mo := [(.iload_n 1, 1, 0, 0, vi 0), (.i2l, 0, 0, 0, vi 0), (.lconst 0, 0, 0, 0, vl 0), (.ldc2_w 420, 0, 0, 0, vl 2), (.invokestatic 252, 171, 3, 1, vi 0), (.ifCond .eq 28, 21, 0, 0, vi 0), (.aload_n 0, 0, 0, 0, vi 0), (.iload_n 2, 2, 0, 0, vi 0), (.invokevirtual 417, 191, 2, 1, vi 0), (.ifCond .eq 20, 21, 0, 0, vi 0), (.iload_n 3, 3, 0, 0, vi 0), (.i2l, 0, 0, 0, vi 0), (.lconst 0, 0, 0, 0, vl 0), (.aload_n 0, 0, 0, 0, vi 0), (.iload_n 2, 2, 0, 0, vi 0), (.invokevirtual 397, 187, 2, 1, vi 0), (.iconst 1, 0, 0, 0, vi 1), (.isub, 0, 0, 0, vi 0), (.i2l, 0, 0, 0, vi 0), (.invokestatic 252, 171, 3, 1, vi 0), (.ifCond .ne 5, 23, 0, 0, vi 0), (.iconst (-1), 0, 0, 0, vi (-1)), (.ireturn, 0, 0, 0, vi 0), (.iconst 0, 0, 0, 0, vi 0), (.istore 4, 4, 0, 0, vi 0), (.iconst 0, 0, 0, 0, vi 0), (.istore 5, 5, 0, 0, vi 0), (.iconst 0, 0, 0, 0, vi 0), (.istore 6, 6, 0, 0, vi 0), (.iload 6, 6, 0, 0, vi 0), (.aload_n 0, 0, 0, 0, vi 0), (.invokevirtual 532, 253, 1, 1, vi 0), (.if_icmp .ge 43, 52, 0, 0, vi 0), (.aload_n 0, 0, 0, 0, vi 0), (.iload 6, 6, 0, 0, vi 0), (.invokevirtual 535, 254, 2, 0, vi 0), (.aload_n 0, 0, 0, 0, vi 0), (.iconst (-1), 0, 0, 0, vi (-1)), (.invokevirtual 538, 255, 2, 1, vi 0), (.iload_n 1, 1, 0, 0, vi 0), (.if_icmp .eq 6, 42, 0, 0, vi 0), (.goto 19, 50, 0, 0, vi 0), (.iinc 5 1, 5, 0, 0, vi 1), (.aload_n 0, 0, 0, 0, vi 0), (.getfield 140, 12, 58, 2, vi 0), (.iload_n 2, 2, 0, 0, vi 0), (.iaload, 0, 0, 0, vi 0), (.iload_n 3, 3, 0, 0, vi 0), (.if_icmp .ne 6, 50, 0, 0, vi 0), (.iinc 4 1, 4, 0, 0, vi 1), (.iinc 6 1, 6, 0, 0, vi 1), (.goto (-46), 29, 0, 0, vi 0), (.iload 5, 5, 0, 0, vi 0), (.ifCond .ne 7, 56, 0, 0, vi 0), (.iconst 0, 0, 0, 0, vi 0), (.goto 12, 61, 0, 0, vi 0), (.sipush 1000, 0, 0, 0, vi 1000), (.iload 4, 4, 0, 0, vi 0), (.imul, 0, 0, 0, vi 0), (.iload 5, 5, 0, 0, vi 0), (.idiv, 0, 0, 0, vi 0), (.ireturn, 0, 0, 0, vi 0)]
def am_b256 : List Nat := [0, 1, 2, 3, 6, 9, 12, 13, 14, 17, 20, 21, 22, 23, 24, 25, 28, 29, 30, 31, 34, 37, 38, 39, 40, 42, 43, 45, 46, 48, 50, 51, 54, 57, 58, 60, 63, 64, 65, 68, 69, 72, 75, 78, 79, 82, 83, 84, 85, 88, 91, 94, 97, 99, 102, 103, 106, 109, 111, 112, 114, 115]
/-- WordEachModel.inn(II)I -/
def am_c257 : List mo := [(.iload_n 1, 1, 0, 0, vi 0), (.i2l, 0, 0, 0, vi 0), (.lconst 0, 0, 0, 0, vl 0), (.ldc2_w 420, 0, 0, 0, vl 2), (.invokestatic 252, 171, 3, 1, vi 0), (.ifCond .eq 11, 10, 0, 0, vi 0), (.aload_n 0, 0, 0, 0, vi 0), (.iload_n 2, 2, 0, 0, vi 0), (.invokevirtual 417, 191, 2, 1, vi 0), (.ifCond .ne 5, 12, 0, 0, vi 0), (.iconst (-1), 0, 0, 0, vi (-1)), (.ireturn, 0, 0, 0, vi 0), (.iconst 0, 0, 0, 0, vi 0), (.istore_n 3, 3, 0, 0, vi 0), (.iconst 0, 0, 0, 0, vi 0), (.istore 4, 4, 0, 0, vi 0), (.iload 4, 4, 0, 0, vi 0), (.aload_n 0, 0, 0, 0, vi 0), (.invokevirtual 532, 253, 1, 1, vi 0), (.if_icmp .ge 36, 36, 0, 0, vi 0), (.aload_n 0, 0, 0, 0, vi 0), (.iload 4, 4, 0, 0, vi 0), (.invokevirtual 535, 254, 2, 0, vi 0), (.aload_n 0, 0, 0, 0, vi 0), (.iconst (-1), 0, 0, 0, vi (-1)), (.invokevirtual 538, 255, 2, 1, vi 0), (.iload_n 1, 1, 0, 0, vi 0), (.if_icmp .ne 15, 34, 0, 0, vi 0), (.aload_n 0, 0, 0, 0, vi 0), (.iload_n 2, 2, 0, 0, vi 0), (.invokevirtual 538, 255, 2, 1, vi 0), (.iload_n 1, 1, 0, 0, vi 0), (.if_icmp .eq 6, 34, 0, 0, vi 0), (.iinc 3 1, 3, 0, 0, vi 1), (.iinc 4 1, 4, 0, 0, vi 1), (.goto (-39), 16, 0, 0, vi 0), (.iload_n 3, 3, 0, 0, vi 0), (.ireturn, 0, 0, 0, vi 0)]
def am_b257 : List Nat := [0, 1, 2, 3, 6, 9, 12, 13, 14, 17, 20, 21, 22, 23, 24, 25, 27, 29, 30, 33, 36, 37, 39, 42, 43, 44, 47, 48, 51, 52, 53, 56, 57, 60, 63, 66, 69, 70]
/-- WordEachModel.ask()J -/
def am_c258 : List mo := [(.aload_n 0, 0, 0, 0, vi 0), (.aload_n 0, 0, 0, 0, vi 0), (.getfield 209, 12, 1, 0, vi 0), (.putfield 221, 12, 3, 0, vi 0), (.aload_n 0, 0, 0, 0, vi 0), (.iconst 0, 0, 0, 0, vi 0), (.putfield 209, 12, 1, 0, vi 0), (.aload_n 0, 0, 0, 0, vi 0), (.iconst 0, 0, 0, 0, vi 0), (.putfield 218, 12, 2, 0, vi 0), (.aload_n 0, 0, 0, 0, vi 0), (.iconst (-1), 0, 0, 0, vi (-1)), (.putfield 232, 12, 4, 0, vi 0), (.aload_n 0, 0, 0, 0, vi 0), (.iconst 0, 0, 0, 0, vi 0), (.putfield 212, 12, 5, 0, vi 0), (.aload_n 0, 0, 0, 0, vi 0), (.iconst (-1), 0, 0, 0, vi (-1)), (.putfield 215, 12, 6, 0, vi 0), (.aload_n 0, 0, 0, 0, vi 0), (.iconst 0, 0, 0, 0, vi 0), (.putfield 541, 12, 78, 0, vi 0), (.aload_n 0, 0, 0, 0, vi 0), (.iconst 0, 0, 0, 0, vi 0), (.putfield 547, 12, 80, 0, vi 0), (.aload_n 0, 0, 0, 0, vi 0), (.iconst 0, 0, 0, 0, vi 0), (.putfield 544, 12, 81, 0, vi 0), (.aload_n 0, 0, 0, 0, vi 0), (.iconst 0, 0, 0, 0, vi 0), (.putfield 553, 12, 82, 0, vi 0), (.aload_n 0, 0, 0, 0, vi 0), (.invokevirtual 649, 259, 1, 1, vi 0), (.istore_n 1, 1, 0, 0, vi 0), (.aload_n 0, 0, 0, 0, vi 0), (.getfield 212, 12, 5, 0, vi 0), (.ifCond .ne 15, 43, 0, 0, vi 0), (.iload_n 1, 1, 0, 0, vi 0), (.iconst 3, 0, 0, 0, vi 3), (.if_icmp .ge 10, 43, 0, 0, vi 0), (.aload_n 0, 0, 0, 0, vi 0), (.invokevirtual 652, 260, 1, 0, vi 0), (.goto 14, 48, 0, 0, vi 0), (.aload_n 0, 0, 0, 0, vi 0), (.getfield 212, 12, 5, 0, vi 0), (.ifCond .ne 7, 48, 0, 0, vi 0), (.aload_n 0, 0, 0, 0, vi 0), (.invokevirtual 592, 264, 1, 0, vi 0), (.aload_n 0, 0, 0, 0, vi 0), (.getfield 212, 12, 5, 0, vi 0), (.ifCond .ne 20, 60, 0, 0, vi 0), (.aload_n 0, 0, 0, 0, vi 0), (.invokevirtual 224, 150, 1, 1, vi 0), (.iconst (-1), 0, 0, 0, vi (-1)), (.if_icmp .eq 12, 60, 0, 0, vi 0), (.aload_n 0, 0, 0, 0, vi 0), (.iconst 1, 0, 0, 0, vi 1), (.aload_n 0, 0, 0, 0, vi 0), (.getfield 218, 12, 2, 0, vi 0), (.invokevirtual 242, 152, 3, 0, vi 0), (.aload_n 0, 0, 0, 0, vi 0), (.aload_n 0, 0, 0, 0, vi 0), (.getfield 212, 12, 5, 0, vi 0), (.putfield 329, 12, 7, 0, vi 0), (.aload_n 0, 0, 0, 0, vi 0), (.aload_n 0, 0, 0, 0, vi 0), (.getfield 215, 12, 6, 0, vi 0), (.putfield 13, 12, 8, 0, vi 0), (.aload_n 0, 0, 0, 0, vi 0), (.getfield 212, 12, 5, 0, vi 0), (.ifCond .eq 7, 73, 0, 0, vi 0), (.ldc2_w 655, 0, 0, 0, vl (-1000000000000000)), (.lreturn, 0, 0, 0, vi 0), (.aload_n 0, 0, 0, 0, vi 0), (.iload_n 1, 1, 0, 0, vi 0), (.iconst 2, 0, 0, 0, vi 2), (.if_icmp .ge 9, 79, 0, 0, vi 0), (.ldc2_w 482, 0, 0, 0, vl (-1)), (.goto 4, 80, 0, 0, vi 0), (.lconst 0, 0, 0, 0, vl 0), (.putfield 643, 12, 85, 1, vi 0), (.aload_n 0, 0, 0, 0, vi 0), (.iconst 1, 0, 0, 0, vi 1), (.putfield 646, 12, 86, 3, vi 0), (.iconst 0, 0, 0, 0, vi 0), (.istore_n 2, 2, 0, 0, vi 0), (.iload_n 2, 2, 0, 0, vi 0), (.aload_n 0, 0, 0, 0, vi 0), (.invokevirtual 452, 218, 1, 1, vi 0), (.if_icmp .ge 20, 99, 0, 0, vi 0), (.aload_n 0, 0, 0, 0, vi 0), (.iload_n 1, 1, 0, 0, vi 0), (.aload_n 0, 0, 0, 0, vi 0), (.iload_n 2, 2, 0, 0, vi 0), (.invokevirtual 657, 279, 2, 2, vi 0), (.iload_n 2, 2, 0, 0, vi 0), (.invokevirtual 661, 287, 4, 0, vi 0), (.iinc 2 1, 2, 0, 0, vi 1), (.goto (-22), 86, 0, 0, vi 0), (.aload_n 0, 0, 0, 0, vi 0), (.getfield 643, 12, 85, 1, vi 0), (.lreturn, 0, 0, 0, vi 0)]
def am_b258 : List Nat := [0, 1, 2, 5, 8, 9, 10, 13, 14, 15, 18, 19, 20, 23, 24, 25, 28, 29, 30, 33, 34, 35, 38, 39, 40, 43, 44, 45, 48, 49, 50, 53, 54, 57, 58, 59, 62, 65, 66, 67, 70, 71, 74, 77, 78, 81, 84, 85, 88, 89, 92, 95, 96, 99, 100, 103, 104, 105, 106, 109, 112, 113, 114, 117, 120, 121, 122, 125, 128, 129, 132, 135, 138, 139, 140, 141, 142, 145, 148, 151, 152, 155, 156, 157, 160, 161, 162, 163, 164, 167, 170, 171, 172, 173, 174, 177, 178, 181, 184, 187, 188, 191]
/-- WordEachModel.qKind()I -/
def am_c259 : List mo := [(.aload_n 0, 0, 0, 0, vi 0), (.aload_n 0, 0, 0, 0, vi 0), (.getfield 143, 12, 59, 2, vi 0), (.invokevirtual 239, 153, 2, 1, vi 0), (.ifCond .eq 7, 7, 0, 0, vi 0), (.iconst 0, 0, 0, 0, vi 0), (.goto 64, 36, 0, 0, vi 0), (.aload_n 0, 0, 0, 0, vi 0), (.aload_n 0, 0, 0, 0, vi 0), (.getfield 146, 12, 60, 2, vi 0), (.invokevirtual 239, 153, 2, 1, vi 0), (.ifCond .eq 7, 14, 0, 0, vi 0), (.iconst 1, 0, 0, 0, vi 1), (.goto 49, 36, 0, 0, vi 0), (.aload_n 0, 0, 0, 0, vi 0), (.aload_n 0, 0, 0, 0, vi 0), (.getfield 149, 12, 61, 2, vi 0), (.invokevirtual 239, 153, 2, 1, vi 0), (.ifCond .eq 7, 21, 0, 0, vi 0), (.iconst 2, 0, 0, 0, vi 2), (.goto 34, 36, 0, 0, vi 0), (.aload_n 0, 0, 0, 0, vi 0), (.aload_n 0, 0, 0, 0, vi 0), (.getfield 152, 12, 62, 2, vi 0), (.invokevirtual 239, 153, 2, 1, vi 0), (.ifCond .eq 7, 28, 0, 0, vi 0), (.iconst 3, 0, 0, 0, vi 3), (.goto 19, 36, 0, 0, vi 0), (.aload_n 0, 0, 0, 0, vi 0), (.aload_n 0, 0, 0, 0, vi 0), (.getfield 155, 12, 63, 2, vi 0), (.invokevirtual 239, 153, 2, 1, vi 0), (.ifCond .eq 7, 35, 0, 0, vi 0), (.iconst 4, 0, 0, 0, vi 4), (.goto 4, 36, 0, 0, vi 0), (.iconst 5, 0, 0, 0, vi 5), (.istore_n 1, 1, 0, 0, vi 0), (.iload_n 1, 1, 0, 0, vi 0), (.iconst 5, 0, 0, 0, vi 5), (.if_icmp .ne 11, 44, 0, 0, vi 0), (.aload_n 0, 0, 0, 0, vi 0), (.aload_n 0, 0, 0, 0, vi 0), (.getfield 158, 12, 64, 2, vi 0), (.invokevirtual 286, 165, 2, 0, vi 0), (.iload_n 1, 1, 0, 0, vi 0), (.ireturn, 0, 0, 0, vi 0)]
def am_b259 : List Nat := [0, 1, 2, 5, 8, 11, 12, 15, 16, 17, 20, 23, 26, 27, 30, 31, 32, 35, 38, 41, 42, 45, 46, 47, 50, 53, 56, 57, 60, 61, 62, 65, 68, 71, 72, 75, 76, 77, 78, 79, 82, 83, 84, 87, 90, 91]
/-- WordEachModel.qTest()V -/
def am_c260 : List mo := [(.iconst 1, 0, 0, 0, vi 1), (.istore_n 1, 1, 0, 0, vi 0), (.iload_n 1, 1, 0, 0, vi 0), (.ifCond .eq 107, 55, 0, 0, vi 0), (.aload_n 0, 0, 0, 0, vi 0), (.getfield 212, 12, 5, 0, vi 0), (.ifCond .ne 100, 55, 0, 0, vi 0), (.aload_n 0, 0, 0, 0, vi 0), (.invokevirtual 224, 150, 1, 1, vi 0), (.istore_n 2, 2, 0, 0, vi 0), (.iload_n 2, 2, 0, 0, vi 0), (.bipush 91, 0, 0, 0, vi 91), (.if_icmp .ne 26, 25, 0, 0, vi 0), (.aload_n 0, 0, 0, 0, vi 0), (.bipush 25, 0, 0, 0, vi 25), (.aload_n 0, 0, 0, 0, vi 0), (.getfield 218, 12, 2, 0, vi 0), (.invokevirtual 568, 261, 3, 0, vi 0), (.aload_n 0, 0, 0, 0, vi 0), (.dup, 0, 0, 0, vi 0), (.getfield 218, 12, 2, 0, vi 0), (.iconst 1, 0, 0, 0, vi 1), (.iadd, 0, 0, 0, vi 0), (.putfield 218, 12, 2, 0, vi 0), (.goto (-42), 2, 0, 0, vi 0), (.aload_n 0, 0, 0, 0, vi 0), (.aload_n 0, 0, 0, 0, vi 0), (.getfield 161, 12, 65, 2, vi 0), (.invokevirtual 235, 154, 2, 1, vi 0), (.ifCond .eq 24, 40, 0, 0, vi 0), (.aload_n 0, 0, 0, 0, vi 0), (.bipush 12, 0, 0, 0, vi 12), (.aload_n 0, 0, 0, 0, vi 0), (.getfield 218, 12, 2, 0, vi 0), (.invokevirtual 568, 261, 3, 0, vi 0), (.aload_n 0, 0, 0, 0, vi 0), (.aload_n 0, 0, 0, 0, vi 0), (.getfield 161, 12, 65, 2, vi 0), (.invokevirtual 286, 165, 2, 0, vi 0), (.goto (-74), 2, 0, 0, vi 0), (.aload_n 0, 0, 0, 0, vi 0), (.invokevirtual 595, 262, 1, 0, vi 0), (.aload_n 0, 0, 0, 0, vi 0), (.invokevirtual 598, 276, 1, 0, vi 0), (.aload_n 0, 0, 0, 0, vi 0), (.getfield 212, 12, 5, 0, vi 0), (.ifCond .ne 14, 52, 0, 0, vi 0), (.aload_n 0, 0, 0, 0, vi 0), (.invokevirtual 601, 277, 1, 1, vi 0), (.ifCond .eq 7, 52, 0, 0, vi 0), (.iconst 1, 0, 0, 0, vi 1), (.goto 4, 53, 0, 0, vi 0), (.iconst 0, 0, 0, 0, vi 0), (.istore_n 1, 1, 0, 0, vi 0), (.goto (-105), 2, 0, 0, vi 0), (.aload_n 0, 0, 0, 0, vi 0), (.getfield 212, 12, 5, 0, vi 0), (.ifCond .ne 17, 64, 0, 0, vi 0), (.aload_n 0, 0, 0, 0, vi 0), (.getfield 547, 12, 80, 0, vi 0), (.ifCond .le 10, 64, 0, 0, vi 0), (.aload_n 0, 0, 0, 0, vi 0), (.invokevirtual 559, 270, 1, 0, vi 0), (.goto (-18), 55, 0, 0, vi 0), (.return_, 0, 0, 0, vi 0)]
def am_b260 : List Nat := [0, 1, 2, 3, 6, 7, 10, 13, 14, 17, 18, 19, 21, 24, 25, 27, 28, 31, 34, 35, 36, 39, 40, 41, 44, 47, 48, 49, 52, 55, 58, 59, 61, 62, 65, 68, 69, 70, 73, 76, 79, 80, 83, 84, 87, 88, 91, 94, 95, 98, 101, 102, 105, 106, 107, 110, 111, 114, 117, 118, 121, 124, 125, 128, 131]
/-- WordEachModel.qOpens(II)V -/
def am_c261 : List mo := [(.aload_n 0, 0, 0, 0, vi 0), (.getfield 212, 12, 5, 0, vi 0), (.ifCond .eq 4, 4, 0, 0, vi 0), (.return_, 0, 0, 0, vi 0), (.aload_n 0, 0, 0, 0, vi 0), (.getfield 544, 12, 81, 0, vi 0), (.bipush 6, 0, 0, 0, vi 6), (.if_icmp .ne 10, 13, 0, 0, vi 0), (.aload_n 0, 0, 0, 0, vi 0), (.iconst 4, 0, 0, 0, vi 4), (.iload_n 2, 2, 0, 0, vi 0), (.invokevirtual 242, 152, 3, 0, vi 0), (.return_, 0, 0, 0, vi 0), (.aload_n 0, 0, 0, 0, vi 0), (.dup, 0, 0, 0, vi 0), (.getfield 544, 12, 81, 0, vi 0), (.iconst 1, 0, 0, 0, vi 1), (.iadd, 0, 0, 0, vi 0), (.putfield 544, 12, 81, 0, vi 0), (.aload_n 0, 0, 0, 0, vi 0), (.getfield 200, 12, 79, 2, vi 0), (.aload_n 0, 0, 0, 0, vi 0), (.getfield 547, 12, 80, 0, vi 0), (.iload_n 1, 1, 0, 0, vi 0), (.iastore, 0, 0, 0, vi 0), (.aload_n 0, 0, 0, 0, vi 0), (.dup, 0, 0, 0, vi 0), (.getfield 547, 12, 80, 0, vi 0), (.iconst 1, 0, 0, 0, vi 1), (.iadd, 0, 0, 0, vi 0), (.putfield 547, 12, 80, 0, vi 0), (.return_, 0, 0, 0, vi 0)]
def am_b261 : List Nat := [0, 1, 4, 7, 8, 9, 12, 14, 17, 18, 19, 20, 23, 24, 25, 26, 29, 30, 31, 34, 35, 38, 39, 42, 43, 44, 45, 46, 49, 50, 51, 54]
/-- WordEachModel.qFact()V -/
def am_c262 : List mo := [(.aload_n 0, 0, 0, 0, vi 0), (.aload_n 0, 0, 0, 0, vi 0), (.getfield 170, 12, 68, 2, vi 0), (.invokevirtual 239, 153, 2, 1, vi 0), (.ifCond .eq 10, 9, 0, 0, vi 0), (.aload_n 0, 0, 0, 0, vi 0), (.bipush 13, 0, 0, 0, vi 13), (.invokevirtual 550, 263, 2, 0, vi 0), (.return_, 0, 0, 0, vi 0), (.aload_n 0, 0, 0, 0, vi 0), (.invokevirtual 592, 264, 1, 0, vi 0), (.aload_n 0, 0, 0, 0, vi 0), (.getfield 212, 12, 5, 0, vi 0), (.ifCond .eq 4, 15, 0, 0, vi 0), (.return_, 0, 0, 0, vi 0), (.aload_n 0, 0, 0, 0, vi 0), (.invokevirtual 224, 150, 1, 1, vi 0), (.istore_n 1, 1, 0, 0, vi 0), (.iload_n 1, 1, 0, 0, vi 0), (.bipush 60, 0, 0, 0, vi 60), (.if_icmp .eq 25, 33, 0, 0, vi 0), (.iload_n 1, 1, 0, 0, vi 0), (.bipush 62, 0, 0, 0, vi 62), (.if_icmp .eq 19, 33, 0, 0, vi 0), (.iload_n 1, 1, 0, 0, vi 0), (.bipush 61, 0, 0, 0, vi 61), (.if_icmp .eq 13, 33, 0, 0, vi 0), (.aload_n 0, 0, 0, 0, vi 0), (.iconst 1, 0, 0, 0, vi 1), (.aload_n 0, 0, 0, 0, vi 0), (.getfield 218, 12, 2, 0, vi 0), (.invokevirtual 242, 152, 3, 0, vi 0), (.return_, 0, 0, 0, vi 0), (.aload_n 0, 0, 0, 0, vi 0), (.dup, 0, 0, 0, vi 0), (.getfield 218, 12, 2, 0, vi 0), (.iconst 1, 0, 0, 0, vi 1), (.iadd, 0, 0, 0, vi 0), (.putfield 218, 12, 2, 0, vi 0), (.aload_n 0, 0, 0, 0, vi 0), (.invokevirtual 592, 264, 1, 0, vi 0), (.aload_n 0, 0, 0, 0, vi 0), (.iload_n 1, 1, 0, 0, vi 0), (.bipush 60, 0, 0, 0, vi 60), (.if_icmp .ne 8, 47, 0, 0, vi 0), (.bipush 7, 0, 0, 0, vi 7), (.goto 16, 53, 0, 0, vi 0), (.iload_n 1, 1, 0, 0, vi 0), (.bipush 62, 0, 0, 0, vi 62), (.if_icmp .ne 8, 52, 0, 0, vi 0), (.bipush 8, 0, 0, 0, vi 8), (.goto 5, 53, 0, 0, vi 0), (.bipush 9, 0, 0, 0, vi 9), (.invokevirtual 550, 263, 2, 0, vi 0), (.return_, 0, 0, 0, vi 0)]
def am_b262 : List Nat := [0, 1, 2, 5, 8, 11, 12, 14, 17, 18, 19, 22, 23, 26, 29, 30, 31, 34, 35, 36, 38, 41, 42, 44, 47, 48, 50, 53, 54, 55, 56, 59, 62, 63, 64, 65, 68, 69, 70, 73, 74, 77, 78, 79, 81, 84, 86, 89, 90, 92, 95, 97, 100, 102, 105]
/-- WordEachModel.qCode(I)V -/
def am_c263 : List mo := [(.aload_n 0, 0, 0, 0, vi 0), (.getfield 197, 12, 77, 2, vi 0), (.aload_n 0, 0, 0, 0, vi 0), (.getfield 541, 12, 78, 0, vi 0), (.iload_n 1, 1, 0, 0, vi 0), (.iastore, 0, 0, 0, vi 0), (.aload_n 0, 0, 0, 0, vi 0), (.dup, 0, 0, 0, vi 0), (.getfield 541, 12, 78, 0, vi 0), (.iconst 1, 0, 0, 0, vi 1), (.iadd, 0, 0, 0, vi 0), (.putfield 541, 12, 78, 0, vi 0), (.return_, 0, 0, 0, vi 0)]
def am_b263 : List Nat := [0, 1, 4, 5, 8, 9, 10, 11, 12, 15, 16, 17, 20]
/-- WordEachModel.qSums()V -/
def am_c264 : List mo := [(.aload_n 0, 0, 0, 0, vi 0), (.getfield 553, 12, 82, 0, vi 0), (.istore_n 1, 1, 0, 0, vi 0), (.aload_n 0, 0, 0, 0, vi 0), (.aload_n 0, 0, 0, 0, vi 0), (.getfield 547, 12, 80, 0, vi 0), (.putfield 553, 12, 82, 0, vi 0), (.iconst 1, 0, 0, 0, vi 1), (.istore_n 2, 2, 0, 0, vi 0), (.iload_n 2, 2, 0, 0, vi 0), (.ifCond .eq 37, 27, 0, 0, vi 0), (.aload_n 0, 0, 0, 0, vi 0), (.getfield 212, 12, 5, 0, vi 0), (.ifCond .ne 30, 27, 0, 0, vi 0), (.aload_n 0, 0, 0, 0, vi 0), (.invokevirtual 586, 265, 1, 0, vi 0), (.aload_n 0, 0, 0, 0, vi 0), (.getfield 212, 12, 5, 0, vi 0), (.ifCond .ne 14, 24, 0, 0, vi 0), (.aload_n 0, 0, 0, 0, vi 0), (.invokevirtual 589, 271, 1, 1, vi 0), (.ifCond .eq 7, 24, 0, 0, vi 0), (.iconst 1, 0, 0, 0, vi 1), (.goto 4, 25, 0, 0, vi 0), (.iconst 0, 0, 0, 0, vi 0), (.istore_n 2, 2, 0, 0, vi 0), (.goto (-35), 9, 0, 0, vi 0), (.aload_n 0, 0, 0, 0, vi 0), (.getfield 212, 12, 5, 0, vi 0), (.ifCond .ne 21, 38, 0, 0, vi 0), (.aload_n 0, 0, 0, 0, vi 0), (.getfield 547, 12, 80, 0, vi 0), (.aload_n 0, 0, 0, 0, vi 0), (.getfield 553, 12, 82, 0, vi 0), (.if_icmp .le 10, 38, 0, 0, vi 0), (.aload_n 0, 0, 0, 0, vi 0), (.invokevirtual 559, 270, 1, 0, vi 0), (.goto (-22), 27, 0, 0, vi 0), (.aload_n 0, 0, 0, 0, vi 0), (.iload_n 1, 1, 0, 0, vi 0), (.putfield 553, 12, 82, 0, vi 0), (.return_, 0, 0, 0, vi 0)]
def am_b264 : List Nat := [0, 1, 4, 5, 6, 7, 10, 13, 14, 15, 16, 19, 20, 23, 26, 27, 30, 31, 34, 37, 38, 41, 44, 45, 48, 49, 50, 53, 54, 57, 60, 61, 64, 65, 68, 71, 72, 75, 78, 79, 80, 83]
/-- WordEachModel.qPartTold()V -/
def am_c265 : List mo := [(.iconst 1, 0, 0, 0, vi 1), (.istore_n 1, 1, 0, 0, vi 0), (.iload_n 1, 1, 0, 0, vi 0), (.ifCond .eq 181, 94, 0, 0, vi 0), (.aload_n 0, 0, 0, 0, vi 0), (.getfield 212, 12, 5, 0, vi 0), (.ifCond .ne 174, 94, 0, 0, vi 0), (.aload_n 0, 0, 0, 0, vi 0), (.invokevirtual 224, 150, 1, 1, vi 0), (.istore_n 2, 2, 0, 0, vi 0), (.aload_n 0, 0, 0, 0, vi 0), (.iconst 4, 0, 0, 0, vi 4), (.bipush 6, 0, 0, 0, vi 6), (.invokevirtual 565, 266, 3, 1, vi 0), (.istore_n 3, 3, 0, 0, vi 0), (.iload_n 2, 2, 0, 0, vi 0), (.bipush 40, 0, 0, 0, vi 40), (.if_icmp .ne 26, 30, 0, 0, vi 0), (.aload_n 0, 0, 0, 0, vi 0), (.bipush 20, 0, 0, 0, vi 20), (.aload_n 0, 0, 0, 0, vi 0), (.getfield 218, 12, 2, 0, vi 0), (.invokevirtual 568, 261, 3, 0, vi 0), (.aload_n 0, 0, 0, 0, vi 0), (.dup, 0, 0, 0, vi 0), (.getfield 218, 12, 2, 0, vi 0), (.iconst 1, 0, 0, 0, vi 1), (.iadd, 0, 0, 0, vi 0), (.putfield 218, 12, 2, 0, vi 0), (.goto 129, 93, 0, 0, vi 0), (.aload_n 0, 0, 0, 0, vi 0), (.aload_n 0, 0, 0, 0, vi 0), (.getfield 173, 12, 69, 2, vi 0), (.invokevirtual 235, 154, 2, 1, vi 0), (.ifCond .ne 14, 40, 0, 0, vi 0), (.aload_n 0, 0, 0, 0, vi 0), (.aload_n 0, 0, 0, 0, vi 0), (.getfield 176, 12, 70, 2, vi 0), (.invokevirtual 235, 154, 2, 1, vi 0), (.ifCond .eq 78, 75, 0, 0, vi 0), (.aload_n 0, 0, 0, 0, vi 0), (.aload_n 0, 0, 0, 0, vi 0), (.getfield 173, 12, 69, 2, vi 0), (.invokevirtual 239, 153, 2, 1, vi 0), (.istore 4, 4, 0, 0, vi 0), (.iload 4, 4, 0, 0, vi 0), (.ifCond .ne 11, 51, 0, 0, vi 0), (.aload_n 0, 0, 0, 0, vi 0), (.aload_n 0, 0, 0, 0, vi 0), (.getfield 176, 12, 70, 2, vi 0), (.invokevirtual 286, 165, 2, 0, vi 0), (.aload_n 0, 0, 0, 0, vi 0), (.invokevirtual 224, 150, 1, 1, vi 0), (.bipush 40, 0, 0, 0, vi 40), (.if_icmp .ne 10, 58, 0, 0, vi 0), (.aload_n 0, 0, 0, 0, vi 0), (.getfield 218, 12, 2, 0, vi 0), (.goto 4, 59, 0, 0, vi 0), (.iconst (-1), 0, 0, 0, vi (-1)), (.istore 5, 5, 0, 0, vi 0), (.iload 5, 5, 0, 0, vi 0), (.iconst (-1), 0, 0, 0, vi (-1)), (.if_icmp .eq 21, 71, 0, 0, vi 0), (.aload_n 0, 0, 0, 0, vi 0), (.iload 4, 4, 0, 0, vi 0), (.ifCond .eq 8, 68, 0, 0, vi 0), (.bipush 21, 0, 0, 0, vi 21), (.goto 5, 69, 0, 0, vi 0), (.bipush 22, 0, 0, 0, vi 22), (.iload 5, 5, 0, 0, vi 0), (.invokevirtual 568, 261, 3, 0, vi 0), (.aload_n 0, 0, 0, 0, vi 0), (.bipush 40, 0, 0, 0, vi 40), (.invokevirtual 323, 174, 2, 0, vi 0), (.goto 32, 93, 0, 0, vi 0), (.iload_n 3, 3, 0, 0, vi 0), (.iconst (-1), 0, 0, 0, vi (-1)), (.if_icmp .eq 25, 91, 0, 0, vi 0), (.aload_n 0, 0, 0, 0, vi 0), (.bipush 60, 0, 0, 0, vi 60), (.iload_n 3, 3, 0, 0, vi 0), (.iadd, 0, 0, 0, vi 0), (.iconst 4, 0, 0, 0, vi 4), (.isub, 0, 0, 0, vi 0), (.aload_n 0, 0, 0, 0, vi 0), (.getfield 218, 12, 2, 0, vi 0), (.invokevirtual 568, 261, 3, 0, vi 0), (.aload_n 0, 0, 0, 0, vi 0), (.iload_n 3, 3, 0, 0, vi 0), (.invokevirtual 571, 268, 2, 0, vi 0), (.goto 5, 93, 0, 0, vi 0), (.iconst 0, 0, 0, 0, vi 0), (.istore_n 1, 1, 0, 0, vi 0), (.goto (-179), 2, 0, 0, vi 0), (.aload_n 0, 0, 0, 0, vi 0), (.getfield 212, 12, 5, 0, vi 0), (.ifCond .eq 4, 98, 0, 0, vi 0), (.return_, 0, 0, 0, vi 0), (.aload_n 0, 0, 0, 0, vi 0), (.iconst 0, 0, 0, 0, vi 0), (.iconst 4, 0, 0, 0, vi 4), (.invokevirtual 565, 266, 3, 1, vi 0), (.istore_n 2, 2, 0, 0, vi 0), (.iload_n 2, 2, 0, 0, vi 0), (.iconst (-1), 0, 0, 0, vi (-1)), (.if_icmp .eq 8, 109, 0, 0, vi 0), (.aload_n 0, 0, 0, 0, vi 0), (.iload_n 2, 2, 0, 0, vi 0), (.invokevirtual 571, 268, 2, 0, vi 0), (.aload_n 0, 0, 0, 0, vi 0), (.iload_n 2, 2, 0, 0, vi 0), (.iconst (-1), 0, 0, 0, vi (-1)), (.if_icmp .eq 10, 117, 0, 0, vi 0), (.bipush 40, 0, 0, 0, vi 40), (.iload_n 2, 2, 0, 0, vi 0), (.iadd, 0, 0, 0, vi 0), (.goto 15, 123, 0, 0, vi 0), (.sipush 1000, 0, 0, 0, vi 1000), (.aload_n 0, 0, 0, 0, vi 0), (.iconst 0, 0, 0, 0, vi 0), (.sipush 9999, 0, 0, 0, vi 9999), (.invokevirtual 297, 169, 3, 1, vi 0), (.iadd, 0, 0, 0, vi 0), (.invokevirtual 550, 263, 2, 0, vi 0), (.aload_n 0, 0, 0, 0, vi 0), (.invokevirtual 574, 269, 1, 0, vi 0), (.return_, 0, 0, 0, vi 0)]
def am_b265 : List Nat := [0, 1, 2, 3, 6, 7, 10, 13, 14, 17, 18, 19, 20, 22, 25, 26, 27, 29, 32, 33, 35, 36, 39, 42, 43, 44, 47, 48, 49, 52, 55, 56, 57, 60, 63, 66, 67, 68, 71, 74, 77, 78, 79, 82, 85, 87, 89, 92, 93, 94, 97, 100, 101, 104, 106, 109, 110, 113, 116, 117, 119, 121, 122, 125, 126, 128, 131, 133, 136, 138, 140, 143, 144, 146, 149, 152, 153, 154, 157, 158, 160, 161, 162, 163, 164, 165, 168, 171, 172, 173, 176, 179, 180, 181, 184, 185, 188, 191, 192, 193, 194, 195, 198, 199, 200, 201, 204, 205, 206, 209, 210, 211, 212, 215, 217, 218, 219, 222, 225, 226, 227, 230, 233, 234, 237, 238, 241]
/-- WordEachModel.qWordOf(II)I -/
def am_c266 : List mo := [(.aload_n 0, 0, 0, 0, vi 0), (.invokevirtual 562, 267, 1, 1, vi 0), (.istore_n 3, 3, 0, 0, vi 0), (.iload_n 3, 3, 0, 0, vi 0), (.iload_n 1, 1, 0, 0, vi 0), (.if_icmp .lt 12, 11, 0, 0, vi 0), (.iload_n 3, 3, 0, 0, vi 0), (.iload_n 2, 2, 0, 0, vi 0), (.if_icmp .ge 7, 11, 0, 0, vi 0), (.iload_n 3, 3, 0, 0, vi 0), (.goto 4, 12, 0, 0, vi 0), (.iconst (-1), 0, 0, 0, vi (-1)), (.ireturn, 0, 0, 0, vi 0)]
def am_b266 : List Nat := [0, 1, 4, 5, 6, 7, 10, 11, 12, 15, 16, 19, 20]
/-- WordEachModel.qWordHere()I -/
def am_c267 : List mo := [(.aload_n 0, 0, 0, 0, vi 0), (.aload_n 0, 0, 0, 0, vi 0), (.getfield 179, 12, 71, 2, vi 0), (.invokevirtual 235, 154, 2, 1, vi 0), (.ifCond .eq 5, 7, 0, 0, vi 0), (.iconst 0, 0, 0, 0, vi 0), (.ireturn, 0, 0, 0, vi 0), (.aload_n 0, 0, 0, 0, vi 0), (.aload_n 0, 0, 0, 0, vi 0), (.getfield 182, 12, 72, 2, vi 0), (.invokevirtual 235, 154, 2, 1, vi 0), (.ifCond .eq 5, 14, 0, 0, vi 0), (.iconst 1, 0, 0, 0, vi 1), (.ireturn, 0, 0, 0, vi 0), (.aload_n 0, 0, 0, 0, vi 0), (.aload_n 0, 0, 0, 0, vi 0), (.getfield 185, 12, 73, 2, vi 0), (.invokevirtual 235, 154, 2, 1, vi 0), (.ifCond .eq 5, 21, 0, 0, vi 0), (.iconst 2, 0, 0, 0, vi 2), (.ireturn, 0, 0, 0, vi 0), (.aload_n 0, 0, 0, 0, vi 0), (.aload_n 0, 0, 0, 0, vi 0), (.getfield 188, 12, 74, 2, vi 0), (.invokevirtual 235, 154, 2, 1, vi 0), (.ifCond .eq 5, 28, 0, 0, vi 0), (.iconst 3, 0, 0, 0, vi 3), (.ireturn, 0, 0, 0, vi 0), (.aload_n 0, 0, 0, 0, vi 0), (.aload_n 0, 0, 0, 0, vi 0), (.getfield 191, 12, 75, 2, vi 0), (.invokevirtual 235, 154, 2, 1, vi 0), (.ifCond .eq 5, 35, 0, 0, vi 0), (.iconst 4, 0, 0, 0, vi 4), (.ireturn, 0, 0, 0, vi 0), (.aload_n 0, 0, 0, 0, vi 0), (.aload_n 0, 0, 0, 0, vi 0), (.getfield 194, 12, 76, 2, vi 0), (.invokevirtual 235, 154, 2, 1, vi 0), (.ifCond .eq 5, 42, 0, 0, vi 0), (.iconst 5, 0, 0, 0, vi 5), (.ireturn, 0, 0, 0, vi 0), (.iconst (-1), 0, 0, 0, vi (-1)), (.ireturn, 0, 0, 0, vi 0)]
def am_b267 : List Nat := [0, 1, 2, 5, 8, 11, 12, 13, 14, 15, 18, 21, 24, 25, 26, 27, 28, 31, 34, 37, 38, 39, 40, 41, 44, 47, 50, 51, 52, 53, 54, 57, 60, 63, 64, 65, 66, 67, 70, 73, 76, 77, 78, 79]
/-- WordEachModel.qAsksWord(I)V -/
def am_c268 : List mo := [(.iload_n 1, 1, 0, 0, vi 0), (.tableswitch 90 0 4 #[35, 46, 57, 68, 79], 11, 0, 0, vi 0), (.aload_n 0, 0, 0, 0, vi 0), (.aload_n 0, 0, 0, 0, vi 0), (.getfield 179, 12, 71, 2, vi 0), (.invokevirtual 286, 165, 2, 0, vi 0), (.goto 55, 31, 0, 0, vi 0), (.aload_n 0, 0, 0, 0, vi 0), (.aload_n 0, 0, 0, 0, vi 0), (.getfield 182, 12, 72, 2, vi 0), (.invokevirtual 286, 165, 2, 0, vi 0), (.goto 44, 31, 0, 0, vi 0), (.aload_n 0, 0, 0, 0, vi 0), (.aload_n 0, 0, 0, 0, vi 0), (.getfield 185, 12, 73, 2, vi 0), (.invokevirtual 286, 165, 2, 0, vi 0), (.goto 33, 31, 0, 0, vi 0), (.aload_n 0, 0, 0, 0, vi 0), (.aload_n 0, 0, 0, 0, vi 0), (.getfield 188, 12, 74, 2, vi 0), (.invokevirtual 286, 165, 2, 0, vi 0), (.goto 22, 31, 0, 0, vi 0), (.aload_n 0, 0, 0, 0, vi 0), (.aload_n 0, 0, 0, 0, vi 0), (.getfield 191, 12, 75, 2, vi 0), (.invokevirtual 286, 165, 2, 0, vi 0), (.goto 11, 31, 0, 0, vi 0), (.aload_n 0, 0, 0, 0, vi 0), (.aload_n 0, 0, 0, 0, vi 0), (.getfield 194, 12, 76, 2, vi 0), (.invokevirtual 286, 165, 2, 0, vi 0), (.return_, 0, 0, 0, vi 0)]
def am_b268 : List Nat := [0, 1, 36, 37, 38, 41, 44, 47, 48, 49, 52, 55, 58, 59, 60, 63, 66, 69, 70, 71, 74, 77, 80, 81, 82, 85, 88, 91, 92, 93, 96, 99]
/-- WordEachModel.qEndsPart()V -/
def am_c269 : List mo := [(.aload_n 0, 0, 0, 0, vi 0), (.getfield 212, 12, 5, 0, vi 0), (.ifCond .ne 47, 26, 0, 0, vi 0), (.aload_n 0, 0, 0, 0, vi 0), (.getfield 547, 12, 80, 0, vi 0), (.aload_n 0, 0, 0, 0, vi 0), (.getfield 553, 12, 82, 0, vi 0), (.if_icmp .le 36, 26, 0, 0, vi 0), (.aload_n 0, 0, 0, 0, vi 0), (.getfield 200, 12, 79, 2, vi 0), (.aload_n 0, 0, 0, 0, vi 0), (.getfield 547, 12, 80, 0, vi 0), (.iconst 1, 0, 0, 0, vi 1), (.isub, 0, 0, 0, vi 0), (.iaload, 0, 0, 0, vi 0), (.bipush 60, 0, 0, 0, vi 60), (.if_icmp .lt 20, 26, 0, 0, vi 0), (.aload_n 0, 0, 0, 0, vi 0), (.dup, 0, 0, 0, vi 0), (.getfield 544, 12, 81, 0, vi 0), (.iconst 1, 0, 0, 0, vi 1), (.isub, 0, 0, 0, vi 0), (.putfield 544, 12, 81, 0, vi 0), (.aload_n 0, 0, 0, 0, vi 0), (.invokevirtual 559, 270, 1, 0, vi 0), (.goto (-48), 0, 0, 0, vi 0), (.return_, 0, 0, 0, vi 0)]
def am_b269 : List Nat := [0, 1, 4, 7, 8, 11, 12, 15, 18, 19, 22, 23, 26, 27, 28, 29, 31, 34, 35, 36, 39, 40, 41, 44, 45, 48, 51]
/-- WordEachModel.qDrops()V -/
def am_c270 : List mo := [(.aload_n 0, 0, 0, 0, vi 0), (.dup, 0, 0, 0, vi 0), (.getfield 547, 12, 80, 0, vi 0), (.iconst 1, 0, 0, 0, vi 1), (.isub, 0, 0, 0, vi 0), (.putfield 547, 12, 80, 0, vi 0), (.aload_n 0, 0, 0, 0, vi 0), (.aload_n 0, 0, 0, 0, vi 0), (.getfield 200, 12, 79, 2, vi 0), (.aload_n 0, 0, 0, 0, vi 0), (.getfield 547, 12, 80, 0, vi 0), (.iaload, 0, 0, 0, vi 0), (.invokevirtual 550, 263, 2, 0, vi 0), (.return_, 0, 0, 0, vi 0)]
def am_b270 : List Nat := [0, 1, 2, 5, 6, 7, 10, 11, 12, 15, 16, 19, 20, 23]
/-- WordEachModel.qGoesOn()Z -/
def am_c271 : List mo := [(.aload_n 0, 0, 0, 0, vi 0), (.getfield 212, 12, 5, 0, vi 0), (.ifCond .ne 118, 61, 0, 0, vi 0), (.aload_n 0, 0, 0, 0, vi 0), (.invokevirtual 224, 150, 1, 1, vi 0), (.bipush 41, 0, 0, 0, vi 41), (.if_icmp .ne 109, 61, 0, 0, vi 0), (.aload_n 0, 0, 0, 0, vi 0), (.invokevirtual 577, 272, 1, 1, vi 0), (.bipush 20, 0, 0, 0, vi 20), (.if_icmp .eq 21, 19, 0, 0, vi 0), (.aload_n 0, 0, 0, 0, vi 0), (.invokevirtual 577, 272, 1, 1, vi 0), (.bipush 23, 0, 0, 0, vi 23), (.if_icmp .eq 12, 19, 0, 0, vi 0), (.aload_n 0, 0, 0, 0, vi 0), (.invokevirtual 577, 272, 1, 1, vi 0), (.bipush 24, 0, 0, 0, vi 24), (.if_icmp .ne 82, 61, 0, 0, vi 0), (.aload_n 0, 0, 0, 0, vi 0), (.dup, 0, 0, 0, vi 0), (.getfield 218, 12, 2, 0, vi 0), (.iconst 1, 0, 0, 0, vi 1), (.iadd, 0, 0, 0, vi 0), (.putfield 218, 12, 2, 0, vi 0), (.aload_n 0, 0, 0, 0, vi 0), (.invokevirtual 580, 274, 1, 0, vi 0), (.aload_n 0, 0, 0, 0, vi 0), (.dup, 0, 0, 0, vi 0), (.getfield 547, 12, 80, 0, vi 0), (.iconst 1, 0, 0, 0, vi 1), (.isub, 0, 0, 0, vi 0), (.putfield 547, 12, 80, 0, vi 0), (.aload_n 0, 0, 0, 0, vi 0), (.dup, 0, 0, 0, vi 0), (.getfield 544, 12, 81, 0, vi 0), (.iconst 1, 0, 0, 0, vi 1), (.isub, 0, 0, 0, vi 0), (.putfield 544, 12, 81, 0, vi 0), (.aload_n 0, 0, 0, 0, vi 0), (.getfield 200, 12, 79, 2, vi 0), (.aload_n 0, 0, 0, 0, vi 0), (.getfield 547, 12, 80, 0, vi 0), (.iaload, 0, 0, 0, vi 0), (.bipush 20, 0, 0, 0, vi 20), (.if_icmp .eq 27, 58, 0, 0, vi 0), (.aload_n 0, 0, 0, 0, vi 0), (.aload_n 0, 0, 0, 0, vi 0), (.getfield 200, 12, 79, 2, vi 0), (.aload_n 0, 0, 0, 0, vi 0), (.getfield 547, 12, 80, 0, vi 0), (.iaload, 0, 0, 0, vi 0), (.bipush 23, 0, 0, 0, vi 23), (.if_icmp .ne 7, 56, 0, 0, vi 0), (.iconst 5, 0, 0, 0, vi 5), (.goto 5, 57, 0, 0, vi 0), (.bipush 6, 0, 0, 0, vi 6), (.invokevirtual 550, 263, 2, 0, vi 0), (.aload_n 0, 0, 0, 0, vi 0), (.invokevirtual 574, 269, 1, 0, vi 0), (.goto (-119), 0, 0, 0, vi 0), (.aload_n 0, 0, 0, 0, vi 0), (.bipush 42, 0, 0, 0, vi 42), (.invokevirtual 246, 175, 2, 1, vi 0), (.ifCond .ne 12, 69, 0, 0, vi 0), (.aload_n 0, 0, 0, 0, vi 0), (.bipush 47, 0, 0, 0, vi 47), (.invokevirtual 246, 175, 2, 1, vi 0), (.ifCond .eq 70, 107, 0, 0, vi 0), (.aload_n 0, 0, 0, 0, vi 0), (.getfield 7, 12, 0, 2, vi 0), (.aload_n 0, 0, 0, 0, vi 0), (.getfield 218, 12, 2, 0, vi 0), (.iconst 1, 0, 0, 0, vi 1), (.isub, 0, 0, 0, vi 0), (.iaload, 0, 0, 0, vi 0), (.bipush 42, 0, 0, 0, vi 42), (.if_icmp .ne 7, 80, 0, 0, vi 0), (.iconst 3, 0, 0, 0, vi 3), (.goto 4, 81, 0, 0, vi 0), (.iconst 4, 0, 0, 0, vi 4), (.istore_n 1, 1, 0, 0, vi 0), (.aload_n 0, 0, 0, 0, vi 0), (.iconst 3, 0, 0, 0, vi 3), (.invokevirtual 583, 275, 2, 1, vi 0), (.ifCond .ne 11, 90, 0, 0, vi 0), (.aload_n 0, 0, 0, 0, vi 0), (.iconst 4, 0, 0, 0, vi 4), (.invokevirtual 583, 275, 2, 1, vi 0), (.ifCond .eq 10, 93, 0, 0, vi 0), (.aload_n 0, 0, 0, 0, vi 0), (.invokevirtual 559, 270, 1, 0, vi 0), (.goto (-20), 82, 0, 0, vi 0), (.aload_n 0, 0, 0, 0, vi 0), (.getfield 200, 12, 79, 2, vi 0), (.aload_n 0, 0, 0, 0, vi 0), (.getfield 547, 12, 80, 0, vi 0), (.iload_n 1, 1, 0, 0, vi 0), (.iastore, 0, 0, 0, vi 0), (.aload_n 0, 0, 0, 0, vi 0), (.dup, 0, 0, 0, vi 0), (.getfield 547, 12, 80, 0, vi 0), (.iconst 1, 0, 0, 0, vi 1), (.iadd, 0, 0, 0, vi 0), (.putfield 547, 12, 80, 0, vi 0), (.iconst 1, 0, 0, 0, vi 1), (.ireturn, 1, 0, 0, vi 0), (.aload_n 0, 0, 0, 0, vi 0), (.bipush 43, 0, 0, 0, vi 43), (.invokevirtual 246, 175, 2, 1, vi 0), (.ifCond .ne 12, 115, 0, 0, vi 0), (.aload_n 0, 0, 0, 0, vi 0), (.bipush 45, 0, 0, 0, vi 45), (.invokevirtual 246, 175, 2, 1, vi 0), (.ifCond .eq 86, 161, 0, 0, vi 0), (.aload_n 0, 0, 0, 0, vi 0), (.getfield 7, 12, 0, 2, vi 0), (.aload_n 0, 0, 0, 0, vi 0), (.getfield 218, 12, 2, 0, vi 0), (.iconst 1, 0, 0, 0, vi 1), (.isub, 0, 0, 0, vi 0), (.iaload, 0, 0, 0, vi 0), (.bipush 43, 0, 0, 0, vi 43), (.if_icmp .ne 7, 126, 0, 0, vi 0), (.iconst 1, 0, 0, 0, vi 1), (.goto 4, 127, 0, 0, vi 0), (.iconst 2, 0, 0, 0, vi 2), (.istore_n 1, 1, 0, 0, vi 0), (.aload_n 0, 0, 0, 0, vi 0), (.iconst 3, 0, 0, 0, vi 3), (.invokevirtual 583, 275, 2, 1, vi 0), (.ifCond .ne 27, 144, 0, 0, vi 0), (.aload_n 0, 0, 0, 0, vi 0), (.iconst 4, 0, 0, 0, vi 4), (.invokevirtual 583, 275, 2, 1, vi 0), (.ifCond .ne 19, 144, 0, 0, vi 0), (.aload_n 0, 0, 0, 0, vi 0), (.iconst 1, 0, 0, 0, vi 1), (.invokevirtual 583, 275, 2, 1, vi 0), (.ifCond .ne 11, 144, 0, 0, vi 0), (.aload_n 0, 0, 0, 0, vi 0), (.iconst 2, 0, 0, 0, vi 2), (.invokevirtual 583, 275, 2, 1, vi 0), (.ifCond .eq 10, 147, 0, 0, vi 0), (.aload_n 0, 0, 0, 0, vi 0), (.invokevirtual 559, 270, 1, 0, vi 0), (.goto (-36), 128, 0, 0, vi 0), (.aload_n 0, 0, 0, 0, vi 0), (.getfield 200, 12, 79, 2, vi 0), (.aload_n 0, 0, 0, 0, vi 0), (.getfield 547, 12, 80, 0, vi 0), (.iload_n 1, 1, 0, 0, vi 0), (.iastore, 0, 0, 0, vi 0), (.aload_n 0, 0, 0, 0, vi 0), (.dup, 0, 0, 0, vi 0), (.getfield 547, 12, 80, 0, vi 0), (.iconst 1, 0, 0, 0, vi 1), (.iadd, 0, 0, 0, vi 0), (.putfield 547, 12, 80, 0, vi 0), (.iconst 1, 0, 0, 0, vi 1), (.ireturn, 1, 0, 0, vi 0), (.aload_n 0, 0, 0, 0, vi 0), (.invokevirtual 577, 272, 1, 1, vi 0), (.bipush 21, 0, 0, 0, vi 21), (.if_icmp .eq 12, 169, 0, 0, vi 0), (.aload_n 0, 0, 0, 0, vi 0), (.invokevirtual 577, 272, 1, 1, vi 0), (.bipush 22, 0, 0, 0, vi 22), (.if_icmp .ne 39, 192, 0, 0, vi 0), (.aload_n 0, 0, 0, 0, vi 0), (.bipush 44, 0, 0, 0, vi 44), (.invokevirtual 323, 174, 2, 0, vi 0), (.aload_n 0, 0, 0, 0, vi 0), (.getfield 212, 12, 5, 0, vi 0), (.ifCond .eq 5, 177, 0, 0, vi 0), (.iconst 0, 0, 0, 0, vi 0), (.ireturn, 1, 0, 0, vi 0), (.aload_n 0, 0, 0, 0, vi 0), (.invokevirtual 580, 274, 1, 0, vi 0), (.aload_n 0, 0, 0, 0, vi 0), (.getfield 200, 12, 79, 2, vi 0), (.aload_n 0, 0, 0, 0, vi 0), (.getfield 547, 12, 80, 0, vi 0), (.iconst 1, 0, 0, 0, vi 1), (.isub, 0, 0, 0, vi 0), (.dup2, 0, 0, 0, vi 0), (.iaload, 0, 0, 0, vi 0), (.iconst 2, 0, 0, 0, vi 2), (.iadd, 0, 0, 0, vi 0), (.iastore, 0, 0, 0, vi 0), (.iconst 1, 0, 0, 0, vi 1), (.ireturn, 1, 0, 0, vi 0), (.aload_n 0, 0, 0, 0, vi 0), (.invokevirtual 577, 272, 1, 1, vi 0), (.iconst (-1), 0, 0, 0, vi (-1)), (.if_icmp .eq 19, 204, 0, 0, vi 0), (.aload_n 0, 0, 0, 0, vi 0), (.getfield 212, 12, 5, 0, vi 0), (.ifCond .ne 12, 204, 0, 0, vi 0), (.aload_n 0, 0, 0, 0, vi 0), (.iconst 1, 0, 0, 0, vi 1), (.aload_n 0, 0, 0, 0, vi 0), (.getfield 218, 12, 2, 0, vi 0), (.invokevirtual 242, 152, 3, 0, vi 0), (.iconst 0, 0, 0, 0, vi 0), (.ireturn, 1, 0, 0, vi 0)]
def am_b271 : List Nat := [0, 1, 4, 7, 8, 11, 13, 16, 17, 20, 22, 25, 26, 29, 31, 34, 35, 38, 40, 43, 44, 45, 48, 49, 50, 53, 54, 57, 58, 59, 62, 63, 64, 67, 68, 69, 72, 73, 74, 77, 78, 81, 82, 85, 86, 88, 91, 92, 93, 96, 97, 100, 101, 103, 106, 107, 110, 112, 115, 116, 119, 122, 123, 125, 128, 131, 132, 134, 137, 140, 141, 144, 145, 148, 149, 150, 151, 153, 156, 157, 160, 161, 162, 163, 164, 167, 170, 171, 172, 175, 178, 179, 182, 185, 186, 189, 190, 193, 194, 195, 196, 197, 200, 201, 202, 205, 206, 207, 208, 210, 213, 216, 217, 219, 222, 225, 226, 229, 230, 233, 234, 235, 236, 238, 241, 242, 245, 246, 247, 248, 249, 252, 255, 256, 257, 260, 263, 264, 265, 268, 271, 272, 273, 276, 279, 280, 283, 286, 287, 290, 291, 294, 295, 296, 297, 298, 301, 302, 303, 306, 307, 308, 309, 312, 314, 317, 318, 321, 323, 326, 327, 329, 332, 333, 336, 339, 340, 341, 342, 345, 346, 349, 350, 353, 354, 355, 356, 357, 358, 359, 360, 361, 362, 363, 366, 367, 370, 371, 374, 377, 378, 379, 380, 383, 386, 387]
/-- WordEachModel.qBracket()I -/
def am_c272 : List mo := [(.aload_n 0, 0, 0, 0, vi 0), (.getfield 547, 12, 80, 0, vi 0), (.iconst 1, 0, 0, 0, vi 1), (.isub, 0, 0, 0, vi 0), (.istore_n 1, 1, 0, 0, vi 0), (.iload_n 1, 1, 0, 0, vi 0), (.aload_n 0, 0, 0, 0, vi 0), (.getfield 553, 12, 82, 0, vi 0), (.if_icmp .lt 21, 17, 0, 0, vi 0), (.aload_n 0, 0, 0, 0, vi 0), (.getfield 200, 12, 79, 2, vi 0), (.iload_n 1, 1, 0, 0, vi 0), (.iaload, 0, 0, 0, vi 0), (.invokestatic 556, 273, 1, 1, vi 0), (.ifCond .ne 9, 17, 0, 0, vi 0), (.iinc 1 (-1), 1, 0, 0, vi (-1)), (.goto (-23), 5, 0, 0, vi 0), (.iload_n 1, 1, 0, 0, vi 0), (.aload_n 0, 0, 0, 0, vi 0), (.getfield 553, 12, 82, 0, vi 0), (.if_icmp .lt 12, 26, 0, 0, vi 0), (.aload_n 0, 0, 0, 0, vi 0), (.getfield 200, 12, 79, 2, vi 0), (.iload_n 1, 1, 0, 0, vi 0), (.iaload, 0, 0, 0, vi 0), (.goto 4, 27, 0, 0, vi 0), (.iconst (-1), 0, 0, 0, vi (-1)), (.ireturn, 0, 0, 0, vi 0)]
def am_b272 : List Nat := [0, 1, 4, 5, 6, 7, 8, 9, 12, 15, 16, 19, 20, 21, 24, 27, 30, 33, 34, 35, 38, 41, 42, 45, 46, 47, 50, 51]
/-- WordEachModel.qIsBracket(I)Z -/
def am_c273 : List mo := [(.iload_n 0, 0, 0, 0, vi 0), (.bipush 20, 0, 0, 0, vi 20), (.if_icmp .lt 13, 8, 0, 0, vi 0), (.iload_n 0, 0, 0, 0, vi 0), (.bipush 24, 0, 0, 0, vi 24), (.if_icmp .gt 7, 8, 0, 0, vi 0), (.iconst 1, 0, 0, 0, vi 1), (.goto 4, 9, 0, 0, vi 0), (.iconst 0, 0, 0, 0, vi 0), (.ireturn, 1, 0, 0, vi 0)]
def am_b273 : List Nat := [0, 1, 3, 6, 7, 9, 12, 13, 16, 17]
/-- WordEachModel.qDropsToBracket()V -/
def am_c274 : List mo := [(.aload_n 0, 0, 0, 0, vi 0), (.getfield 547, 12, 80, 0, vi 0), (.aload_n 0, 0, 0, 0, vi 0), (.getfield 553, 12, 82, 0, vi 0), (.if_icmp .le 27, 17, 0, 0, vi 0), (.aload_n 0, 0, 0, 0, vi 0), (.getfield 200, 12, 79, 2, vi 0), (.aload_n 0, 0, 0, 0, vi 0), (.getfield 547, 12, 80, 0, vi 0), (.iconst 1, 0, 0, 0, vi 1), (.isub, 0, 0, 0, vi 0), (.iaload, 0, 0, 0, vi 0), (.invokestatic 556, 273, 1, 1, vi 0), (.ifCond .ne 10, 17, 0, 0, vi 0), (.aload_n 0, 0, 0, 0, vi 0), (.invokevirtual 559, 270, 1, 0, vi 0), (.goto (-32), 0, 0, 0, vi 0), (.return_, 0, 0, 0, vi 0)]
def am_b274 : List Nat := [0, 1, 4, 5, 8, 11, 12, 15, 16, 19, 20, 21, 22, 25, 28, 29, 32, 35]
/-- WordEachModel.qIsOn(I)Z -/
def am_c275 : List mo := [(.aload_n 0, 0, 0, 0, vi 0), (.getfield 547, 12, 80, 0, vi 0), (.ifCond .le 22, 14, 0, 0, vi 0), (.aload_n 0, 0, 0, 0, vi 0), (.getfield 200, 12, 79, 2, vi 0), (.aload_n 0, 0, 0, 0, vi 0), (.getfield 547, 12, 80, 0, vi 0), (.iconst 1, 0, 0, 0, vi 1), (.isub, 0, 0, 0, vi 0), (.iaload, 0, 0, 0, vi 0), (.iload_n 1, 1, 0, 0, vi 0), (.if_icmp .ne 7, 14, 0, 0, vi 0), (.iconst 1, 0, 0, 0, vi 1), (.goto 4, 15, 0, 0, vi 0), (.iconst 0, 0, 0, 0, vi 0), (.ireturn, 1, 0, 0, vi 0)]
def am_b275 : List Nat := [0, 1, 4, 7, 8, 11, 12, 15, 16, 17, 18, 19, 22, 23, 26, 27]
/-- WordEachModel.qDropsNots()V -/
def am_c276 : List mo := [(.aload_n 0, 0, 0, 0, vi 0), (.getfield 212, 12, 5, 0, vi 0), (.ifCond .ne 29, 16, 0, 0, vi 0), (.aload_n 0, 0, 0, 0, vi 0), (.bipush 12, 0, 0, 0, vi 12), (.invokevirtual 583, 275, 2, 1, vi 0), (.ifCond .eq 20, 16, 0, 0, vi 0), (.aload_n 0, 0, 0, 0, vi 0), (.dup, 0, 0, 0, vi 0), (.getfield 544, 12, 81, 0, vi 0), (.iconst 1, 0, 0, 0, vi 1), (.isub, 0, 0, 0, vi 0), (.putfield 544, 12, 81, 0, vi 0), (.aload_n 0, 0, 0, 0, vi 0), (.invokevirtual 559, 270, 1, 0, vi 0), (.goto (-30), 0, 0, 0, vi 0), (.return_, 0, 0, 0, vi 0)]
def am_b276 : List Nat := [0, 1, 4, 7, 8, 10, 13, 16, 17, 18, 21, 22, 23, 26, 27, 30, 33]
/-- WordEachModel.qGoesOnTest()Z -/
def am_c277 : List mo := [(.aload_n 0, 0, 0, 0, vi 0), (.getfield 212, 12, 5, 0, vi 0), (.ifCond .ne 72, 38, 0, 0, vi 0), (.aload_n 0, 0, 0, 0, vi 0), (.invokevirtual 224, 150, 1, 1, vi 0), (.bipush 93, 0, 0, 0, vi 93), (.if_icmp .ne 63, 38, 0, 0, vi 0), (.aload_n 0, 0, 0, 0, vi 0), (.invokevirtual 604, 278, 1, 1, vi 0), (.ifCond .eq 56, 38, 0, 0, vi 0), (.aload_n 0, 0, 0, 0, vi 0), (.dup, 0, 0, 0, vi 0), (.getfield 218, 12, 2, 0, vi 0), (.iconst 1, 0, 0, 0, vi 1), (.iadd, 0, 0, 0, vi 0), (.putfield 218, 12, 2, 0, vi 0), (.aload_n 0, 0, 0, 0, vi 0), (.bipush 25, 0, 0, 0, vi 25), (.invokevirtual 583, 275, 2, 1, vi 0), (.ifCond .ne 10, 23, 0, 0, vi 0), (.aload_n 0, 0, 0, 0, vi 0), (.invokevirtual 559, 270, 1, 0, vi 0), (.goto (-13), 16, 0, 0, vi 0), (.aload_n 0, 0, 0, 0, vi 0), (.dup, 0, 0, 0, vi 0), (.getfield 547, 12, 80, 0, vi 0), (.iconst 1, 0, 0, 0, vi 1), (.isub, 0, 0, 0, vi 0), (.putfield 547, 12, 80, 0, vi 0), (.aload_n 0, 0, 0, 0, vi 0), (.dup, 0, 0, 0, vi 0), (.getfield 544, 12, 81, 0, vi 0), (.iconst 1, 0, 0, 0, vi 1), (.isub, 0, 0, 0, vi 0), (.putfield 544, 12, 81, 0, vi 0), (.aload_n 0, 0, 0, 0, vi 0), (.invokevirtual 598, 276, 1, 0, vi 0), (.goto (-73), 0, 0, 0, vi 0), (.aload_n 0, 0, 0, 0, vi 0), (.aload_n 0, 0, 0, 0, vi 0), (.getfield 164, 12, 66, 2, vi 0), (.invokevirtual 239, 153, 2, 1, vi 0), (.ifCond .eq 42, 64, 0, 0, vi 0), (.aload_n 0, 0, 0, 0, vi 0), (.bipush 10, 0, 0, 0, vi 10), (.invokevirtual 583, 275, 2, 1, vi 0), (.ifCond .eq 10, 50, 0, 0, vi 0), (.aload_n 0, 0, 0, 0, vi 0), (.invokevirtual 559, 270, 1, 0, vi 0), (.goto (-13), 43, 0, 0, vi 0), (.aload_n 0, 0, 0, 0, vi 0), (.getfield 200, 12, 79, 2, vi 0), (.aload_n 0, 0, 0, 0, vi 0), (.getfield 547, 12, 80, 0, vi 0), (.bipush 10, 0, 0, 0, vi 10), (.iastore, 0, 0, 0, vi 0), (.aload_n 0, 0, 0, 0, vi 0), (.dup, 0, 0, 0, vi 0), (.getfield 547, 12, 80, 0, vi 0), (.iconst 1, 0, 0, 0, vi 1), (.iadd, 0, 0, 0, vi 0), (.putfield 547, 12, 80, 0, vi 0), (.iconst 1, 0, 0, 0, vi 1), (.ireturn, 1, 0, 0, vi 0), (.aload_n 0, 0, 0, 0, vi 0), (.aload_n 0, 0, 0, 0, vi 0), (.getfield 167, 12, 67, 2, vi 0), (.invokevirtual 239, 153, 2, 1, vi 0), (.ifCond .eq 51, 94, 0, 0, vi 0), (.aload_n 0, 0, 0, 0, vi 0), (.bipush 10, 0, 0, 0, vi 10), (.invokevirtual 583, 275, 2, 1, vi 0), (.ifCond .ne 12, 77, 0, 0, vi 0), (.aload_n 0, 0, 0, 0, vi 0), (.bipush 11, 0, 0, 0, vi 11), (.invokevirtual 583, 275, 2, 1, vi 0), (.ifCond .eq 10, 80, 0, 0, vi 0), (.aload_n 0, 0, 0, 0, vi 0), (.invokevirtual 559, 270, 1, 0, vi 0), (.goto (-22), 69, 0, 0, vi 0), (.aload_n 0, 0, 0, 0, vi 0), (.getfield 200, 12, 79, 2, vi 0), (.aload_n 0, 0, 0, 0, vi 0), (.getfield 547, 12, 80, 0, vi 0), (.bipush 11, 0, 0, 0, vi 11), (.iastore, 0, 0, 0, vi 0), (.aload_n 0, 0, 0, 0, vi 0), (.dup, 0, 0, 0, vi 0), (.getfield 547, 12, 80, 0, vi 0), (.iconst 1, 0, 0, 0, vi 1), (.iadd, 0, 0, 0, vi 0), (.putfield 547, 12, 80, 0, vi 0), (.iconst 1, 0, 0, 0, vi 1), (.ireturn, 1, 0, 0, vi 0), (.aload_n 0, 0, 0, 0, vi 0), (.getfield 212, 12, 5, 0, vi 0), (.ifCond .ne 19, 105, 0, 0, vi 0), (.aload_n 0, 0, 0, 0, vi 0), (.invokevirtual 604, 278, 1, 1, vi 0), (.ifCond .eq 12, 105, 0, 0, vi 0), (.aload_n 0, 0, 0, 0, vi 0), (.iconst 1, 0, 0, 0, vi 1), (.aload_n 0, 0, 0, 0, vi 0), (.getfield 218, 12, 2, 0, vi 0), (.invokevirtual 242, 152, 3, 0, vi 0), (.iconst 0, 0, 0, 0, vi 0), (.ireturn, 1, 0, 0, vi 0)]
def am_b277 : List Nat := [0, 1, 4, 7, 8, 11, 13, 16, 17, 20, 23, 24, 25, 28, 29, 30, 33, 34, 36, 39, 42, 43, 46, 49, 50, 51, 54, 55, 56, 59, 60, 61, 64, 65, 66, 69, 70, 73, 76, 77, 78, 81, 84, 87, 88, 90, 93, 96, 97, 100, 103, 104, 107, 108, 111, 113, 114, 115, 116, 119, 120, 121, 124, 125, 126, 127, 128, 131, 134, 137, 138, 140, 143, 146, 147, 149, 152, 155, 156, 159, 162, 163, 166, 167, 170, 172, 173, 174, 175, 178, 179, 180, 183, 184, 185, 186, 189, 192, 193, 196, 199, 200, 201, 202, 205, 208, 209]
/-- WordEachModel.qHasSquare()Z -/
def am_c278 : List mo := [(.iconst 0, 0, 0, 0, vi 0), (.istore_n 1, 1, 0, 0, vi 0), (.iload_n 1, 1, 0, 0, vi 0), (.aload_n 0, 0, 0, 0, vi 0), (.getfield 547, 12, 80, 0, vi 0), (.if_icmp .ge 22, 16, 0, 0, vi 0), (.aload_n 0, 0, 0, 0, vi 0), (.getfield 200, 12, 79, 2, vi 0), (.iload_n 1, 1, 0, 0, vi 0), (.iaload, 0, 0, 0, vi 0), (.bipush 25, 0, 0, 0, vi 25), (.if_icmp .ne 5, 14, 0, 0, vi 0), (.iconst 1, 0, 0, 0, vi 1), (.ireturn, 1, 0, 0, vi 0), (.iinc 1 1, 1, 0, 0, vi 1), (.goto (-24), 2, 0, 0, vi 0), (.iconst 0, 0, 0, 0, vi 0), (.ireturn, 1, 0, 0, vi 0)]
def am_b278 : List Nat := [0, 1, 2, 3, 4, 7, 10, 11, 14, 15, 16, 18, 21, 22, 23, 26, 29, 30]
/-- WordEachModel.qTold(I)J -/
def am_c279 : List mo := [(.aload_n 0, 0, 0, 0, vi 0), (.iconst 0, 0, 0, 0, vi 0), (.putfield 611, 12, 84, 0, vi 0), (.iconst 0, 0, 0, 0, vi 0), (.istore_n 2, 2, 0, 0, vi 0), (.iload_n 2, 2, 0, 0, vi 0), (.aload_n 0, 0, 0, 0, vi 0), (.getfield 541, 12, 78, 0, vi 0), (.if_icmp .ge 156, 94, 0, 0, vi 0), (.aload_n 0, 0, 0, 0, vi 0), (.getfield 197, 12, 77, 2, vi 0), (.iload_n 2, 2, 0, 0, vi 0), (.iaload, 0, 0, 0, vi 0), (.istore_n 3, 3, 0, 0, vi 0), (.iload_n 3, 3, 0, 0, vi 0), (.sipush 1000, 0, 0, 0, vi 1000), (.if_icmp .lt 16, 24, 0, 0, vi 0), (.aload_n 0, 0, 0, 0, vi 0), (.iload_n 3, 3, 0, 0, vi 0), (.sipush 1000, 0, 0, 0, vi 1000), (.isub, 0, 0, 0, vi 0), (.i2l, 0, 0, 0, vi 0), (.invokevirtual 618, 280, 2, 0, vi 0), (.goto 123, 92, 0, 0, vi 0), (.iload_n 3, 3, 0, 0, vi 0), (.bipush 60, 0, 0, 0, vi 60), (.if_icmp .lt 40, 49, 0, 0, vi 0), (.aload_n 0, 0, 0, 0, vi 0), (.getfield 203, 12, 83, 2, vi 0), (.aload_n 0, 0, 0, 0, vi 0), (.getfield 611, 12, 84, 0, vi 0), (.iconst 1, 0, 0, 0, vi 1), (.isub, 0, 0, 0, vi 0), (.aload_n 0, 0, 0, 0, vi 0), (.iload_n 3, 3, 0, 0, vi 0), (.bipush 60, 0, 0, 0, vi 60), (.isub, 0, 0, 0, vi 0), (.aload_n 0, 0, 0, 0, vi 0), (.getfield 203, 12, 83, 2, vi 0), (.aload_n 0, 0, 0, 0, vi 0), (.getfield 611, 12, 84, 0, vi 0), (.iconst 1, 0, 0, 0, vi 1), (.isub, 0, 0, 0, vi 0), (.laload, 0, 0, 0, vi 0), (.iload_n 1, 1, 0, 0, vi 0), (.invokevirtual 632, 281, 4, 2, vi 0), (.invokestatic 614, 283, 1, 2, vi 0), (.lastore, 0, 0, 0, vi 0), (.goto 80, 92, 0, 0, vi 0), (.iload_n 3, 3, 0, 0, vi 0), (.bipush 40, 0, 0, 0, vi 40), (.if_icmp .lt 22, 62, 0, 0, vi 0), (.aload_n 0, 0, 0, 0, vi 0), (.aload_n 0, 0, 0, 0, vi 0), (.iload_n 3, 3, 0, 0, vi 0), (.bipush 40, 0, 0, 0, vi 40), (.isub, 0, 0, 0, vi 0), (.iload_n 1, 1, 0, 0, vi 0), (.invokevirtual 636, 284, 3, 2, vi 0), (.invokestatic 614, 283, 1, 2, vi 0), (.invokevirtual 618, 280, 2, 0, vi 0), (.goto 55, 92, 0, 0, vi 0), (.iload_n 3, 3, 0, 0, vi 0), (.bipush 13, 0, 0, 0, vi 13), (.if_icmp .ne 11, 69, 0, 0, vi 0), (.aload_n 0, 0, 0, 0, vi 0), (.lconst 1, 0, 0, 0, vl 1), (.invokevirtual 618, 280, 2, 0, vi 0), (.goto 41, 92, 0, 0, vi 0), (.iload_n 3, 3, 0, 0, vi 0), (.bipush 12, 0, 0, 0, vi 12), (.if_icmp .ne 30, 89, 0, 0, vi 0), (.aload_n 0, 0, 0, 0, vi 0), (.getfield 203, 12, 83, 2, vi 0), (.aload_n 0, 0, 0, 0, vi 0), (.getfield 611, 12, 84, 0, vi 0), (.iconst 1, 0, 0, 0, vi 1), (.isub, 0, 0, 0, vi 0), (.lconst 1, 0, 0, 0, vl 1), (.aload_n 0, 0, 0, 0, vi 0), (.getfield 203, 12, 83, 2, vi 0), (.aload_n 0, 0, 0, 0, vi 0), (.getfield 611, 12, 84, 0, vi 0), (.iconst 1, 0, 0, 0, vi 1), (.isub, 0, 0, 0, vi 0), (.laload, 0, 0, 0, vi 0), (.lsub, 0, 0, 0, vi 0), (.lastore, 0, 0, 0, vi 0), (.goto 8, 92, 0, 0, vi 0), (.aload_n 0, 0, 0, 0, vi 0), (.iload_n 3, 3, 0, 0, vi 0), (.invokevirtual 640, 285, 2, 0, vi 0), (.iinc 2 1, 2, 0, 0, vi 1), (.goto (-158), 5, 0, 0, vi 0), (.aload_n 0, 0, 0, 0, vi 0), (.getfield 203, 12, 83, 2, vi 0), (.iconst 0, 0, 0, 0, vi 0), (.laload, 0, 0, 0, vi 0), (.lreturn, 0, 0, 0, vi 0)]
def am_b279 : List Nat := [0, 1, 2, 5, 6, 7, 8, 9, 12, 15, 16, 19, 20, 21, 22, 23, 26, 29, 30, 31, 34, 35, 36, 39, 42, 43, 45, 48, 49, 52, 53, 56, 57, 58, 59, 60, 62, 63, 64, 67, 68, 71, 72, 73, 74, 75, 78, 81, 82, 85, 86, 88, 91, 92, 93, 94, 96, 97, 98, 101, 104, 107, 110, 111, 113, 116, 117, 118, 121, 124, 125, 127, 130, 131, 134, 135, 138, 139, 140, 141, 142, 145, 146, 149, 150, 151, 152, 153, 154, 157, 158, 159, 162, 165, 168, 169, 172, 173, 174]
/-- WordEachModel.qPuts(J)V -/
def am_c280 : List mo := [(.aload_n 0, 0, 0, 0, vi 0), (.getfield 203, 12, 83, 2, vi 0), (.aload_n 0, 0, 0, 0, vi 0), (.getfield 611, 12, 84, 0, vi 0), (.lload_n 1, 1, 0, 0, vi 0), (.lastore, 0, 0, 0, vi 0), (.aload_n 0, 0, 0, 0, vi 0), (.dup, 0, 0, 0, vi 0), (.getfield 611, 12, 84, 0, vi 0), (.iconst 1, 0, 0, 0, vi 1), (.iadd, 0, 0, 0, vi 0), (.putfield 611, 12, 84, 0, vi 0), (.return_, 0, 0, 0, vi 0)]
def am_b280 : List Nat := [0, 1, 4, 5, 8, 9, 10, 11, 12, 15, 16, 17, 20]
/-- WordEachModel.qOf(IJI)J -/
def am_c281 : List mo := [(.iload_n 1, 1, 0, 0, vi 0), (.lookupswitch 67 #[(0, 19)], 12, 0, 0, vi 0), (.lload_n 2, 2, 0, 0, vi 0), (.lconst 0, 0, 0, 0, vl 0), (.aload_n 0, 0, 0, 0, vi 0), (.getfield 94, 12, 35, 2, vi 0), (.bipush 72, 0, 0, 0, vi 72), (.bipush 9, 0, 0, 0, vi 9), (.iload 4, 4, 0, 0, vi 0), (.imul, 0, 0, 0, vi 0), (.iadd, 0, 0, 0, vi 0), (.iaload, 0, 0, 0, vi 0), (.iconst 1, 0, 0, 0, vi 1), (.isub, 0, 0, 0, vi 0), (.i2l, 0, 0, 0, vi 0), (.invokestatic 252, 171, 3, 1, vi 0), (.ifCond .eq 23, 30, 0, 0, vi 0), (.aload_n 0, 0, 0, 0, vi 0), (.getfield 94, 12, 35, 2, vi 0), (.bipush 73, 0, 0, 0, vi 73), (.bipush 9, 0, 0, 0, vi 9), (.iload 4, 4, 0, 0, vi 0), (.imul, 0, 0, 0, vi 0), (.iadd, 0, 0, 0, vi 0), (.lload_n 2, 2, 0, 0, vi 0), (.l2i, 0, 0, 0, vi 0), (.iadd, 0, 0, 0, vi 0), (.iaload, 0, 0, 0, vi 0), (.i2l, 0, 0, 0, vi 0), (.goto 6, 31, 0, 0, vi 0), (.ldc2_w 626, 0, 0, 0, vl 99), (.lreturn, 0, 0, 0, vi 0), (.aload_n 0, 0, 0, 0, vi 0), (.lload_n 2, 2, 0, 0, vi 0), (.iload 4, 4, 0, 0, vi 0), (.invokevirtual 628, 282, 3, 2, vi 0), (.lreturn, 0, 0, 0, vi 0)]
def am_b281 : List Nat := [0, 1, 20, 21, 22, 23, 26, 28, 30, 32, 33, 34, 35, 36, 37, 38, 41, 44, 45, 48, 50, 52, 54, 55, 56, 57, 58, 59, 60, 61, 64, 67, 68, 69, 70, 72, 75]
/-- WordEachModel.qHas(JI)J -/
def am_c282 : List mo := [(.iconst 0, 0, 0, 0, vi 0), (.istore 4, 4, 0, 0, vi 0), (.iconst 0, 0, 0, 0, vi 0), (.istore 5, 5, 0, 0, vi 0), (.iload 5, 5, 0, 0, vi 0), (.aload_n 0, 0, 0, 0, vi 0), (.getfield 94, 12, 35, 2, vi 0), (.bipush 72, 0, 0, 0, vi 72), (.bipush 9, 0, 0, 0, vi 9), (.iload_n 3, 3, 0, 0, vi 0), (.imul, 0, 0, 0, vi 0), (.iadd, 0, 0, 0, vi 0), (.iaload, 0, 0, 0, vi 0), (.if_icmp .ge 33, 31, 0, 0, vi 0), (.aload_n 0, 0, 0, 0, vi 0), (.getfield 94, 12, 35, 2, vi 0), (.bipush 73, 0, 0, 0, vi 73), (.bipush 9, 0, 0, 0, vi 9), (.iload_n 3, 3, 0, 0, vi 0), (.imul, 0, 0, 0, vi 0), (.iadd, 0, 0, 0, vi 0), (.iload 5, 5, 0, 0, vi 0), (.iadd, 0, 0, 0, vi 0), (.iaload, 0, 0, 0, vi 0), (.i2l, 0, 0, 0, vi 0), (.lload_n 1, 1, 0, 0, vi 0), (.lcmp, 0, 0, 0, vi 0), (.ifCond .ne 6, 29, 0, 0, vi 0), (.iinc 4 1, 4, 0, 0, vi 1), (.iinc 5 1, 5, 0, 0, vi 1), (.goto (-44), 4, 0, 0, vi 0), (.iload 4, 4, 0, 0, vi 0), (.i2l, 0, 0, 0, vi 0), (.lreturn, 0, 0, 0, vi 0)]
def am_b282 : List Nat := [0, 1, 3, 4, 6, 8, 9, 12, 14, 16, 17, 18, 19, 20, 23, 24, 27, 29, 31, 32, 33, 34, 36, 37, 38, 39, 40, 41, 44, 47, 50, 53, 55, 56]
/-- WordEachModel.qClip(J)J -/
def am_c283 : List mo := [(.lload_n 0, 0, 0, 0, vi 0), (.ldc2_w 607, 0, 0, 0, vl 1000000), (.lcmp, 0, 0, 0, vi 0), (.ifCond .le 9, 6, 0, 0, vi 0), (.ldc2_w 607, 0, 0, 0, vl 1000000), (.goto 18, 13, 0, 0, vi 0), (.lload_n 0, 0, 0, 0, vi 0), (.ldc2_w 609, 0, 0, 0, vl (-1000000)), (.lcmp, 0, 0, 0, vi 0), (.ifCond .ge 9, 12, 0, 0, vi 0), (.ldc2_w 609, 0, 0, 0, vl (-1000000)), (.goto 4, 13, 0, 0, vi 0), (.lload_n 0, 0, 0, 0, vi 0), (.lreturn, 0, 0, 0, vi 0)]
def am_b283 : List Nat := [0, 1, 4, 5, 8, 11, 14, 15, 18, 19, 22, 25, 28, 29]
/-- WordEachModel.qPartOf(II)J -/
def am_c284 : List mo := [(.iload_n 1, 1, 0, 0, vi 0), (.tableswitch 51 0 2 #[27, 30, 44], 13, 0, 0, vi 0), (.iload_n 2, 2, 0, 0, vi 0), (.i2l, 0, 0, 0, vi 0), (.lreturn, 0, 0, 0, vi 0), (.aload_n 0, 0, 0, 0, vi 0), (.getfield 94, 12, 35, 2, vi 0), (.bipush 72, 0, 0, 0, vi 72), (.bipush 9, 0, 0, 0, vi 9), (.iload_n 2, 2, 0, 0, vi 0), (.imul, 0, 0, 0, vi 0), (.iadd, 0, 0, 0, vi 0), (.iaload, 0, 0, 0, vi 0), (.i2l, 0, 0, 0, vi 0), (.lreturn, 0, 0, 0, vi 0), (.aload_n 0, 0, 0, 0, vi 0), (.iload_n 2, 2, 0, 0, vi 0), (.invokevirtual 455, 219, 2, 1, vi 0), (.i2l, 0, 0, 0, vi 0), (.lreturn, 0, 0, 0, vi 0), (.aload_n 0, 0, 0, 0, vi 0), (.iload_n 2, 2, 0, 0, vi 0), (.invokevirtual 455, 219, 2, 1, vi 0), (.aload_n 0, 0, 0, 0, vi 0), (.invokevirtual 446, 216, 1, 1, vi 0), (.if_icmp .ne 7, 28, 0, 0, vi 0), (.lconst 1, 0, 0, 0, vl 1), (.goto 4, 29, 0, 0, vi 0), (.lconst 0, 0, 0, 0, vl 0), (.lreturn, 0, 0, 0, vi 0)]
def am_b284 : List Nat := [0, 1, 28, 29, 30, 31, 32, 35, 37, 39, 40, 41, 42, 43, 44, 45, 46, 47, 50, 51, 52, 53, 54, 57, 58, 61, 64, 65, 68, 69]
/-- WordEachModel.qJoins(I)V -/
def am_c285 : List mo := [(.aload_n 0, 0, 0, 0, vi 0), (.getfield 203, 12, 83, 2, vi 0), (.aload_n 0, 0, 0, 0, vi 0), (.getfield 611, 12, 84, 0, vi 0), (.iconst 1, 0, 0, 0, vi 1), (.isub, 0, 0, 0, vi 0), (.laload, 0, 0, 0, vi 0), (.lstore_n 2, 2, 0, 0, vi 0), (.aload_n 0, 0, 0, 0, vi 0), (.getfield 203, 12, 83, 2, vi 0), (.aload_n 0, 0, 0, 0, vi 0), (.getfield 611, 12, 84, 0, vi 0), (.iconst 2, 0, 0, 0, vi 2), (.isub, 0, 0, 0, vi 0), (.laload, 0, 0, 0, vi 0), (.lstore 4, 4, 0, 0, vi 0), (.aload_n 0, 0, 0, 0, vi 0), (.dup, 0, 0, 0, vi 0), (.getfield 611, 12, 84, 0, vi 0), (.iconst 2, 0, 0, 0, vi 2), (.isub, 0, 0, 0, vi 0), (.putfield 611, 12, 84, 0, vi 0), (.iload_n 1, 1, 0, 0, vi 0), (.tableswitch 219 1 10 #[56, 70, 84, 98, 111, 131, 151, 170, 189, 208], 14, 0, 0, vi 0), (.aload_n 0, 0, 0, 0, vi 0), (.lload 4, 4, 0, 0, vi 0), (.lload_n 2, 2, 0, 0, vi 0), (.ladd, 0, 0, 0, vi 0), (.invokestatic 614, 283, 1, 2, vi 0), (.invokevirtual 618, 280, 2, 0, vi 0), (.goto 170, 118, 0, 0, vi 0), (.aload_n 0, 0, 0, 0, vi 0), (.lload 4, 4, 0, 0, vi 0), (.lload_n 2, 2, 0, 0, vi 0), (.lsub, 0, 0, 0, vi 0), (.invokestatic 614, 283, 1, 2, vi 0), (.invokevirtual 618, 280, 2, 0, vi 0), (.goto 156, 118, 0, 0, vi 0), (.aload_n 0, 0, 0, 0, vi 0), (.lload 4, 4, 0, 0, vi 0), (.lload_n 2, 2, 0, 0, vi 0), (.lmul, 0, 0, 0, vi 0), (.invokestatic 614, 283, 1, 2, vi 0), (.invokevirtual 618, 280, 2, 0, vi 0), (.goto 142, 118, 0, 0, vi 0), (.aload_n 0, 0, 0, 0, vi 0), (.lload 4, 4, 0, 0, vi 0), (.lload_n 2, 2, 0, 0, vi 0), (.invokestatic 622, 286, 2, 2, vi 0), (.invokevirtual 618, 280, 2, 0, vi 0), (.goto 129, 118, 0, 0, vi 0), (.aload_n 0, 0, 0, 0, vi 0), (.lload 4, 4, 0, 0, vi 0), (.lload_n 2, 2, 0, 0, vi 0), (.lcmp, 0, 0, 0, vi 0), (.ifCond .ge 8, 58, 0, 0, vi 0), (.lload 4, 4, 0, 0, vi 0), (.goto 4, 59, 0, 0, vi 0), (.lload_n 2, 2, 0, 0, vi 0), (.invokevirtual 618, 280, 2, 0, vi 0), (.goto 109, 118, 0, 0, vi 0), (.aload_n 0, 0, 0, 0, vi 0), (.lload 4, 4, 0, 0, vi 0), (.lload_n 2, 2, 0, 0, vi 0), (.lcmp, 0, 0, 0, vi 0), (.ifCond .le 8, 68, 0, 0, vi 0), (.lload 4, 4, 0, 0, vi 0), (.goto 4, 69, 0, 0, vi 0), (.lload_n 2, 2, 0, 0, vi 0), (.invokevirtual 618, 280, 2, 0, vi 0), (.goto 89, 118, 0, 0, vi 0), (.aload_n 0, 0, 0, 0, vi 0), (.lload 4, 4, 0, 0, vi 0), (.lload_n 2, 2, 0, 0, vi 0), (.lcmp, 0, 0, 0, vi 0), (.ifCond .ge 7, 78, 0, 0, vi 0), (.lconst 1, 0, 0, 0, vl 1), (.goto 4, 79, 0, 0, vi 0), (.lconst 0, 0, 0, 0, vl 0), (.invokevirtual 618, 280, 2, 0, vi 0), (.goto 70, 118, 0, 0, vi 0), (.aload_n 0, 0, 0, 0, vi 0), (.lload 4, 4, 0, 0, vi 0), (.lload_n 2, 2, 0, 0, vi 0), (.lcmp, 0, 0, 0, vi 0), (.ifCond .le 7, 88, 0, 0, vi 0), (.lconst 1, 0, 0, 0, vl 1), (.goto 4, 89, 0, 0, vi 0), (.lconst 0, 0, 0, 0, vl 0), (.invokevirtual 618, 280, 2, 0, vi 0), (.goto 51, 118, 0, 0, vi 0), (.aload_n 0, 0, 0, 0, vi 0), (.lload 4, 4, 0, 0, vi 0), (.lload_n 2, 2, 0, 0, vi 0), (.lcmp, 0, 0, 0, vi 0), (.ifCond .ne 7, 98, 0, 0, vi 0), (.lconst 1, 0, 0, 0, vl 1), (.goto 4, 99, 0, 0, vi 0), (.lconst 0, 0, 0, 0, vl 0), (.invokevirtual 618, 280, 2, 0, vi 0), (.goto 32, 118, 0, 0, vi 0), (.aload_n 0, 0, 0, 0, vi 0), (.lload 4, 4, 0, 0, vi 0), (.lload_n 2, 2, 0, 0, vi 0), (.lmul, 0, 0, 0, vi 0), (.invokevirtual 618, 280, 2, 0, vi 0), (.goto 21, 118, 0, 0, vi 0), (.aload_n 0, 0, 0, 0, vi 0), (.lload 4, 4, 0, 0, vi 0), (.lload_n 2, 2, 0, 0, vi 0), (.ladd, 0, 0, 0, vi 0), (.lconst 0, 0, 0, 0, vl 0), (.lcmp, 0, 0, 0, vi 0), (.ifCond .le 7, 116, 0, 0, vi 0), (.lconst 1, 0, 0, 0, vl 1), (.goto 4, 117, 0, 0, vi 0), (.lconst 0, 0, 0, 0, vl 0), (.invokevirtual 618, 280, 2, 0, vi 0), (.return_, 0, 0, 0, vi 0)]
def am_b285 : List Nat := [0, 1, 4, 5, 8, 9, 10, 11, 12, 13, 16, 17, 20, 21, 22, 23, 25, 26, 27, 30, 31, 32, 35, 36, 92, 93, 95, 96, 97, 100, 103, 106, 107, 109, 110, 111, 114, 117, 120, 121, 123, 124, 125, 128, 131, 134, 135, 137, 138, 141, 144, 147, 148, 150, 151, 152, 155, 157, 160, 161, 164, 167, 168, 170, 171, 172, 175, 177, 180, 181, 184, 187, 188, 190, 191, 192, 195, 196, 199, 200, 203, 206, 207, 209, 210, 211, 214, 215, 218, 219, 222, 225, 226, 228, 229, 230, 233, 234, 237, 238, 241, 244, 245, 247, 248, 249, 252, 255, 256, 258, 259, 260, 261, 262, 265, 266, 269, 270, 273]
/-- WordEachModel.qFloor(JJ)J -/
def am_c286 : List mo := [(.lload_n 2, 2, 0, 0, vi 0), (.lconst 0, 0, 0, 0, vl 0), (.lcmp, 0, 0, 0, vi 0), (.ifCond .ne 5, 6, 0, 0, vi 0), (.lconst 0, 0, 0, 0, vl 0), (.lreturn, 0, 0, 0, vi 0), (.lload_n 0, 0, 0, 0, vi 0), (.lload_n 2, 2, 0, 0, vi 0), (.ldiv, 0, 0, 0, vi 0), (.lstore 4, 4, 0, 0, vi 0), (.lload_n 0, 0, 0, 0, vi 0), (.lload_n 2, 2, 0, 0, vi 0), (.lrem, 0, 0, 0, vi 0), (.lconst 0, 0, 0, 0, vl 0), (.lcmp, 0, 0, 0, vi 0), (.ifCond .eq 35, 35, 0, 0, vi 0), (.lload_n 0, 0, 0, 0, vi 0), (.lconst 0, 0, 0, 0, vl 0), (.lcmp, 0, 0, 0, vi 0), (.ifCond .ge 7, 22, 0, 0, vi 0), (.iconst 1, 0, 0, 0, vi 1), (.goto 4, 23, 0, 0, vi 0), (.iconst 0, 0, 0, 0, vi 0), (.lload_n 2, 2, 0, 0, vi 0), (.lconst 0, 0, 0, 0, vl 0), (.lcmp, 0, 0, 0, vi 0), (.ifCond .ge 7, 29, 0, 0, vi 0), (.iconst 1, 0, 0, 0, vi 1), (.goto 4, 30, 0, 0, vi 0), (.iconst 0, 0, 0, 0, vi 0), (.if_icmp .eq 10, 35, 0, 0, vi 0), (.lload 4, 4, 0, 0, vi 0), (.lconst 1, 0, 0, 0, vl 1), (.lsub, 0, 0, 0, vi 0), (.goto 5, 36, 0, 0, vi 0), (.lload 4, 4, 0, 0, vi 0), (.lreturn, 0, 0, 0, vi 0)]
def am_b286 : List Nat := [0, 1, 2, 3, 6, 7, 8, 9, 10, 11, 13, 14, 15, 16, 17, 18, 21, 22, 23, 24, 27, 28, 31, 32, 33, 34, 35, 38, 39, 42, 43, 46, 48, 49, 50, 53, 55]
/-- WordEachModel.qTakes(IJI)V -/
def am_c287 : List mo := [(.iload_n 1, 1, 0, 0, vi 0), (.iconst 3, 0, 0, 0, vi 3), (.if_icmp .ge 13, 9, 0, 0, vi 0), (.lload_n 2, 2, 0, 0, vi 0), (.lconst 1, 0, 0, 0, vl 1), (.lcmp, 0, 0, 0, vi 0), (.ifCond .ne 7, 9, 0, 0, vi 0), (.iconst 1, 0, 0, 0, vi 1), (.goto 4, 10, 0, 0, vi 0), (.iconst 0, 0, 0, 0, vi 0), (.istore 5, 5, 0, 0, vi 0), (.iload_n 1, 1, 0, 0, vi 0), (.ifCond .ne 19, 20, 0, 0, vi 0), (.iload 5, 5, 0, 0, vi 0), (.ifCond .eq 14, 20, 0, 0, vi 0), (.aload_n 0, 0, 0, 0, vi 0), (.getfield 643, 12, 85, 1, vi 0), (.ldc2_w 482, 0, 0, 0, vl (-1)), (.lcmp, 0, 0, 0, vi 0), (.ifCond .eq 13, 25, 0, 0, vi 0), (.iload_n 1, 1, 0, 0, vi 0), (.iconst 1, 0, 0, 0, vi 1), (.if_icmp .ne 15, 29, 0, 0, vi 0), (.iload 5, 5, 0, 0, vi 0), (.ifCond .eq 10, 29, 0, 0, vi 0), (.aload_n 0, 0, 0, 0, vi 0), (.iload 4, 4, 0, 0, vi 0), (.i2l, 0, 0, 0, vi 0), (.putfield 643, 12, 85, 1, vi 0), (.iload_n 1, 1, 0, 0, vi 0), (.iconst 2, 0, 0, 0, vi 2), (.if_icmp .ne 18, 40, 0, 0, vi 0), (.iload 5, 5, 0, 0, vi 0), (.ifCond .eq 13, 40, 0, 0, vi 0), (.aload_n 0, 0, 0, 0, vi 0), (.dup, 0, 0, 0, vi 0), (.getfield 643, 12, 85, 1, vi 0), (.lconst 1, 0, 0, 0, vl 1), (.ladd, 0, 0, 0, vi 0), (.putfield 643, 12, 85, 1, vi 0), (.iload_n 1, 1, 0, 0, vi 0), (.iconst 3, 0, 0, 0, vi 3), (.if_icmp .ne 13, 49, 0, 0, vi 0), (.aload_n 0, 0, 0, 0, vi 0), (.dup, 0, 0, 0, vi 0), (.getfield 643, 12, 85, 1, vi 0), (.lload_n 2, 2, 0, 0, vi 0), (.ladd, 0, 0, 0, vi 0), (.putfield 643, 12, 85, 1, vi 0), (.iload_n 1, 1, 0, 0, vi 0), (.iconst 3, 0, 0, 0, vi 3), (.if_icmp .le 41, 72, 0, 0, vi 0), (.aload_n 0, 0, 0, 0, vi 0), (.getfield 646, 12, 86, 3, vi 0), (.ifCond .ne 29, 69, 0, 0, vi 0), (.iload_n 1, 1, 0, 0, vi 0), (.iconst 4, 0, 0, 0, vi 4), (.if_icmp .ne 15, 64, 0, 0, vi 0), (.lload_n 2, 2, 0, 0, vi 0), (.aload_n 0, 0, 0, 0, vi 0), (.getfield 643, 12, 85, 1, vi 0), (.lcmp, 0, 0, 0, vi 0), (.ifCond .le 20, 72, 0, 0, vi 0), (.goto 12, 69, 0, 0, vi 0), (.lload_n 2, 2, 0, 0, vi 0), (.aload_n 0, 0, 0, 0, vi 0), (.getfield 643, 12, 85, 1, vi 0), (.lcmp, 0, 0, 0, vi 0), (.ifCond .ge 8, 72, 0, 0, vi 0), (.aload_n 0, 0, 0, 0, vi 0), (.lload_n 2, 2, 0, 0, vi 0), (.putfield 643, 12, 85, 1, vi 0), (.aload_n 0, 0, 0, 0, vi 0), (.iconst 0, 0, 0, 0, vi 0), (.putfield 646, 12, 86, 3, vi 0), (.return_, 0, 0, 0, vi 0)]
def am_b287 : List Nat := [0, 1, 2, 5, 6, 7, 8, 11, 12, 15, 16, 18, 19, 22, 24, 27, 28, 31, 34, 35, 38, 39, 40, 43, 45, 48, 49, 51, 52, 55, 56, 57, 60, 62, 65, 66, 67, 70, 71, 72, 75, 76, 77, 80, 81, 82, 85, 86, 87, 90, 91, 92, 95, 96, 99, 102, 103, 104, 107, 108, 109, 112, 113, 116, 119, 120, 121, 124, 125, 128, 129, 130, 133, 134, 135, 138]
/-- WordEachModel.image()I -/
def am_c288 : List mo := [(.aload_n 0, 0, 0, 0, vi 0), (.getfield 206, 12, 87, 2, vi 0), (.iconst 0, 0, 0, 0, vi 0), (.aload_n 0, 0, 0, 0, vi 0), (.getfield 341, 12, 42, 0, vi 0), (.iastore, 0, 0, 0, vi 0), (.iconst 0, 0, 0, 0, vi 0), (.istore_n 1, 1, 0, 0, vi 0), (.iload_n 1, 1, 0, 0, vi 0), (.aload_n 0, 0, 0, 0, vi 0), (.getfield 341, 12, 42, 0, vi 0), (.if_icmp .ge 41, 38, 0, 0, vi 0), (.aload_n 0, 0, 0, 0, vi 0), (.getfield 206, 12, 87, 2, vi 0), (.iconst 1, 0, 0, 0, vi 1), (.iconst 2, 0, 0, 0, vi 2), (.iload_n 1, 1, 0, 0, vi 0), (.imul, 0, 0, 0, vi 0), (.iadd, 0, 0, 0, vi 0), (.aload_n 0, 0, 0, 0, vi 0), (.getfield 103, 12, 41, 2, vi 0), (.iload_n 1, 1, 0, 0, vi 0), (.iaload, 0, 0, 0, vi 0), (.iastore, 0, 0, 0, vi 0), (.aload_n 0, 0, 0, 0, vi 0), (.getfield 206, 12, 87, 2, vi 0), (.iconst 2, 0, 0, 0, vi 2), (.iconst 2, 0, 0, 0, vi 2), (.iload_n 1, 1, 0, 0, vi 0), (.imul, 0, 0, 0, vi 0), (.iadd, 0, 0, 0, vi 0), (.aload_n 0, 0, 0, 0, vi 0), (.getfield 100, 12, 40, 2, vi 0), (.iload_n 1, 1, 0, 0, vi 0), (.iaload, 0, 0, 0, vi 0), (.iastore, 0, 0, 0, vi 0), (.iinc 1 1, 1, 0, 0, vi 1), (.goto (-43), 8, 0, 0, vi 0), (.aload_n 0, 0, 0, 0, vi 0), (.getfield 206, 12, 87, 2, vi 0), (.iconst 2, 0, 0, 0, vi 2), (.aload_n 0, 0, 0, 0, vi 0), (.getfield 341, 12, 42, 0, vi 0), (.imul, 0, 0, 0, vi 0), (.iconst 1, 0, 0, 0, vi 1), (.iadd, 0, 0, 0, vi 0), (.aload_n 0, 0, 0, 0, vi 0), (.getfield 338, 12, 39, 0, vi 0), (.iastore, 0, 0, 0, vi 0), (.aload_n 0, 0, 0, 0, vi 0), (.getfield 206, 12, 87, 2, vi 0), (.iconst 2, 0, 0, 0, vi 2), (.aload_n 0, 0, 0, 0, vi 0), (.getfield 341, 12, 42, 0, vi 0), (.imul, 0, 0, 0, vi 0), (.iconst 2, 0, 0, 0, vi 2), (.iadd, 0, 0, 0, vi 0), (.aload_n 0, 0, 0, 0, vi 0), (.getfield 206, 12, 87, 2, vi 0), (.iconst 2, 0, 0, 0, vi 2), (.aload_n 0, 0, 0, 0, vi 0), (.getfield 341, 12, 42, 0, vi 0), (.imul, 0, 0, 0, vi 0), (.iconst 2, 0, 0, 0, vi 2), (.iadd, 0, 0, 0, vi 0), (.invokestatic 665, 289, 2, 1, vi 0), (.iastore, 0, 0, 0, vi 0), (.aload_n 0, 0, 0, 0, vi 0), (.iconst 2, 0, 0, 0, vi 2), (.aload_n 0, 0, 0, 0, vi 0), (.getfield 341, 12, 42, 0, vi 0), (.imul, 0, 0, 0, vi 0), (.iconst 3, 0, 0, 0, vi 3), (.iadd, 0, 0, 0, vi 0), (.putfield 669, 12, 88, 0, vi 0), (.aload_n 0, 0, 0, 0, vi 0), (.getfield 669, 12, 88, 0, vi 0), (.ireturn, 0, 0, 0, vi 0)]
def am_b288 : List Nat := [0, 1, 4, 5, 6, 9, 10, 11, 12, 13, 14, 17, 20, 21, 24, 25, 26, 27, 28, 29, 30, 33, 34, 35, 36, 37, 40, 41, 42, 43, 44, 45, 46, 49, 50, 51, 52, 55, 58, 59, 62, 63, 64, 67, 68, 69, 70, 71, 74, 75, 76, 79, 80, 81, 84, 85, 86, 87, 88, 91, 92, 93, 96, 97, 98, 99, 102, 103, 104, 105, 106, 109, 110, 111, 112, 115, 116, 119]
/-- WordEachModel.checked([II)I -/
def am_c289 : List mo := [(.bipush 97, 0, 0, 0, vi 97), (.istore_n 2, 2, 0, 0, vi 0), (.iconst 0, 0, 0, 0, vi 0), (.istore_n 3, 3, 0, 0, vi 0), (.iload_n 3, 3, 0, 0, vi 0), (.iload_n 1, 1, 0, 0, vi 0), (.if_icmp .ge 21, 19, 0, 0, vi 0), (.iconst 3, 0, 0, 0, vi 3), (.iload_n 2, 2, 0, 0, vi 0), (.imul, 0, 0, 0, vi 0), (.aload_n 0, 0, 0, 0, vi 0), (.iload_n 3, 3, 0, 0, vi 0), (.iaload, 0, 0, 0, vi 0), (.iadd, 0, 0, 0, vi 0), (.sipush 241, 0, 0, 0, vi 241), (.irem, 0, 0, 0, vi 0), (.istore_n 2, 2, 0, 0, vi 0), (.iinc 3 1, 3, 0, 0, vi 1), (.goto (-20), 4, 0, 0, vi 0), (.iload_n 2, 2, 0, 0, vi 0), (.ireturn, 0, 0, 0, vi 0)]
def am_b289 : List Nat := [0, 2, 3, 4, 5, 6, 7, 10, 11, 12, 13, 14, 15, 16, 17, 20, 21, 22, 25, 28, 29]
/-- WordEachModel.octet(I)I -/
def am_c290 : List mo := [(.iload_n 1, 1, 0, 0, vi 0), (.ifCond .lt 20, 11, 0, 0, vi 0), (.iload_n 1, 1, 0, 0, vi 0), (.aload_n 0, 0, 0, 0, vi 0), (.getfield 669, 12, 88, 0, vi 0), (.if_icmp .ge 12, 11, 0, 0, vi 0), (.aload_n 0, 0, 0, 0, vi 0), (.getfield 206, 12, 87, 2, vi 0), (.iload_n 1, 1, 0, 0, vi 0), (.iaload, 0, 0, 0, vi 0), (.goto 4, 12, 0, 0, vi 0), (.iconst (-1), 0, 0, 0, vi (-1)), (.ireturn, 0, 0, 0, vi 0)]
def am_b290 : List Nat := [0, 1, 4, 5, 6, 9, 12, 13, 16, 17, 18, 21, 22]
/-- WordEachModel.restore()Z -/
def am_c291 : List mo := [(.aload_n 0, 0, 0, 0, vi 0), (.getfield 209, 12, 1, 0, vi 0), (.istore_n 1, 1, 0, 0, vi 0), (.aload_n 0, 0, 0, 0, vi 0), (.iconst 0, 0, 0, 0, vi 0), (.putfield 209, 12, 1, 0, vi 0), (.aload_n 0, 0, 0, 0, vi 0), (.iload_n 1, 1, 0, 0, vi 0), (.invokevirtual 672, 292, 2, 1, vi 0), (.ifCond .ne 15, 20, 0, 0, vi 0), (.aload_n 0, 0, 0, 0, vi 0), (.getfield 17, 12, 9, 2, vi 0), (.iconst 5, 0, 0, 0, vi 5), (.dup2, 0, 0, 0, vi 0), (.iaload, 0, 0, 0, vi 0), (.iconst 1, 0, 0, 0, vi 1), (.iadd, 0, 0, 0, vi 0), (.iastore, 0, 0, 0, vi 0), (.iconst 0, 0, 0, 0, vi 0), (.ireturn, 1, 0, 0, vi 0), (.aload_n 0, 0, 0, 0, vi 0), (.iconst 0, 0, 0, 0, vi 0), (.putfield 341, 12, 42, 0, vi 0), (.iconst 1, 0, 0, 0, vi 1), (.istore_n 2, 2, 0, 0, vi 0), (.iload_n 2, 2, 0, 0, vi 0), (.iload_n 1, 1, 0, 0, vi 0), (.iconst 2, 0, 0, 0, vi 2), (.isub, 0, 0, 0, vi 0), (.if_icmp .ge 27, 44, 0, 0, vi 0), (.aload_n 0, 0, 0, 0, vi 0), (.aload_n 0, 0, 0, 0, vi 0), (.getfield 7, 12, 0, 2, vi 0), (.iload_n 2, 2, 0, 0, vi 0), (.iaload, 0, 0, 0, vi 0), (.aload_n 0, 0, 0, 0, vi 0), (.getfield 7, 12, 0, 2, vi 0), (.iload_n 2, 2, 0, 0, vi 0), (.iconst 1, 0, 0, 0, vi 1), (.iadd, 0, 0, 0, vi 0), (.iaload, 0, 0, 0, vi 0), (.invokevirtual 429, 196, 3, 0, vi 0), (.iinc 2 2, 2, 0, 0, vi 2), (.goto (-28), 25, 0, 0, vi 0), (.aload_n 0, 0, 0, 0, vi 0), (.aload_n 0, 0, 0, 0, vi 0), (.getfield 7, 12, 0, 2, vi 0), (.iload_n 1, 1, 0, 0, vi 0), (.iconst 2, 0, 0, 0, vi 2), (.isub, 0, 0, 0, vi 0), (.iaload, 0, 0, 0, vi 0), (.putfield 338, 12, 39, 0, vi 0), (.iconst 1, 0, 0, 0, vi 1), (.ireturn, 1, 0, 0, vi 0)]
def am_b291 : List Nat := [0, 1, 4, 5, 6, 7, 10, 11, 12, 15, 18, 19, 22, 23, 24, 25, 26, 27, 28, 29, 30, 31, 32, 35, 36, 37, 38, 39, 40, 41, 44, 45, 46, 49, 50, 51, 52, 55, 56, 57, 58, 59, 62, 65, 68, 69, 70, 73, 74, 75, 76, 77, 80, 81]
/-- WordEachModel.isTold(I)Z -/
def am_c292 : List mo := [(.iload_n 1, 1, 0, 0, vi 0), (.iconst 3, 0, 0, 0, vi 3), (.if_icmp .lt 68, 44, 0, 0, vi 0), (.aload_n 0, 0, 0, 0, vi 0), (.getfield 7, 12, 0, 2, vi 0), (.iconst 0, 0, 0, 0, vi 0), (.iaload, 0, 0, 0, vi 0), (.aload_n 0, 0, 0, 0, vi 0), (.invokevirtual 351, 185, 1, 1, vi 0), (.if_icmp .gt 55, 44, 0, 0, vi 0), (.iload_n 1, 1, 0, 0, vi 0), (.iconst 2, 0, 0, 0, vi 2), (.aload_n 0, 0, 0, 0, vi 0), (.getfield 7, 12, 0, 2, vi 0), (.iconst 0, 0, 0, 0, vi 0), (.iaload, 0, 0, 0, vi 0), (.imul, 0, 0, 0, vi 0), (.iconst 3, 0, 0, 0, vi 3), (.iadd, 0, 0, 0, vi 0), (.if_icmp .ne 41, 44, 0, 0, vi 0), (.aload_n 0, 0, 0, 0, vi 0), (.getfield 7, 12, 0, 2, vi 0), (.iload_n 1, 1, 0, 0, vi 0), (.iconst 1, 0, 0, 0, vi 1), (.isub, 0, 0, 0, vi 0), (.iaload, 0, 0, 0, vi 0), (.aload_n 0, 0, 0, 0, vi 0), (.getfield 7, 12, 0, 2, vi 0), (.iload_n 1, 1, 0, 0, vi 0), (.iconst 1, 0, 0, 0, vi 1), (.isub, 0, 0, 0, vi 0), (.invokestatic 665, 289, 2, 1, vi 0), (.if_icmp .ne 20, 44, 0, 0, vi 0), (.aload_n 0, 0, 0, 0, vi 0), (.getfield 7, 12, 0, 2, vi 0), (.iload_n 1, 1, 0, 0, vi 0), (.iconst 2, 0, 0, 0, vi 2), (.isub, 0, 0, 0, vi 0), (.iaload, 0, 0, 0, vi 0), (.iconst 1, 0, 0, 0, vi 1), (.aload_n 0, 0, 0, 0, vi 0), (.invokevirtual 335, 177, 1, 1, vi 0), (.ishl, 0, 0, 0, vi 0), (.if_icmp .lt 5, 46, 0, 0, vi 0), (.iconst 0, 0, 0, 0, vi 0), (.ireturn, 1, 0, 0, vi 0), (.iconst 0, 0, 0, 0, vi 0), (.istore_n 2, 2, 0, 0, vi 0), (.iconst 1, 0, 0, 0, vi 1), (.istore_n 3, 3, 0, 0, vi 0), (.iload_n 3, 3, 0, 0, vi 0), (.iload_n 1, 1, 0, 0, vi 0), (.iconst 2, 0, 0, 0, vi 2), (.isub, 0, 0, 0, vi 0), (.if_icmp .ge 70, 98, 0, 0, vi 0), (.aload_n 0, 0, 0, 0, vi 0), (.aload_n 0, 0, 0, 0, vi 0), (.getfield 7, 12, 0, 2, vi 0), (.iload_n 3, 3, 0, 0, vi 0), (.iaload, 0, 0, 0, vi 0), (.invokevirtual 417, 191, 2, 1, vi 0), (.ifCond .eq 38, 85, 0, 0, vi 0), (.iload_n 2, 2, 0, 0, vi 0), (.aload_n 0, 0, 0, 0, vi 0), (.getfield 7, 12, 0, 2, vi 0), (.iload_n 3, 3, 0, 0, vi 0), (.iaload, 0, 0, 0, vi 0), (.ishr, 0, 0, 0, vi 0), (.iconst 1, 0, 0, 0, vi 1), (.iand, 0, 0, 0, vi 0), (.iconst 1, 0, 0, 0, vi 1), (.if_icmp .eq 24, 85, 0, 0, vi 0), (.aload_n 0, 0, 0, 0, vi 0), (.aload_n 0, 0, 0, 0, vi 0), (.getfield 7, 12, 0, 2, vi 0), (.iload_n 3, 3, 0, 0, vi 0), (.iaload, 0, 0, 0, vi 0), (.aload_n 0, 0, 0, 0, vi 0), (.getfield 7, 12, 0, 2, vi 0), (.iload_n 3, 3, 0, 0, vi 0), (.iconst 1, 0, 0, 0, vi 1), (.iadd, 0, 0, 0, vi 0), (.iaload, 0, 0, 0, vi 0), (.invokevirtual 406, 186, 3, 1, vi 0), (.ifCond .ne 5, 87, 0, 0, vi 0), (.iconst 0, 0, 0, 0, vi 0), (.ireturn, 1, 0, 0, vi 0), (.iload_n 2, 2, 0, 0, vi 0), (.iconst 1, 0, 0, 0, vi 1), (.aload_n 0, 0, 0, 0, vi 0), (.getfield 7, 12, 0, 2, vi 0), (.iload_n 3, 3, 0, 0, vi 0), (.iaload, 0, 0, 0, vi 0), (.ishl, 0, 0, 0, vi 0), (.ior, 0, 0, 0, vi 0), (.istore_n 2, 2, 0, 0, vi 0), (.iinc 3 2, 3, 0, 0, vi 2), (.goto (-71), 50, 0, 0, vi 0), (.iconst 1, 0, 0, 0, vi 1), (.ireturn, 1, 0, 0, vi 0)]
def am_b292 : List Nat := [0, 1, 2, 5, 6, 9, 10, 11, 12, 15, 18, 19, 20, 21, 24, 25, 26, 27, 28, 29, 32, 33, 36, 37, 38, 39, 40, 41, 44, 45, 46, 47, 50, 53, 54, 57, 58, 59, 60, 61, 62, 63, 66, 67, 70, 71, 72, 73, 74, 75, 76, 77, 78, 79, 80, 83, 84, 85, 88, 89, 90, 93, 96, 97, 98, 101, 102, 103, 104, 105, 106, 107, 110, 111, 112, 115, 116, 117, 118, 121, 122, 123, 124, 125, 128, 131, 132, 133, 134, 135, 136, 139, 140, 141, 142, 143, 144, 147, 150, 151]
/-- WordEachModel.status(I)I -/
def am_c293 : List mo := [(.iload_n 1, 1, 0, 0, vi 0), (.i2l, 0, 0, 0, vi 0), (.lconst 0, 0, 0, 0, vl 0), (.ldc2_w 438, 0, 0, 0, vl 5), (.invokestatic 252, 171, 3, 1, vi 0), (.ifCond .eq 12, 11, 0, 0, vi 0), (.aload_n 0, 0, 0, 0, vi 0), (.getfield 17, 12, 9, 2, vi 0), (.iload_n 1, 1, 0, 0, vi 0), (.iaload, 0, 0, 0, vi 0), (.goto 4, 12, 0, 0, vi 0), (.iconst (-1), 0, 0, 0, vi (-1)), (.ireturn, 0, 0, 0, vi 0)]
def am_b293 : List Nat := [0, 1, 2, 3, 6, 9, 12, 13, 16, 17, 18, 21, 22]
/-- java/lang/Math.min(II)I -/
def am_c294 : List mo := [(.iload_n 0, 0, 0, 0, vi 0), (.iload_n 1, 1, 0, 0, vi 0), (.if_icmp .gt 7, 5, 0, 0, vi 0), (.iload_n 0, 0, 0, 0, vi 0), (.goto 4, 6, 0, 0, vi 0), (.iload_n 1, 1, 0, 0, vi 0), (.ireturn, 0, 0, 0, vi 0)]
def am_b294 : List Nat := [0, 1, 2, 5, 6, 9, 10]
/-- java/lang/Math.max(II)I -/
def am_c295 : List mo := [(.iload_n 0, 0, 0, 0, vi 0), (.iload_n 1, 1, 0, 0, vi 0), (.if_icmp .lt 7, 5, 0, 0, vi 0), (.iload_n 0, 0, 0, 0, vi 0), (.goto 4, 6, 0, 0, vi 0), (.iload_n 1, 1, 0, 0, vi 0), (.ireturn, 0, 0, 0, vi 0)]
def am_b295 : List Nat := [0, 1, 2, 5, 6, 9, 10]
/-- java/lang/Math.min(JJ)J -/
def am_c296 : List mo := [(.lload_n 0, 0, 0, 0, vi 0), (.lload_n 2, 2, 0, 0, vi 0), (.lcmp, 0, 0, 0, vi 0), (.ifCond .gt 7, 6, 0, 0, vi 0), (.lload_n 0, 0, 0, 0, vi 0), (.goto 4, 7, 0, 0, vi 0), (.lload_n 2, 2, 0, 0, vi 0), (.lreturn, 0, 0, 0, vi 0)]
def am_b296 : List Nat := [0, 1, 2, 3, 6, 7, 10, 11]
/-- java/lang/Math.max(JJ)J -/
def am_c297 : List mo := [(.lload_n 0, 0, 0, 0, vi 0), (.lload_n 2, 2, 0, 0, vi 0), (.lcmp, 0, 0, 0, vi 0), (.ifCond .lt 7, 6, 0, 0, vi 0), (.lload_n 0, 0, 0, 0, vi 0), (.goto 4, 7, 0, 0, vi 0), (.lload_n 2, 2, 0, 0, vi 0), (.lreturn, 0, 0, 0, vi 0)]
def am_b297 : List Nat := [0, 1, 2, 3, 6, 7, 10, 11]
/-- java/lang/Math.floorDiv(II)I -/
def am_c298 : List mo := [(.iload_n 0, 0, 0, 0, vi 0), (.iload_n 1, 1, 0, 0, vi 0), (.idiv, 0, 0, 0, vi 0), (.istore_n 2, 2, 0, 0, vi 0), (.iload_n 0, 0, 0, 0, vi 0), (.iload_n 1, 1, 0, 0, vi 0), (.ixor, 0, 0, 0, vi 0), (.ifCond .ge 14, 17, 0, 0, vi 0), (.iload_n 2, 2, 0, 0, vi 0), (.iload_n 1, 1, 0, 0, vi 0), (.imul, 0, 0, 0, vi 0), (.iload_n 0, 0, 0, 0, vi 0), (.if_icmp .eq 7, 17, 0, 0, vi 0), (.iload_n 2, 2, 0, 0, vi 0), (.iconst 1, 0, 0, 0, vi 1), (.isub, 0, 0, 0, vi 0), (.ireturn, 0, 0, 0, vi 0), (.iload_n 2, 2, 0, 0, vi 0), (.ireturn, 0, 0, 0, vi 0)]
def am_b298 : List Nat := [0, 1, 2, 3, 4, 5, 6, 7, 10, 11, 12, 13, 14, 17, 18, 19, 20, 21, 22]
/-- java/lang/Integer.bitCount(I)I -/
def am_c299 : List mo := [(.iload_n 0, 0, 0, 0, vi 0), (.iload_n 0, 0, 0, 0, vi 0), (.iconst 1, 0, 0, 0, vi 1), (.iushr, 0, 0, 0, vi 0), (.ldc_w 265, 0, 0, 0, vi 1431655765), (.iand, 0, 0, 0, vi 0), (.isub, 0, 0, 0, vi 0), (.istore_n 0, 0, 0, 0, vi 0), (.iload_n 0, 0, 0, 0, vi 0), (.ldc_w 266, 0, 0, 0, vi 858993459), (.iand, 0, 0, 0, vi 0), (.iload_n 0, 0, 0, 0, vi 0), (.iconst 2, 0, 0, 0, vi 2), (.iushr, 0, 0, 0, vi 0), (.ldc_w 266, 0, 0, 0, vi 858993459), (.iand, 0, 0, 0, vi 0), (.iadd, 0, 0, 0, vi 0), (.istore_n 0, 0, 0, 0, vi 0), (.iload_n 0, 0, 0, 0, vi 0), (.iload_n 0, 0, 0, 0, vi 0), (.iconst 4, 0, 0, 0, vi 4), (.iushr, 0, 0, 0, vi 0), (.iadd, 0, 0, 0, vi 0), (.ldc_w 267, 0, 0, 0, vi 252645135), (.iand, 0, 0, 0, vi 0), (.istore_n 0, 0, 0, 0, vi 0), (.iload_n 0, 0, 0, 0, vi 0), (.iload_n 0, 0, 0, 0, vi 0), (.bipush 8, 0, 0, 0, vi 8), (.iushr, 0, 0, 0, vi 0), (.iadd, 0, 0, 0, vi 0), (.istore_n 0, 0, 0, 0, vi 0), (.iload_n 0, 0, 0, 0, vi 0), (.iload_n 0, 0, 0, 0, vi 0), (.bipush 16, 0, 0, 0, vi 16), (.iushr, 0, 0, 0, vi 0), (.iadd, 0, 0, 0, vi 0), (.istore_n 0, 0, 0, 0, vi 0), (.iload_n 0, 0, 0, 0, vi 0), (.bipush 63, 0, 0, 0, vi 63), (.iand, 0, 0, 0, vi 0), (.ireturn, 0, 0, 0, vi 0)]
def am_b299 : List Nat := [0, 1, 2, 3, 4, 7, 8, 9, 10, 11, 14, 15, 16, 17, 18, 21, 22, 23, 24, 25, 26, 27, 28, 29, 32, 33, 34, 35, 36, 38, 39, 40, 41, 42, 43, 45, 46, 47, 48, 49, 51, 52]
def am_progs : List (List (List mo)) := [[am_c0, am_c1, am_c2, am_c3, am_c4, am_c5, am_c6, am_c7, am_c8, am_c9, am_c10, am_c11, am_c12, am_c13, am_c14, am_c15, am_c16, am_c17], [am_c18, am_c19, am_c20, am_c21, am_c22, am_c23, am_c24, am_c25, am_c26, am_c27, am_c28, am_c29, am_c30, am_c31, am_c32, am_c33, am_c34, am_c35], [am_c36, am_c37, am_c38, am_c39, am_c40, am_c41, am_c42, am_c43, am_c44, am_c45, am_c46, am_c47, am_c48, am_c49, am_c50, am_c51, am_c52, am_c53], [am_c54, am_c55, am_c56, am_c57, am_c58, am_c59, am_c60, am_c61, am_c62, am_c63, am_c64, am_c65, am_c66, am_c67, am_c68, am_c69, am_c70, am_c71], [am_c72, am_c73, am_c74, am_c75, am_c76, am_c77, am_c78, am_c79, am_c80, am_c81, am_c82, am_c83, am_c84, am_c85, am_c86, am_c87, am_c88, am_c89], [am_c90, am_c91, am_c92, am_c93, am_c94, am_c95, am_c96, am_c97, am_c98, am_c99, am_c100, am_c101, am_c102, am_c103, am_c104, am_c105, am_c106, am_c107], [am_c108, am_c109, am_c110, am_c111, am_c112, am_c113, am_c114, am_c115, am_c116, am_c117, am_c118, am_c119, am_c120, am_c121, am_c122, am_c123, am_c124, am_c125], [am_c126, am_c127, am_c128, am_c129, am_c130, am_c131, am_c132, am_c133, am_c134, am_c135, am_c136, am_c137, am_c138, am_c139, am_c140, am_c141, am_c142, am_c143], [am_c144, am_c145, am_c146, am_c147, am_c148, am_c149, am_c150, am_c151, am_c152, am_c153, am_c154, am_c155, am_c156, am_c157, am_c158, am_c159, am_c160, am_c161], [am_c162, am_c163, am_c164, am_c165, am_c166, am_c167, am_c168, am_c169, am_c170, am_c171, am_c172, am_c173, am_c174, am_c175, am_c176, am_c177, am_c178, am_c179], [am_c180, am_c181, am_c182, am_c183, am_c184, am_c185, am_c186, am_c187, am_c188, am_c189, am_c190, am_c191, am_c192, am_c193, am_c194, am_c195, am_c196, am_c197], [am_c198, am_c199, am_c200, am_c201, am_c202, am_c203, am_c204, am_c205, am_c206, am_c207, am_c208, am_c209, am_c210, am_c211, am_c212, am_c213, am_c214, am_c215], [am_c216, am_c217, am_c218, am_c219, am_c220, am_c221, am_c222, am_c223, am_c224, am_c225, am_c226, am_c227, am_c228, am_c229, am_c230, am_c231, am_c232, am_c233], [am_c234, am_c235, am_c236, am_c237, am_c238, am_c239, am_c240, am_c241, am_c242, am_c243, am_c244, am_c245, am_c246, am_c247, am_c248, am_c249, am_c250, am_c251], [am_c252, am_c253, am_c254, am_c255, am_c256, am_c257, am_c258, am_c259, am_c260, am_c261, am_c262, am_c263, am_c264, am_c265, am_c266, am_c267, am_c268, am_c269], [am_c270, am_c271, am_c272, am_c273, am_c274, am_c275, am_c276, am_c277, am_c278, am_c279, am_c280, am_c281, am_c282, am_c283, am_c284, am_c285, am_c286, am_c287], [am_c288, am_c289, am_c290, am_c291, am_c292, am_c293, am_c294, am_c295, am_c296, am_c297, am_c298, am_c299]]
def am_prog (m : Nat) : List mo := match am_nth am_progs (m / 18) with
  | none => []
  | some g => match am_nth g (m % 18) with
    | none => []
    | some c => c
def am_bps : List (List (List Nat)) := [[am_b0, am_b1, am_b2, am_b3, am_b4, am_b5, am_b6, am_b7, am_b8, am_b9, am_b10, am_b11, am_b12, am_b13, am_b14, am_b15, am_b16, am_b17], [am_b18, am_b19, am_b20, am_b21, am_b22, am_b23, am_b24, am_b25, am_b26, am_b27, am_b28, am_b29, am_b30, am_b31, am_b32, am_b33, am_b34, am_b35], [am_b36, am_b37, am_b38, am_b39, am_b40, am_b41, am_b42, am_b43, am_b44, am_b45, am_b46, am_b47, am_b48, am_b49, am_b50, am_b51, am_b52, am_b53], [am_b54, am_b55, am_b56, am_b57, am_b58, am_b59, am_b60, am_b61, am_b62, am_b63, am_b64, am_b65, am_b66, am_b67, am_b68, am_b69, am_b70, am_b71], [am_b72, am_b73, am_b74, am_b75, am_b76, am_b77, am_b78, am_b79, am_b80, am_b81, am_b82, am_b83, am_b84, am_b85, am_b86, am_b87, am_b88, am_b89], [am_b90, am_b91, am_b92, am_b93, am_b94, am_b95, am_b96, am_b97, am_b98, am_b99, am_b100, am_b101, am_b102, am_b103, am_b104, am_b105, am_b106, am_b107], [am_b108, am_b109, am_b110, am_b111, am_b112, am_b113, am_b114, am_b115, am_b116, am_b117, am_b118, am_b119, am_b120, am_b121, am_b122, am_b123, am_b124, am_b125], [am_b126, am_b127, am_b128, am_b129, am_b130, am_b131, am_b132, am_b133, am_b134, am_b135, am_b136, am_b137, am_b138, am_b139, am_b140, am_b141, am_b142, am_b143], [am_b144, am_b145, am_b146, am_b147, am_b148, am_b149, am_b150, am_b151, am_b152, am_b153, am_b154, am_b155, am_b156, am_b157, am_b158, am_b159, am_b160, am_b161], [am_b162, am_b163, am_b164, am_b165, am_b166, am_b167, am_b168, am_b169, am_b170, am_b171, am_b172, am_b173, am_b174, am_b175, am_b176, am_b177, am_b178, am_b179], [am_b180, am_b181, am_b182, am_b183, am_b184, am_b185, am_b186, am_b187, am_b188, am_b189, am_b190, am_b191, am_b192, am_b193, am_b194, am_b195, am_b196, am_b197], [am_b198, am_b199, am_b200, am_b201, am_b202, am_b203, am_b204, am_b205, am_b206, am_b207, am_b208, am_b209, am_b210, am_b211, am_b212, am_b213, am_b214, am_b215], [am_b216, am_b217, am_b218, am_b219, am_b220, am_b221, am_b222, am_b223, am_b224, am_b225, am_b226, am_b227, am_b228, am_b229, am_b230, am_b231, am_b232, am_b233], [am_b234, am_b235, am_b236, am_b237, am_b238, am_b239, am_b240, am_b241, am_b242, am_b243, am_b244, am_b245, am_b246, am_b247, am_b248, am_b249, am_b250, am_b251], [am_b252, am_b253, am_b254, am_b255, am_b256, am_b257, am_b258, am_b259, am_b260, am_b261, am_b262, am_b263, am_b264, am_b265, am_b266, am_b267, am_b268, am_b269], [am_b270, am_b271, am_b272, am_b273, am_b274, am_b275, am_b276, am_b277, am_b278, am_b279, am_b280, am_b281, am_b282, am_b283, am_b284, am_b285, am_b286, am_b287], [am_b288, am_b289, am_b290, am_b291, am_b292, am_b293, am_b294, am_b295, am_b296, am_b297, am_b298, am_b299]]
def am_bp (m : Nat) : List Nat := match am_nth am_bps (m / 18) with
  | none => []
  | some g => match am_nth g (m % 18) with
    | none => []
    | some c => c
/-- of a method: its class, its locals, what it returns -/
def am_heads : List (List (Nat × Nat × Nat)) := [[(0, 2, 0), (0, 2, 1), (0, 3, 0), (0, 5, 0), (0, 3, 0), (0, 3, 1), (0, 6, 1), (0, 4, 1), (0, 8, 0), (1, 4, 1), (1, 7, 1), (1, 7, 2), (2, 1, 0), (2, 3, 2), (2, 3, 1), (2, 3, 0), (2, 1, 1), (2, 4, 1)], [(2, 4, 1), (2, 2, 2), (2, 2, 2), (2, 3, 2), (2, 6, 2), (2, 1, 1), (3, 2, 1), (3, 2, 0), (3, 3, 0), (3, 3, 2), (3, 2, 1), (3, 5, 0), (3, 5, 0), (3, 4, 1), (3, 5, 0), (3, 2, 0), (3, 3, 0), (3, 3, 0)], [(4, 2, 0), (4, 5, 0), (4, 2, 2), (4, 6, 1), (4, 5, 1), (4, 1, 1), (4, 7, 1), (4, 8, 1), (4, 2, 1), (4, 5, 1), (4, 2, 2), (4, 9, 1), (4, 4, 1), (4, 6, 1), (4, 5, 1), (4, 2, 1), (4, 2, 1), (5, 2, 0)], [(5, 4, 1), (5, 1, 1), (5, 5, 2), (5, 7, 2), (6, 4, 3), (6, 3, 1), (6, 3, 1), (6, 3, 1), (6, 6, 1), (6, 3, 1), (6, 1, 2), (6, 5, 1), (6, 5, 1), (6, 2, 1), (6, 4, 1), (6, 3, 1), (6, 2, 1), (6, 1, 1)], [(6, 2, 1), (6, 2, 1), (6, 2, 1), (6, 6, 3), (6, 8, 3), (7, 3, 1), (7, 3, 0), (7, 3, 1), (7, 4, 0), (7, 2, 0), (7, 5, 2), (7, 6, 2), (7, 3, 0), (8, 4, 0), (8, 5, 2), (8, 3, 1), (8, 5, 0), (8, 2, 1)], [(9, 3, 0), (9, 1, 0), (9, 3, 0), (9, 3, 1), (9, 6, 1), (9, 3, 0), (9, 3, 1), (9, 4, 1), (9, 2, 2), (9, 2, 1), (10, 2, 2), (11, 6, 1), (11, 2, 2), (11, 3, 1), (11, 5, 1), (11, 2, 0), (11, 2, 1), (11, 3, 1)], [(11, 4, 1), (11, 3, 1), (11, 5, 1), (11, 4, 1), (11, 3, 1), (11, 4, 1), (11, 1, 2), (11, 2, 1), (11, 3, 2), (11, 1, 1), (11, 3, 1), (11, 3, 1), (11, 1, 1), (11, 4, 1), (11, 4, 1), (11, 5, 1), (11, 9, 1), (11, 5, 1)], [(11, 6, 1), (11, 3, 1), (11, 3, 1), (11, 4, 1), (11, 6, 1), (11, 5, 1), (11, 2, 0), (11, 2, 1), (11, 1, 2), (11, 3, 1), (11, 5, 1), (11, 2, 2), (11, 2, 1), (11, 2, 1), (11, 4, 1), (11, 3, 1), (11, 3, 3), (11, 1, 1)], [(11, 2, 1), (11, 2, 2), (11, 2, 1), (12, 8, 1), (12, 2, 2), (12, 2, 1), (12, 1, 1), (12, 2, 0), (12, 3, 0), (12, 2, 2), (12, 4, 2), (12, 1, 2), (12, 5, 0), (12, 4, 2), (12, 3, 3), (12, 3, 3), (12, 2, 2), (12, 4, 1)], [(12, 4, 2), (12, 7, 0), (12, 1, 1), (12, 2, 0), (12, 3, 0), (12, 5, 1), (12, 8, 0), (12, 5, 1), (12, 1, 2), (12, 6, 2), (12, 3, 0), (12, 5, 0), (12, 2, 0), (12, 2, 2), (12, 2, 0), (12, 1, 1), (12, 2, 1), (12, 2, 1)], [(12, 1, 1), (12, 5, 1), (12, 2, 2), (12, 1, 1), (12, 2, 1), (12, 1, 1), (12, 4, 2), (12, 2, 1), (12, 3, 1), (12, 8, 1), (12, 3, 1), (12, 2, 2), (12, 3, 1), (12, 3, 1), (12, 3, 1), (12, 3, 1), (12, 3, 0), (12, 1, 2)], [(12, 2, 1), (12, 3, 2), (12, 1, 1), (12, 1, 2), (12, 3, 0), (12, 2, 0), (12, 4, 2), (12, 8, 1), (12, 5, 1), (12, 2, 2), (12, 3, 1), (12, 2, 1), (12, 4, 2), (12, 6, 2), (12, 5, 2), (12, 2, 1), (12, 1, 1), (12, 3, 1)], [(12, 1, 1), (12, 3, 1), (12, 1, 1), (12, 2, 1), (12, 5, 0), (12, 6, 1), (12, 6, 2), (12, 5, 2), (12, 2, 1), (12, 4, 2), (12, 3, 0), (12, 4, 2), (12, 3, 0), (12, 5, 2), (12, 4, 0), (12, 9, 1), (12, 4, 2), (12, 6, 1)], [(12, 2, 1), (12, 3, 1), (12, 4, 1), (12, 3, 1), (12, 2, 0), (12, 3, 2), (12, 4, 0), (12, 5, 1), (12, 5, 1), (12, 4, 1), (12, 3, 1), (12, 5, 0), (12, 6, 2), (12, 2, 1), (12, 2, 2), (12, 4, 1), (12, 5, 0), (12, 2, 1)], [(12, 4, 1), (12, 3, 1), (12, 4, 0), (12, 3, 1), (12, 7, 1), (12, 5, 1), (12, 3, 3), (12, 2, 1), (12, 3, 0), (12, 3, 0), (12, 2, 0), (12, 2, 0), (12, 3, 0), (12, 6, 0), (12, 4, 1), (12, 1, 1), (12, 2, 0), (12, 1, 0)], [(12, 1, 0), (12, 2, 2), (12, 2, 1), (12, 1, 2), (12, 1, 0), (12, 2, 2), (12, 1, 0), (12, 1, 2), (12, 2, 2), (12, 4, 3), (12, 3, 0), (12, 5, 3), (12, 6, 3), (12, 2, 3), (12, 3, 3), (12, 6, 0), (12, 6, 3), (12, 6, 0)], [(12, 2, 1), (12, 4, 1), (12, 2, 1), (12, 3, 2), (12, 4, 2), (12, 2, 1), (13, 2, 1), (13, 2, 1), (13, 4, 3), (13, 4, 3), (13, 3, 1), (14, 1, 1)]]
def am_head (m : Nat) : Nat × Nat × Nat := match am_nth am_heads (m / 18) with
  | none => (99, 0, 0)
  | some g => match am_nth g (m % 18) with
    | none => (99, 0, 0)
    | some c => c
def am_cutss : List (List (List (Nat × List Bool))) := [[[(5, [true, true])], [], [(9, [true, true, false]), (19, [true, true, true])], [(26, [true, true, true, true, true])], [(13, [true, true, true])], [(4, [true, true, true])], [], [(12, [true, true, true, true])], [(46, [true, true, true, true, true, true, true, false])], [], [(35, [true, true, true, true, true, true, true])], [(9, [true, true, true, true, true, true, true])], [], [(2, [true, true, true])], [(2, [true, true, true])], [(16, [true, true, true]), (31, [true, true, true])], [], [(4, [true, true, true, true])]], [[(4, [true, true, true, true])], [], [], [], [(2, [true, true, true, true, true, false])], [], [(8, [true, true])], [], [], [], [], [(14, [true, true, true, true, false])], [], [], [(46, [true, true, true, false, false])], [], [], [(12, [true, true, true])]], [[(2, [true, true])], [(11, [true, false, true, false, false]), (29, [true, false, true, false, true])], [], [(6, [true, true, true, true, true, true])], [], [], [], [], [], [], [], [(8, [true, true, true, true, true, true, true, true, true])], [], [(4, [true, true, true, true, true, true])], [], [], [], [(2, [true, true])]], [[], [(3, [true])], [(28, [true, true, true, true, true])], [(15, [true, true, true, true, true, true, false])], [(31, [true, true, true, true])], [], [(5, [true, true, true])], [(5, [true, true, true])], [], [], [], [(5, [true, true, true, false, false])], [(5, [true, true, true, false, false])], [], [], [], [], []], [[], [], [], [(6, [true, true, true, true, true, true])], [(15, [true, true, true, true, false, true, true, true])], [(2, [true, true, true])], [], [(4, [true, true, true])], [(9, [true, true, true, false]), (34, [true, false, true, true])], [], [(21, [true, true, true, true, true])], [(4, [true, true, true, true, true, false])], [(5, [true, true, true])], [(2, [true, true, true, false]), (10, [true, true, true, true])], [], [(4, [true, true, true])], [(5, [true, true, false, false, false]), (29, [true, true, false, true, true])], []], [[(2, [true, true, true])], [], [(21, [true, true, true]), (72, [true, true, true])], [], [(12, [true, true, true, true, true, false])], [], [(38, [true, true, true])], [(33, [true, true, true, true])], [], [], [], [], [], [], [(4, [true, true, true, true, true])], [], [], []], [[], [], [], [], [], [], [], [], [], [], [], [], [], [], [], [], [(21, [true, true, true, true, true, true, true, false, false]), (30, [true, true, true, true, true, true, true, true, true])], [(4, [true, true, true, true, true])]], [[(10, [true, true, true, true, true, false]), (17, [true, true, true, true, true, true])], [], [], [], [(15, [true, true, true, true, true, false])], [(33, [true, false, true, true, true])], [(2, [true, true])], [], [], [], [(17, [true, true, true, true, true])], [], [], [], [], [], [], []], [[], [], [], [(18, [true, true, true, true, true, true, true, false])], [], [(34, [true, true]), (44, [true, false])], [(0, [true])], [], [], [], [(17, [true, true, true, false]), (40, [true, true, false, true])], [], [], [], [], [(30, [true, true, false])], [], [(2, [true, true, false, true])]], [[(2, [true, true, false, true])], [(18, [true, false, true, true, true, false, false]), (79, [true, false, true, false, false, true, false])], [], [], [], [], [(49, [true, false, true, true, false, true, false, false]), (64, [true, false, true, true, false, true, true, true])], [(26, [true, true, true, true, true])], [], [], [], [(16, [true, false, true, true, false])], [], [], [(2, [true, true]), (19, [true, true]), (46, [true, true]), (63, [true, true]), (80, [true, true]), (97, [true, true]), (114, [true, true])], [], [], []], [[], [(16, [true, true, false, true, true]), (32, [true, true, false, true, true])], [], [], [], [], [(2, [true, true, true, true])], [], [], [(6, [false, false, true, true, false, true, true, false]), (25, [false, false, true, true, false, false, true, false])], [], [], [(2, [true, true, true])], [], [], [], [], []], [[], [], [], [], [(5, [true, true, true])], [], [(5, [true, true, false, false]), (51, [true, true, true, false])], [(2, [true, true, true, true, false, false, false, false]), (18, [true, true, true, true, true, false, false, false]), (46, [true, true, true, true, true, true, true, true])], [(13, [true, true, false, true, true])], [], [], [], [(7, [true, true, true, true])], [], [(2, [true, true, true, true, true])], [], [], []], [[], [], [], [], [(11, [true, false, true, true, true])], [(26, [true, true, true, true, true, true])], [(7, [true, true, true, true, true, true]), (17, [true, true, true, true, true, true])], [(29, [true, true, false, true, true])], [], [], [(5, [true, true, true])], [(2, [true, true, true, true])], [(8, [true, false, true])], [(2, [true, true, true, true, false]), (7, [true, true, true, true, true])], [(3, [true, true, true, true])], [(19, [true, true, true, true, true, true, true, false, false]), (27, [true, true, true, true, true, true, true, true, true]), (67, [false, false, false, false, false, false, true, true, false])], [], [(7, [true, true, true, true, true, false]), (13, [true, true, true, true, true, true])]], [[], [], [], [(20, [true, true, true]), (41, [true, true, true])], [], [], [], [(12, [true, true, true, true, false])], [(25, [true, true, true, true, false])], [(12, [true, true, true, true])], [], [(2, [true, true, true, false, false]), (10, [true, true, true, true, true])], [], [(5, [true, true])], [], [(12, [true, true, true, true])], [(4, [true, true, true, false, false]), (17, [true, true, true, true, true])], []], [[(12, [true, true, true, true])], [(4, [true, true, true])], [(4, [true, false, true, true])], [(5, [true, true, true])], [(29, [true, true, true, true, true, true, true])], [(16, [true, true, true, true, true])], [(86, [true, true, true])], [], [(2, [true, true, false]), (55, [true, false, false])], [], [], [], [(9, [true, true, true]), (27, [true, true, false])], [(2, [true, true, false, false, false, false])], [], [], [], [(0, [true])]], [[], [(0, [true, false]), (82, [true, true]), (128, [true, true])], [(5, [true, true])], [], [(0, [true])], [], [(0, [true])], [(0, [true]), (16, [true]), (43, [true]), (69, [true])], [(2, [true, true])], [(5, [true, true, true, false])], [], [], [(4, [true, true, false, true, true, true])], [], [], [], [], []], [[(8, [true, true])], [(4, [true, true, true, true])], [], [(25, [true, true, true])], [(50, [true, true, true, true])], [], [], [], [], [], [], []]]
def am_cuts (m : Nat) : List (Nat × List Bool) := match am_nth am_cutss (m / 18) with
  | none => []
  | some g => match am_nth g (m % 18) with
    | none => []
    | some c => c
end
section
-- ===== PART A: goes FIRST, ahead of the names: the tables' words, and 'selects' of the private methods out of them =====
/-- a private method of a class that the tables say can be made, by its rows of tables_1 -/
def lw_okq (q : MethodName × Nat) : Prop := (q.1.cls ≠ "java/lang/invoke/MethodHandle" ∧ q.1.cls ≠ "java/lang/invoke/VarHandle") ∧ Cond.instantiable q.1.cls q.2 ∈ tables_1 ∧ Cond.privateMethod q.1 ∈ tables_1 ∧ Cond.instanceMethod q.1 ∈ tables_1
theorem lw_p0 : lw_okq (⟨"WordEach$Judge", "forgetLines", "()V"⟩, 4) := ⟨⟨by decide +kernel, by decide +kernel⟩, List.mem_of_getElem? (i := 229) (by decide +kernel), List.mem_of_getElem? (i := 237) (by decide +kernel), List.mem_of_getElem? (i := 238) (by decide +kernel)⟩
theorem lw_p1 : lw_okq (⟨"WordEach$Tape", "signAt", "(I)I"⟩, 7) := ⟨⟨by decide +kernel, by decide +kernel⟩, List.mem_of_getElem? (i := 29) (by decide +kernel), List.mem_of_getElem? (i := 476) (by decide +kernel), List.mem_of_getElem? (i := 477) (by decide +kernel)⟩
theorem lw_p2 : lw_okq (⟨"WordEach$CourtReader", "readStatement", "()V"⟩, 2) := ⟨⟨by decide +kernel, by decide +kernel⟩, List.mem_of_getElem? (i := 68) (by decide +kernel), List.mem_of_getElem? (i := 484) (by decide +kernel), List.mem_of_getElem? (i := 485) (by decide +kernel)⟩
theorem lw_p3 : lw_okq (⟨"WordEach$CourtReader", "readWord", "(I)V"⟩, 2) := ⟨⟨by decide +kernel, by decide +kernel⟩, List.mem_of_getElem? (i := 68) (by decide +kernel), List.mem_of_getElem? (i := 541) (by decide +kernel), List.mem_of_getElem? (i := 542) (by decide +kernel)⟩
theorem lw_p4 : lw_okq (⟨"WordEach$CourtReader", "begins", "(II)Z"⟩, 2) := ⟨⟨by decide +kernel, by decide +kernel⟩, List.mem_of_getElem? (i := 68) (by decide +kernel), List.mem_of_getElem? (i := 545) (by decide +kernel), List.mem_of_getElem? (i := 546) (by decide +kernel)⟩
theorem lw_p5 : lw_okq (⟨"WordEach$CourtReader", "takeNewSpelling", "()I"⟩, 2) := ⟨⟨by decide +kernel, by decide +kernel⟩, List.mem_of_getElem? (i := 68) (by decide +kernel), List.mem_of_getElem? (i := 554) (by decide +kernel), List.mem_of_getElem? (i := 555) (by decide +kernel)⟩
theorem lw_p6 : lw_okq (⟨"WordEach$CourtReader", "readLine", "()V"⟩, 2) := ⟨⟨by decide +kernel, by decide +kernel⟩, List.mem_of_getElem? (i := 68) (by decide +kernel), List.mem_of_getElem? (i := 573) (by decide +kernel), List.mem_of_getElem? (i := 574) (by decide +kernel)⟩
theorem lw_p7 : lw_okq (⟨"WordEach$CourtReader", "readFact", "()V"⟩, 2) := ⟨⟨by decide +kernel, by decide +kernel⟩, List.mem_of_getElem? (i := 68) (by decide +kernel), List.mem_of_getElem? (i := 581) (by decide +kernel), List.mem_of_getElem? (i := 582) (by decide +kernel)⟩
theorem lw_p8 : lw_okq (⟨"WordEach$CourtReader", "takeWord", "(I)I"⟩, 2) := ⟨⟨by decide +kernel, by decide +kernel⟩, List.mem_of_getElem? (i := 68) (by decide +kernel), List.mem_of_getElem? (i := 585) (by decide +kernel), List.mem_of_getElem? (i := 586) (by decide +kernel)⟩
theorem lw_p9 : lw_okq (⟨"WordEach$CourtReader", "readWitness", "()V"⟩, 2) := ⟨⟨by decide +kernel, by decide +kernel⟩, List.mem_of_getElem? (i := 68) (by decide +kernel), List.mem_of_getElem? (i := 590) (by decide +kernel), List.mem_of_getElem? (i := 591) (by decide +kernel)⟩
theorem lw_p10 : lw_okq (⟨"WordEach$CourtReader", "takeOwn", "(I)V"⟩, 2) := ⟨⟨by decide +kernel, by decide +kernel⟩, List.mem_of_getElem? (i := 68) (by decide +kernel), List.mem_of_getElem? (i := 594) (by decide +kernel), List.mem_of_getElem? (i := 595) (by decide +kernel)⟩
theorem lw_p11 : lw_okq (⟨"WordEach$CourtReader", "readAccused", "()V"⟩, 2) := ⟨⟨by decide +kernel, by decide +kernel⟩, List.mem_of_getElem? (i := 68) (by decide +kernel), List.mem_of_getElem? (i := 609) (by decide +kernel), List.mem_of_getElem? (i := 610) (by decide +kernel)⟩
theorem lw_p12 : lw_okq (⟨"WordEach$CourtReader", "readCase", "()V"⟩, 2) := ⟨⟨by decide +kernel, by decide +kernel⟩, List.mem_of_getElem? (i := 68) (by decide +kernel), List.mem_of_getElem? (i := 613) (by decide +kernel), List.mem_of_getElem? (i := 614) (by decide +kernel)⟩
theorem lw_p13 : lw_okq (⟨"WordEach", "putInForce", "(I)V"⟩, 11) := ⟨⟨by decide +kernel, by decide +kernel⟩, List.mem_of_getElem? (i := 21) (by decide +kernel), List.mem_of_getElem? (i := 625) (by decide +kernel), List.mem_of_getElem? (i := 626) (by decide +kernel)⟩
theorem lw_p14 : lw_okq (⟨"WordEach$Judge", "hearSlot", "(III)I"⟩, 4) := ⟨⟨by decide +kernel, by decide +kernel⟩, List.mem_of_getElem? (i := 229) (by decide +kernel), List.mem_of_getElem? (i := 737) (by decide +kernel), List.mem_of_getElem? (i := 738) (by decide +kernel)⟩
theorem lw_p15 : lw_okq (⟨"WordEach$Judge", "wordIn", "(III)I"⟩, 4) := ⟨⟨by decide +kernel, by decide +kernel⟩, List.mem_of_getElem? (i := 229) (by decide +kernel), List.mem_of_getElem? (i := 749) (by decide +kernel), List.mem_of_getElem? (i := 750) (by decide +kernel)⟩
def lw_privs_1 : List (MethodName × Nat) := [(⟨"WordEach$Judge", "forgetLines", "()V"⟩, 4), (⟨"WordEach$Tape", "signAt", "(I)I"⟩, 7), (⟨"WordEach$CourtReader", "readStatement", "()V"⟩, 2), (⟨"WordEach$CourtReader", "readWord", "(I)V"⟩, 2), (⟨"WordEach$CourtReader", "begins", "(II)Z"⟩, 2), (⟨"WordEach$CourtReader", "takeNewSpelling", "()I"⟩, 2), (⟨"WordEach$CourtReader", "readLine", "()V"⟩, 2), (⟨"WordEach$CourtReader", "readFact", "()V"⟩, 2), (⟨"WordEach$CourtReader", "takeWord", "(I)I"⟩, 2), (⟨"WordEach$CourtReader", "readWitness", "()V"⟩, 2), (⟨"WordEach$CourtReader", "takeOwn", "(I)V"⟩, 2), (⟨"WordEach$CourtReader", "readAccused", "()V"⟩, 2), (⟨"WordEach$CourtReader", "readCase", "()V"⟩, 2), (⟨"WordEach", "putInForce", "(I)V"⟩, 11), (⟨"WordEach$Judge", "hearSlot", "(III)I"⟩, 4), (⟨"WordEach$Judge", "wordIn", "(III)I"⟩, 4)]
theorem lw_r1 : ∀ q ∈ lw_privs_1, lw_okq q := List.forall_mem_cons.mpr ⟨lw_p0, List.forall_mem_cons.mpr ⟨lw_p1, List.forall_mem_cons.mpr ⟨lw_p2, List.forall_mem_cons.mpr ⟨lw_p3, List.forall_mem_cons.mpr ⟨lw_p4, List.forall_mem_cons.mpr ⟨lw_p5, List.forall_mem_cons.mpr ⟨lw_p6, List.forall_mem_cons.mpr ⟨lw_p7, List.forall_mem_cons.mpr ⟨lw_p8, List.forall_mem_cons.mpr ⟨lw_p9, List.forall_mem_cons.mpr ⟨lw_p10, List.forall_mem_cons.mpr ⟨lw_p11, List.forall_mem_cons.mpr ⟨lw_p12, List.forall_mem_cons.mpr ⟨lw_p13, List.forall_mem_cons.mpr ⟨lw_p14, List.forall_mem_cons.mpr ⟨lw_p15, fun _ h => absurd h List.not_mem_nil⟩⟩⟩⟩⟩⟩⟩⟩⟩⟩⟩⟩⟩⟩⟩⟩
theorem lw_p16 : lw_okq (⟨"WordEach$Judge", "binds", "(I)Z"⟩, 4) := ⟨⟨by decide +kernel, by decide +kernel⟩, List.mem_of_getElem? (i := 229) (by decide +kernel), List.mem_of_getElem? (i := 757) (by decide +kernel), List.mem_of_getElem? (i := 758) (by decide +kernel)⟩
theorem lw_p17 : lw_okq (⟨"WordEach$Judge", "toldOf", "(III)I"⟩, 4) := ⟨⟨by decide +kernel, by decide +kernel⟩, List.mem_of_getElem? (i := 229) (by decide +kernel), List.mem_of_getElem? (i := 770) (by decide +kernel), List.mem_of_getElem? (i := 771) (by decide +kernel)⟩
theorem lw_p18 : lw_okq (⟨"WordEach", "stateSpoken", "()I"⟩, 11) := ⟨⟨by decide +kernel, by decide +kernel⟩, List.mem_of_getElem? (i := 21) (by decide +kernel), List.mem_of_getElem? (i := 778) (by decide +kernel), List.mem_of_getElem? (i := 779) (by decide +kernel)⟩
theorem lw_p19 : lw_okq (⟨"WordEach$Planner", "fewest", "()I"⟩, 8) := ⟨⟨by decide +kernel, by decide +kernel⟩, List.mem_of_getElem? (i := 289) (by decide +kernel), List.mem_of_getElem? (i := 818) (by decide +kernel), List.mem_of_getElem? (i := 819) (by decide +kernel)⟩
theorem lw_p20 : lw_okq (⟨"WordEach$Planner", "seek", "(III)Z"⟩, 8) := ⟨⟨by decide +kernel, by decide +kernel⟩, List.mem_of_getElem? (i := 289) (by decide +kernel), List.mem_of_getElem? (i := 823) (by decide +kernel), List.mem_of_getElem? (i := 824) (by decide +kernel)⟩
theorem lw_p21 : lw_okq (⟨"WordEach$Planner", "seekSaying", "(III)Z"⟩, 8) := ⟨⟨by decide +kernel, by decide +kernel⟩, List.mem_of_getElem? (i := 289) (by decide +kernel), List.mem_of_getElem? (i := 832) (by decide +kernel), List.mem_of_getElem? (i := 833) (by decide +kernel)⟩
theorem lw_p22 : lw_okq (⟨"WordEach", "rulingWith", "(II)I"⟩, 11) := ⟨⟨by decide +kernel, by decide +kernel⟩, List.mem_of_getElem? (i := 21) (by decide +kernel), List.mem_of_getElem? (i := 841) (by decide +kernel), List.mem_of_getElem? (i := 842) (by decide +kernel)⟩
theorem lw_p23 : lw_okq (⟨"WordEach$Contest", "outcome", "(III)I"⟩, 4) := ⟨⟨by decide +kernel, by decide +kernel⟩, List.mem_of_getElem? (i := 321) (by decide +kernel), List.mem_of_getElem? (i := 877) (by decide +kernel), List.mem_of_getElem? (i := 878) (by decide +kernel)⟩
theorem lw_p24 : lw_okq (⟨"WordEach$Contest", "winsBy", "(IIII)Z"⟩, 4) := ⟨⟨by decide +kernel, by decide +kernel⟩, List.mem_of_getElem? (i := 321) (by decide +kernel), List.mem_of_getElem? (i := 882) (by decide +kernel), List.mem_of_getElem? (i := 883) (by decide +kernel)⟩
theorem lw_p25 : lw_okq (⟨"WordEach", "ruleCases", "()V"⟩, 11) := ⟨⟨by decide +kernel, by decide +kernel⟩, List.mem_of_getElem? (i := 21) (by decide +kernel), List.mem_of_getElem? (i := 895) (by decide +kernel), List.mem_of_getElem? (i := 896) (by decide +kernel)⟩
theorem lw_p26 : lw_okq (⟨"WordEach$Seats", "isAhead", "(III)Z"⟩, 3) := ⟨⟨by decide +kernel, by decide +kernel⟩, List.mem_of_getElem? (i := 342) (by decide +kernel), List.mem_of_getElem? (i := 914) (by decide +kernel), List.mem_of_getElem? (i := 915) (by decide +kernel)⟩
theorem lw_p27 : lw_okq (⟨"WordEach$Seats", "draw", "(I)I"⟩, 3) := ⟨⟨by decide +kernel, by decide +kernel⟩, List.mem_of_getElem? (i := 342) (by decide +kernel), List.mem_of_getElem? (i := 934) (by decide +kernel), List.mem_of_getElem? (i := 935) (by decide +kernel)⟩
theorem lw_p28 : lw_okq (⟨"WordEach$Chance", "countWays", "()V"⟩, 7) := ⟨⟨by decide +kernel, by decide +kernel⟩, List.mem_of_getElem? (i := 360) (by decide +kernel), List.mem_of_getElem? (i := 953) (by decide +kernel), List.mem_of_getElem? (i := 954) (by decide +kernel)⟩
theorem lw_p29 : lw_okq (⟨"WordEach$Chance", "walk", "(II)V"⟩, 7) := ⟨⟨by decide +kernel, by decide +kernel⟩, List.mem_of_getElem? (i := 360) (by decide +kernel), List.mem_of_getElem? (i := 958) (by decide +kernel), List.mem_of_getElem? (i := 959) (by decide +kernel)⟩
theorem lw_p30 : lw_okq (⟨"WordEach$Chance", "tally", "(I)V"⟩, 7) := ⟨⟨by decide +kernel, by decide +kernel⟩, List.mem_of_getElem? (i := 360) (by decide +kernel), List.mem_of_getElem? (i := 963) (by decide +kernel), List.mem_of_getElem? (i := 964) (by decide +kernel)⟩
theorem lw_p31 : lw_okq (⟨"WordEach$Chance", "walkAway", "(IIII)V"⟩, 7) := ⟨⟨by decide +kernel, by decide +kernel⟩, List.mem_of_getElem? (i := 360) (by decide +kernel), List.mem_of_getElem? (i := 992) (by decide +kernel), List.mem_of_getElem? (i := 993) (by decide +kernel)⟩
def lw_privs_2 : List (MethodName × Nat) := [(⟨"WordEach$Judge", "binds", "(I)Z"⟩, 4), (⟨"WordEach$Judge", "toldOf", "(III)I"⟩, 4), (⟨"WordEach", "stateSpoken", "()I"⟩, 11), (⟨"WordEach$Planner", "fewest", "()I"⟩, 8), (⟨"WordEach$Planner", "seek", "(III)Z"⟩, 8), (⟨"WordEach$Planner", "seekSaying", "(III)Z"⟩, 8), (⟨"WordEach", "rulingWith", "(II)I"⟩, 11), (⟨"WordEach$Contest", "outcome", "(III)I"⟩, 4), (⟨"WordEach$Contest", "winsBy", "(IIII)Z"⟩, 4), (⟨"WordEach", "ruleCases", "()V"⟩, 11), (⟨"WordEach$Seats", "isAhead", "(III)Z"⟩, 3), (⟨"WordEach$Seats", "draw", "(I)I"⟩, 3), (⟨"WordEach$Chance", "countWays", "()V"⟩, 7), (⟨"WordEach$Chance", "walk", "(II)V"⟩, 7), (⟨"WordEach$Chance", "tally", "(I)V"⟩, 7), (⟨"WordEach$Chance", "walkAway", "(IIII)V"⟩, 7)]
theorem lw_r2 : ∀ q ∈ lw_privs_2, lw_okq q := List.forall_mem_cons.mpr ⟨lw_p16, List.forall_mem_cons.mpr ⟨lw_p17, List.forall_mem_cons.mpr ⟨lw_p18, List.forall_mem_cons.mpr ⟨lw_p19, List.forall_mem_cons.mpr ⟨lw_p20, List.forall_mem_cons.mpr ⟨lw_p21, List.forall_mem_cons.mpr ⟨lw_p22, List.forall_mem_cons.mpr ⟨lw_p23, List.forall_mem_cons.mpr ⟨lw_p24, List.forall_mem_cons.mpr ⟨lw_p25, List.forall_mem_cons.mpr ⟨lw_p26, List.forall_mem_cons.mpr ⟨lw_p27, List.forall_mem_cons.mpr ⟨lw_p28, List.forall_mem_cons.mpr ⟨lw_p29, List.forall_mem_cons.mpr ⟨lw_p30, List.forall_mem_cons.mpr ⟨lw_p31, fun _ h => absurd h List.not_mem_nil⟩⟩⟩⟩⟩⟩⟩⟩⟩⟩⟩⟩⟩⟩⟩⟩
theorem lw_p32 : lw_okq (⟨"WordEach$Question", "readWhole", "()I"⟩, 6) := ⟨⟨by decide +kernel, by decide +kernel⟩, List.mem_of_getElem? (i := 389) (by decide +kernel), List.mem_of_getElem? (i := 1007) (by decide +kernel), List.mem_of_getElem? (i := 1008) (by decide +kernel)⟩
theorem lw_p33 : lw_okq (⟨"WordEach$Question", "readTest", "()I"⟩, 6) := ⟨⟨by decide +kernel, by decide +kernel⟩, List.mem_of_getElem? (i := 389) (by decide +kernel), List.mem_of_getElem? (i := 1013) (by decide +kernel), List.mem_of_getElem? (i := 1014) (by decide +kernel)⟩
theorem lw_p34 : lw_okq (⟨"WordEach$Question", "readBoth", "()I"⟩, 6) := ⟨⟨by decide +kernel, by decide +kernel⟩, List.mem_of_getElem? (i := 389) (by decide +kernel), List.mem_of_getElem? (i := 1017) (by decide +kernel), List.mem_of_getElem? (i := 1018) (by decide +kernel)⟩
theorem lw_p35 : lw_okq (⟨"WordEach$Question", "readFact", "()I"⟩, 6) := ⟨⟨by decide +kernel, by decide +kernel⟩, List.mem_of_getElem? (i := 389) (by decide +kernel), List.mem_of_getElem? (i := 1021) (by decide +kernel), List.mem_of_getElem? (i := 1022) (by decide +kernel)⟩
theorem lw_p36 : lw_okq (⟨"WordEach$Question", "readOpened", "(Z)I"⟩, 6) := ⟨⟨by decide +kernel, by decide +kernel⟩, List.mem_of_getElem? (i := 389) (by decide +kernel), List.mem_of_getElem? (i := 1025) (by decide +kernel), List.mem_of_getElem? (i := 1026) (by decide +kernel)⟩
theorem lw_p37 : lw_okq (⟨"WordEach$Question", "opens", "()Z"⟩, 6) := ⟨⟨by decide +kernel, by decide +kernel⟩, List.mem_of_getElem? (i := 389) (by decide +kernel), List.mem_of_getElem? (i := 1029) (by decide +kernel), List.mem_of_getElem? (i := 1030) (by decide +kernel)⟩
theorem lw_p38 : lw_okq (⟨"WordEach$Question", "readSum", "()I"⟩, 6) := ⟨⟨by decide +kernel, by decide +kernel⟩, List.mem_of_getElem? (i := 389) (by decide +kernel), List.mem_of_getElem? (i := 1034) (by decide +kernel), List.mem_of_getElem? (i := 1035) (by decide +kernel)⟩
theorem lw_p39 : lw_okq (⟨"WordEach$Question", "readProduct", "()I"⟩, 6) := ⟨⟨by decide +kernel, by decide +kernel⟩, List.mem_of_getElem? (i := 389) (by decide +kernel), List.mem_of_getElem? (i := 1038) (by decide +kernel), List.mem_of_getElem? (i := 1039) (by decide +kernel)⟩
theorem lw_p40 : lw_okq (⟨"WordEach$Question", "readPart", "()I"⟩, 6) := ⟨⟨by decide +kernel, by decide +kernel⟩, List.mem_of_getElem? (i := 389) (by decide +kernel), List.mem_of_getElem? (i := 1042) (by decide +kernel), List.mem_of_getElem? (i := 1043) (by decide +kernel)⟩
theorem lw_p41 : lw_okq (⟨"WordEach$Question", "readBracket", "(I)I"⟩, 6) := ⟨⟨by decide +kernel, by decide +kernel⟩, List.mem_of_getElem? (i := 389) (by decide +kernel), List.mem_of_getElem? (i := 1047) (by decide +kernel), List.mem_of_getElem? (i := 1048) (by decide +kernel)⟩
theorem lw_p42 : lw_okq (⟨"WordEach$Question", "readPartOf", "(I)I"⟩, 6) := ⟨⟨by decide +kernel, by decide +kernel⟩, List.mem_of_getElem? (i := 389) (by decide +kernel), List.mem_of_getElem? (i := 1057) (by decide +kernel), List.mem_of_getElem? (i := 1058) (by decide +kernel)⟩
theorem lw_p43 : lw_okq (⟨"WordEach$Question", "wordAt", "(I)I"⟩, 6) := ⟨⟨by decide +kernel, by decide +kernel⟩, List.mem_of_getElem? (i := 389) (by decide +kernel), List.mem_of_getElem? (i := 1061) (by decide +kernel), List.mem_of_getElem? (i := 1062) (by decide +kernel)⟩
theorem lw_p44 : lw_okq (⟨"WordEach$Question", "wordsOfCase", "()I"⟩, 6) := ⟨⟨by decide +kernel, by decide +kernel⟩, List.mem_of_getElem? (i := 389) (by decide +kernel), List.mem_of_getElem? (i := 1065) (by decide +kernel), List.mem_of_getElem? (i := 1066) (by decide +kernel)⟩
theorem lw_p45 : lw_okq (⟨"WordEach$Question", "timesHeard", "(I)I"⟩, 6) := ⟨⟨by decide +kernel, by decide +kernel⟩, List.mem_of_getElem? (i := 389) (by decide +kernel), List.mem_of_getElem? (i := 1069) (by decide +kernel), List.mem_of_getElem? (i := 1070) (by decide +kernel)⟩
theorem lw_p46 : lw_okq (⟨"WordEach$Question", "simplePart", "(I)I"⟩, 6) := ⟨⟨by decide +kernel, by decide +kernel⟩, List.mem_of_getElem? (i := 389) (by decide +kernel), List.mem_of_getElem? (i := 1074) (by decide +kernel), List.mem_of_getElem? (i := 1075) (by decide +kernel)⟩
theorem lw_p47 : lw_okq (⟨"WordEach$Question", "tellTest", "(II)J"⟩, 6) := ⟨⟨by decide +kernel, by decide +kernel⟩, List.mem_of_getElem? (i := 389) (by decide +kernel), List.mem_of_getElem? (i := 1094) (by decide +kernel), List.mem_of_getElem? (i := 1095) (by decide +kernel)⟩
def lw_privs_3 : List (MethodName × Nat) := [(⟨"WordEach$Question", "readWhole", "()I"⟩, 6), (⟨"WordEach$Question", "readTest", "()I"⟩, 6), (⟨"WordEach$Question", "readBoth", "()I"⟩, 6), (⟨"WordEach$Question", "readFact", "()I"⟩, 6), (⟨"WordEach$Question", "readOpened", "(Z)I"⟩, 6), (⟨"WordEach$Question", "opens", "()Z"⟩, 6), (⟨"WordEach$Question", "readSum", "()I"⟩, 6), (⟨"WordEach$Question", "readProduct", "()I"⟩, 6), (⟨"WordEach$Question", "readPart", "()I"⟩, 6), (⟨"WordEach$Question", "readBracket", "(I)I"⟩, 6), (⟨"WordEach$Question", "readPartOf", "(I)I"⟩, 6), (⟨"WordEach$Question", "wordAt", "(I)I"⟩, 6), (⟨"WordEach$Question", "wordsOfCase", "()I"⟩, 6), (⟨"WordEach$Question", "timesHeard", "(I)I"⟩, 6), (⟨"WordEach$Question", "simplePart", "(I)I"⟩, 6), (⟨"WordEach$Question", "tellTest", "(II)J"⟩, 6)]
theorem lw_r3 : ∀ q ∈ lw_privs_3, lw_okq q := List.forall_mem_cons.mpr ⟨lw_p32, List.forall_mem_cons.mpr ⟨lw_p33, List.forall_mem_cons.mpr ⟨lw_p34, List.forall_mem_cons.mpr ⟨lw_p35, List.forall_mem_cons.mpr ⟨lw_p36, List.forall_mem_cons.mpr ⟨lw_p37, List.forall_mem_cons.mpr ⟨lw_p38, List.forall_mem_cons.mpr ⟨lw_p39, List.forall_mem_cons.mpr ⟨lw_p40, List.forall_mem_cons.mpr ⟨lw_p41, List.forall_mem_cons.mpr ⟨lw_p42, List.forall_mem_cons.mpr ⟨lw_p43, List.forall_mem_cons.mpr ⟨lw_p44, List.forall_mem_cons.mpr ⟨lw_p45, List.forall_mem_cons.mpr ⟨lw_p46, List.forall_mem_cons.mpr ⟨lw_p47, fun _ h => absurd h List.not_mem_nil⟩⟩⟩⟩⟩⟩⟩⟩⟩⟩⟩⟩⟩⟩⟩⟩
theorem lw_p48 : lw_okq (⟨"WordEach$Question", "tellSum", "(II)J"⟩, 6) := ⟨⟨by decide +kernel, by decide +kernel⟩, List.mem_of_getElem? (i := 389) (by decide +kernel), List.mem_of_getElem? (i := 1098) (by decide +kernel), List.mem_of_getElem? (i := 1099) (by decide +kernel)⟩
theorem lw_p49 : lw_okq (⟨"WordEach$Row", "addOctet", "(I)V"⟩, 5) := ⟨⟨by decide +kernel, by decide +kernel⟩, List.mem_of_getElem? (i := 262) (by decide +kernel), List.mem_of_getElem? (i := 1110) (by decide +kernel), List.mem_of_getElem? (i := 1111) (by decide +kernel)⟩
theorem lw_p50 : lw_okq (⟨"WordEachModel", "look", "()I"⟩, 89) := ⟨⟨by decide +kernel, by decide +kernel⟩, List.mem_of_getElem? (i := 1145) (by decide +kernel), List.mem_of_getElem? (i := 1433) (by decide +kernel), List.mem_of_getElem? (i := 1434) (by decide +kernel)⟩
theorem lw_p51 : lw_okq (⟨"WordEachModel", "statementTold", "()V"⟩, 89) := ⟨⟨by decide +kernel, by decide +kernel⟩, List.mem_of_getElem? (i := 1145) (by decide +kernel), List.mem_of_getElem? (i := 1437) (by decide +kernel), List.mem_of_getElem? (i := 1438) (by decide +kernel)⟩
theorem lw_p52 : lw_okq (⟨"WordEachModel", "fail", "(II)V"⟩, 89) := ⟨⟨by decide +kernel, by decide +kernel⟩, List.mem_of_getElem? (i := 1145) (by decide +kernel), List.mem_of_getElem? (i := 1441) (by decide +kernel), List.mem_of_getElem? (i := 1442) (by decide +kernel)⟩
theorem lw_p53 : lw_okq (⟨"WordEachModel", "takes", "([C)Z"⟩, 89) := ⟨⟨by decide +kernel, by decide +kernel⟩, List.mem_of_getElem? (i := 1145) (by decide +kernel), List.mem_of_getElem? (i := 1445) (by decide +kernel), List.mem_of_getElem? (i := 1446) (by decide +kernel)⟩
theorem lw_p54 : lw_okq (⟨"WordEachModel", "isHere", "([C)Z"⟩, 89) := ⟨⟨by decide +kernel, by decide +kernel⟩, List.mem_of_getElem? (i := 1145) (by decide +kernel), List.mem_of_getElem? (i := 1449) (by decide +kernel), List.mem_of_getElem? (i := 1450) (by decide +kernel)⟩
theorem lw_p55 : lw_okq (⟨"WordEachModel", "newWord", "(II)V"⟩, 89) := ⟨⟨by decide +kernel, by decide +kernel⟩, List.mem_of_getElem? (i := 1145) (by decide +kernel), List.mem_of_getElem? (i := 1456) (by decide +kernel), List.mem_of_getElem? (i := 1457) (by decide +kernel)⟩
theorem lw_p56 : lw_okq (⟨"WordEachModel", "isFull", "(III)Z"⟩, 89) := ⟨⟨by decide +kernel, by decide +kernel⟩, List.mem_of_getElem? (i := 1145) (by decide +kernel), List.mem_of_getElem? (i := 1460) (by decide +kernel), List.mem_of_getElem? (i := 1461) (by decide +kernel)⟩
theorem lw_p57 : lw_okq (⟨"WordEachModel", "newSpelt", "()J"⟩, 89) := ⟨⟨by decide +kernel, by decide +kernel⟩, List.mem_of_getElem? (i := 1145) (by decide +kernel), List.mem_of_getElem? (i := 1464) (by decide +kernel), List.mem_of_getElem? (i := 1465) (by decide +kernel)⟩
theorem lw_p58 : lw_okq (⟨"WordEachModel", "spelt", "()J"⟩, 89) := ⟨⟨by decide +kernel, by decide +kernel⟩, List.mem_of_getElem? (i := 1145) (by decide +kernel), List.mem_of_getElem? (i := 1468) (by decide +kernel), List.mem_of_getElem? (i := 1469) (by decide +kernel)⟩
theorem lw_p59 : lw_okq (⟨"WordEachModel", "isOwnHere", "()Z"⟩, 89) := ⟨⟨by decide +kernel, by decide +kernel⟩, List.mem_of_getElem? (i := 1145) (by decide +kernel), List.mem_of_getElem? (i := 1472) (by decide +kernel), List.mem_of_getElem? (i := 1473) (by decide +kernel)⟩
theorem lw_p60 : lw_okq (⟨"WordEachModel", "wordOf", "(J)I"⟩, 89) := ⟨⟨by decide +kernel, by decide +kernel⟩, List.mem_of_getElem? (i := 1145) (by decide +kernel), List.mem_of_getElem? (i := 1478) (by decide +kernel), List.mem_of_getElem? (i := 1479) (by decide +kernel)⟩
theorem lw_p61 : lw_okq (⟨"WordEachModel", "isWitness", "(J)Z"⟩, 89) := ⟨⟨by decide +kernel, by decide +kernel⟩, List.mem_of_getElem? (i := 1145) (by decide +kernel), List.mem_of_getElem? (i := 1482) (by decide +kernel), List.mem_of_getElem? (i := 1483) (by decide +kernel)⟩
theorem lw_p62 : lw_okq (⟨"WordEachModel", "newLine", "(I)V"⟩, 89) := ⟨⟨by decide +kernel, by decide +kernel⟩, List.mem_of_getElem? (i := 1145) (by decide +kernel), List.mem_of_getElem? (i := 1486) (by decide +kernel), List.mem_of_getElem? (i := 1487) (by decide +kernel)⟩
theorem lw_p63 : lw_okq (⟨"WordEachModel", "slotTold", "()I"⟩, 89) := ⟨⟨by decide +kernel, by decide +kernel⟩, List.mem_of_getElem? (i := 1145) (by decide +kernel), List.mem_of_getElem? (i := 1490) (by decide +kernel), List.mem_of_getElem? (i := 1491) (by decide +kernel)⟩
def lw_privs_4 : List (MethodName × Nat) := [(⟨"WordEach$Question", "tellSum", "(II)J"⟩, 6), (⟨"WordEach$Row", "addOctet", "(I)V"⟩, 5), (⟨"WordEachModel", "look", "()I"⟩, 89), (⟨"WordEachModel", "statementTold", "()V"⟩, 89), (⟨"WordEachModel", "fail", "(II)V"⟩, 89), (⟨"WordEachModel", "takes", "([C)Z"⟩, 89), (⟨"WordEachModel", "isHere", "([C)Z"⟩, 89), (⟨"WordEachModel", "newWord", "(II)V"⟩, 89), (⟨"WordEachModel", "isFull", "(III)Z"⟩, 89), (⟨"WordEachModel", "newSpelt", "()J"⟩, 89), (⟨"WordEachModel", "spelt", "()J"⟩, 89), (⟨"WordEachModel", "isOwnHere", "()Z"⟩, 89), (⟨"WordEachModel", "wordOf", "(J)I"⟩, 89), (⟨"WordEachModel", "isWitness", "(J)Z"⟩, 89), (⟨"WordEachModel", "newLine", "(I)V"⟩, 89), (⟨"WordEachModel", "slotTold", "()I"⟩, 89)]
theorem lw_r4 : ∀ q ∈ lw_privs_4, lw_okq q := List.forall_mem_cons.mpr ⟨lw_p48, List.forall_mem_cons.mpr ⟨lw_p49, List.forall_mem_cons.mpr ⟨lw_p50, List.forall_mem_cons.mpr ⟨lw_p51, List.forall_mem_cons.mpr ⟨lw_p52, List.forall_mem_cons.mpr ⟨lw_p53, List.forall_mem_cons.mpr ⟨lw_p54, List.forall_mem_cons.mpr ⟨lw_p55, List.forall_mem_cons.mpr ⟨lw_p56, List.forall_mem_cons.mpr ⟨lw_p57, List.forall_mem_cons.mpr ⟨lw_p58, List.forall_mem_cons.mpr ⟨lw_p59, List.forall_mem_cons.mpr ⟨lw_p60, List.forall_mem_cons.mpr ⟨lw_p61, List.forall_mem_cons.mpr ⟨lw_p62, List.forall_mem_cons.mpr ⟨lw_p63, fun _ h => absurd h List.not_mem_nil⟩⟩⟩⟩⟩⟩⟩⟩⟩⟩⟩⟩⟩⟩⟩⟩
theorem lw_p64 : lw_okq (⟨"WordEachModel", "asks", "([C)V"⟩, 89) := ⟨⟨by decide +kernel, by decide +kernel⟩, List.mem_of_getElem? (i := 1145) (by decide +kernel), List.mem_of_getElem? (i := 1494) (by decide +kernel), List.mem_of_getElem? (i := 1495) (by decide +kernel)⟩
theorem lw_p65 : lw_okq (⟨"WordEachModel", "newFact", "(I)V"⟩, 89) := ⟨⟨by decide +kernel, by decide +kernel⟩, List.mem_of_getElem? (i := 1145) (by decide +kernel), List.mem_of_getElem? (i := 1498) (by decide +kernel), List.mem_of_getElem? (i := 1499) (by decide +kernel)⟩
theorem lw_p66 : lw_okq (⟨"WordEachModel", "wordTold", "(I)I"⟩, 89) := ⟨⟨by decide +kernel, by decide +kernel⟩, List.mem_of_getElem? (i := 1145) (by decide +kernel), List.mem_of_getElem? (i := 1502) (by decide +kernel), List.mem_of_getElem? (i := 1503) (by decide +kernel)⟩
theorem lw_p67 : lw_okq (⟨"WordEachModel", "newWitness", "(I)V"⟩, 89) := ⟨⟨by decide +kernel, by decide +kernel⟩, List.mem_of_getElem? (i := 1145) (by decide +kernel), List.mem_of_getElem? (i := 1506) (by decide +kernel), List.mem_of_getElem? (i := 1507) (by decide +kernel)⟩
theorem lw_p68 : lw_okq (⟨"WordEachModel", "number", "(II)I"⟩, 89) := ⟨⟨by decide +kernel, by decide +kernel⟩, List.mem_of_getElem? (i := 1145) (by decide +kernel), List.mem_of_getElem? (i := 1510) (by decide +kernel), List.mem_of_getElem? (i := 1511) (by decide +kernel)⟩
theorem lw_p69 : lw_okq (⟨"WordEachModel", "accusedTold", "()V"⟩, 89) := ⟨⟨by decide +kernel, by decide +kernel⟩, List.mem_of_getElem? (i := 1145) (by decide +kernel), List.mem_of_getElem? (i := 1520) (by decide +kernel), List.mem_of_getElem? (i := 1521) (by decide +kernel)⟩
theorem lw_p70 : lw_okq (⟨"WordEachModel", "newCase", "(I)V"⟩, 89) := ⟨⟨by decide +kernel, by decide +kernel⟩, List.mem_of_getElem? (i := 1145) (by decide +kernel), List.mem_of_getElem? (i := 1524) (by decide +kernel), List.mem_of_getElem? (i := 1525) (by decide +kernel)⟩
theorem lw_p71 : lw_okq (⟨"WordEachModel", "asksSign", "(I)V"⟩, 89) := ⟨⟨by decide +kernel, by decide +kernel⟩, List.mem_of_getElem? (i := 1145) (by decide +kernel), List.mem_of_getElem? (i := 1528) (by decide +kernel), List.mem_of_getElem? (i := 1529) (by decide +kernel)⟩
theorem lw_p72 : lw_okq (⟨"WordEachModel", "takesSign", "(I)Z"⟩, 89) := ⟨⟨by decide +kernel, by decide +kernel⟩, List.mem_of_getElem? (i := 1145) (by decide +kernel), List.mem_of_getElem? (i := 1532) (by decide +kernel), List.mem_of_getElem? (i := 1533) (by decide +kernel)⟩
theorem lw_p73 : lw_okq (⟨"WordEachModel", "stands", "()V"⟩, 89) := ⟨⟨by decide +kernel, by decide +kernel⟩, List.mem_of_getElem? (i := 1145) (by decide +kernel), List.mem_of_getElem? (i := 1536) (by decide +kernel), List.mem_of_getElem? (i := 1537) (by decide +kernel)⟩
theorem lw_p74 : lw_okq (⟨"WordEachModel", "lineMany", "()I"⟩, 89) := ⟨⟨by decide +kernel, by decide +kernel⟩, List.mem_of_getElem? (i := 1145) (by decide +kernel), List.mem_of_getElem? (i := 1540) (by decide +kernel), List.mem_of_getElem? (i := 1541) (by decide +kernel)⟩
theorem lw_p75 : lw_okq (⟨"WordEachModel", "accusedName", "()I"⟩, 89) := ⟨⟨by decide +kernel, by decide +kernel⟩, List.mem_of_getElem? (i := 1145) (by decide +kernel), List.mem_of_getElem? (i := 1552) (by decide +kernel), List.mem_of_getElem? (i := 1553) (by decide +kernel)⟩
theorem lw_p76 : lw_okq (⟨"WordEachModel", "isWord", "(I)Z"⟩, 89) := ⟨⟨by decide +kernel, by decide +kernel⟩, List.mem_of_getElem? (i := 1145) (by decide +kernel), List.mem_of_getElem? (i := 1560) (by decide +kernel), List.mem_of_getElem? (i := 1561) (by decide +kernel)⟩
theorem lw_p77 : lw_okq (⟨"WordEachModel", "wordMany", "()I"⟩, 89) := ⟨⟨by decide +kernel, by decide +kernel⟩, List.mem_of_getElem? (i := 1145) (by decide +kernel), List.mem_of_getElem? (i := 1564) (by decide +kernel), List.mem_of_getElem? (i := 1565) (by decide +kernel)⟩
theorem lw_p78 : lw_okq (⟨"WordEachModel", "kindOf", "(I)I"⟩, 89) := ⟨⟨by decide +kernel, by decide +kernel⟩, List.mem_of_getElem? (i := 1145) (by decide +kernel), List.mem_of_getElem? (i := 1568) (by decide +kernel), List.mem_of_getElem? (i := 1569) (by decide +kernel)⟩
theorem lw_p79 : lw_okq (⟨"WordEachModel", "witnessMany", "()I"⟩, 89) := ⟨⟨by decide +kernel, by decide +kernel⟩, List.mem_of_getElem? (i := 1145) (by decide +kernel), List.mem_of_getElem? (i := 1572) (by decide +kernel), List.mem_of_getElem? (i := 1573) (by decide +kernel)⟩
def lw_privs_5 : List (MethodName × Nat) := [(⟨"WordEachModel", "asks", "([C)V"⟩, 89), (⟨"WordEachModel", "newFact", "(I)V"⟩, 89), (⟨"WordEachModel", "wordTold", "(I)I"⟩, 89), (⟨"WordEachModel", "newWitness", "(I)V"⟩, 89), (⟨"WordEachModel", "number", "(II)I"⟩, 89), (⟨"WordEachModel", "accusedTold", "()V"⟩, 89), (⟨"WordEachModel", "newCase", "(I)V"⟩, 89), (⟨"WordEachModel", "asksSign", "(I)V"⟩, 89), (⟨"WordEachModel", "takesSign", "(I)Z"⟩, 89), (⟨"WordEachModel", "stands", "()V"⟩, 89), (⟨"WordEachModel", "lineMany", "()I"⟩, 89), (⟨"WordEachModel", "accusedName", "()I"⟩, 89), (⟨"WordEachModel", "isWord", "(I)Z"⟩, 89), (⟨"WordEachModel", "wordMany", "()I"⟩, 89), (⟨"WordEachModel", "kindOf", "(I)I"⟩, 89), (⟨"WordEachModel", "witnessMany", "()I"⟩, 89)]
theorem lw_r5 : ∀ q ∈ lw_privs_5, lw_okq q := List.forall_mem_cons.mpr ⟨lw_p64, List.forall_mem_cons.mpr ⟨lw_p65, List.forall_mem_cons.mpr ⟨lw_p66, List.forall_mem_cons.mpr ⟨lw_p67, List.forall_mem_cons.mpr ⟨lw_p68, List.forall_mem_cons.mpr ⟨lw_p69, List.forall_mem_cons.mpr ⟨lw_p70, List.forall_mem_cons.mpr ⟨lw_p71, List.forall_mem_cons.mpr ⟨lw_p72, List.forall_mem_cons.mpr ⟨lw_p73, List.forall_mem_cons.mpr ⟨lw_p74, List.forall_mem_cons.mpr ⟨lw_p75, List.forall_mem_cons.mpr ⟨lw_p76, List.forall_mem_cons.mpr ⟨lw_p77, List.forall_mem_cons.mpr ⟨lw_p78, List.forall_mem_cons.mpr ⟨lw_p79, fun _ h => absurd h List.not_mem_nil⟩⟩⟩⟩⟩⟩⟩⟩⟩⟩⟩⟩⟩⟩⟩⟩
theorem lw_p80 : lw_okq (⟨"WordEachModel", "says", "(II)Z"⟩, 89) := ⟨⟨by decide +kernel, by decide +kernel⟩, List.mem_of_getElem? (i := 1145) (by decide +kernel), List.mem_of_getElem? (i := 1576) (by decide +kernel), List.mem_of_getElem? (i := 1577) (by decide +kernel)⟩
theorem lw_p81 : lw_okq (⟨"WordEachModel", "saysMany", "(I)I"⟩, 89) := ⟨⟨by decide +kernel, by decide +kernel⟩, List.mem_of_getElem? (i := 1145) (by decide +kernel), List.mem_of_getElem? (i := 1580) (by decide +kernel), List.mem_of_getElem? (i := 1581) (by decide +kernel)⟩
theorem lw_p82 : lw_okq (⟨"WordEachModel", "saysOf", "(II)I"⟩, 89) := ⟨⟨by decide +kernel, by decide +kernel⟩, List.mem_of_getElem? (i := 1145) (by decide +kernel), List.mem_of_getElem? (i := 1584) (by decide +kernel), List.mem_of_getElem? (i := 1585) (by decide +kernel)⟩
theorem lw_p83 : lw_okq (⟨"WordEachModel", "isBench", "(I)Z"⟩, 89) := ⟨⟨by decide +kernel, by decide +kernel⟩, List.mem_of_getElem? (i := 1145) (by decide +kernel), List.mem_of_getElem? (i := 1597) (by decide +kernel), List.mem_of_getElem? (i := 1598) (by decide +kernel)⟩
theorem lw_p84 : lw_okq (⟨"WordEachModel", "spokeAt", "(I)I"⟩, 89) := ⟨⟨by decide +kernel, by decide +kernel⟩, List.mem_of_getElem? (i := 1145) (by decide +kernel), List.mem_of_getElem? (i := 1602) (by decide +kernel), List.mem_of_getElem? (i := 1603) (by decide +kernel)⟩
theorem lw_p85 : lw_okq (⟨"WordEachModel", "adds", "(II)V"⟩, 89) := ⟨⟨by decide +kernel, by decide +kernel⟩, List.mem_of_getElem? (i := 1145) (by decide +kernel), List.mem_of_getElem? (i := 1620) (by decide +kernel), List.mem_of_getElem? (i := 1621) (by decide +kernel)⟩
theorem lw_p86 : lw_okq (⟨"WordEachModel", "readsRow", "()Z"⟩, 89) := ⟨⟨by decide +kernel, by decide +kernel⟩, List.mem_of_getElem? (i := 1145) (by decide +kernel), List.mem_of_getElem? (i := 1640) (by decide +kernel), List.mem_of_getElem? (i := 1641) (by decide +kernel)⟩
theorem lw_p87 : lw_okq (⟨"WordEachModel", "triesRow", "(I)V"⟩, 89) := ⟨⟨by decide +kernel, by decide +kernel⟩, List.mem_of_getElem? (i := 1145) (by decide +kernel), List.mem_of_getElem? (i := 1644) (by decide +kernel), List.mem_of_getElem? (i := 1645) (by decide +kernel)⟩
theorem lw_p88 : lw_okq (⟨"WordEachModel", "tries", "(I)V"⟩, 89) := ⟨⟨by decide +kernel, by decide +kernel⟩, List.mem_of_getElem? (i := 1145) (by decide +kernel), List.mem_of_getElem? (i := 1648) (by decide +kernel), List.mem_of_getElem? (i := 1649) (by decide +kernel)⟩
theorem lw_p89 : lw_okq (⟨"WordEachModel", "reads", "()Z"⟩, 89) := ⟨⟨by decide +kernel, by decide +kernel⟩, List.mem_of_getElem? (i := 1145) (by decide +kernel), List.mem_of_getElem? (i := 1652) (by decide +kernel), List.mem_of_getElem? (i := 1653) (by decide +kernel)⟩
theorem lw_p90 : lw_okq (⟨"WordEachModel", "clauseFrom", "(II)I"⟩, 89) := ⟨⟨by decide +kernel, by decide +kernel⟩, List.mem_of_getElem? (i := 1145) (by decide +kernel), List.mem_of_getElem? (i := 1656) (by decide +kernel), List.mem_of_getElem? (i := 1657) (by decide +kernel)⟩
theorem lw_p91 : lw_okq (⟨"WordEachModel", "fits", "(II)I"⟩, 89) := ⟨⟨by decide +kernel, by decide +kernel⟩, List.mem_of_getElem? (i := 1145) (by decide +kernel), List.mem_of_getElem? (i := 1660) (by decide +kernel), List.mem_of_getElem? (i := 1661) (by decide +kernel)⟩
theorem lw_p92 : lw_okq (⟨"WordEachModel", "isBinding", "(I)Z"⟩, 89) := ⟨⟨by decide +kernel, by decide +kernel⟩, List.mem_of_getElem? (i := 1145) (by decide +kernel), List.mem_of_getElem? (i := 1664) (by decide +kernel), List.mem_of_getElem? (i := 1665) (by decide +kernel)⟩
theorem lw_p93 : lw_okq (⟨"WordEachModel", "isAllSo", "(I)Z"⟩, 89) := ⟨⟨by decide +kernel, by decide +kernel⟩, List.mem_of_getElem? (i := 1145) (by decide +kernel), List.mem_of_getElem? (i := 1677) (by decide +kernel), List.mem_of_getElem? (i := 1678) (by decide +kernel)⟩
theorem lw_p94 : lw_okq (⟨"WordEachModel", "isSo", "(II)Z"⟩, 89) := ⟨⟨by decide +kernel, by decide +kernel⟩, List.mem_of_getElem? (i := 1145) (by decide +kernel), List.mem_of_getElem? (i := 1681) (by decide +kernel), List.mem_of_getElem? (i := 1682) (by decide +kernel)⟩
theorem lw_p95 : lw_okq (⟨"WordEachModel", "isFact", "(III)Z"⟩, 89) := ⟨⟨by decide +kernel, by decide +kernel⟩, List.mem_of_getElem? (i := 1145) (by decide +kernel), List.mem_of_getElem? (i := 1685) (by decide +kernel), List.mem_of_getElem? (i := 1686) (by decide +kernel)⟩
def lw_privs_6 : List (MethodName × Nat) := [(⟨"WordEachModel", "says", "(II)Z"⟩, 89), (⟨"WordEachModel", "saysMany", "(I)I"⟩, 89), (⟨"WordEachModel", "saysOf", "(II)I"⟩, 89), (⟨"WordEachModel", "isBench", "(I)Z"⟩, 89), (⟨"WordEachModel", "spokeAt", "(I)I"⟩, 89), (⟨"WordEachModel", "adds", "(II)V"⟩, 89), (⟨"WordEachModel", "readsRow", "()Z"⟩, 89), (⟨"WordEachModel", "triesRow", "(I)V"⟩, 89), (⟨"WordEachModel", "tries", "(I)V"⟩, 89), (⟨"WordEachModel", "reads", "()Z"⟩, 89), (⟨"WordEachModel", "clauseFrom", "(II)I"⟩, 89), (⟨"WordEachModel", "fits", "(II)I"⟩, 89), (⟨"WordEachModel", "isBinding", "(I)Z"⟩, 89), (⟨"WordEachModel", "isAllSo", "(I)Z"⟩, 89), (⟨"WordEachModel", "isSo", "(II)Z"⟩, 89), (⟨"WordEachModel", "isFact", "(III)Z"⟩, 89)]
theorem lw_r6 : ∀ q ∈ lw_privs_6, lw_okq q := List.forall_mem_cons.mpr ⟨lw_p80, List.forall_mem_cons.mpr ⟨lw_p81, List.forall_mem_cons.mpr ⟨lw_p82, List.forall_mem_cons.mpr ⟨lw_p83, List.forall_mem_cons.mpr ⟨lw_p84, List.forall_mem_cons.mpr ⟨lw_p85, List.forall_mem_cons.mpr ⟨lw_p86, List.forall_mem_cons.mpr ⟨lw_p87, List.forall_mem_cons.mpr ⟨lw_p88, List.forall_mem_cons.mpr ⟨lw_p89, List.forall_mem_cons.mpr ⟨lw_p90, List.forall_mem_cons.mpr ⟨lw_p91, List.forall_mem_cons.mpr ⟨lw_p92, List.forall_mem_cons.mpr ⟨lw_p93, List.forall_mem_cons.mpr ⟨lw_p94, List.forall_mem_cons.mpr ⟨lw_p95, fun _ h => absurd h List.not_mem_nil⟩⟩⟩⟩⟩⟩⟩⟩⟩⟩⟩⟩⟩⟩⟩⟩
theorem lw_p96 : lw_okq (⟨"WordEachModel", "rulesRow", "()I"⟩, 89) := ⟨⟨by decide +kernel, by decide +kernel⟩, List.mem_of_getElem? (i := 1145) (by decide +kernel), List.mem_of_getElem? (i := 1693) (by decide +kernel), List.mem_of_getElem? (i := 1694) (by decide +kernel)⟩
theorem lw_p97 : lw_okq (⟨"WordEachModel", "rules", "()I"⟩, 89) := ⟨⟨by decide +kernel, by decide +kernel⟩, List.mem_of_getElem? (i := 1145) (by decide +kernel), List.mem_of_getElem? (i := 1697) (by decide +kernel), List.mem_of_getElem? (i := 1698) (by decide +kernel)⟩
theorem lw_p98 : lw_okq (⟨"WordEachModel", "truth", "()I"⟩, 89) := ⟨⟨by decide +kernel, by decide +kernel⟩, List.mem_of_getElem? (i := 1145) (by decide +kernel), List.mem_of_getElem? (i := 1701) (by decide +kernel), List.mem_of_getElem? (i := 1702) (by decide +kernel)⟩
theorem lw_p99 : lw_okq (⟨"WordEachModel", "caseMany", "()I"⟩, 89) := ⟨⟨by decide +kernel, by decide +kernel⟩, List.mem_of_getElem? (i := 1145) (by decide +kernel), List.mem_of_getElem? (i := 1709) (by decide +kernel), List.mem_of_getElem? (i := 1710) (by decide +kernel)⟩
theorem lw_p100 : lw_okq (⟨"WordEachModel", "rulesCase", "(I)I"⟩, 89) := ⟨⟨by decide +kernel, by decide +kernel⟩, List.mem_of_getElem? (i := 1145) (by decide +kernel), List.mem_of_getElem? (i := 1713) (by decide +kernel), List.mem_of_getElem? (i := 1714) (by decide +kernel)⟩
theorem lw_p101 : lw_okq (⟨"WordEachModel", "triesCase", "(II)V"⟩, 89) := ⟨⟨by decide +kernel, by decide +kernel⟩, List.mem_of_getElem? (i := 1145) (by decide +kernel), List.mem_of_getElem? (i := 1717) (by decide +kernel), List.mem_of_getElem? (i := 1718) (by decide +kernel)⟩
theorem lw_p102 : lw_okq (⟨"WordEachModel", "isFound", "(IIII)Z"⟩, 89) := ⟨⟨by decide +kernel, by decide +kernel⟩, List.mem_of_getElem? (i := 1145) (by decide +kernel), List.mem_of_getElem? (i := 1726) (by decide +kernel), List.mem_of_getElem? (i := 1727) (by decide +kernel)⟩
theorem lw_p103 : lw_okq (⟨"WordEachModel", "canChoose", "(II)Z"⟩, 89) := ⟨⟨by decide +kernel, by decide +kernel⟩, List.mem_of_getElem? (i := 1145) (by decide +kernel), List.mem_of_getElem? (i := 1730) (by decide +kernel), List.mem_of_getElem? (i := 1731) (by decide +kernel)⟩
theorem lw_p104 : lw_okq (⟨"WordEachModel", "sideOf", "(I)I"⟩, 89) := ⟨⟨by decide +kernel, by decide +kernel⟩, List.mem_of_getElem? (i := 1145) (by decide +kernel), List.mem_of_getElem? (i := 1734) (by decide +kernel), List.mem_of_getElem? (i := 1735) (by decide +kernel)⟩
theorem lw_p105 : lw_okq (⟨"WordEachModel", "isPlan", "(III)Z"⟩, 89) := ⟨⟨by decide +kernel, by decide +kernel⟩, List.mem_of_getElem? (i := 1145) (by decide +kernel), List.mem_of_getElem? (i := 1738) (by decide +kernel), List.mem_of_getElem? (i := 1739) (by decide +kernel)⟩
theorem lw_p106 : lw_okq (⟨"WordEachModel", "triesChoices", "(I)V"⟩, 89) := ⟨⟨by decide +kernel, by decide +kernel⟩, List.mem_of_getElem? (i := 1145) (by decide +kernel), List.mem_of_getElem? (i := 1742) (by decide +kernel), List.mem_of_getElem? (i := 1743) (by decide +kernel)⟩
theorem lw_p107 : lw_okq (⟨"WordEachModel", "isStandingPlan", "(II)Z"⟩, 89) := ⟨⟨by decide +kernel, by decide +kernel⟩, List.mem_of_getElem? (i := 1145) (by decide +kernel), List.mem_of_getElem? (i := 1746) (by decide +kernel), List.mem_of_getElem? (i := 1747) (by decide +kernel)⟩
theorem lw_p108 : lw_okq (⟨"WordEachModel", "takesOut", "(I)V"⟩, 89) := ⟨⟨by decide +kernel, by decide +kernel⟩, List.mem_of_getElem? (i := 1145) (by decide +kernel), List.mem_of_getElem? (i := 1750) (by decide +kernel), List.mem_of_getElem? (i := 1751) (by decide +kernel)⟩
theorem lw_p109 : lw_okq (⟨"WordEachModel", "isFirm", "(II)Z"⟩, 89) := ⟨⟨by decide +kernel, by decide +kernel⟩, List.mem_of_getElem? (i := 1145) (by decide +kernel), List.mem_of_getElem? (i := 1754) (by decide +kernel), List.mem_of_getElem? (i := 1755) (by decide +kernel)⟩
theorem lw_p110 : lw_okq (⟨"WordEachModel", "putsIn", "(II)V"⟩, 89) := ⟨⟨by decide +kernel, by decide +kernel⟩, List.mem_of_getElem? (i := 1145) (by decide +kernel), List.mem_of_getElem? (i := 1758) (by decide +kernel), List.mem_of_getElem? (i := 1759) (by decide +kernel)⟩
theorem lw_p111 : lw_okq (⟨"WordEachModel", "undoes", "(III)Z"⟩, 89) := ⟨⟨by decide +kernel, by decide +kernel⟩, List.mem_of_getElem? (i := 1145) (by decide +kernel), List.mem_of_getElem? (i := 1766) (by decide +kernel), List.mem_of_getElem? (i := 1767) (by decide +kernel)⟩
def lw_privs_7 : List (MethodName × Nat) := [(⟨"WordEachModel", "rulesRow", "()I"⟩, 89), (⟨"WordEachModel", "rules", "()I"⟩, 89), (⟨"WordEachModel", "truth", "()I"⟩, 89), (⟨"WordEachModel", "caseMany", "()I"⟩, 89), (⟨"WordEachModel", "rulesCase", "(I)I"⟩, 89), (⟨"WordEachModel", "triesCase", "(II)V"⟩, 89), (⟨"WordEachModel", "isFound", "(IIII)Z"⟩, 89), (⟨"WordEachModel", "canChoose", "(II)Z"⟩, 89), (⟨"WordEachModel", "sideOf", "(I)I"⟩, 89), (⟨"WordEachModel", "isPlan", "(III)Z"⟩, 89), (⟨"WordEachModel", "triesChoices", "(I)V"⟩, 89), (⟨"WordEachModel", "isStandingPlan", "(II)Z"⟩, 89), (⟨"WordEachModel", "takesOut", "(I)V"⟩, 89), (⟨"WordEachModel", "isFirm", "(II)Z"⟩, 89), (⟨"WordEachModel", "putsIn", "(II)V"⟩, 89), (⟨"WordEachModel", "undoes", "(III)Z"⟩, 89)]
theorem lw_r7 : ∀ q ∈ lw_privs_7, lw_okq q := List.forall_mem_cons.mpr ⟨lw_p96, List.forall_mem_cons.mpr ⟨lw_p97, List.forall_mem_cons.mpr ⟨lw_p98, List.forall_mem_cons.mpr ⟨lw_p99, List.forall_mem_cons.mpr ⟨lw_p100, List.forall_mem_cons.mpr ⟨lw_p101, List.forall_mem_cons.mpr ⟨lw_p102, List.forall_mem_cons.mpr ⟨lw_p103, List.forall_mem_cons.mpr ⟨lw_p104, List.forall_mem_cons.mpr ⟨lw_p105, List.forall_mem_cons.mpr ⟨lw_p106, List.forall_mem_cons.mpr ⟨lw_p107, List.forall_mem_cons.mpr ⟨lw_p108, List.forall_mem_cons.mpr ⟨lw_p109, List.forall_mem_cons.mpr ⟨lw_p110, List.forall_mem_cons.mpr ⟨lw_p111, fun _ h => absurd h List.not_mem_nil⟩⟩⟩⟩⟩⟩⟩⟩⟩⟩⟩⟩⟩⟩⟩⟩
theorem lw_p112 : lw_okq (⟨"WordEachModel", "games", "(I)I"⟩, 89) := ⟨⟨by decide +kernel, by decide +kernel⟩, List.mem_of_getElem? (i := 1145) (by decide +kernel), List.mem_of_getElem? (i := 1787) (by decide +kernel), List.mem_of_getElem? (i := 1788) (by decide +kernel)⟩
theorem lw_p113 : lw_okq (⟨"WordEachModel", "opens", "(I)V"⟩, 89) := ⟨⟨by decide +kernel, by decide +kernel⟩, List.mem_of_getElem? (i := 1145) (by decide +kernel), List.mem_of_getElem? (i := 1791) (by decide +kernel), List.mem_of_getElem? (i := 1792) (by decide +kernel)⟩
theorem lw_p114 : lw_okq (⟨"WordEachModel", "canMove", "(I)Z"⟩, 89) := ⟨⟨by decide +kernel, by decide +kernel⟩, List.mem_of_getElem? (i := 1145) (by decide +kernel), List.mem_of_getElem? (i := 1795) (by decide +kernel), List.mem_of_getElem? (i := 1796) (by decide +kernel)⟩
theorem lw_p115 : lw_okq (⟨"WordEachModel", "weighs", "(II)V"⟩, 89) := ⟨⟨by decide +kernel, by decide +kernel⟩, List.mem_of_getElem? (i := 1145) (by decide +kernel), List.mem_of_getElem? (i := 1799) (by decide +kernel), List.mem_of_getElem? (i := 1800) (by decide +kernel)⟩
theorem lw_p116 : lw_okq (⟨"WordEachModel", "orders", "(I)V"⟩, 89) := ⟨⟨by decide +kernel, by decide +kernel⟩, List.mem_of_getElem? (i := 1145) (by decide +kernel), List.mem_of_getElem? (i := 1820) (by decide +kernel), List.mem_of_getElem? (i := 1821) (by decide +kernel)⟩
theorem lw_p117 : lw_okq (⟨"WordEachModel", "isAhead", "(III)Z"⟩, 89) := ⟨⟨by decide +kernel, by decide +kernel⟩, List.mem_of_getElem? (i := 1145) (by decide +kernel), List.mem_of_getElem? (i := 1824) (by decide +kernel), List.mem_of_getElem? (i := 1825) (by decide +kernel)⟩
theorem lw_p118 : lw_okq (⟨"WordEachModel", "rulesOrder", "()I"⟩, 89) := ⟨⟨by decide +kernel, by decide +kernel⟩, List.mem_of_getElem? (i := 1145) (by decide +kernel), List.mem_of_getElem? (i := 1828) (by decide +kernel), List.mem_of_getElem? (i := 1829) (by decide +kernel)⟩
theorem lw_p119 : lw_okq (⟨"WordEachModel", "draws", "()V"⟩, 89) := ⟨⟨by decide +kernel, by decide +kernel⟩, List.mem_of_getElem? (i := 1145) (by decide +kernel), List.mem_of_getElem? (i := 1841) (by decide +kernel), List.mem_of_getElem? (i := 1842) (by decide +kernel)⟩
theorem lw_p120 : lw_okq (⟨"WordEachModel", "drawOf", "(I)I"⟩, 89) := ⟨⟨by decide +kernel, by decide +kernel⟩, List.mem_of_getElem? (i := 1145) (by decide +kernel), List.mem_of_getElem? (i := 1845) (by decide +kernel), List.mem_of_getElem? (i := 1846) (by decide +kernel)⟩
theorem lw_p121 : lw_okq (⟨"WordEachModel", "waysAll", "()I"⟩, 89) := ⟨⟨by decide +kernel, by decide +kernel⟩, List.mem_of_getElem? (i := 1145) (by decide +kernel), List.mem_of_getElem? (i := 1857) (by decide +kernel), List.mem_of_getElem? (i := 1858) (by decide +kernel)⟩
theorem lw_p122 : lw_okq (⟨"WordEachModel", "waysAt", "(I)V"⟩, 89) := ⟨⟨by decide +kernel, by decide +kernel⟩, List.mem_of_getElem? (i := 1145) (by decide +kernel), List.mem_of_getElem? (i := 1861) (by decide +kernel), List.mem_of_getElem? (i := 1862) (by decide +kernel)⟩
theorem lw_p123 : lw_okq (⟨"WordEachModel", "rulesWay", "(I)I"⟩, 89) := ⟨⟨by decide +kernel, by decide +kernel⟩, List.mem_of_getElem? (i := 1145) (by decide +kernel), List.mem_of_getElem? (i := 1865) (by decide +kernel), List.mem_of_getElem? (i := 1866) (by decide +kernel)⟩
theorem lw_p124 : lw_okq (⟨"WordEachModel", "qKind", "()I"⟩, 89) := ⟨⟨by decide +kernel, by decide +kernel⟩, List.mem_of_getElem? (i := 1145) (by decide +kernel), List.mem_of_getElem? (i := 1881) (by decide +kernel), List.mem_of_getElem? (i := 1882) (by decide +kernel)⟩
theorem lw_p125 : lw_okq (⟨"WordEachModel", "qTest", "()V"⟩, 89) := ⟨⟨by decide +kernel, by decide +kernel⟩, List.mem_of_getElem? (i := 1145) (by decide +kernel), List.mem_of_getElem? (i := 1885) (by decide +kernel), List.mem_of_getElem? (i := 1886) (by decide +kernel)⟩
theorem lw_p126 : lw_okq (⟨"WordEachModel", "qOpens", "(II)V"⟩, 89) := ⟨⟨by decide +kernel, by decide +kernel⟩, List.mem_of_getElem? (i := 1145) (by decide +kernel), List.mem_of_getElem? (i := 1889) (by decide +kernel), List.mem_of_getElem? (i := 1890) (by decide +kernel)⟩
theorem lw_p127 : lw_okq (⟨"WordEachModel", "qFact", "()V"⟩, 89) := ⟨⟨by decide +kernel, by decide +kernel⟩, List.mem_of_getElem? (i := 1145) (by decide +kernel), List.mem_of_getElem? (i := 1893) (by decide +kernel), List.mem_of_getElem? (i := 1894) (by decide +kernel)⟩
def lw_privs_8 : List (MethodName × Nat) := [(⟨"WordEachModel", "games", "(I)I"⟩, 89), (⟨"WordEachModel", "opens", "(I)V"⟩, 89), (⟨"WordEachModel", "canMove", "(I)Z"⟩, 89), (⟨"WordEachModel", "weighs", "(II)V"⟩, 89), (⟨"WordEachModel", "orders", "(I)V"⟩, 89), (⟨"WordEachModel", "isAhead", "(III)Z"⟩, 89), (⟨"WordEachModel", "rulesOrder", "()I"⟩, 89), (⟨"WordEachModel", "draws", "()V"⟩, 89), (⟨"WordEachModel", "drawOf", "(I)I"⟩, 89), (⟨"WordEachModel", "waysAll", "()I"⟩, 89), (⟨"WordEachModel", "waysAt", "(I)V"⟩, 89), (⟨"WordEachModel", "rulesWay", "(I)I"⟩, 89), (⟨"WordEachModel", "qKind", "()I"⟩, 89), (⟨"WordEachModel", "qTest", "()V"⟩, 89), (⟨"WordEachModel", "qOpens", "(II)V"⟩, 89), (⟨"WordEachModel", "qFact", "()V"⟩, 89)]
theorem lw_r8 : ∀ q ∈ lw_privs_8, lw_okq q := List.forall_mem_cons.mpr ⟨lw_p112, List.forall_mem_cons.mpr ⟨lw_p113, List.forall_mem_cons.mpr ⟨lw_p114, List.forall_mem_cons.mpr ⟨lw_p115, List.forall_mem_cons.mpr ⟨lw_p116, List.forall_mem_cons.mpr ⟨lw_p117, List.forall_mem_cons.mpr ⟨lw_p118, List.forall_mem_cons.mpr ⟨lw_p119, List.forall_mem_cons.mpr ⟨lw_p120, List.forall_mem_cons.mpr ⟨lw_p121, List.forall_mem_cons.mpr ⟨lw_p122, List.forall_mem_cons.mpr ⟨lw_p123, List.forall_mem_cons.mpr ⟨lw_p124, List.forall_mem_cons.mpr ⟨lw_p125, List.forall_mem_cons.mpr ⟨lw_p126, List.forall_mem_cons.mpr ⟨lw_p127, fun _ h => absurd h List.not_mem_nil⟩⟩⟩⟩⟩⟩⟩⟩⟩⟩⟩⟩⟩⟩⟩⟩
theorem lw_p128 : lw_okq (⟨"WordEachModel", "qCode", "(I)V"⟩, 89) := ⟨⟨by decide +kernel, by decide +kernel⟩, List.mem_of_getElem? (i := 1145) (by decide +kernel), List.mem_of_getElem? (i := 1897) (by decide +kernel), List.mem_of_getElem? (i := 1898) (by decide +kernel)⟩
theorem lw_p129 : lw_okq (⟨"WordEachModel", "qSums", "()V"⟩, 89) := ⟨⟨by decide +kernel, by decide +kernel⟩, List.mem_of_getElem? (i := 1145) (by decide +kernel), List.mem_of_getElem? (i := 1901) (by decide +kernel), List.mem_of_getElem? (i := 1902) (by decide +kernel)⟩
theorem lw_p130 : lw_okq (⟨"WordEachModel", "qPartTold", "()V"⟩, 89) := ⟨⟨by decide +kernel, by decide +kernel⟩, List.mem_of_getElem? (i := 1145) (by decide +kernel), List.mem_of_getElem? (i := 1905) (by decide +kernel), List.mem_of_getElem? (i := 1906) (by decide +kernel)⟩
theorem lw_p131 : lw_okq (⟨"WordEachModel", "qWordOf", "(II)I"⟩, 89) := ⟨⟨by decide +kernel, by decide +kernel⟩, List.mem_of_getElem? (i := 1145) (by decide +kernel), List.mem_of_getElem? (i := 1909) (by decide +kernel), List.mem_of_getElem? (i := 1910) (by decide +kernel)⟩
theorem lw_p132 : lw_okq (⟨"WordEachModel", "qWordHere", "()I"⟩, 89) := ⟨⟨by decide +kernel, by decide +kernel⟩, List.mem_of_getElem? (i := 1145) (by decide +kernel), List.mem_of_getElem? (i := 1913) (by decide +kernel), List.mem_of_getElem? (i := 1914) (by decide +kernel)⟩
theorem lw_p133 : lw_okq (⟨"WordEachModel", "qAsksWord", "(I)V"⟩, 89) := ⟨⟨by decide +kernel, by decide +kernel⟩, List.mem_of_getElem? (i := 1145) (by decide +kernel), List.mem_of_getElem? (i := 1917) (by decide +kernel), List.mem_of_getElem? (i := 1918) (by decide +kernel)⟩
theorem lw_p134 : lw_okq (⟨"WordEachModel", "qEndsPart", "()V"⟩, 89) := ⟨⟨by decide +kernel, by decide +kernel⟩, List.mem_of_getElem? (i := 1145) (by decide +kernel), List.mem_of_getElem? (i := 1921) (by decide +kernel), List.mem_of_getElem? (i := 1922) (by decide +kernel)⟩
theorem lw_p135 : lw_okq (⟨"WordEachModel", "qDrops", "()V"⟩, 89) := ⟨⟨by decide +kernel, by decide +kernel⟩, List.mem_of_getElem? (i := 1145) (by decide +kernel), List.mem_of_getElem? (i := 1925) (by decide +kernel), List.mem_of_getElem? (i := 1926) (by decide +kernel)⟩
theorem lw_p136 : lw_okq (⟨"WordEachModel", "qGoesOn", "()Z"⟩, 89) := ⟨⟨by decide +kernel, by decide +kernel⟩, List.mem_of_getElem? (i := 1145) (by decide +kernel), List.mem_of_getElem? (i := 1929) (by decide +kernel), List.mem_of_getElem? (i := 1930) (by decide +kernel)⟩
theorem lw_p137 : lw_okq (⟨"WordEachModel", "qBracket", "()I"⟩, 89) := ⟨⟨by decide +kernel, by decide +kernel⟩, List.mem_of_getElem? (i := 1145) (by decide +kernel), List.mem_of_getElem? (i := 1933) (by decide +kernel), List.mem_of_getElem? (i := 1934) (by decide +kernel)⟩
theorem lw_p138 : lw_okq (⟨"WordEachModel", "qDropsToBracket", "()V"⟩, 89) := ⟨⟨by decide +kernel, by decide +kernel⟩, List.mem_of_getElem? (i := 1145) (by decide +kernel), List.mem_of_getElem? (i := 1940) (by decide +kernel), List.mem_of_getElem? (i := 1941) (by decide +kernel)⟩
theorem lw_p139 : lw_okq (⟨"WordEachModel", "qIsOn", "(I)Z"⟩, 89) := ⟨⟨by decide +kernel, by decide +kernel⟩, List.mem_of_getElem? (i := 1145) (by decide +kernel), List.mem_of_getElem? (i := 1944) (by decide +kernel), List.mem_of_getElem? (i := 1945) (by decide +kernel)⟩
theorem lw_p140 : lw_okq (⟨"WordEachModel", "qDropsNots", "()V"⟩, 89) := ⟨⟨by decide +kernel, by decide +kernel⟩, List.mem_of_getElem? (i := 1145) (by decide +kernel), List.mem_of_getElem? (i := 1948) (by decide +kernel), List.mem_of_getElem? (i := 1949) (by decide +kernel)⟩
theorem lw_p141 : lw_okq (⟨"WordEachModel", "qGoesOnTest", "()Z"⟩, 89) := ⟨⟨by decide +kernel, by decide +kernel⟩, List.mem_of_getElem? (i := 1145) (by decide +kernel), List.mem_of_getElem? (i := 1952) (by decide +kernel), List.mem_of_getElem? (i := 1953) (by decide +kernel)⟩
theorem lw_p142 : lw_okq (⟨"WordEachModel", "qHasSquare", "()Z"⟩, 89) := ⟨⟨by decide +kernel, by decide +kernel⟩, List.mem_of_getElem? (i := 1145) (by decide +kernel), List.mem_of_getElem? (i := 1956) (by decide +kernel), List.mem_of_getElem? (i := 1957) (by decide +kernel)⟩
theorem lw_p143 : lw_okq (⟨"WordEachModel", "qTold", "(I)J"⟩, 89) := ⟨⟨by decide +kernel, by decide +kernel⟩, List.mem_of_getElem? (i := 1145) (by decide +kernel), List.mem_of_getElem? (i := 1961) (by decide +kernel), List.mem_of_getElem? (i := 1962) (by decide +kernel)⟩
def lw_privs_9 : List (MethodName × Nat) := [(⟨"WordEachModel", "qCode", "(I)V"⟩, 89), (⟨"WordEachModel", "qSums", "()V"⟩, 89), (⟨"WordEachModel", "qPartTold", "()V"⟩, 89), (⟨"WordEachModel", "qWordOf", "(II)I"⟩, 89), (⟨"WordEachModel", "qWordHere", "()I"⟩, 89), (⟨"WordEachModel", "qAsksWord", "(I)V"⟩, 89), (⟨"WordEachModel", "qEndsPart", "()V"⟩, 89), (⟨"WordEachModel", "qDrops", "()V"⟩, 89), (⟨"WordEachModel", "qGoesOn", "()Z"⟩, 89), (⟨"WordEachModel", "qBracket", "()I"⟩, 89), (⟨"WordEachModel", "qDropsToBracket", "()V"⟩, 89), (⟨"WordEachModel", "qIsOn", "(I)Z"⟩, 89), (⟨"WordEachModel", "qDropsNots", "()V"⟩, 89), (⟨"WordEachModel", "qGoesOnTest", "()Z"⟩, 89), (⟨"WordEachModel", "qHasSquare", "()Z"⟩, 89), (⟨"WordEachModel", "qTold", "(I)J"⟩, 89)]
theorem lw_r9 : ∀ q ∈ lw_privs_9, lw_okq q := List.forall_mem_cons.mpr ⟨lw_p128, List.forall_mem_cons.mpr ⟨lw_p129, List.forall_mem_cons.mpr ⟨lw_p130, List.forall_mem_cons.mpr ⟨lw_p131, List.forall_mem_cons.mpr ⟨lw_p132, List.forall_mem_cons.mpr ⟨lw_p133, List.forall_mem_cons.mpr ⟨lw_p134, List.forall_mem_cons.mpr ⟨lw_p135, List.forall_mem_cons.mpr ⟨lw_p136, List.forall_mem_cons.mpr ⟨lw_p137, List.forall_mem_cons.mpr ⟨lw_p138, List.forall_mem_cons.mpr ⟨lw_p139, List.forall_mem_cons.mpr ⟨lw_p140, List.forall_mem_cons.mpr ⟨lw_p141, List.forall_mem_cons.mpr ⟨lw_p142, List.forall_mem_cons.mpr ⟨lw_p143, fun _ h => absurd h List.not_mem_nil⟩⟩⟩⟩⟩⟩⟩⟩⟩⟩⟩⟩⟩⟩⟩⟩
theorem lw_p144 : lw_okq (⟨"WordEachModel", "qPuts", "(J)V"⟩, 89) := ⟨⟨by decide +kernel, by decide +kernel⟩, List.mem_of_getElem? (i := 1145) (by decide +kernel), List.mem_of_getElem? (i := 1965) (by decide +kernel), List.mem_of_getElem? (i := 1966) (by decide +kernel)⟩
theorem lw_p145 : lw_okq (⟨"WordEachModel", "qOf", "(IJI)J"⟩, 89) := ⟨⟨by decide +kernel, by decide +kernel⟩, List.mem_of_getElem? (i := 1145) (by decide +kernel), List.mem_of_getElem? (i := 1969) (by decide +kernel), List.mem_of_getElem? (i := 1970) (by decide +kernel)⟩
theorem lw_p146 : lw_okq (⟨"WordEachModel", "qHas", "(JI)J"⟩, 89) := ⟨⟨by decide +kernel, by decide +kernel⟩, List.mem_of_getElem? (i := 1145) (by decide +kernel), List.mem_of_getElem? (i := 1974) (by decide +kernel), List.mem_of_getElem? (i := 1975) (by decide +kernel)⟩
theorem lw_p147 : lw_okq (⟨"WordEachModel", "qPartOf", "(II)J"⟩, 89) := ⟨⟨by decide +kernel, by decide +kernel⟩, List.mem_of_getElem? (i := 1145) (by decide +kernel), List.mem_of_getElem? (i := 1983) (by decide +kernel), List.mem_of_getElem? (i := 1984) (by decide +kernel)⟩
theorem lw_p148 : lw_okq (⟨"WordEachModel", "qJoins", "(I)V"⟩, 89) := ⟨⟨by decide +kernel, by decide +kernel⟩, List.mem_of_getElem? (i := 1145) (by decide +kernel), List.mem_of_getElem? (i := 1987) (by decide +kernel), List.mem_of_getElem? (i := 1988) (by decide +kernel)⟩
theorem lw_p149 : lw_okq (⟨"WordEachModel", "qTakes", "(IJI)V"⟩, 89) := ⟨⟨by decide +kernel, by decide +kernel⟩, List.mem_of_getElem? (i := 1145) (by decide +kernel), List.mem_of_getElem? (i := 1994) (by decide +kernel), List.mem_of_getElem? (i := 1995) (by decide +kernel)⟩
theorem lw_p150 : lw_okq (⟨"WordEachModel", "isTold", "(I)Z"⟩, 89) := ⟨⟨by decide +kernel, by decide +kernel⟩, List.mem_of_getElem? (i := 1145) (by decide +kernel), List.mem_of_getElem? (i := 2013) (by decide +kernel), List.mem_of_getElem? (i := 2014) (by decide +kernel)⟩
def lw_privs_10 : List (MethodName × Nat) := [(⟨"WordEachModel", "qPuts", "(J)V"⟩, 89), (⟨"WordEachModel", "qOf", "(IJI)J"⟩, 89), (⟨"WordEachModel", "qHas", "(JI)J"⟩, 89), (⟨"WordEachModel", "qPartOf", "(II)J"⟩, 89), (⟨"WordEachModel", "qJoins", "(I)V"⟩, 89), (⟨"WordEachModel", "qTakes", "(IJI)V"⟩, 89), (⟨"WordEachModel", "isTold", "(I)Z"⟩, 89)]
theorem lw_r10 : ∀ q ∈ lw_privs_10, lw_okq q := List.forall_mem_cons.mpr ⟨lw_p144, List.forall_mem_cons.mpr ⟨lw_p145, List.forall_mem_cons.mpr ⟨lw_p146, List.forall_mem_cons.mpr ⟨lw_p147, List.forall_mem_cons.mpr ⟨lw_p148, List.forall_mem_cons.mpr ⟨lw_p149, List.forall_mem_cons.mpr ⟨lw_p150, fun _ h => absurd h List.not_mem_nil⟩⟩⟩⟩⟩⟩⟩
def lw_privs : List (MethodName × Nat) := lw_privs_1 ++ (lw_privs_2 ++ (lw_privs_3 ++ (lw_privs_4 ++ (lw_privs_5 ++ (lw_privs_6 ++ (lw_privs_7 ++ (lw_privs_8 ++ (lw_privs_9 ++ (lw_privs_10)))))))))
def lw_tbl : List Cond := k2_sels lw_privs ++ tables_1
theorem lw_privs_ok : ∀ q ∈ lw_privs, lw_okq q := by
  show ∀ q ∈ lw_privs_1 ++ (lw_privs_2 ++ (lw_privs_3 ++ (lw_privs_4 ++ (lw_privs_5 ++ (lw_privs_6 ++ (lw_privs_7 ++ (lw_privs_8 ++ (lw_privs_9 ++ (lw_privs_10))))))))), lw_okq q
  exact List.forall_mem_append.mpr ⟨lw_r1, List.forall_mem_append.mpr ⟨lw_r2, List.forall_mem_append.mpr ⟨lw_r3, List.forall_mem_append.mpr ⟨lw_r4, List.forall_mem_append.mpr ⟨lw_r5, List.forall_mem_append.mpr ⟨lw_r6, List.forall_mem_append.mpr ⟨lw_r7, List.forall_mem_append.mpr ⟨lw_r8, List.forall_mem_append.mpr ⟨lw_r9, lw_r10⟩⟩⟩⟩⟩⟩⟩⟩⟩
/-! classes, links, methods -/
def am_Rs : List String := ["WordEach$Chance", "WordEach$Contest", "WordEach$Court", "WordEach$CourtReader", "WordEach$Judge", "WordEach$Planner", "WordEach$Question", "WordEach$Row", "WordEach$Seats", "WordEach$Tape", "WordEach$Witness", "WordEach", "WordEachModel", "java/lang/Math", "java/lang/Integer"]
def am_R (k : Nat) : String := match am_nth am_Rs k with
  | some t => t
  | none => ""
def am_T0 : u_T := fun k => match k with
  | 0 => ("WordEach$Chance", "judge", "LWordEach$Judge;", true)
  | 1 => ("WordEach$Chance", "ways", "[I", true)
  | 2 => ("WordEach$Chance", "saying", "[[I", true)
  | 3 => ("WordEach$Chance", "hanging", "[[I", true)
  | 4 => ("WordEach$Chance", "chosen", "[I", true)
  | 5 => ("WordEach$Chance", "isAwayCounted", "[Z", true)
  | _ => ("WordEach$Chance", "isCounted", "Z", false)
def am_ty0 : Nat → FieldType := fun k => match k with
  | 0 => .object "WordEach$Judge"
  | 1 => .array (.int)
  | 2 => .array (.array (.int))
  | 3 => .array (.array (.int))
  | 4 => .array (.int)
  | 5 => .array (.boolean)
  | _ => .boolean
theorem am_nm0 : ∀ a, a < 7 → ∀ b, b < 7 → a ≠ b → (am_T0 a).2.1 ≠ (am_T0 b).2.1 := by decide +kernel
theorem am_tk0 : ∀ k, k < 7 → parseFieldDescriptor (am_T0 k).2.2.1 = some (am_ty0 k) := by decide +kernel
def am_T1 : u_T := fun k => match k with
  | 0 => ("WordEach$Contest", "judge", "LWordEach$Judge;", true)
  | 1 => ("WordEach$Contest", "turns", "I", false)
  | 2 => ("WordEach$Contest", "firstWitness", "I", false)
  | _ => ("WordEach$Contest", "firstWord", "I", false)
def am_ty1 : Nat → FieldType := fun k => match k with
  | 0 => .object "WordEach$Judge"
  | 1 => .int
  | 2 => .int
  | _ => .int
theorem am_nm1 : ∀ a, a < 4 → ∀ b, b < 4 → a ≠ b → (am_T1 a).2.1 ≠ (am_T1 b).2.1 := by decide +kernel
theorem am_tk1 : ∀ k, k < 4 → parseFieldDescriptor (am_T1 k).2.2.1 = some (am_ty1 k) := by decide +kernel
def am_T2 : u_T := fun k => match k with
  | 0 => ("WordEach$Court", "spellings", "[I", true)
  | 1 => ("WordEach$Court", "kinds", "[I", true)
  | 2 => ("WordEach$Court", "slots", "[[I", true)
  | 3 => ("WordEach$Court", "slotCounts", "[I", true)
  | 4 => ("WordEach$Court", "slotPlaces", "[[I", true)
  | 5 => ("WordEach$Court", "factWords", "[[I", true)
  | 6 => ("WordEach$Court", "bench", "[LWordEach$Witness;", true)
  | 7 => ("WordEach$Court", "caseWords", "[[I", true)
  | 8 => ("WordEach$Court", "caseSizes", "[I", true)
  | 9 => ("WordEach$Court", "words", "I", false)
  | 10 => ("WordEach$Court", "lines", "I", false)
  | 11 => ("WordEach$Court", "facts", "I", false)
  | 12 => ("WordEach$Court", "witnesses", "I", false)
  | 13 => ("WordEach$Court", "cases", "I", false)
  | 14 => ("WordEach$Court", "accused", "I", false)
  | _ => ("WordEach$Court", "accusedDeed", "I", false)
def am_ty2 : Nat → FieldType := fun k => match k with
  | 0 => .array (.int)
  | 1 => .array (.int)
  | 2 => .array (.array (.int))
  | 3 => .array (.int)
  | 4 => .array (.array (.int))
  | 5 => .array (.array (.int))
  | 6 => .array (.object "WordEach$Witness")
  | 7 => .array (.array (.int))
  | 8 => .array (.int)
  | 9 => .int
  | 10 => .int
  | 11 => .int
  | 12 => .int
  | 13 => .int
  | 14 => .int
  | _ => .int
theorem am_nm2 : ∀ a, a < 16 → ∀ b, b < 16 → a ≠ b → (am_T2 a).2.1 ≠ (am_T2 b).2.1 := by decide +kernel
theorem am_tk2 : ∀ k, k < 16 → parseFieldDescriptor (am_T2 k).2.2.1 = some (am_ty2 k) := by decide +kernel
def am_T3 : u_T := fun k => match k with
  | 0 => ("WordEach$CourtReader", "tape", "LWordEach$Tape;", true)
  | _ => ("WordEach$CourtReader", "draft", "LWordEach$Court;", false)
def am_ty3 : Nat → FieldType := fun k => match k with
  | 0 => .object "WordEach$Tape"
  | _ => .object "WordEach$Court"
theorem am_nm3 : ∀ a, a < 2 → ∀ b, b < 2 → a ≠ b → (am_T3 a).2.1 ≠ (am_T3 b).2.1 := by decide +kernel
theorem am_tk3 : ∀ k, k < 2 → parseFieldDescriptor (am_T3 k).2.2.1 = some (am_ty3 k) := by decide +kernel
def am_T4 : u_T := fun k => match k with
  | 0 => ("WordEach$Judge", "fitting", "[I", true)
  | 1 => ("WordEach$Judge", "begun", "[Z", true)
  | 2 => ("WordEach$Judge", "court", "LWordEach$Court;", false)
  | _ => ("WordEach$Judge", "inForce", "I", false)
def am_ty4 : Nat → FieldType := fun k => match k with
  | 0 => .array (.int)
  | 1 => .array (.boolean)
  | 2 => .object "WordEach$Court"
  | _ => .int
theorem am_nm4 : ∀ a, a < 4 → ∀ b, b < 4 → a ≠ b → (am_T4 a).2.1 ≠ (am_T4 b).2.1 := by decide +kernel
theorem am_tk4 : ∀ k, k < 4 → parseFieldDescriptor (am_T4 k).2.2.1 = some (am_ty4 k) := by decide +kernel
def am_T5 : u_T := fun k => match k with
  | 0 => ("WordEach$Planner", "judge", "LWordEach$Judge;", true)
  | 1 => ("WordEach$Planner", "sizes", "[I", true)
  | 2 => ("WordEach$Planner", "witnesses", "[[I", true)
  | 3 => ("WordEach$Planner", "sayings", "[[I", true)
  | 4 => ("WordEach$Planner", "plan", "I", false)
  | 5 => ("WordEach$Planner", "size", "I", false)
  | 6 => ("WordEach$Planner", "ruling", "I", false)
  | _ => ("WordEach$Planner", "side", "I", false)
def am_ty5 : Nat → FieldType := fun k => match k with
  | 0 => .object "WordEach$Judge"
  | 1 => .array (.int)
  | 2 => .array (.array (.int))
  | 3 => .array (.array (.int))
  | 4 => .int
  | 5 => .int
  | 6 => .int
  | _ => .int
theorem am_nm5 : ∀ a, a < 8 → ∀ b, b < 8 → a ≠ b → (am_T5 a).2.1 ≠ (am_T5 b).2.1 := by decide +kernel
theorem am_tk5 : ∀ k, k < 8 → parseFieldDescriptor (am_T5 k).2.2.1 = some (am_ty5 k) := by decide +kernel
def am_T6 : u_T := fun k => match k with
  | 0 => ("WordEach$Question", "tape", "LWordEach$Tape;", true)
  | 1 => ("WordEach$Question", "judge", "LWordEach$Judge;", true)
  | 2 => ("WordEach$Question", "values", "[I", true)
  | 3 => ("WordEach$Question", "number", "I", false)
  | 4 => ("WordEach$Question", "ruled", "I", false)
  | _ => ("WordEach$Question", "open", "I", false)
def am_ty6 : Nat → FieldType := fun k => match k with
  | 0 => .object "WordEach$Tape"
  | 1 => .object "WordEach$Judge"
  | 2 => .array (.int)
  | 3 => .int
  | 4 => .int
  | _ => .int
theorem am_nm6 : ∀ a, a < 6 → ∀ b, b < 6 → a ≠ b → (am_T6 a).2.1 ≠ (am_T6 b).2.1 := by decide +kernel
theorem am_tk6 : ∀ k, k < 6 → parseFieldDescriptor (am_T6 k).2.2.1 = some (am_ty6 k) := by decide +kernel
def am_T7 : u_T := fun k => match k with
  | 0 => ("WordEach$Row", "words", "[I", true)
  | 1 => ("WordEach$Row", "speakers", "[I", true)
  | 2 => ("WordEach$Row", "octets", "[I", true)
  | 3 => ("WordEach$Row", "size", "I", false)
  | _ => ("WordEach$Row", "octetCount", "I", false)
def am_ty7 : Nat → FieldType := fun k => match k with
  | 0 => .array (.int)
  | 1 => .array (.int)
  | 2 => .array (.int)
  | 3 => .int
  | _ => .int
theorem am_nm7 : ∀ a, a < 5 → ∀ b, b < 5 → a ≠ b → (am_T7 a).2.1 ≠ (am_T7 b).2.1 := by decide +kernel
theorem am_tk7 : ∀ k, k < 5 → parseFieldDescriptor (am_T7 k).2.2.1 = some (am_ty7 k) := by decide +kernel
def am_T8 : u_T := fun k => match k with
  | 0 => ("WordEach$Seats", "judge", "LWordEach$Judge;", true)
  | 1 => ("WordEach$Seats", "ordered", "[I", true)
  | _ => ("WordEach$Seats", "seed", "I", false)
def am_ty8 : Nat → FieldType := fun k => match k with
  | 0 => .object "WordEach$Judge"
  | 1 => .array (.int)
  | _ => .int
theorem am_nm8 : ∀ a, a < 3 → ∀ b, b < 3 → a ≠ b → (am_T8 a).2.1 ≠ (am_T8 b).2.1 := by decide +kernel
theorem am_tk8 : ∀ k, k < 3 → parseFieldDescriptor (am_T8 k).2.2.1 = some (am_ty8 k) := by decide +kernel
def am_T9 : u_T := fun k => match k with
  | 0 => ("WordEach$Tape", "bytes", "[B", true)
  | 1 => ("WordEach$Tape", "size", "I", false)
  | 2 => ("WordEach$Tape", "at", "I", false)
  | 3 => ("WordEach$Tape", "length", "I", false)
  | 4 => ("WordEach$Tape", "sign", "I", false)
  | 5 => ("WordEach$Tape", "fault", "I", false)
  | _ => ("WordEach$Tape", "faultAt", "I", false)
def am_ty9 : Nat → FieldType := fun k => match k with
  | 0 => .array (.byte)
  | 1 => .int
  | 2 => .int
  | 3 => .int
  | 4 => .int
  | 5 => .int
  | _ => .int
theorem am_nm9 : ∀ a, a < 7 → ∀ b, b < 7 → a ≠ b → (am_T9 a).2.1 ≠ (am_T9 b).2.1 := by decide +kernel
theorem am_tk9 : ∀ k, k < 7 → parseFieldDescriptor (am_T9 k).2.2.1 = some (am_ty9 k) := by decide +kernel
def am_T10 : u_T := fun k => match k with
  | 0 => ("WordEach$Witness", "words", "[I", true)
  | 1 => ("WordEach$Witness", "count", "I", false)
  | 2 => ("WordEach$Witness", "spelling", "I", false)
  | 3 => ("WordEach$Witness", "age", "I", false)
  | _ => ("WordEach$Witness", "side", "I", false)
def am_ty10 : Nat → FieldType := fun k => match k with
  | 0 => .array (.int)
  | 1 => .int
  | 2 => .int
  | 3 => .int
  | _ => .int
theorem am_nm10 : ∀ a, a < 5 → ∀ b, b < 5 → a ≠ b → (am_T10 a).2.1 ≠ (am_T10 b).2.1 := by decide +kernel
theorem am_tk10 : ∀ k, k < 5 → parseFieldDescriptor (am_T10 k).2.2.1 = some (am_ty10 k) := by decide +kernel
def am_T11 : u_T := fun k => match k with
  | 0 => ("WordEach", "tape", "LWordEach$Tape;", true)
  | 1 => ("WordEach", "reader", "LWordEach$CourtReader;", true)
  | 2 => ("WordEach", "judge", "LWordEach$Judge;", true)
  | 3 => ("WordEach", "spoken", "LWordEach$Row;", true)
  | 4 => ("WordEach", "planner", "LWordEach$Planner;", true)
  | 5 => ("WordEach", "contest", "LWordEach$Contest;", true)
  | 6 => ("WordEach", "seats", "LWordEach$Seats;", true)
  | 7 => ("WordEach", "chance", "LWordEach$Chance;", true)
  | 8 => ("WordEach", "question", "LWordEach$Question;", true)
  | 9 => ("WordEach", "refused", "[I", true)
  | _ => ("WordEach", "rulings", "[I", true)
def am_ty11 : Nat → FieldType := fun k => match k with
  | 0 => .object "WordEach$Tape"
  | 1 => .object "WordEach$CourtReader"
  | 2 => .object "WordEach$Judge"
  | 3 => .object "WordEach$Row"
  | 4 => .object "WordEach$Planner"
  | 5 => .object "WordEach$Contest"
  | 6 => .object "WordEach$Seats"
  | 7 => .object "WordEach$Chance"
  | 8 => .object "WordEach$Question"
  | 9 => .array (.int)
  | _ => .array (.int)
theorem am_nm11 : ∀ a, a < 11 → ∀ b, b < 11 → a ≠ b → (am_T11 a).2.1 ≠ (am_T11 b).2.1 := by decide +kernel
theorem am_tk11 : ∀ k, k < 11 → parseFieldDescriptor (am_T11 k).2.2.1 = some (am_ty11 k) := by decide +kernel
def am_T12 : u_T := fun k => match k with
  | 0 => ("WordEachModel", "tape", "[I", true)
  | 1 => ("WordEachModel", "taped", "I", false)
  | 2 => ("WordEachModel", "at", "I", false)
  | 3 => ("WordEachModel", "end", "I", false)
  | 4 => ("WordEachModel", "ended", "I", false)
  | 5 => ("WordEachModel", "bad", "I", false)
  | 6 => ("WordEachModel", "badPlace", "I", false)
  | 7 => ("WordEachModel", "fault", "I", false)
  | 8 => ("WordEachModel", "faultPlace", "I", false)
  | 9 => ("WordEachModel", "refused", "[I", true)
  | 10 => ("WordEachModel", "nameWord", "[C", true)
  | 11 => ("WordEachModel", "deedWord", "[C", true)
  | 12 => ("WordEachModel", "turnWord", "[C", true)
  | 13 => ("WordEachModel", "bothWord", "[C", true)
  | 14 => ("WordEachModel", "eitherWord", "[C", true)
  | 15 => ("WordEachModel", "emptyWord", "[C", true)
  | 16 => ("WordEachModel", "lineWord", "[C", true)
  | 17 => ("WordEachModel", "whoWord", "[C", true)
  | 18 => ("WordEachModel", "didWord", "[C", true)
  | 19 => ("WordEachModel", "whomWord", "[C", true)
  | 20 => ("WordEachModel", "factWord", "[C", true)
  | 21 => ("WordEachModel", "witnessWord", "[C", true)
  | 22 => ("WordEachModel", "ageWord", "[C", true)
  | 23 => ("WordEachModel", "sideWord", "[C", true)
  | 24 => ("WordEachModel", "saysWord", "[C", true)
  | 25 => ("WordEachModel", "accusedWord", "[C", true)
  | 26 => ("WordEachModel", "caseWord", "[C", true)
  | 27 => ("WordEachModel", "wordPlace", "I", false)
  | 28 => ("WordEachModel", "many", "[I", true)
  | 29 => ("WordEachModel", "words", "[J", true)
  | 30 => ("WordEachModel", "wordKind", "[I", true)
  | 31 => ("WordEachModel", "witnessNames", "[J", true)
  | 32 => ("WordEachModel", "slots", "[I", true)
  | 33 => ("WordEachModel", "facts", "[I", true)
  | 34 => ("WordEachModel", "witnesses", "[I", true)
  | 35 => ("WordEachModel", "cases", "[I", true)
  | 36 => ("WordEachModel", "accused", "[I", true)
  | 37 => ("WordEachModel", "statements", "I", false)
  | 38 => ("WordEachModel", "isStanding", "Z", false)
  | 39 => ("WordEachModel", "inForce", "I", false)
  | 40 => ("WordEachModel", "rowWord", "[I", true)
  | 41 => ("WordEachModel", "rowWho", "[I", true)
  | 42 => ("WordEachModel", "rowMany", "I", false)
  | 43 => ("WordEachModel", "tried", "[I", true)
  | 44 => ("WordEachModel", "triedMany", "I", false)
  | 45 => ("WordEachModel", "plain", "[I", true)
  | 46 => ("WordEachModel", "plainAt", "[I", true)
  | 47 => ("WordEachModel", "plainMany", "I", false)
  | 48 => ("WordEachModel", "noSense", "I", false)
  | 49 => ("WordEachModel", "clause", "[I", true)
  | 50 => ("WordEachModel", "clauses", "I", false)
  | 51 => ("WordEachModel", "filled", "[I", true)
  | 52 => ("WordEachModel", "choice", "[I", true)
  | 53 => ("WordEachModel", "move", "[I", true)
  | 54 => ("WordEachModel", "bestMove", "[I", true)
  | 55 => ("WordEachModel", "bestWorth", "[I", true)
  | 56 => ("WordEachModel", "ordered", "[I", true)
  | 57 => ("WordEachModel", "seeded", "J", false)
  | 58 => ("WordEachModel", "chosen", "[I", true)
  | 59 => ("WordEachModel", "firstAsked", "[C", true)
  | 60 => ("WordEachModel", "lastAsked", "[C", true)
  | 61 => ("WordEachModel", "oftenAsked", "[C", true)
  | 62 => ("WordEachModel", "totalAsked", "[C", true)
  | 63 => ("WordEachModel", "mostAsked", "[C", true)
  | 64 => ("WordEachModel", "leastAsked", "[C", true)
  | 65 => ("WordEachModel", "notAsked", "[C", true)
  | 66 => ("WordEachModel", "andAsked", "[C", true)
  | 67 => ("WordEachModel", "orAsked", "[C", true)
  | 68 => ("WordEachModel", "allAsked", "[C", true)
  | 69 => ("WordEachModel", "minAsked", "[C", true)
  | 70 => ("WordEachModel", "maxAsked", "[C", true)
  | 71 => ("WordEachModel", "numberAsked", "[C", true)
  | 72 => ("WordEachModel", "wordsAsked", "[C", true)
  | 73 => ("WordEachModel", "rulingAsked", "[C", true)
  | 74 => ("WordEachModel", "fairAsked", "[C", true)
  | 75 => ("WordEachModel", "atAsked", "[C", true)
  | 76 => ("WordEachModel", "hasAsked", "[C", true)
  | 77 => ("WordEachModel", "qCodes", "[I", true)
  | 78 => ("WordEachModel", "qCoded", "I", false)
  | 79 => ("WordEachModel", "qWait", "[I", true)
  | 80 => ("WordEachModel", "qWaits", "I", false)
  | 81 => ("WordEachModel", "qOpened", "I", false)
  | 82 => ("WordEachModel", "qBase", "I", false)
  | 83 => ("WordEachModel", "qPile", "[J", true)
  | 84 => ("WordEachModel", "qPiled", "I", false)
  | 85 => ("WordEachModel", "qAnswer", "J", false)
  | 86 => ("WordEachModel", "qIsNew", "Z", false)
  | 87 => ("WordEachModel", "octet", "[I", true)
  | _ => ("WordEachModel", "octets", "I", false)
def am_ty12 : Nat → FieldType := fun k => match k with
  | 0 => .array (.int)
  | 1 => .int
  | 2 => .int
  | 3 => .int
  | 4 => .int
  | 5 => .int
  | 6 => .int
  | 7 => .int
  | 8 => .int
  | 9 => .array (.int)
  | 10 => .array (.char)
  | 11 => .array (.char)
  | 12 => .array (.char)
  | 13 => .array (.char)
  | 14 => .array (.char)
  | 15 => .array (.char)
  | 16 => .array (.char)
  | 17 => .array (.char)
  | 18 => .array (.char)
  | 19 => .array (.char)
  | 20 => .array (.char)
  | 21 => .array (.char)
  | 22 => .array (.char)
  | 23 => .array (.char)
  | 24 => .array (.char)
  | 25 => .array (.char)
  | 26 => .array (.char)
  | 27 => .int
  | 28 => .array (.int)
  | 29 => .array (.long)
  | 30 => .array (.int)
  | 31 => .array (.long)
  | 32 => .array (.int)
  | 33 => .array (.int)
  | 34 => .array (.int)
  | 35 => .array (.int)
  | 36 => .array (.int)
  | 37 => .int
  | 38 => .boolean
  | 39 => .int
  | 40 => .array (.int)
  | 41 => .array (.int)
  | 42 => .int
  | 43 => .array (.int)
  | 44 => .int
  | 45 => .array (.int)
  | 46 => .array (.int)
  | 47 => .int
  | 48 => .int
  | 49 => .array (.int)
  | 50 => .int
  | 51 => .array (.int)
  | 52 => .array (.int)
  | 53 => .array (.int)
  | 54 => .array (.int)
  | 55 => .array (.int)
  | 56 => .array (.int)
  | 57 => .long
  | 58 => .array (.int)
  | 59 => .array (.char)
  | 60 => .array (.char)
  | 61 => .array (.char)
  | 62 => .array (.char)
  | 63 => .array (.char)
  | 64 => .array (.char)
  | 65 => .array (.char)
  | 66 => .array (.char)
  | 67 => .array (.char)
  | 68 => .array (.char)
  | 69 => .array (.char)
  | 70 => .array (.char)
  | 71 => .array (.char)
  | 72 => .array (.char)
  | 73 => .array (.char)
  | 74 => .array (.char)
  | 75 => .array (.char)
  | 76 => .array (.char)
  | 77 => .array (.int)
  | 78 => .int
  | 79 => .array (.int)
  | 80 => .int
  | 81 => .int
  | 82 => .int
  | 83 => .array (.long)
  | 84 => .int
  | 85 => .long
  | 86 => .boolean
  | 87 => .array (.int)
  | _ => .int
theorem am_nm12 : ∀ a, a < 89 → ∀ b, b < 89 → a ≠ b → (am_T12 a).2.1 ≠ (am_T12 b).2.1 := by decide +kernel
theorem am_tk12 : ∀ k, k < 89 → parseFieldDescriptor (am_T12 k).2.2.1 = some (am_ty12 k) := by decide +kernel
abbrev classes : List vw_C := [("WordEach$Chance", am_T0, 7), ("WordEach$Contest", am_T1, 4), ("WordEach$Court", am_T2, 16), ("WordEach$CourtReader", am_T3, 2), ("WordEach$Judge", am_T4, 4), ("WordEach$Planner", am_T5, 8), ("WordEach$Question", am_T6, 6), ("WordEach$Row", am_T7, 5), ("WordEach$Seats", am_T8, 3), ("WordEach$Tape", am_T9, 7), ("WordEach$Witness", am_T10, 5), ("WordEach", am_T11, 11), ("WordEachModel", am_T12, 89)]
def am_T (k : Nat) : u_T := match am_nth classes k with
  | some t => t.2.1
  | none => am_T0
def am_N (k : Nat) : Nat := match am_nth classes k with
  | some t => t.2.2
  | none => 0
def am_fty (C s : Nat) : Nat := match (am_T C s).2.2.1 with
  | "I" => 0
  | "Z" => 3
  | "J" => 1
  | _ => 2
theorem goodIn_sub2 (ws : List Cond) (ps : List Nat) (hp : ws.map some = ps.map (fun i => tables_1[i]?)) : ∀ x ∈ ws, x ∈ tables_1 := by
  intro x hx
  have h1 : some x ∈ ws.map some := List.mem_map.mpr ⟨x, hx, rfl⟩
  rw [hp] at h1
  obtain ⟨i, -, hi⟩ := List.mem_map.mp h1
  exact List.mem_of_getElem? hi
theorem am_in0 : ∀ x ∈ u_ws "WordEach$Chance" am_T0 7, x ∈ lw_tbl := fun x h => List.mem_append_right _ ((goodIn_sub2 (u_ws "WordEach$Chance" am_T0 7) [373, 375, 377, 379, 381, 383, 385] (by decide +kernel)) x h)
theorem am_in1 : ∀ x ∈ u_ws "WordEach$Contest" am_T1 4, x ∈ lw_tbl := fun x h => List.mem_append_right _ ((goodIn_sub2 (u_ws "WordEach$Contest" am_T1 4) [332, 334, 336, 338] (by decide +kernel)) x h)
theorem am_in2 : ∀ x ∈ u_ws "WordEach$Court" am_T2 16, x ∈ lw_tbl := fun x h => List.mem_append_right _ ((goodIn_sub2 (u_ws "WordEach$Court" am_T2 16) [187, 189, 191, 193, 195, 197, 199, 201, 203, 205, 207, 209, 211, 213, 215, 217] (by decide +kernel)) x h)
theorem am_in3 : ∀ x ∈ u_ws "WordEach$CourtReader" am_T3 2, x ∈ lw_tbl := fun x h => List.mem_append_right _ ((goodIn_sub2 (u_ws "WordEach$CourtReader" am_T3 2) [223, 225] (by decide +kernel)) x h)
theorem am_in4 : ∀ x ∈ u_ws "WordEach$Judge" am_T4 4, x ∈ lw_tbl := fun x h => List.mem_append_right _ ((goodIn_sub2 (u_ws "WordEach$Judge" am_T4 4) [251, 253, 255, 257] (by decide +kernel)) x h)
theorem am_in5 : ∀ x ∈ u_ws "WordEach$Planner" am_T5 8, x ∈ lw_tbl := fun x h => List.mem_append_right _ ((goodIn_sub2 (u_ws "WordEach$Planner" am_T5 8) [303, 305, 307, 309, 311, 313, 315, 317] (by decide +kernel)) x h)
theorem am_in6 : ∀ x ∈ u_ws "WordEach$Question" am_T6 6, x ∈ lw_tbl := fun x h => List.mem_append_right _ ((goodIn_sub2 (u_ws "WordEach$Question" am_T6 6) [400, 402, 404, 406, 408, 410] (by decide +kernel)) x h)
theorem am_in7 : ∀ x ∈ u_ws "WordEach$Row" am_T7 5, x ∈ lw_tbl := fun x h => List.mem_append_right _ ((goodIn_sub2 (u_ws "WordEach$Row" am_T7 5) [277, 279, 281, 283, 285] (by decide +kernel)) x h)
theorem am_in8 : ∀ x ∈ u_ws "WordEach$Seats" am_T8 3, x ∈ lw_tbl := fun x h => List.mem_append_right _ ((goodIn_sub2 (u_ws "WordEach$Seats" am_T8 3) [352, 354, 356] (by decide +kernel)) x h)
theorem am_in9 : ∀ x ∈ u_ws "WordEach$Tape" am_T9 7, x ∈ lw_tbl := fun x h => List.mem_append_right _ ((goodIn_sub2 (u_ws "WordEach$Tape" am_T9 7) [51, 53, 55, 57, 59, 61, 63] (by decide +kernel)) x h)
theorem am_in10 : ∀ x ∈ u_ws "WordEach$Witness" am_T10 5, x ∈ lw_tbl := fun x h => List.mem_append_right _ ((goodIn_sub2 (u_ws "WordEach$Witness" am_T10 5) [112, 114, 116, 118, 120] (by decide +kernel)) x h)
theorem am_in11 : ∀ x ∈ u_ws "WordEach" am_T11 11, x ∈ lw_tbl := fun x h => List.mem_append_right _ ((goodIn_sub2 (u_ws "WordEach" am_T11 11) [424, 426, 428, 430, 432, 434, 436, 438, 440, 442, 444] (by decide +kernel)) x h)
theorem am_in12 : ∀ x ∈ u_ws "WordEachModel" am_T12 89, x ∈ lw_tbl := fun x h => List.mem_append_right _ ((goodIn_sub2 (u_ws "WordEachModel" am_T12 89) [1239, 1241, 1243, 1245, 1247, 1249, 1251, 1253, 1255, 1257, 1259, 1261, 1263, 1265, 1267, 1269, 1271, 1273, 1275, 1277, 1279, 1281, 1283, 1285, 1287, 1289, 1291, 1293, 1295, 1297, 1299, 1301, 1303, 1305, 1307, 1309, 1311, 1313, 1315, 1317, 1319, 1321, 1323, 1325, 1327, 1329, 1331, 1333, 1335, 1337, 1339, 1341, 1343, 1345, 1347, 1349, 1351, 1353, 1355, 1357, 1359, 1361, 1363, 1365, 1367, 1369, 1371, 1373, 1375, 1377, 1379, 1381, 1383, 1385, 1387, 1389, 1391, 1393, 1395, 1397, 1399, 1401, 1403, 1405, 1407, 1409, 1411, 1413, 1415] (by decide +kernel)) x h)
/-- own class, entry, class, slot, place in the tables -/
def am_fls : List (Nat × Nat × Nat × Nat × Nat) := [(0, 9, 0, 1, 367), (0, 17, 0, 2, 368), (0, 20, 0, 3, 369), (0, 23, 0, 4, 370), (0, 26, 0, 5, 371), (0, 30, 0, 0, 366), (0, 34, 0, 6, 372), (0, 38, 4, 2, 245), (0, 44, 2, 12, 170), (0, 50, 2, 6, 142), (0, 54, 10, 1, 96), (0, 83, 10, 0, 92), (1, 9, 1, 0, 326), (1, 15, 1, 1, 327), (1, 19, 1, 2, 328), (1, 22, 1, 3, 330), (1, 35, 4, 2, 246), (1, 39, 2, 12, 171), (1, 44, 2, 6, 143), (1, 48, 10, 4, 108), (1, 57, 10, 1, 97), (1, 60, 10, 0, 89), (2, 9, 2, 0, 124), (2, 15, 2, 1, 127), (2, 20, 2, 2, 131), (2, 23, 2, 3, 134), (2, 26, 2, 4, 136), (2, 29, 2, 5, 138), (2, 34, 2, 6, 140), (2, 38, 2, 7, 148), (2, 41, 2, 8, 153), (2, 44, 2, 14, 179), (2, 48, 2, 15, 183), (2, 52, 2, 9, 158), (2, 55, 2, 10, 161), (2, 58, 2, 11, 165), (2, 61, 2, 12, 169), (2, 64, 2, 13, 175), (2, 71, 10, 1, 98), (2, 74, 10, 2, 102), (3, 12, 3, 1, 221), (3, 18, 3, 0, 220), (3, 30, 9, 4, 42), (3, 41, 9, 5, 46), (3, 44, 9, 2, 38), (3, 79, 2, 9, 159), (3, 90, 2, 0, 125), (3, 94, 2, 1, 129), (3, 97, 2, 10, 163), (3, 100, 2, 2, 132), (3, 107, 2, 11, 167), (3, 114, 2, 5, 139), (3, 117, 2, 12, 174), (3, 120, 2, 6, 146), (3, 124, 10, 2, 103), (3, 135, 10, 3, 106), (3, 138, 10, 4, 111), (3, 141, 10, 1, 101), (3, 147, 10, 0, 94), (3, 149, 2, 14, 181), (3, 152, 2, 15, 185), (3, 155, 2, 13, 178), (3, 158, 2, 7, 149), (3, 161, 2, 8, 154), (4, 11, 4, 0, 240), (4, 15, 4, 1, 241), (4, 22, 4, 2, 242), (4, 29, 4, 3, 249), (4, 33, 2, 10, 162), (4, 44, 2, 1, 128), (4, 62, 2, 4, 137), (4, 73, 2, 14, 182), (4, 76, 2, 15, 186), (4, 83, 2, 7, 150), (4, 86, 2, 8, 155), (5, 11, 5, 1, 296), (5, 17, 5, 2, 297), (5, 20, 5, 3, 298), (5, 23, 5, 0, 295), (5, 27, 5, 6, 301), (5, 31, 5, 7, 302), (5, 34, 5, 4, 299), (5, 41, 5, 5, 300), (5, 58, 4, 2, 248), (5, 62, 2, 12, 172), (5, 66, 2, 6, 144), (5, 70, 10, 4, 109), (5, 76, 10, 1, 99), (5, 79, 10, 0, 91), (6, 9, 6, 2, 396), (6, 15, 6, 0, 394), (6, 19, 6, 1, 395), (6, 34, 6, 3, 397), (6, 38, 6, 4, 398), (6, 45, 9, 5, 45), (6, 50, 4, 2, 244), (6, 56, 2, 13, 176), (6, 81, 6, 5, 399), (6, 84, 9, 2, 40), (6, 100, 9, 4, 44), (6, 168, 2, 8, 156), (6, 171, 2, 7, 151), (7, 9, 7, 0, 267), (7, 15, 7, 1, 269), (7, 18, 7, 2, 271), (7, 21, 7, 3, 273), (7, 25, 7, 4, 275), (7, 42, 9, 1, 37), (7, 57, 2, 6, 147), (8, 9, 8, 1, 348), (8, 15, 8, 2, 350), (8, 19, 8, 0, 347), (8, 23, 4, 2, 243), (8, 29, 2, 12, 168), (8, 38, 2, 6, 141), (8, 42, 10, 3, 105), (8, 62, 10, 0, 90), (9, 9, 9, 0, 34), (9, 15, 9, 6, 49), (9, 19, 9, 1, 36), (9, 22, 9, 2, 39), (9, 25, 9, 3, 41), (9, 28, 9, 4, 43), (9, 31, 9, 5, 47), (10, 9, 10, 0, 88), (10, 15, 10, 1, 95), (11, 10, 11, 0, 413), (11, 21, 11, 1, 414), (11, 28, 11, 2, 415), (11, 35, 11, 3, 416), (11, 44, 11, 4, 417), (11, 51, 11, 5, 418), (11, 58, 11, 6, 419), (11, 65, 11, 7, 420), (11, 74, 11, 8, 421), (11, 78, 11, 9, 422), (11, 82, 11, 10, 423), (11, 85, 9, 1, 35), (11, 97, 4, 2, 247), (11, 101, 3, 1, 222), (11, 104, 7, 3, 274), (11, 113, 9, 5, 48), (11, 116, 9, 6, 50), (11, 119, 2, 9, 160), (11, 122, 2, 10, 164), (11, 125, 2, 11, 166), (11, 128, 2, 12, 173), (11, 131, 2, 13, 177), (11, 134, 4, 3, 250), (11, 137, 2, 14, 180), (11, 140, 2, 15, 184), (11, 143, 2, 1, 130), (11, 150, 7, 0, 268), (11, 156, 2, 0, 126), (11, 167, 2, 6, 145), (11, 171, 10, 3, 107), (11, 176, 10, 4, 110), (11, 179, 10, 1, 100), (11, 185, 10, 0, 93), (11, 186, 10, 2, 104), (11, 192, 2, 3, 135), (11, 195, 2, 2, 133), (11, 199, 7, 1, 270), (11, 239, 2, 7, 152), (11, 242, 2, 8, 157), (11, 266, 1, 2, 329), (11, 269, 1, 3, 331), (11, 287, 8, 1, 349), (11, 293, 8, 2, 351), (11, 318, 7, 4, 276), (11, 321, 7, 2, 272), (12, 7, 12, 0, 1150), (12, 13, 12, 8, 1158), (12, 17, 12, 9, 1159), (12, 20, 12, 10, 1160), (12, 24, 12, 11, 1161), (12, 27, 12, 12, 1162), (12, 30, 12, 13, 1163), (12, 33, 12, 14, 1164), (12, 36, 12, 15, 1165), (12, 39, 12, 16, 1166), (12, 42, 12, 17, 1167), (12, 45, 12, 18, 1168), (12, 48, 12, 19, 1169), (12, 51, 12, 20, 1170), (12, 54, 12, 21, 1171), (12, 57, 12, 22, 1172), (12, 60, 12, 23, 1173), (12, 63, 12, 24, 1174), (12, 66, 12, 25, 1175), (12, 69, 12, 26, 1176), (12, 72, 12, 28, 1178), (12, 75, 12, 29, 1179), (12, 79, 12, 30, 1180), (12, 82, 12, 31, 1181), (12, 85, 12, 32, 1182), (12, 88, 12, 33, 1183), (12, 91, 12, 34, 1184), (12, 94, 12, 35, 1185), (12, 97, 12, 36, 1186), (12, 100, 12, 40, 1190), (12, 103, 12, 41, 1191), (12, 106, 12, 43, 1193), (12, 109, 12, 45, 1195), (12, 112, 12, 46, 1196), (12, 115, 12, 49, 1199), (12, 118, 12, 51, 1201), (12, 121, 12, 52, 1202), (12, 124, 12, 53, 1203), (12, 127, 12, 54, 1204), (12, 130, 12, 55, 1205), (12, 133, 12, 56, 1206), (12, 136, 12, 57, 1207), (12, 140, 12, 58, 1208), (12, 143, 12, 59, 1209), (12, 146, 12, 60, 1210), (12, 149, 12, 61, 1211), (12, 152, 12, 62, 1212), (12, 155, 12, 63, 1213), (12, 158, 12, 64, 1214), (12, 161, 12, 65, 1215), (12, 164, 12, 66, 1216), (12, 167, 12, 67, 1217), (12, 170, 12, 68, 1218), (12, 173, 12, 69, 1219), (12, 176, 12, 70, 1220), (12, 179, 12, 71, 1221), (12, 182, 12, 72, 1222), (12, 185, 12, 73, 1223), (12, 188, 12, 74, 1224), (12, 191, 12, 75, 1225), (12, 194, 12, 76, 1226), (12, 197, 12, 77, 1227), (12, 200, 12, 79, 1229), (12, 203, 12, 83, 1233), (12, 206, 12, 87, 1237), (12, 209, 12, 1, 1151), (12, 212, 12, 5, 1155), (12, 215, 12, 6, 1156), (12, 218, 12, 2, 1152), (12, 221, 12, 3, 1153), (12, 232, 12, 4, 1154), (12, 260, 12, 27, 1177), (12, 301, 12, 37, 1187), (12, 329, 12, 7, 1157), (12, 338, 12, 39, 1189), (12, 341, 12, 42, 1192), (12, 344, 12, 38, 1188), (12, 354, 12, 44, 1194), (12, 360, 12, 47, 1197), (12, 372, 12, 50, 1200), (12, 375, 12, 48, 1198), (12, 541, 12, 78, 1228), (12, 544, 12, 81, 1231), (12, 547, 12, 80, 1230), (12, 553, 12, 82, 1232), (12, 611, 12, 84, 1234), (12, 643, 12, 85, 1235), (12, 646, 12, 86, 1236), (12, 669, 12, 88, 1238)]
theorem am_fl_ok : (am_fls.all fun e => decide (tables_1[e.2.2.2.2]? = some (Cond.fieldLink (am_R e.1) e.2.1 (am_R e.2.2.1) (am_T e.2.2.1 e.2.2.2.1).2.1 (am_T e.2.2.1 e.2.2.2.1).2.2.1))) = true := by decide +kernel
def am_cis : List (Nat × Nat × Int32 × Nat) := [(0, 66, 32768, 956), (4, 50, 524288, 735), (4, 58, 32768, 727), (5, 46, 32768, 821), (8, 61, 32768, 921), (11, 338, 32768, 844), (14, 265, 1431655765, 849), (14, 266, 858993459, 850), (14, 267, 252645135, 851)]
theorem am_ci_ok : (am_cis.all fun e => decide (tables_1[e.2.2.2]? = some (Cond.constant (am_R e.1) e.2.1 e.2.2.1))) = true := by decide +kernel
def am_cls : List (Nat × Nat × Int64 × Nat) := [(6, 48, -1000000000000000, 1092), (6, 134, -1000000, 1081), (6, 136, 1000000, 1082), (8, 55, 1103515245, 937), (8, 57, 12345, 938), (8, 59, 2147483647, 939), (12, 263, 27, 1475), (12, 265, 97, 1476), (12, 409, 10, 1587), (12, 411, 15, 1588), (12, 420, 2, 1600), (12, 425, 20, 1605), (12, 427, 25, 1606), (12, 438, 5, 1671), (12, 482, -1, 1724), (12, 500, 3, 1785), (12, 505, 7, 1806), (12, 516, 1103515245, 1848), (12, 518, 12345, 1849), (12, 520, 2147483648, 1850), (12, 522, 64, 1851), (12, 527, 200, 1839), (12, 607, 1000000, 1980), (12, 609, -1000000, 1981), (12, 626, 99, 1972), (12, 655, -1000000000000000, 1959)]
theorem am_cl_ok : (am_cls.all fun e => decide (tables_1[e.2.2.2]? = some (Cond.constantLong (am_R e.1) e.2.1 e.2.2.1))) = true := by decide +kernel
/-- Strings: own class, entry, which text, place -/
def am_srs : List (Nat × Nat × Nat × Nat) := [(3, 51, 0, 487), (6, 28, 1, 1004), (9, 54, 0, 561)]
def am_texts : List String := ["name deed turn both either empty line who did whom fact witness age side says accused case", "first last often total most least or and not all number words ruling fair at has min max"]
def am_Ys : List (List (MethodName)) := [[⟨"WordEach$Chance", "forget", "()V"⟩, ⟨"WordEach$Chance", "waysTo", "(I)I"⟩, ⟨"WordEach$Chance", "countWays", "()V"⟩, ⟨"WordEach$Chance", "walk", "(II)V"⟩, ⟨"WordEach$Chance", "tally", "(I)V"⟩, ⟨"WordEach$Chance", "allWays", "()I"⟩, ⟨"WordEach$Chance", "waysSaying", "(III)I"⟩, ⟨"WordEach$Chance", "waysHanging", "(II)I"⟩, ⟨"WordEach$Chance", "walkAway", "(IIII)V"⟩, ⟨"WordEach$Contest", "play", "(III)I"⟩, ⟨"WordEach$Contest", "outcome", "(III)I"⟩, ⟨"WordEach$Contest", "winsBy", "(IIII)Z"⟩, ⟨"WordEach$Court", "adjourn", "()V"⟩, ⟨"WordEach$Court", "isGiven", "(I)Z"⟩, ⟨"WordEach$Court", "wordSpelled", "(I)I"⟩, ⟨"WordEach$Court", "addLine", "(I)V"⟩, ⟨"WordEach$Court", "allLines", "()I"⟩, ⟨"WordEach$Court", "patternOf", "(I)I"⟩], [⟨"WordEach$Court", "speakersOf", "(I)I"⟩, ⟨"WordEach$Court", "hasWitness", "(I)Z"⟩, ⟨"WordEach$Court", "hasLine", "(I)Z"⟩, ⟨"WordEach$Court", "hasSaying", "(II)Z"⟩, ⟨"WordEach$Court", "isFact", "(III)Z"⟩, ⟨"WordEach$Court", "truth", "()I"⟩, ⟨"WordEach$CourtReader", "readAll", "()I"⟩, ⟨"WordEach$CourtReader", "readStatement", "()V"⟩, ⟨"WordEach$CourtReader", "readWord", "(I)V"⟩, ⟨"WordEach$CourtReader", "begins", "(II)Z"⟩, ⟨"WordEach$CourtReader", "takeNewSpelling", "()I"⟩, ⟨"WordEach$CourtReader", "readLine", "()V"⟩, ⟨"WordEach$CourtReader", "readFact", "()V"⟩, ⟨"WordEach$CourtReader", "takeWord", "(I)I"⟩, ⟨"WordEach$CourtReader", "readWitness", "()V"⟩, ⟨"WordEach$CourtReader", "takeOwn", "(I)V"⟩, ⟨"WordEach$CourtReader", "readAccused", "()V"⟩, ⟨"WordEach$CourtReader", "readCase", "()V"⟩], [⟨"WordEach$Judge", "forgetLines", "()V"⟩, ⟨"WordEach$Judge", "obey", "(I)V"⟩, ⟨"WordEach$Judge", "isInForce", "(I)Z"⟩, ⟨"WordEach$Judge", "senselessFrom", "([II)I"⟩, ⟨"WordEach$Judge", "hear", "(II)I"⟩, ⟨"WordEach$Judge", "patternIn", "(I)I"⟩, ⟨"WordEach$Judge", "hearSlot", "(III)I"⟩, ⟨"WordEach$Judge", "meaning", "(I)I"⟩, ⟨"WordEach$Judge", "lineOf", "(I)I"⟩, ⟨"WordEach$Judge", "wordIn", "(III)I"⟩, ⟨"WordEach$Judge", "binds", "(I)Z"⟩, ⟨"WordEach$Judge", "clauseTold", "([IIII)I"⟩, ⟨"WordEach$Judge", "toldOf", "(III)I"⟩, ⟨"WordEach$Judge", "hearRow", "([III)I"⟩, ⟨"WordEach$Judge", "rule", "(I)I"⟩, ⟨"WordEach$Judge", "ruleCase", "(I)I"⟩, ⟨"WordEach$Judge", "wordsMissing", "(I)I"⟩, ⟨"WordEach$Planner", "forget", "()V"⟩], [⟨"WordEach$Planner", "tell", "(III)I"⟩, ⟨"WordEach$Planner", "fewest", "()I"⟩, ⟨"WordEach$Planner", "seek", "(III)Z"⟩, ⟨"WordEach$Planner", "seekSaying", "(III)Z"⟩, ⟨"WordEach$Question", "answer", "([I)J"⟩, ⟨"WordEach$Question", "readWhole", "()I"⟩, ⟨"WordEach$Question", "readTest", "()I"⟩, ⟨"WordEach$Question", "readBoth", "()I"⟩, ⟨"WordEach$Question", "readFact", "()I"⟩, ⟨"WordEach$Question", "readOpened", "(Z)I"⟩, ⟨"WordEach$Question", "opens", "()Z"⟩, ⟨"WordEach$Question", "readSum", "()I"⟩, ⟨"WordEach$Question", "readProduct", "()I"⟩, ⟨"WordEach$Question", "readPart", "()I"⟩, ⟨"WordEach$Question", "readBracket", "(I)I"⟩, ⟨"WordEach$Question", "readPartOf", "(I)I"⟩, ⟨"WordEach$Question", "wordAt", "(I)I"⟩, ⟨"WordEach$Question", "wordsOfCase", "()I"⟩], [⟨"WordEach$Question", "timesHeard", "(I)I"⟩, ⟨"WordEach$Question", "simplePart", "(I)I"⟩, ⟨"WordEach$Question", "held", "(J)I"⟩, ⟨"WordEach$Question", "tellTest", "(II)J"⟩, ⟨"WordEach$Question", "tellSum", "(II)J"⟩, ⟨"WordEach$Row", "placeOf", "(I)I"⟩, ⟨"WordEach$Row", "add", "(II)V"⟩, ⟨"WordEach$Row", "speakerBits", "()I"⟩, ⟨"WordEach$Row", "write", "(I)V"⟩, ⟨"WordEach$Row", "addOctet", "(I)V"⟩, ⟨"WordEach$Row", "isImage", "(LWordEach$Tape;LWordEach$Court;)Z"⟩, ⟨"WordEach$Row", "areSaid", "(LWordEach$Tape;LWordEach$Court;I)Z"⟩, ⟨"WordEach$Row", "readFrom", "(LWordEach$Tape;)V"⟩, ⟨"WordEach$Seats", "arrange", "(I)V"⟩, ⟨"WordEach$Seats", "isAhead", "(III)Z"⟩, ⟨"WordEach$Seats", "ruleInOrder", "()I"⟩, ⟨"WordEach$Seats", "drawLot", "()V"⟩, ⟨"WordEach$Seats", "draw", "(I)I"⟩], [⟨"WordEach$Tape", "put", "(I)V"⟩, ⟨"WordEach$Tape", "rewind", "()V"⟩, ⟨"WordEach$Tape", "advance", "()V"⟩, ⟨"WordEach$Tape", "signAt", "(I)I"⟩, ⟨"WordEach$Tape", "listed", "(Ljava/lang/String;)I"⟩, ⟨"WordEach$Tape", "fail", "(II)V"⟩, ⟨"WordEach$Tape", "spelled", "()I"⟩, ⟨"WordEach$Tape", "takeNumber", "(I)I"⟩, ⟨"WordEach$Tape", "take", "(I)Z"⟩, ⟨"WordEach$Tape", "byteAt", "(I)I"⟩, ⟨"WordEach$Witness", "maySay", "(I)Z"⟩, ⟨"WordEach", "feed", "(IIIII)I"⟩, ⟨"WordEach", "end", "(I)Z"⟩, ⟨"WordEach", "text", "()I"⟩, ⟨"WordEach", "timesIn", "([III)I"⟩, ⟨"WordEach", "putInForce", "(I)V"⟩, ⟨"WordEach", "fault", "(I)I"⟩, ⟨"WordEach", "court", "(I)I"⟩], [⟨"WordEach", "word", "(II)I"⟩, ⟨"WordEach", "letterOf", "(III)I"⟩, ⟨"WordEach", "bench", "(II)I"⟩, ⟨"WordEach", "grammar", "(II)I"⟩, ⟨"WordEach", "row", "(IZ)I"⟩, ⟨"WordEach", "say", "(II)I"⟩, ⟨"WordEach", "back", "()Z"⟩, ⟨"WordEach", "clear", "()I"⟩, ⟨"WordEach", "line", "(IZ)Z"⟩, ⟨"WordEach", "sense", "()I"⟩, ⟨"WordEach", "means", "(II)I"⟩, ⟨"WordEach", "exact", "(I)I"⟩, ⟨"WordEach", "stateSpoken", "()I"⟩, ⟨"WordEach", "ruling", "(I)I"⟩, ⟨"WordEach", "instance", "(II)I"⟩, ⟨"WordEach", "plan", "(IIII)I"⟩, ⟨"WordEach", "all", "(I)I"⟩, ⟨"WordEach", "rulingWith", "(II)I"⟩], [⟨"WordEach", "one", "(I)I"⟩, ⟨"WordEach", "ill", "(I)I"⟩, ⟨"WordEach", "between", "(II)I"⟩, ⟨"WordEach", "game", "(II)I"⟩, ⟨"WordEach", "place", "(I)I"⟩, ⟨"WordEach", "turned", "(I)I"⟩, ⟨"WordEach", "ruleCases", "()V"⟩, ⟨"WordEach", "cases", "(I)I"⟩, ⟨"WordEach", "isRuling", "(I)Z"⟩, ⟨"WordEach", "order", "(II)I"⟩, ⟨"WordEach", "lots", "(I)I"⟩, ⟨"WordEach", "seed", "(I)Z"⟩, ⟨"WordEach", "odds", "(I)I"⟩, ⟨"WordEach", "thousandths", "(II)I"⟩, ⟨"WordEach", "parts", "(III)I"⟩, ⟨"WordEach", "inn", "(II)I"⟩, ⟨"WordEach", "ask", "()J"⟩, ⟨"WordEach", "image", "()I"⟩], [⟨"WordEach", "octet", "(I)I"⟩, ⟨"WordEach", "restore", "()Z"⟩, ⟨"WordEach", "status", "(I)I"⟩, ⟨"WordEachModel", "feed", "(IIIII)I"⟩, ⟨"WordEachModel", "end", "(I)Z"⟩, ⟨"WordEachModel", "text", "()I"⟩, ⟨"WordEachModel", "look", "()I"⟩, ⟨"WordEachModel", "statementTold", "()V"⟩, ⟨"WordEachModel", "fail", "(II)V"⟩, ⟨"WordEachModel", "takes", "([C)Z"⟩, ⟨"WordEachModel", "isHere", "([C)Z"⟩, ⟨"WordEachModel", "isLetter", "(I)Z"⟩, ⟨"WordEachModel", "newWord", "(II)V"⟩, ⟨"WordEachModel", "isFull", "(III)Z"⟩, ⟨"WordEachModel", "newSpelt", "()J"⟩, ⟨"WordEachModel", "spelt", "()J"⟩, ⟨"WordEachModel", "isOwnHere", "()Z"⟩, ⟨"WordEachModel", "wordOf", "(J)I"⟩], [⟨"WordEachModel", "isWitness", "(J)Z"⟩, ⟨"WordEachModel", "newLine", "(I)V"⟩, ⟨"WordEachModel", "slotTold", "()I"⟩, ⟨"WordEachModel", "asks", "([C)V"⟩, ⟨"WordEachModel", "newFact", "(I)V"⟩, ⟨"WordEachModel", "wordTold", "(I)I"⟩, ⟨"WordEachModel", "newWitness", "(I)V"⟩, ⟨"WordEachModel", "number", "(II)I"⟩, ⟨"WordEachModel", "isDigit", "(I)Z"⟩, ⟨"WordEachModel", "isIn", "(JJJ)Z"⟩, ⟨"WordEachModel", "accusedTold", "()V"⟩, ⟨"WordEachModel", "newCase", "(I)V"⟩, ⟨"WordEachModel", "asksSign", "(I)V"⟩, ⟨"WordEachModel", "takesSign", "(I)Z"⟩, ⟨"WordEachModel", "stands", "()V"⟩, ⟨"WordEachModel", "lineMany", "()I"⟩, ⟨"WordEachModel", "fault", "(I)I"⟩, ⟨"WordEachModel", "court", "(I)I"⟩], [⟨"WordEachModel", "accusedName", "()I"⟩, ⟨"WordEachModel", "word", "(II)I"⟩, ⟨"WordEachModel", "isWord", "(I)Z"⟩, ⟨"WordEachModel", "wordMany", "()I"⟩, ⟨"WordEachModel", "kindOf", "(I)I"⟩, ⟨"WordEachModel", "witnessMany", "()I"⟩, ⟨"WordEachModel", "says", "(II)Z"⟩, ⟨"WordEachModel", "saysMany", "(I)I"⟩, ⟨"WordEachModel", "saysOf", "(II)I"⟩, ⟨"WordEachModel", "letterOf", "(JI)I"⟩, ⟨"WordEachModel", "bench", "(II)I"⟩, ⟨"WordEachModel", "isBench", "(I)Z"⟩, ⟨"WordEachModel", "spokeAt", "(I)I"⟩, ⟨"WordEachModel", "grammar", "(II)I"⟩, ⟨"WordEachModel", "row", "(IZ)I"⟩, ⟨"WordEachModel", "say", "(II)I"⟩, ⟨"WordEachModel", "adds", "(II)V"⟩, ⟨"WordEachModel", "back", "()Z"⟩], [⟨"WordEachModel", "clear", "()I"⟩, ⟨"WordEachModel", "line", "(IZ)Z"⟩, ⟨"WordEachModel", "sense", "()I"⟩, ⟨"WordEachModel", "readsRow", "()Z"⟩, ⟨"WordEachModel", "triesRow", "(I)V"⟩, ⟨"WordEachModel", "tries", "(I)V"⟩, ⟨"WordEachModel", "reads", "()Z"⟩, ⟨"WordEachModel", "clauseFrom", "(II)I"⟩, ⟨"WordEachModel", "fits", "(II)I"⟩, ⟨"WordEachModel", "isBinding", "(I)Z"⟩, ⟨"WordEachModel", "means", "(II)I"⟩, ⟨"WordEachModel", "exact", "(I)I"⟩, ⟨"WordEachModel", "isAllSo", "(I)Z"⟩, ⟨"WordEachModel", "isSo", "(II)Z"⟩, ⟨"WordEachModel", "isFact", "(III)Z"⟩, ⟨"WordEachModel", "ruling", "(I)I"⟩, ⟨"WordEachModel", "rulesRow", "()I"⟩, ⟨"WordEachModel", "rules", "()I"⟩], [⟨"WordEachModel", "truth", "()I"⟩, ⟨"WordEachModel", "instance", "(II)I"⟩, ⟨"WordEachModel", "caseMany", "()I"⟩, ⟨"WordEachModel", "rulesCase", "(I)I"⟩, ⟨"WordEachModel", "triesCase", "(II)V"⟩, ⟨"WordEachModel", "plan", "(IIII)I"⟩, ⟨"WordEachModel", "isFound", "(IIII)Z"⟩, ⟨"WordEachModel", "canChoose", "(II)Z"⟩, ⟨"WordEachModel", "sideOf", "(I)I"⟩, ⟨"WordEachModel", "isPlan", "(III)Z"⟩, ⟨"WordEachModel", "triesChoices", "(I)V"⟩, ⟨"WordEachModel", "isStandingPlan", "(II)Z"⟩, ⟨"WordEachModel", "takesOut", "(I)V"⟩, ⟨"WordEachModel", "isFirm", "(II)Z"⟩, ⟨"WordEachModel", "putsIn", "(II)V"⟩, ⟨"WordEachModel", "all", "(I)I"⟩, ⟨"WordEachModel", "undoes", "(III)Z"⟩, ⟨"WordEachModel", "one", "(I)I"⟩], [⟨"WordEachModel", "ill", "(I)I"⟩, ⟨"WordEachModel", "between", "(II)I"⟩, ⟨"WordEachModel", "game", "(II)I"⟩, ⟨"WordEachModel", "games", "(I)I"⟩, ⟨"WordEachModel", "opens", "(I)V"⟩, ⟨"WordEachModel", "canMove", "(I)Z"⟩, ⟨"WordEachModel", "weighs", "(II)V"⟩, ⟨"WordEachModel", "place", "(I)I"⟩, ⟨"WordEachModel", "turned", "(I)I"⟩, ⟨"WordEachModel", "cases", "(I)I"⟩, ⟨"WordEachModel", "order", "(II)I"⟩, ⟨"WordEachModel", "orders", "(I)V"⟩, ⟨"WordEachModel", "isAhead", "(III)Z"⟩, ⟨"WordEachModel", "rulesOrder", "()I"⟩, ⟨"WordEachModel", "seed", "(I)Z"⟩, ⟨"WordEachModel", "lots", "(I)I"⟩, ⟨"WordEachModel", "draws", "()V"⟩, ⟨"WordEachModel", "drawOf", "(I)I"⟩], [⟨"WordEachModel", "odds", "(I)I"⟩, ⟨"WordEachModel", "waysAll", "()I"⟩, ⟨"WordEachModel", "waysAt", "(I)V"⟩, ⟨"WordEachModel", "rulesWay", "(I)I"⟩, ⟨"WordEachModel", "parts", "(III)I"⟩, ⟨"WordEachModel", "inn", "(II)I"⟩, ⟨"WordEachModel", "ask", "()J"⟩, ⟨"WordEachModel", "qKind", "()I"⟩, ⟨"WordEachModel", "qTest", "()V"⟩, ⟨"WordEachModel", "qOpens", "(II)V"⟩, ⟨"WordEachModel", "qFact", "()V"⟩, ⟨"WordEachModel", "qCode", "(I)V"⟩, ⟨"WordEachModel", "qSums", "()V"⟩, ⟨"WordEachModel", "qPartTold", "()V"⟩, ⟨"WordEachModel", "qWordOf", "(II)I"⟩, ⟨"WordEachModel", "qWordHere", "()I"⟩, ⟨"WordEachModel", "qAsksWord", "(I)V"⟩, ⟨"WordEachModel", "qEndsPart", "()V"⟩], [⟨"WordEachModel", "qDrops", "()V"⟩, ⟨"WordEachModel", "qGoesOn", "()Z"⟩, ⟨"WordEachModel", "qBracket", "()I"⟩, ⟨"WordEachModel", "qIsBracket", "(I)Z"⟩, ⟨"WordEachModel", "qDropsToBracket", "()V"⟩, ⟨"WordEachModel", "qIsOn", "(I)Z"⟩, ⟨"WordEachModel", "qDropsNots", "()V"⟩, ⟨"WordEachModel", "qGoesOnTest", "()Z"⟩, ⟨"WordEachModel", "qHasSquare", "()Z"⟩, ⟨"WordEachModel", "qTold", "(I)J"⟩, ⟨"WordEachModel", "qPuts", "(J)V"⟩, ⟨"WordEachModel", "qOf", "(IJI)J"⟩, ⟨"WordEachModel", "qHas", "(JI)J"⟩, ⟨"WordEachModel", "qClip", "(J)J"⟩, ⟨"WordEachModel", "qPartOf", "(II)J"⟩, ⟨"WordEachModel", "qJoins", "(I)V"⟩, ⟨"WordEachModel", "qFloor", "(JJ)J"⟩, ⟨"WordEachModel", "qTakes", "(IJI)V"⟩], [⟨"WordEachModel", "image", "()I"⟩, ⟨"WordEachModel", "checked", "([II)I"⟩, ⟨"WordEachModel", "octet", "(I)I"⟩, ⟨"WordEachModel", "restore", "()Z"⟩, ⟨"WordEachModel", "isTold", "(I)Z"⟩, ⟨"WordEachModel", "status", "(I)I"⟩, ⟨"java/lang/Math", "min", "(II)I"⟩, ⟨"java/lang/Math", "max", "(II)I"⟩, ⟨"java/lang/Math", "min", "(JJ)J"⟩, ⟨"java/lang/Math", "max", "(JJ)J"⟩, ⟨"java/lang/Math", "floorDiv", "(II)I"⟩, ⟨"java/lang/Integer", "bitCount", "(I)I"⟩]]
def am_Y (m : Nat) : MethodName := match am_nth am_Ys (m / 18) with
  | none => ⟨"", "", ""⟩
  | some g => match am_nth g (m % 18) with
    | none => ⟨"", "", ""⟩
    | some c => c
/-- own class, entry, method, place -/
def am_mls : List (Nat × Nat × Nat × Nat) := [(0, 59, 2, 952), (0, 62, 5, 967), (0, 67, 8, 991), (0, 71, 3, 957), (0, 75, 50, 961), (0, 79, 4, 962), (0, 86, 40, 966), (1, 25, 10, 876), (1, 29, 50, 880), (1, 53, 11, 881), (1, 64, 40, 885), (2, 67, 19, 701), (2, 77, 14, 568), (2, 81, 100, 664), (2, 84, 22, 798), (3, 22, 91, 467), (3, 27, 12, 479), (3, 34, 25, 483), (3, 37, 98, 616), (3, 47, 95, 548), (3, 53, 94, 488), (3, 57, 26, 540), (3, 61, 29, 572), (3, 64, 30, 580), (3, 67, 32, 589), (3, 70, 34, 608), (3, 73, 35, 612), (3, 76, 92, 552), (3, 82, 27, 544), (3, 86, 28, 553), (3, 104, 15, 576), (3, 110, 31, 584), (3, 129, 33, 593), (3, 132, 97, 597), (3, 144, 100, 601), (3, 164, 96, 557), (3, 167, 13, 564), (3, 170, 14, 588), (4, 26, 36, 236), (4, 36, 38, 632), (4, 40, 17, 636), (4, 47, 41, 732), (4, 51, 42, 736), (4, 55, 43, 740), (4, 59, 44, 744), (4, 66, 45, 748), (4, 69, 22, 752), (4, 79, 40, 728), (4, 89, 49, 807), (4, 93, 50, 808), (4, 96, 46, 756), (4, 99, 48, 769), (5, 37, 55, 817), (5, 47, 56, 822), (5, 51, 50, 826), (5, 55, 52, 827), (5, 73, 57, 831), (5, 82, 40, 835), (6, 23, 91, 1003), (6, 30, 94, 1005), (6, 41, 59, 1006), (6, 61, 75, 1093), (6, 65, 76, 1097), (6, 72, 295, 1053), (6, 78, 294, 1050), (6, 87, 95, 1010), (6, 91, 92, 1011), (6, 94, 60, 1012), (6, 97, 65, 1033), (6, 103, 61, 1016), (6, 106, 62, 1020), (6, 109, 63, 1024), (6, 113, 98, 1032), (6, 117, 64, 1028), (6, 121, 66, 1037), (6, 124, 74, 1078), (6, 128, 67, 1041), (6, 131, 298, 1089), (6, 138, 296, 1083), (6, 141, 297, 1086), (6, 143, 97, 1045), (6, 147, 68, 1046), (6, 150, 69, 1056), (6, 153, 73, 1073), (6, 156, 70, 1060), (6, 159, 72, 1068), (6, 162, 71, 1064), (6, 165, 23, 1077), (7, 28, 81, 1109), (7, 32, 99, 1124), (7, 38, 78, 1138), (7, 43, 16, 1128), (7, 49, 83, 1129), (7, 53, 19, 1132), (7, 61, 100, 1133), (8, 34, 86, 913), (8, 47, 85, 932), (8, 51, 89, 933), (8, 65, 40, 922), (8, 69, 50, 923), (9, 34, 92, 471), (9, 37, 93, 475), (9, 41, 95, 563), (9, 56, 94, 562), (11, 89, 90, 451), (11, 93, 24, 463), (11, 105, 16, 620), (11, 110, 105, 624), (11, 146, 18, 660), (11, 152, 104, 665), (11, 159, 109, 666), (11, 163, 19, 673), (11, 182, 77, 677), (11, 189, 20, 685), (11, 202, 21, 697), (11, 206, 78, 702), (11, 210, 38, 718), (11, 213, 39, 723), (11, 217, 117, 764), (11, 220, 47, 765), (11, 224, 120, 777), (11, 227, 43, 785), (11, 230, 50, 790), (11, 233, 23, 794), (11, 236, 51, 803), (11, 245, 54, 813), (11, 248, 125, 840), (11, 252, 299, 846), (11, 257, 49, 781), (11, 260, 79, 868), (11, 263, 9, 872), (11, 272, 132, 894), (11, 275, 37, 628), (11, 278, 134, 902), (11, 281, 85, 909), (11, 284, 87, 917), (11, 290, 88, 928), (11, 296, 1, 948), (11, 299, 5, 971), (11, 302, 139, 972), (11, 305, 6, 979), (11, 308, 7, 987), (11, 311, 58, 999), (11, 315, 80, 1105), (11, 324, 82, 1121), (11, 328, 84, 1134), (11, 331, 99, 1139), (11, 334, 53, 640), (11, 337, 0, 644), (11, 339, 40, 845), (12, 224, 150, 1432), (12, 228, 155, 1452), (12, 235, 154, 1448), (12, 239, 153, 1444), (12, 242, 152, 1440), (12, 246, 175, 1531), (12, 249, 170, 1513), (12, 252, 171, 1516), (12, 256, 160, 1471), (12, 267, 159, 1467), (12, 271, 161, 1477), (12, 275, 162, 1481), (12, 279, 157, 1459), (12, 283, 158, 1463), (12, 286, 165, 1493), (12, 290, 164, 1489), (12, 293, 167, 1501), (12, 297, 169, 1509), (12, 304, 156, 1455), (12, 307, 163, 1485), (12, 311, 166, 1497), (12, 314, 168, 1505), (12, 317, 172, 1519), (12, 320, 173, 1523), (12, 323, 174, 1527), (12, 326, 151, 1436), (12, 332, 176, 1535), (12, 335, 177, 1539), (12, 348, 183, 1563), (12, 351, 185, 1571), (12, 357, 203, 1647), (12, 363, 184, 1567), (12, 366, 207, 1663), (12, 369, 206, 1659), (12, 378, 205, 1655), (12, 381, 180, 1551), (12, 384, 212, 1684), (12, 387, 211, 1680), (12, 391, 204, 1651), (12, 394, 210, 1676), (12, 397, 187, 1579), (12, 400, 188, 1583), (12, 403, 182, 1559), (12, 406, 186, 1575), (12, 413, 189, 1589), (12, 417, 191, 1596), (12, 422, 192, 1601), (12, 429, 196, 1619), (12, 432, 202, 1643), (12, 435, 201, 1639), (12, 440, 215, 1696), (12, 443, 214, 1692), (12, 446, 216, 1700), (12, 449, 220, 1716), (12, 452, 218, 1708), (12, 455, 219, 1712), (12, 458, 224, 1733), (12, 461, 226, 1741), (12, 464, 228, 1749), (12, 467, 230, 1757), (12, 470, 227, 1745), (12, 473, 229, 1753), (12, 476, 223, 1729), (12, 479, 225, 1737), (12, 484, 222, 1725), (12, 488, 232, 1765), (12, 491, 238, 1790), (12, 494, 239, 1794), (12, 497, 240, 1798), (12, 502, 237, 1786), (12, 507, 246, 1823), (12, 510, 245, 1819), (12, 513, 247, 1827), (12, 524, 251, 1844), (12, 529, 250, 1840), (12, 532, 253, 1856), (12, 535, 254, 1860), (12, 538, 255, 1864), (12, 550, 263, 1896), (12, 556, 273, 1936), (12, 559, 270, 1924), (12, 562, 267, 1912), (12, 565, 266, 1908), (12, 568, 261, 1888), (12, 571, 268, 1916), (12, 574, 269, 1920), (12, 577, 272, 1932), (12, 580, 274, 1939), (12, 583, 275, 1943), (12, 586, 265, 1904), (12, 589, 271, 1928), (12, 592, 264, 1900), (12, 595, 262, 1892), (12, 598, 276, 1947), (12, 601, 277, 1951), (12, 604, 278, 1955), (12, 614, 283, 1977), (12, 618, 280, 1964), (12, 622, 286, 1990), (12, 628, 282, 1973), (12, 632, 281, 1968), (12, 636, 284, 1982), (12, 640, 285, 1986), (12, 649, 259, 1880), (12, 652, 260, 1884), (12, 657, 279, 1960), (12, 661, 287, 1993), (12, 665, 289, 2001), (12, 672, 292, 2012)]
theorem am_ml_ok : (am_mls.all fun e => decide (tables_1[e.2.2.2]? = some (Cond.methodLink (am_R e.1) e.2.1 (am_Y e.2.2.1)))) = true := by decide +kernel
/-- nest mates: own class, entry, method, place -/
def am_nls : List (Nat × Nat × Nat × Nat) := [(6, 68, 104, 1072), (10, 19, 104, 605)]
theorem am_nl_ok : (am_nls.all fun e => decide (tables_1[e.2.2.2]? = some (Cond.methodLinkNest (am_R e.1) e.2.1 (am_Y e.2.2.1) "WordEach"))) = true := by decide +kernel
/-- static?, parameters, places: code, static or instance, selects (in lw_tbl), initialized -/
def am_Ps : List (List (Bool × Nat × Nat × Nat × Nat × Nat)) := [[(false, 0, 647, 645, 797, 11), (false, 1, 951, 949, 1101, 11), (false, 0, 955, 954, 28, 11), (false, 2, 960, 959, 29, 11), (false, 1, 965, 964, 30, 11), (false, 0, 970, 968, 1120, 11), (false, 3, 982, 980, 1132, 11), (false, 2, 990, 988, 1140, 11), (false, 4, 994, 993, 31, 11), (false, 3, 875, 873, 1025, 9), (false, 3, 879, 878, 23, 9), (false, 4, 884, 883, 24, 9), (false, 0, 482, 480, 632, 4), (false, 1, 567, 565, 717, 4), (false, 1, 571, 569, 721, 4), (false, 1, 579, 577, 729, 4), (false, 0, 623, 621, 773, 4), (false, 1, 639, 637, 789, 4)], [(false, 1, 663, 661, 813, 4), (false, 1, 676, 674, 826, 4), (false, 1, 688, 686, 838, 4), (false, 2, 700, 698, 850, 4), (false, 3, 755, 753, 905, 4), (false, 0, 797, 795, 947, 4), (false, 0, 466, 464, 616, 3), (false, 0, 486, 485, 2, 3), (false, 1, 543, 542, 3, 3), (false, 2, 547, 546, 4, 3), (false, 0, 556, 555, 5, 3), (false, 0, 575, 574, 6, 3), (false, 0, 583, 582, 7, 3), (false, 1, 587, 586, 8, 3), (false, 0, 592, 591, 9, 3), (false, 1, 596, 595, 10, 3), (false, 0, 611, 610, 11, 3), (false, 0, 615, 614, 12, 3)], [(false, 0, 239, 238, 0, 6), (false, 1, 631, 629, 781, 6), (false, 1, 635, 633, 785, 6), (false, 2, 726, 724, 876, 6), (false, 2, 731, 729, 881, 6), (true, 1, 734, 733, 0, 6), (false, 3, 739, 738, 14, 6), (false, 1, 743, 741, 893, 6), (false, 1, 747, 745, 897, 6), (false, 3, 751, 750, 15, 6), (false, 1, 759, 758, 16, 6), (false, 4, 768, 766, 918, 6), (false, 3, 772, 771, 17, 6), (false, 3, 784, 782, 934, 6), (false, 1, 793, 791, 943, 6), (false, 1, 806, 804, 956, 6), (false, 1, 830, 828, 980, 6), (false, 0, 643, 641, 793, 8)], [(false, 3, 816, 814, 966, 8), (false, 0, 820, 819, 19, 8), (false, 3, 825, 824, 20, 8), (false, 3, 834, 833, 21, 8), (false, 1, 1002, 1000, 1152, 12), (false, 0, 1009, 1008, 32, 12), (false, 0, 1015, 1014, 33, 12), (false, 0, 1019, 1018, 34, 12), (false, 0, 1023, 1022, 35, 12), (false, 1, 1027, 1026, 36, 12), (false, 0, 1031, 1030, 37, 12), (false, 0, 1036, 1035, 38, 12), (false, 0, 1040, 1039, 39, 12), (false, 0, 1044, 1043, 40, 12), (false, 1, 1049, 1048, 41, 12), (false, 1, 1059, 1058, 42, 12), (false, 1, 1063, 1062, 43, 12), (false, 0, 1067, 1066, 44, 12)], [(false, 1, 1071, 1070, 45, 12), (false, 1, 1076, 1075, 46, 12), (true, 1, 1080, 1079, 0, 12), (false, 2, 1096, 1095, 47, 12), (false, 2, 1100, 1099, 48, 12), (false, 1, 680, 678, 830, 7), (false, 2, 705, 703, 855, 7), (false, 0, 871, 869, 1021, 7), (false, 1, 1108, 1106, 1258, 7), (false, 1, 1112, 1111, 49, 7), (true, 2, 1123, 1122, 0, 7), (true, 3, 1131, 1130, 0, 7), (false, 1, 1137, 1135, 1287, 7), (false, 1, 912, 910, 1062, 10), (false, 3, 916, 915, 26, 10), (false, 0, 920, 918, 1070, 10), (false, 0, 931, 929, 1081, 10), (false, 1, 936, 935, 27, 10)], [(false, 1, 454, 452, 604, 2), (false, 0, 470, 468, 620, 2), (false, 0, 474, 472, 624, 2), (false, 1, 478, 477, 1, 2), (false, 1, 491, 489, 641, 2), (false, 2, 551, 549, 701, 2), (false, 0, 560, 558, 710, 2), (false, 1, 600, 598, 750, 2), (false, 1, 619, 617, 769, 2), (false, 1, 1127, 1125, 1277, 2), (false, 1, 604, 602, 754, 5), (false, 5, 450, 448, 600, 1), (false, 1, 458, 456, 608, 1), (false, 0, 462, 460, 612, 1), (true, 3, 607, 606, 0, 1), (false, 1, 627, 626, 13, 1), (false, 1, 651, 649, 801, 1), (false, 1, 655, 653, 805, 1)], [(false, 2, 659, 657, 809, 1), (true, 3, 668, 667, 0, 1), (false, 2, 672, 670, 822, 1), (false, 2, 684, 682, 834, 1), (false, 2, 692, 690, 842, 1), (false, 2, 696, 694, 846, 1), (false, 0, 709, 707, 859, 1), (false, 0, 713, 711, 863, 1), (false, 2, 717, 715, 867, 1), (false, 0, 722, 720, 872, 1), (false, 2, 763, 761, 913, 1), (false, 1, 776, 774, 926, 1), (false, 0, 780, 779, 18, 1), (false, 1, 789, 787, 939, 1), (false, 2, 802, 800, 952, 1), (false, 4, 812, 810, 962, 1), (false, 1, 839, 837, 989, 1), (false, 2, 843, 842, 22, 1)], [(false, 1, 855, 853, 1005, 1), (false, 1, 859, 857, 1009, 1), (false, 2, 863, 861, 1013, 1), (false, 2, 867, 865, 1017, 1), (false, 1, 889, 887, 1039, 1), (false, 1, 893, 891, 1043, 1), (false, 0, 897, 896, 25, 1), (false, 1, 901, 899, 1051, 1), (true, 1, 904, 903, 0, 1), (false, 2, 908, 906, 1058, 1), (false, 1, 927, 925, 1077, 1), (false, 1, 943, 941, 1093, 1), (false, 1, 947, 945, 1097, 1), (true, 2, 974, 973, 0, 1), (false, 3, 978, 976, 1128, 1), (false, 2, 986, 984, 1136, 1), (false, 0, 998, 996, 1148, 1), (false, 0, 1104, 1102, 1254, 1)], [(false, 1, 1116, 1114, 1266, 1), (false, 0, 1120, 1118, 1270, 1), (false, 1, 1143, 1141, 1293, 1), (false, 5, 1423, 1421, 1573, 13), (false, 1, 1427, 1425, 1577, 13), (false, 0, 1431, 1429, 1581, 13), (false, 0, 1435, 1434, 50, 13), (false, 0, 1439, 1438, 51, 13), (false, 2, 1443, 1442, 52, 13), (false, 1, 1447, 1446, 53, 13), (false, 1, 1451, 1450, 54, 13), (true, 1, 1454, 1453, 0, 13), (false, 2, 1458, 1457, 55, 13), (false, 3, 1462, 1461, 56, 13), (false, 0, 1466, 1465, 57, 13), (false, 0, 1470, 1469, 58, 13), (false, 0, 1474, 1473, 59, 13), (false, 1, 1480, 1479, 60, 13)], [(false, 1, 1484, 1483, 61, 13), (false, 1, 1488, 1487, 62, 13), (false, 0, 1492, 1491, 63, 13), (false, 1, 1496, 1495, 64, 13), (false, 1, 1500, 1499, 65, 13), (false, 1, 1504, 1503, 66, 13), (false, 1, 1508, 1507, 67, 13), (false, 2, 1512, 1511, 68, 13), (true, 1, 1515, 1514, 0, 13), (true, 3, 1518, 1517, 0, 13), (false, 0, 1522, 1521, 69, 13), (false, 1, 1526, 1525, 70, 13), (false, 1, 1530, 1529, 71, 13), (false, 1, 1534, 1533, 72, 13), (false, 0, 1538, 1537, 73, 13), (false, 0, 1542, 1541, 74, 13), (false, 1, 1546, 1544, 1696, 13), (false, 1, 1550, 1548, 1700, 13)], [(false, 0, 1554, 1553, 75, 13), (false, 2, 1558, 1556, 1708, 13), (false, 1, 1562, 1561, 76, 13), (false, 0, 1566, 1565, 77, 13), (false, 1, 1570, 1569, 78, 13), (false, 0, 1574, 1573, 79, 13), (false, 2, 1578, 1577, 80, 13), (false, 1, 1582, 1581, 81, 13), (false, 2, 1586, 1585, 82, 13), (true, 2, 1591, 1590, 0, 13), (false, 2, 1595, 1593, 1745, 13), (false, 1, 1599, 1598, 83, 13), (false, 1, 1604, 1603, 84, 13), (false, 2, 1610, 1608, 1760, 13), (false, 2, 1614, 1612, 1764, 13), (false, 2, 1618, 1616, 1768, 13), (false, 2, 1622, 1621, 85, 13), (false, 0, 1626, 1624, 1776, 13)], [(false, 0, 1630, 1628, 1780, 13), (false, 2, 1634, 1632, 1784, 13), (false, 0, 1638, 1636, 1788, 13), (false, 0, 1642, 1641, 86, 13), (false, 1, 1646, 1645, 87, 13), (false, 1, 1650, 1649, 88, 13), (false, 0, 1654, 1653, 89, 13), (false, 2, 1658, 1657, 90, 13), (false, 2, 1662, 1661, 91, 13), (false, 1, 1666, 1665, 92, 13), (false, 2, 1670, 1668, 1820, 13), (false, 1, 1675, 1673, 1825, 13), (false, 1, 1679, 1678, 93, 13), (false, 2, 1683, 1682, 94, 13), (false, 3, 1687, 1686, 95, 13), (false, 1, 1691, 1689, 1841, 13), (false, 0, 1695, 1694, 96, 13), (false, 0, 1699, 1698, 97, 13)], [(false, 0, 1703, 1702, 98, 13), (false, 2, 1707, 1705, 1857, 13), (false, 0, 1711, 1710, 99, 13), (false, 1, 1715, 1714, 100, 13), (false, 2, 1719, 1718, 101, 13), (false, 4, 1723, 1721, 1873, 13), (false, 4, 1728, 1727, 102, 13), (false, 2, 1732, 1731, 103, 13), (false, 1, 1736, 1735, 104, 13), (false, 3, 1740, 1739, 105, 13), (false, 1, 1744, 1743, 106, 13), (false, 2, 1748, 1747, 107, 13), (false, 1, 1752, 1751, 108, 13), (false, 2, 1756, 1755, 109, 13), (false, 2, 1760, 1759, 110, 13), (false, 1, 1764, 1762, 1914, 13), (false, 3, 1768, 1767, 111, 13), (false, 1, 1772, 1770, 1922, 13)], [(false, 1, 1776, 1774, 1926, 13), (false, 2, 1780, 1778, 1930, 13), (false, 2, 1784, 1782, 1934, 13), (false, 1, 1789, 1788, 112, 13), (false, 1, 1793, 1792, 113, 13), (false, 1, 1797, 1796, 114, 13), (false, 2, 1801, 1800, 115, 13), (false, 1, 1805, 1803, 1955, 13), (false, 1, 1810, 1808, 1960, 13), (false, 1, 1814, 1812, 1964, 13), (false, 2, 1818, 1816, 1968, 13), (false, 1, 1822, 1821, 116, 13), (false, 3, 1826, 1825, 117, 13), (false, 0, 1830, 1829, 118, 13), (false, 1, 1834, 1832, 1984, 13), (false, 1, 1838, 1836, 1988, 13), (false, 0, 1843, 1842, 119, 13), (false, 1, 1847, 1846, 120, 13)], [(false, 1, 1855, 1853, 2005, 13), (false, 0, 1859, 1858, 121, 13), (false, 1, 1863, 1862, 122, 13), (false, 1, 1867, 1866, 123, 13), (false, 3, 1871, 1869, 2021, 13), (false, 2, 1875, 1873, 2025, 13), (false, 0, 1879, 1877, 2029, 13), (false, 0, 1883, 1882, 124, 13), (false, 0, 1887, 1886, 125, 13), (false, 2, 1891, 1890, 126, 13), (false, 0, 1895, 1894, 127, 13), (false, 1, 1899, 1898, 128, 13), (false, 0, 1903, 1902, 129, 13), (false, 0, 1907, 1906, 130, 13), (false, 2, 1911, 1910, 131, 13), (false, 0, 1915, 1914, 132, 13), (false, 1, 1919, 1918, 133, 13), (false, 0, 1923, 1922, 134, 13)], [(false, 0, 1927, 1926, 135, 13), (false, 0, 1931, 1930, 136, 13), (false, 0, 1935, 1934, 137, 13), (true, 1, 1938, 1937, 0, 13), (false, 0, 1942, 1941, 138, 13), (false, 1, 1946, 1945, 139, 13), (false, 0, 1950, 1949, 140, 13), (false, 0, 1954, 1953, 141, 13), (false, 0, 1958, 1957, 142, 13), (false, 1, 1963, 1962, 143, 13), (false, 1, 1967, 1966, 144, 13), (false, 3, 1971, 1970, 145, 13), (false, 2, 1976, 1975, 146, 13), (true, 1, 1979, 1978, 0, 13), (false, 2, 1985, 1984, 147, 13), (false, 1, 1989, 1988, 148, 13), (true, 2, 1992, 1991, 0, 13), (false, 3, 1996, 1995, 149, 13)], [(false, 0, 2000, 1998, 2150, 13), (true, 2, 2003, 2002, 0, 13), (false, 1, 2007, 2005, 2157, 13), (false, 0, 2011, 2009, 2161, 13), (false, 1, 2015, 2014, 150, 13), (false, 1, 2019, 2017, 2169, 13), (true, 2, 1052, 1051, 0, 19), (true, 2, 1055, 1054, 0, 19), (true, 2, 1085, 1084, 0, 19), (true, 2, 1088, 1087, 0, 19), (true, 2, 1091, 1090, 0, 19), (true, 1, 848, 847, 0, 18)]]
def am_P (m : Nat) : Bool × Nat × Nat × Nat × Nat × Nat := match am_nth am_Ps (m / 18) with
  | none => (false, 0, 0, 0, 0, 0)
  | some g => match am_nth g (m % 18) with
    | none => (false, 0, 0, 0, 0, 0)
    | some c => c
def am_Bs : List (List (ByteArray)) := [[prog_2_method_2_code, prog_2_method_4_code, prog_2_method_7_code, prog_2_method_8_code, prog_2_method_9_code, prog_2_method_3_code, prog_2_method_5_code, prog_2_method_6_code, prog_2_method_10_code, prog_3_method_2_code, prog_3_method_3_code, prog_3_method_4_code, prog_4_method_2_code, prog_4_method_8_code, prog_4_method_7_code, prog_4_method_12_code, prog_4_method_6_code, prog_4_method_13_code], [prog_4_method_9_code, prog_4_method_4_code, prog_4_method_3_code, prog_4_method_5_code, prog_4_method_10_code, prog_4_method_11_code, prog_5_method_2_code, prog_5_method_3_code, prog_5_method_5_code, prog_5_method_4_code, prog_5_method_12_code, prog_5_method_6_code, prog_5_method_7_code, prog_5_method_13_code, prog_5_method_8_code, prog_5_method_11_code, prog_5_method_9_code, prog_5_method_10_code], [prog_6_method_2_code, prog_6_method_4_code, prog_6_method_3_code, prog_6_method_16_code, prog_6_method_5_code, prog_6_method_7_code, prog_6_method_6_code, prog_6_method_11_code, prog_6_method_8_code, prog_6_method_10_code, prog_6_method_15_code, prog_6_method_17_code, prog_6_method_18_code, prog_6_method_13_code, prog_6_method_12_code, prog_6_method_14_code, prog_6_method_9_code, prog_7_method_2_code], [prog_7_method_3_code, prog_7_method_4_code, prog_7_method_5_code, prog_7_method_6_code, prog_8_method_2_code, prog_8_method_5_code, prog_8_method_6_code, prog_8_method_7_code, prog_8_method_8_code, prog_8_method_9_code, prog_8_method_16_code, prog_8_method_10_code, prog_8_method_11_code, prog_8_method_13_code, prog_8_method_15_code, prog_8_method_14_code, prog_8_method_19_code, prog_8_method_18_code], [prog_8_method_20_code, prog_8_method_17_code, prog_8_method_12_code, prog_8_method_3_code, prog_8_method_4_code, prog_9_method_3_code, prog_9_method_2_code, prog_9_method_4_code, prog_9_method_5_code, prog_9_method_6_code, prog_9_method_8_code, prog_9_method_9_code, prog_9_method_7_code, prog_10_method_2_code, prog_10_method_3_code, prog_10_method_6_code, prog_10_method_4_code, prog_10_method_5_code], [prog_11_method_2_code, prog_11_method_4_code, prog_11_method_6_code, prog_11_method_7_code, prog_11_method_9_code, prog_11_method_5_code, prog_11_method_10_code, prog_11_method_11_code, prog_11_method_8_code, prog_11_method_3_code, prog_12_method_2_code, prog_1_method_2_code, prog_1_method_3_code, prog_1_method_4_code, prog_1_method_47_code, prog_1_method_40_code, prog_1_method_5_code, prog_1_method_6_code], [prog_1_method_7_code, prog_1_method_46_code, prog_1_method_8_code, prog_1_method_9_code, prog_1_method_10_code, prog_1_method_11_code, prog_1_method_12_code, prog_1_method_13_code, prog_1_method_14_code, prog_1_method_15_code, prog_1_method_16_code, prog_1_method_17_code, prog_1_method_41_code, prog_1_method_18_code, prog_1_method_19_code, prog_1_method_20_code, prog_1_method_21_code, prog_1_method_42_code], [prog_1_method_22_code, prog_1_method_23_code, prog_1_method_24_code, prog_1_method_25_code, prog_1_method_26_code, prog_1_method_27_code, prog_1_method_43_code, prog_1_method_28_code, prog_1_method_44_code, prog_1_method_29_code, prog_1_method_30_code, prog_1_method_31_code, prog_1_method_32_code, prog_1_method_45_code, prog_1_method_33_code, prog_1_method_34_code, prog_1_method_35_code, prog_1_method_36_code], [prog_1_method_37_code, prog_1_method_38_code, prog_1_method_39_code, prog_14_method_3_code, prog_14_method_4_code, prog_14_method_30_code, prog_14_method_8_code, prog_14_method_29_code, prog_14_method_5_code, prog_14_method_10_code, prog_14_method_9_code, prog_14_method_6_code, prog_14_method_22_code, prog_14_method_17_code, prog_14_method_20_code, prog_14_method_16_code, prog_14_method_15_code, prog_14_method_18_code], [prog_14_method_19_code, prog_14_method_24_code, prog_14_method_23_code, prog_14_method_11_code, prog_14_method_25_code, prog_14_method_21_code, prog_14_method_26_code, prog_14_method_14_code, prog_14_method_7_code, prog_14_method_2_code, prog_14_method_28_code, prog_14_method_27_code, prog_14_method_13_code, prog_14_method_12_code, prog_14_method_31_code, prog_14_method_34_code, prog_14_method_32_code, prog_14_method_58_code], [prog_14_method_43_code, prog_14_method_61_code, prog_14_method_38_code, prog_14_method_33_code, prog_14_method_37_code, prog_14_method_35_code, prog_14_method_60_code, prog_14_method_40_code, prog_14_method_41_code, prog_14_method_59_code, prog_14_method_63_code, prog_14_method_39_code, prog_14_method_62_code, prog_14_method_64_code, prog_14_method_65_code, prog_14_method_67_code, prog_14_method_66_code, prog_14_method_68_code], [prog_14_method_69_code, prog_14_method_70_code, prog_14_method_72_code, prog_14_method_71_code, prog_14_method_45_code, prog_14_method_44_code, prog_14_method_52_code, prog_14_method_51_code, prog_14_method_50_code, prog_14_method_49_code, prog_14_method_73_code, prog_14_method_74_code, prog_14_method_55_code, prog_14_method_54_code, prog_14_method_53_code, prog_14_method_76_code, prog_14_method_75_code, prog_14_method_56_code], [prog_14_method_57_code, prog_14_method_78_code, prog_14_method_36_code, prog_14_method_77_code, prog_14_method_46_code, prog_14_method_85_code, prog_14_method_84_code, prog_14_method_79_code, prog_14_method_42_code, prog_14_method_83_code, prog_14_method_80_code, prog_14_method_81_code, prog_14_method_48_code, prog_14_method_82_code, prog_14_method_47_code, prog_14_method_87_code, prog_14_method_86_code, prog_14_method_88_code], [prog_14_method_89_code, prog_14_method_90_code, prog_14_method_95_code, prog_14_method_94_code, prog_14_method_93_code, prog_14_method_91_code, prog_14_method_92_code, prog_14_method_96_code, prog_14_method_97_code, prog_14_method_98_code, prog_14_method_102_code, prog_14_method_100_code, prog_14_method_99_code, prog_14_method_101_code, prog_14_method_103_code, prog_14_method_106_code, prog_14_method_105_code, prog_14_method_104_code], [prog_14_method_110_code, prog_14_method_107_code, prog_14_method_108_code, prog_14_method_109_code, prog_14_method_111_code, prog_14_method_112_code, prog_14_method_141_code, prog_14_method_139_code, prog_14_method_130_code, prog_14_method_114_code, prog_14_method_127_code, prog_14_method_113_code, prog_14_method_126_code, prog_14_method_124_code, prog_14_method_121_code, prog_14_method_120_code, prog_14_method_122_code, prog_14_method_123_code], [prog_14_method_116_code, prog_14_method_125_code, prog_14_method_118_code, prog_14_method_117_code, prog_14_method_119_code, prog_14_method_115_code, prog_14_method_129_code, prog_14_method_131_code, prog_14_method_128_code, prog_14_method_138_code, prog_14_method_134_code, prog_14_method_137_code, prog_14_method_142_code, prog_14_method_132_code, prog_14_method_136_code, prog_14_method_135_code, prog_14_method_133_code, prog_14_method_140_code], [prog_14_method_144_code, prog_14_method_143_code, prog_14_method_145_code, prog_14_method_147_code, prog_14_method_146_code, prog_14_method_148_code, prog_16_method_69_code, prog_16_method_65_code, prog_16_method_70_code, prog_16_method_66_code, prog_16_method_47_code, prog_15_method_49_code]]
def am_B (m : Nat) : ByteArray := match am_nth am_Bs (m / 18) with
  | none => code
  | some g => match am_nth g (m % 18) with
    | none => code
    | some c => c
def am_ret (m : Nat) : Option FieldType := match (am_head m).2.2 with
  | 0 => none
  | 1 => some .int
  | 2 => some .boolean
  | _ => some .long
end
section
/-! every op against its bytes and links -/
def am_tgt (bps : List Nat) (b : Nat) (off : Int) (t : Nat) : Bool := match am_nth bps t with
  | some q => decide ((b : Int) + off = (q : Int))
  | none => false
def am_nx (bps : List Nat) (k b len : Nat) : Bool := match am_nth bps (k + 1) with
  | some q => Nat.beq q (b + len)
  | none => false
def am_tsw (bps : List Nat) (b : Nat) : Int → List Int → List (Int32 × Nat) → Bool
  | _, [], [] => true
  | v, off :: offs, (x, t) :: l => decide (x.toInt = v) && (am_tgt bps b off t && am_tsw bps b (v + 1) offs l)
  | _, _, _ => false
def am_lsw (bps : List Nat) (b : Nat) : List (Int × Int) → List (Int32 × Nat) → Bool
  | [], [] => true
  | (v, off) :: offs, (x, t) :: l => decide (x.toInt = v) && (am_tgt bps b off t && am_lsw bps b offs l)
  | _, _ => false
def am_cf (own ret : Nat) (bps : List Nat) (k b len : Nat) (o : mo) : Bool :=
  match o with
  | (i, a, bb, c, z) => match i with
    | .iconst n => Nat.beq len 1 && (am_nx bps k b 1 && decide (z = vi (Int32.ofInt n)))
    | .bipush n => Nat.beq len 2 && (am_nx bps k b 2 && decide (z = vi (Int8.ofInt n).toInt32))
    | .sipush n => Nat.beq len 3 && (am_nx bps k b 3 && decide (z = vi (Int16.ofInt n).toInt32))
    | .lconst n => Nat.beq len 1 && (am_nx bps k b 1 && decide (z = vl (Int64.ofNat n.val)))
    | .ldc x => Nat.beq len 2 && (am_nx bps k b 2 && (match z with
      | .inl v => am_cis.any (fun e => Nat.beq e.1 own && (Nat.beq e.2.1 x && decide (e.2.2.1 = v)))
      | .inr (.inr (kd, j)) => Nat.beq kd 200 && am_srs.any (fun e => Nat.beq e.1 own && (Nat.beq e.2.1 x && Nat.beq e.2.2.1 j))
      | _ => false))
    | .ldc_w x => Nat.beq len 3 && (am_nx bps k b 3 && (match z with
      | .inl v => am_cis.any (fun e => Nat.beq e.1 own && (Nat.beq e.2.1 x && decide (e.2.2.1 = v)))
      | _ => false))
    | .ldc2_w x => Nat.beq len 3 && (am_nx bps k b 3 && (match z with
      | .inr (.inl v) => am_cls.any (fun e => Nat.beq e.1 own && (Nat.beq e.2.1 x && decide (e.2.2.1 = v)))
      | _ => false))
    | .iload n => Nat.beq len 2 && (am_nx bps k b 2 && Nat.beq n a)
    | .lload n => Nat.beq len 2 && (am_nx bps k b 2 && Nat.beq n a)
    | .aload n => Nat.beq len 2 && (am_nx bps k b 2 && Nat.beq n a)
    | .istore n => Nat.beq len 2 && (am_nx bps k b 2 && Nat.beq n a)
    | .lstore n => Nat.beq len 2 && (am_nx bps k b 2 && Nat.beq n a)
    | .astore n => Nat.beq len 2 && (am_nx bps k b 2 && Nat.beq n a)
    | .iload_n n => Nat.beq len 1 && (am_nx bps k b 1 && Nat.beq n.val a)
    | .lload_n n => Nat.beq len 1 && (am_nx bps k b 1 && Nat.beq n.val a)
    | .aload_n n => Nat.beq len 1 && (am_nx bps k b 1 && Nat.beq n.val a)
    | .istore_n n => Nat.beq len 1 && (am_nx bps k b 1 && Nat.beq n.val a)
    | .lstore_n n => Nat.beq len 1 && (am_nx bps k b 1 && Nat.beq n.val a)
    | .astore_n n => Nat.beq len 1 && (am_nx bps k b 1 && Nat.beq n.val a)
    | .iinc n x => Nat.beq len 3 && (am_nx bps k b 3 && (Nat.beq n a && decide (z = vi (Int32.ofInt x))))
    | .ifCond _ off => Nat.beq len 3 && (am_nx bps k b 3 && am_tgt bps b off a)
    | .if_icmp _ off => Nat.beq len 3 && (am_nx bps k b 3 && am_tgt bps b off a)
    | .goto off => Nat.beq len 3 && am_tgt bps b off a
    | .tableswitch d lo hi offs => match am_nth am_sws a with
      | some (l, t) => am_tgt bps b d t && (decide ((offs.size : Int) = hi - lo + 1) && am_tsw bps b lo offs.toList l)
      | none => false
    | .lookupswitch d ps => match am_nth am_sws a with
      | some (l, t) => am_tgt bps b d t && ((ps.toList.zip (ps.toList.drop 1)).all (fun (a, next) => a.1 < next.1) && am_lsw bps b ps.toList l)
      | none => false
    | .getfield x => Nat.beq len 3 && (am_nx bps k b 3 && (Nat.beq (am_fty a bb) c && am_fls.any (fun e => Nat.beq e.1 own && (Nat.beq e.2.1 x && (Nat.beq e.2.2.1 a && Nat.beq e.2.2.2.1 bb)))))
    | .putfield x => Nat.beq len 3 && (am_nx bps k b 3 && (!(am_T a bb).2.2.2 && (Nat.beq (am_fty a bb) c && am_fls.any (fun e => Nat.beq e.1 own && (Nat.beq e.2.1 x && (Nat.beq e.2.2.1 a && Nat.beq e.2.2.2.1 bb))))))
    | .invokestatic x => Nat.beq len 3 && (am_nx bps k b 3 && ((am_P a).1 && (Nat.beq (am_P a).2.1 bb && (am_mls.any (fun e => Nat.beq e.1 own && (Nat.beq e.2.1 x && Nat.beq e.2.2.1 a)) || am_nls.any (fun e => Nat.beq e.1 own && (Nat.beq e.2.1 x && Nat.beq e.2.2.1 a))))))
    | .invokevirtual x => Nat.beq len 3 && (am_nx bps k b 3 && (if a = 900 then Nat.beq own 9 && Nat.beq x 45 else if a = 901 then Nat.beq own 9 && Nat.beq x 50 else
      !(am_P a).1 && (Nat.beq ((am_P a).2.1 + 1) bb && am_mls.any (fun e => Nat.beq e.1 own && (Nat.beq e.2.1 x && Nat.beq e.2.2.1 a)))))
    | .ireturn => Nat.beq len 1 && ((Nat.beq ret 1 && Nat.beq a 0) || (Nat.beq ret 2 && Nat.beq a 1))
    | .lreturn => Nat.beq len 1 && Nat.beq ret 3
    | .return_ => Nat.beq len 1 && Nat.beq ret 0
    | _ => Nat.beq len 1 && am_nx bps k b 1
def am_chk1 (own ret : Nat) (bytes : ByteArray) (bps : List Nat) (k : Nat) (o : mo) : Bool := match am_nth bps k with
  | none => false
  | some b => match decode bytes b with
    | .ok (i, len) => decide (i = o.1) && am_cf own ret bps k b len o
    | .error _ => false
def am_chks (own ret : Nat) (bytes : ByteArray) (bps : List Nat) : Nat → List mo → Bool
  | _, [] => true
  | k, o :: l => am_chk1 own ret bytes bps k o && am_chks own ret bytes bps (k + 1) l
def am_chk (m : Nat) : Bool := am_chks (am_head m).1 (am_head m).2.2 (am_B m) (am_bp m) 0 (am_prog m)
theorem am_chks_at {own ret : Nat} {bytes : ByteArray} {bps : List Nat} : ∀ (l : List mo) (k0 k : Nat) (o : mo), am_chks own ret bytes bps k0 l = true → am_nth l k = some o → am_chk1 own ret bytes bps (k0 + k) o = true
  | [], _, _, _, _, h => by cases h
  | o :: l, k0, 0, o2, h, h2 => by
    cases h2
    exact (Bool.and_eq_true_iff.mp h).1
  | o :: l, k0, k + 1, o2, h, h2 => by
    have := am_chks_at l (k0 + 1) k o2 (Bool.and_eq_true_iff.mp h).2 h2
    rw [show k0 + 1 + k = k0 + (k + 1) by omega] at this
    exact this
/-- the method's own words stand in the tables -/
def am_wok (m : Nat) : Bool := decide (tables_1[(am_P m).2.2.1]? = some (Cond.code (am_Y m) (am_B m) (am_head m).2.1 (am_ret m))) &&
  (decide (tables_1[(am_P m).2.2.2.1]? = some (if (am_P m).1 then Cond.static (am_Y m) else Cond.instanceMethod (am_Y m))) &&
  ((am_P m).1 || decide (lw_tbl[(am_P m).2.2.2.2.1]? = some (Cond.selects (am_Y m).cls (am_Y m) (am_Y m)))) &&
  (decide (tables_1[(am_P m).2.2.2.2.2]? = some (Cond.initialized (am_Y m).cls)) &&
  (decide ((parseMethodDescriptor (am_Y m).desc).map (fun d => d.parameters.length) = some (am_P m).2.1) &&
  (decide ((am_Y m).cls = am_R (am_head m).1) && decide ((am_Y m).cls ≠ "java/lang/invoke/MethodHandle" ∧ (am_Y m).cls ≠ "java/lang/invoke/VarHandle")))))
end
section
/-! ops against bytes, 0 -/
theorem am_chk_0 : ([0, 1, 2, 3, 4, 5, 6, 7, 8, 9] : List Nat).all am_chk = true := by decide +kernel
theorem am_wok_0 : ([0, 1, 2, 3, 4, 5, 6, 7, 8, 9] : List Nat).all am_wok = true := by decide +kernel
theorem am_chk_10 : ([10, 11, 12, 13, 14, 15, 16, 17, 18, 19] : List Nat).all am_chk = true := by decide +kernel
theorem am_wok_10 : ([10, 11, 12, 13, 14, 15, 16, 17, 18, 19] : List Nat).all am_wok = true := by decide +kernel
theorem am_chk_20 : ([20, 21, 22, 23, 24, 25, 26, 27, 28, 29] : List Nat).all am_chk = true := by decide +kernel
theorem am_wok_20 : ([20, 21, 22, 23, 24, 25, 26, 27, 28, 29] : List Nat).all am_wok = true := by decide +kernel
theorem am_chk_30 : ([30, 31, 32, 33, 34, 35, 36, 37, 38, 39] : List Nat).all am_chk = true := by decide +kernel
theorem am_wok_30 : ([30, 31, 32, 33, 34, 35, 36, 37, 38, 39] : List Nat).all am_wok = true := by decide +kernel
theorem am_chk_40 : ([40, 41, 42, 43, 44, 45, 46, 47, 48, 49] : List Nat).all am_chk = true := by decide +kernel
theorem am_wok_40 : ([40, 41, 42, 43, 44, 45, 46, 47, 48, 49] : List Nat).all am_wok = true := by decide +kernel
theorem am_chk_50 : ([50, 51, 52, 53, 54, 55, 56, 57, 58, 59] : List Nat).all am_chk = true := by decide +kernel
theorem am_wok_50 : ([50, 51, 52, 53, 54, 55, 56, 57, 58, 59] : List Nat).all am_wok = true := by decide +kernel
theorem am_chk_60 : ([60, 61, 62, 63, 64, 65, 66, 67, 68, 69] : List Nat).all am_chk = true := by decide +kernel
theorem am_wok_60 : ([60, 61, 62, 63, 64, 65, 66, 67, 68, 69] : List Nat).all am_wok = true := by decide +kernel
theorem am_chk_70 : ([70, 71, 72, 73, 74, 75, 76, 77, 78, 79] : List Nat).all am_chk = true := by decide +kernel
theorem am_wok_70 : ([70, 71, 72, 73, 74, 75, 76, 77, 78, 79] : List Nat).all am_wok = true := by decide +kernel
end
section
/-! ops against bytes, 1 -/
theorem am_chk_80 : ([80, 81, 82, 83, 84, 85, 86, 87, 88, 89] : List Nat).all am_chk = true := by decide +kernel
theorem am_wok_80 : ([80, 81, 82, 83, 84, 85, 86, 87, 88, 89] : List Nat).all am_wok = true := by decide +kernel
theorem am_chk_90 : ([90, 91, 92, 93, 94, 95, 96, 97, 98, 99] : List Nat).all am_chk = true := by decide +kernel
theorem am_wok_90 : ([90, 91, 92, 93, 94, 95, 96, 97, 98, 99] : List Nat).all am_wok = true := by decide +kernel
theorem am_chk_100 : ([100, 101, 102, 103, 104, 105, 106, 107, 108, 109] : List Nat).all am_chk = true := by decide +kernel
theorem am_wok_100 : ([100, 101, 102, 103, 104, 105, 106, 107, 108, 109] : List Nat).all am_wok = true := by decide +kernel
theorem am_chk_110 : ([110, 111, 112, 113, 114, 115, 116, 117, 118, 119] : List Nat).all am_chk = true := by decide +kernel
theorem am_wok_110 : ([110, 111, 112, 113, 114, 115, 116, 117, 118, 119] : List Nat).all am_wok = true := by decide +kernel
theorem am_chk_120 : ([120, 121, 122, 123, 124, 125, 126, 127, 128, 129] : List Nat).all am_chk = true := by decide +kernel
theorem am_wok_120 : ([120, 121, 122, 123, 124, 125, 126, 127, 128, 129] : List Nat).all am_wok = true := by decide +kernel
theorem am_chk_130 : ([130, 131, 132, 133, 134, 135, 136, 137, 138, 139] : List Nat).all am_chk = true := by decide +kernel
theorem am_wok_130 : ([130, 131, 132, 133, 134, 135, 136, 137, 138, 139] : List Nat).all am_wok = true := by decide +kernel
theorem am_chk_140 : ([140, 141, 142, 143, 144, 145, 146, 147, 148, 149] : List Nat).all am_chk = true := by decide +kernel
theorem am_wok_140 : ([140, 141, 142, 143, 144, 145, 146, 147, 148, 149] : List Nat).all am_wok = true := by decide +kernel
end
section
/-! ops against bytes, 2 -/
theorem am_chk_150 : ([150, 151, 152, 153, 154, 155, 156, 157, 158, 159] : List Nat).all am_chk = true := by decide +kernel
theorem am_wok_150 : ([150, 151, 152, 153, 154, 155, 156, 157, 158, 159] : List Nat).all am_wok = true := by decide +kernel
theorem am_chk_160 : ([160, 161, 162, 163, 164, 165, 166, 167, 168, 169] : List Nat).all am_chk = true := by decide +kernel
theorem am_wok_160 : ([160, 161, 162, 163, 164, 165, 166, 167, 168, 169] : List Nat).all am_wok = true := by decide +kernel
theorem am_chk_170 : ([170, 171, 172, 173, 174, 175, 176, 177, 178, 179] : List Nat).all am_chk = true := by decide +kernel
theorem am_wok_170 : ([170, 171, 172, 173, 174, 175, 176, 177, 178, 179] : List Nat).all am_wok = true := by decide +kernel
theorem am_chk_180 : ([180, 181, 182, 183, 184, 185, 186, 187, 188, 189] : List Nat).all am_chk = true := by decide +kernel
theorem am_wok_180 : ([180, 181, 182, 183, 184, 185, 186, 187, 188, 189] : List Nat).all am_wok = true := by decide +kernel
theorem am_chk_190 : ([190, 191, 192, 193, 194, 195, 196, 197, 198, 199] : List Nat).all am_chk = true := by decide +kernel
theorem am_wok_190 : ([190, 191, 192, 193, 194, 195, 196, 197, 198, 199] : List Nat).all am_wok = true := by decide +kernel
theorem am_chk_200 : ([200, 201, 202, 203, 204, 205, 206, 207, 208, 209] : List Nat).all am_chk = true := by decide +kernel
theorem am_wok_200 : ([200, 201, 202, 203, 204, 205, 206, 207, 208, 209] : List Nat).all am_wok = true := by decide +kernel
theorem am_chk_210 : ([210, 211, 212, 213, 214, 215, 216, 217, 218, 219] : List Nat).all am_chk = true := by decide +kernel
theorem am_wok_210 : ([210, 211, 212, 213, 214, 215, 216, 217, 218, 219] : List Nat).all am_wok = true := by decide +kernel
theorem am_chk_220 : ([220, 221, 222, 223, 224, 225, 226, 227, 228, 229] : List Nat).all am_chk = true := by decide +kernel
theorem am_wok_220 : ([220, 221, 222, 223, 224, 225, 226, 227, 228, 229] : List Nat).all am_wok = true := by decide +kernel
end
section
/-! ops against bytes, 3 -/
theorem am_chk_230 : ([230, 231, 232, 233, 234, 235, 236, 237, 238, 239] : List Nat).all am_chk = true := by decide +kernel
theorem am_wok_230 : ([230, 231, 232, 233, 234, 235, 236, 237, 238, 239] : List Nat).all am_wok = true := by decide +kernel
theorem am_chk_240 : ([240, 241, 242, 243, 244, 245, 246, 247, 248, 249] : List Nat).all am_chk = true := by decide +kernel
theorem am_wok_240 : ([240, 241, 242, 243, 244, 245, 246, 247, 248, 249] : List Nat).all am_wok = true := by decide +kernel
theorem am_chk_250 : ([250, 251, 252, 253, 254, 255, 256, 257, 258, 259] : List Nat).all am_chk = true := by decide +kernel
theorem am_wok_250 : ([250, 251, 252, 253, 254, 255, 256, 257, 258, 259] : List Nat).all am_wok = true := by decide +kernel
theorem am_chk_260 : ([260, 261, 262, 263, 264, 265, 266, 267, 268, 269] : List Nat).all am_chk = true := by decide +kernel
theorem am_wok_260 : ([260, 261, 262, 263, 264, 265, 266, 267, 268, 269] : List Nat).all am_wok = true := by decide +kernel
theorem am_chk_270 : ([270, 271, 272, 273, 274, 275, 276, 277, 278, 279] : List Nat).all am_chk = true := by decide +kernel
theorem am_wok_270 : ([270, 271, 272, 273, 274, 275, 276, 277, 278, 279] : List Nat).all am_wok = true := by decide +kernel
theorem am_chk_280 : ([280, 281, 282, 283, 284, 285, 286, 287, 288, 289] : List Nat).all am_chk = true := by decide +kernel
theorem am_wok_280 : ([280, 281, 282, 283, 284, 285, 286, 287, 288, 289] : List Nat).all am_wok = true := by decide +kernel
theorem am_chk_290 : ([290, 291, 292, 293, 294, 295, 296, 297, 298, 299] : List Nat).all am_chk = true := by decide +kernel
theorem am_wok_290 : ([290, 291, 292, 293, 294, 295, 296, 297, 298, 299] : List Nat).all am_wok = true := by decide +kernel
theorem am_chk_ok {m : Nat} (h : m < 300) : am_chk m = true := by
  by_cases h10 : m < 10
  · exact List.all_eq_true.mp am_chk_0 m (by simp; omega)
  by_cases h20 : m < 20
  · exact List.all_eq_true.mp am_chk_10 m (by simp; omega)
  by_cases h30 : m < 30
  · exact List.all_eq_true.mp am_chk_20 m (by simp; omega)
  by_cases h40 : m < 40
  · exact List.all_eq_true.mp am_chk_30 m (by simp; omega)
  by_cases h50 : m < 50
  · exact List.all_eq_true.mp am_chk_40 m (by simp; omega)
  by_cases h60 : m < 60
  · exact List.all_eq_true.mp am_chk_50 m (by simp; omega)
  by_cases h70 : m < 70
  · exact List.all_eq_true.mp am_chk_60 m (by simp; omega)
  by_cases h80 : m < 80
  · exact List.all_eq_true.mp am_chk_70 m (by simp; omega)
  by_cases h90 : m < 90
  · exact List.all_eq_true.mp am_chk_80 m (by simp; omega)
  by_cases h100 : m < 100
  · exact List.all_eq_true.mp am_chk_90 m (by simp; omega)
  by_cases h110 : m < 110
  · exact List.all_eq_true.mp am_chk_100 m (by simp; omega)
  by_cases h120 : m < 120
  · exact List.all_eq_true.mp am_chk_110 m (by simp; omega)
  by_cases h130 : m < 130
  · exact List.all_eq_true.mp am_chk_120 m (by simp; omega)
  by_cases h140 : m < 140
  · exact List.all_eq_true.mp am_chk_130 m (by simp; omega)
  by_cases h150 : m < 150
  · exact List.all_eq_true.mp am_chk_140 m (by simp; omega)
  by_cases h160 : m < 160
  · exact List.all_eq_true.mp am_chk_150 m (by simp; omega)
  by_cases h170 : m < 170
  · exact List.all_eq_true.mp am_chk_160 m (by simp; omega)
  by_cases h180 : m < 180
  · exact List.all_eq_true.mp am_chk_170 m (by simp; omega)
  by_cases h190 : m < 190
  · exact List.all_eq_true.mp am_chk_180 m (by simp; omega)
  by_cases h200 : m < 200
  · exact List.all_eq_true.mp am_chk_190 m (by simp; omega)
  by_cases h210 : m < 210
  · exact List.all_eq_true.mp am_chk_200 m (by simp; omega)
  by_cases h220 : m < 220
  · exact List.all_eq_true.mp am_chk_210 m (by simp; omega)
  by_cases h230 : m < 230
  · exact List.all_eq_true.mp am_chk_220 m (by simp; omega)
  by_cases h240 : m < 240
  · exact List.all_eq_true.mp am_chk_230 m (by simp; omega)
  by_cases h250 : m < 250
  · exact List.all_eq_true.mp am_chk_240 m (by simp; omega)
  by_cases h260 : m < 260
  · exact List.all_eq_true.mp am_chk_250 m (by simp; omega)
  by_cases h270 : m < 270
  · exact List.all_eq_true.mp am_chk_260 m (by simp; omega)
  by_cases h280 : m < 280
  · exact List.all_eq_true.mp am_chk_270 m (by simp; omega)
  by_cases h290 : m < 290
  · exact List.all_eq_true.mp am_chk_280 m (by simp; omega)
  exact List.all_eq_true.mp am_chk_290 m (by simp; omega)
theorem am_wok_ok {m : Nat} (h : m < 300) : am_wok m = true := by
  by_cases h10 : m < 10
  · exact List.all_eq_true.mp am_wok_0 m (by simp; omega)
  by_cases h20 : m < 20
  · exact List.all_eq_true.mp am_wok_10 m (by simp; omega)
  by_cases h30 : m < 30
  · exact List.all_eq_true.mp am_wok_20 m (by simp; omega)
  by_cases h40 : m < 40
  · exact List.all_eq_true.mp am_wok_30 m (by simp; omega)
  by_cases h50 : m < 50
  · exact List.all_eq_true.mp am_wok_40 m (by simp; omega)
  by_cases h60 : m < 60
  · exact List.all_eq_true.mp am_wok_50 m (by simp; omega)
  by_cases h70 : m < 70
  · exact List.all_eq_true.mp am_wok_60 m (by simp; omega)
  by_cases h80 : m < 80
  · exact List.all_eq_true.mp am_wok_70 m (by simp; omega)
  by_cases h90 : m < 90
  · exact List.all_eq_true.mp am_wok_80 m (by simp; omega)
  by_cases h100 : m < 100
  · exact List.all_eq_true.mp am_wok_90 m (by simp; omega)
  by_cases h110 : m < 110
  · exact List.all_eq_true.mp am_wok_100 m (by simp; omega)
  by_cases h120 : m < 120
  · exact List.all_eq_true.mp am_wok_110 m (by simp; omega)
  by_cases h130 : m < 130
  · exact List.all_eq_true.mp am_wok_120 m (by simp; omega)
  by_cases h140 : m < 140
  · exact List.all_eq_true.mp am_wok_130 m (by simp; omega)
  by_cases h150 : m < 150
  · exact List.all_eq_true.mp am_wok_140 m (by simp; omega)
  by_cases h160 : m < 160
  · exact List.all_eq_true.mp am_wok_150 m (by simp; omega)
  by_cases h170 : m < 170
  · exact List.all_eq_true.mp am_wok_160 m (by simp; omega)
  by_cases h180 : m < 180
  · exact List.all_eq_true.mp am_wok_170 m (by simp; omega)
  by_cases h190 : m < 190
  · exact List.all_eq_true.mp am_wok_180 m (by simp; omega)
  by_cases h200 : m < 200
  · exact List.all_eq_true.mp am_wok_190 m (by simp; omega)
  by_cases h210 : m < 210
  · exact List.all_eq_true.mp am_wok_200 m (by simp; omega)
  by_cases h220 : m < 220
  · exact List.all_eq_true.mp am_wok_210 m (by simp; omega)
  by_cases h230 : m < 230
  · exact List.all_eq_true.mp am_wok_220 m (by simp; omega)
  by_cases h240 : m < 240
  · exact List.all_eq_true.mp am_wok_230 m (by simp; omega)
  by_cases h250 : m < 250
  · exact List.all_eq_true.mp am_wok_240 m (by simp; omega)
  by_cases h260 : m < 260
  · exact List.all_eq_true.mp am_wok_250 m (by simp; omega)
  by_cases h270 : m < 270
  · exact List.all_eq_true.mp am_wok_260 m (by simp; omega)
  by_cases h280 : m < 280
  · exact List.all_eq_true.mp am_wok_270 m (by simp; omega)
  by_cases h290 : m < 290
  · exact List.all_eq_true.mp am_wok_280 m (by simp; omega)
  exact List.all_eq_true.mp am_wok_290 m (by simp; omega)
end
section
/-! cuts; one op of the small machine -/
def am_kutss : List (List (List (Nat × List Bool))) := [[[(5, [true, true])], [], [(9, [true, true, false]), (19, [true, true, true])], [(26, [true, true, true, true, true])], [(13, [true, true, true])], [(4, [true, true, true])], [], [(12, [true, true, true, true])], [(46, [true, true, true, true, true, true, true, false])], [], [(35, [true, true, true, true, true, true, true])], [(9, [true, true, true, true, true, true, true])], [], [(2, [true, true, true])], [(2, [true, true, true])], [(16, [true, true, true]), (31, [true, true, true])], [], [(4, [true, true, true, true])]], [[(4, [true, true, true, true])], [], [], [], [(2, [true, true, true, true, true, false])], [], [(8, [true, true])], [], [], [], [], [(14, [true, true, true, true, false])], [], [], [(46, [true, true, true, false, false])], [], [], [(12, [true, true, true])]], [[(2, [true, true])], [(11, [true, false, true, false, false]), (29, [true, false, true, false, true])], [], [(6, [true, true, true, true, true, true])], [], [], [], [], [], [], [], [(8, [true, true, true, true, true, true, true, true, true])], [], [(4, [true, true, true, true, true, true])], [], [], [], [(2, [true, true])]], [[], [(3, [true])], [(28, [true, true, true, true, true])], [(15, [true, true, true, true, true, true, false])], [(31, [true, true, true, true])], [], [(5, [true, true, true])], [(5, [true, true, true])], [], [], [], [(5, [true, true, true, false, false])], [(5, [true, true, true, false, false])], [], [], [], [], []], [[], [], [], [(6, [true, true, true, true, true, true])], [(15, [true, true, true, true, false, true, true, true])], [(2, [true, true, true])], [], [(4, [true, true, true])], [(9, [true, true, true, false]), (34, [true, false, true, true])], [], [(21, [true, true, true, true, true])], [(4, [true, true, true, true, true, false])], [(5, [true, true, true])], [(2, [true, true, true, false]), (10, [true, true, true, true])], [], [(4, [true, true, true])], [(5, [true, true, false, false, false]), (29, [true, true, false, true, true])], []], [[(2, [true, true, true])], [], [(21, [true, true, true]), (72, [true, true, true])], [], [(12, [true, true, true, true, true, false])], [], [(38, [true, true, true])], [(33, [true, true, true, true])], [], [], [], [], [], [], [(4, [true, true, true, true, true])], [], [], []], [[], [], [], [], [], [], [], [], [], [], [], [], [], [], [], [], [(21, [true, true, true, true, true, true, true, false, false]), (30, [true, true, true, true, true, true, true, true, true])], [(4, [true, true, true, true, true])]], [[(10, [true, true, true, true, true, false]), (17, [true, true, true, true, true, true])], [], [], [], [(15, [true, true, true, true, true, false])], [(33, [true, false, true, true, true])], [(2, [true, true])], [], [], [], [(17, [true, true, true, true, true])], [], [], [], [], [], [], []], [[], [], [], [(18, [true, true, true, true, true, true, true, false])], [], [(34, [true, true]), (44, [true, false])], [(0, [true])], [], [], [], [(17, [true, true, true, false]), (40, [true, true, false, true])], [], [], [], [], [(30, [true, true, false])], [], [(2, [true, true, false, true])]], [[(2, [true, true, false, true])], [(18, [true, false, true, true, true, false, false]), (79, [true, false, true, false, false, true, false])], [], [], [], [], [(49, [true, false, true, true, false, true, false, false]), (64, [true, false, true, true, false, true, true, true])], [(26, [true, true, true, true, true])], [], [], [], [(16, [true, false, true, true, false])], [], [], [(2, [true, true]), (19, [true, true]), (46, [true, true]), (63, [true, true]), (80, [true, true]), (97, [true, true]), (114, [true, true])], [], [], []], [[], [(16, [true, true, false, true, true]), (32, [true, true, false, true, true])], [], [], [], [], [(2, [true, true, true, true])], [], [], [(6, [false, false, true, true, false, true, true, false]), (25, [false, false, true, true, false, false, true, false])], [], [], [(2, [true, true, true])], [], [], [], [], []], [[], [], [], [], [(5, [true, true, true])], [], [(5, [true, true, false, false]), (51, [true, true, true, false])], [(2, [true, true, true, true, false, false, false, false]), (18, [true, true, true, true, true, false, false, false]), (46, [true, true, true, true, true, true, true, true])], [(13, [true, true, false, true, true])], [], [], [], [(7, [true, true, true, true])], [], [(2, [true, true, true, true, true])], [], [], []], [[], [], [], [], [(11, [true, false, true, true, true])], [(26, [true, true, true, true, true, true])], [(7, [true, true, true, true, true, true]), (17, [true, true, true, true, true, true])], [(29, [true, true, false, true, true])], [], [], [(5, [true, true, true])], [(2, [true, true, true, true])], [(8, [true, false, true])], [(2, [true, true, true, true, false]), (7, [true, true, true, true, true])], [(3, [true, true, true, true])], [(19, [true, true, true, true, true, true, true, false, false]), (27, [true, true, true, true, true, true, true, true, true]), (67, [false, false, false, false, false, false, true, true, false])], [], [(7, [true, true, true, true, true, false]), (13, [true, true, true, true, true, true])]], [[], [], [], [(20, [true, true, true]), (41, [true, true, true])], [], [], [], [(12, [true, true, true, true, false])], [(25, [true, true, true, true, false])], [(12, [true, true, true, true])], [], [(2, [true, true, true, false, false]), (10, [true, true, true, true, true])], [], [(5, [true, true])], [], [(12, [true, true, true, true])], [(4, [true, true, true, false, false]), (17, [true, true, true, true, true])], []], [[(12, [true, true, true, true])], [(4, [true, true, true])], [(4, [true, false, true, true])], [(5, [true, true, true])], [(29, [true, true, true, true, true, true, true])], [(16, [true, true, true, true, true])], [(86, [true, true, true])], [], [(2, [true, true, false]), (55, [true, false, false])], [], [], [], [(9, [true, true, true]), (27, [true, true, false])], [(2, [true, true, false, false, false, false])], [], [], [], [(0, [true])]], [[], [(0, [true, false]), (82, [true, true]), (128, [true, true])], [(5, [true, true])], [], [(0, [true])], [], [(0, [true])], [(0, [true]), (16, [true]), (43, [true]), (69, [true])], [(2, [true, true])], [(5, [true, true, true, false])], [], [], [(4, [true, true, false, true, true, true])], [], [], [], [], []], [[(8, [true, true])], [(4, [true, true, true, true])], [], [(25, [true, true, true])], [(50, [true, true, true, true])], [], [], [], [], [], [], []]]
def am_kuts (m : Nat) : List (Nat × List Bool) := match am_nth am_kutss (m / 18) with
  | none => []
  | some g => match am_nth g (m % 18) with
    | none => []
    | some c => c
/-- of a family: its type, its length; by halves, so that a look costs little -/
def af (k : Nat) : Nat × Nat := (bif Nat.blt k 56 then (bif Nat.blt k 28 then (bif Nat.blt k 14 then (bif Nat.blt k 7 then (bif Nat.blt k 3 then (bif Nat.blt k 1 then (bif Nat.beq k 0 then (11, 11) else (99, 0)) else (bif Nat.blt k 2 then (bif Nat.beq k 1 then (9, 7) else (99, 0)) else (bif Nat.beq k 2 then (22, 1600) else (99, 0)))) else (bif Nat.blt k 5 then (bif Nat.blt k 4 then (bif Nat.beq k 3 then (3, 2) else (99, 0)) else (bif Nat.beq k 4 then (2, 16) else (99, 0))) else (bif Nat.blt k 6 then (bif Nat.beq k 5 then (20, 20) else (99, 0)) else (bif Nat.beq k 6 then (20, 20) else (99, 0))))) else (bif Nat.blt k 10 then (bif Nat.blt k 8 then (bif Nat.beq k 7 then (26, 6) else (99, 0)) else (bif Nat.blt k 9 then (bif Nat.beq k 8 then (20, 3) else (99, 0)) else (bif Nat.beq k 9 then (20, 6) else (99, 0)))) else (bif Nat.blt k 12 then (bif Nat.blt k 11 then (bif Nat.beq k 10 then (26, 6) else (99, 0)) else (bif Nat.beq k 11 then (20, 3) else (99, 0))) else (bif Nat.blt k 13 then (bif Nat.beq k 12 then (26, 16) else (99, 0)) else (bif Nat.beq k 13 then (20, 3) else (99, 0)))))) else (bif Nat.blt k 21 then (bif Nat.blt k 17 then (bif Nat.blt k 15 then (bif Nat.beq k 14 then (25, 7) else (99, 0)) else (bif Nat.blt k 16 then (bif Nat.beq k 15 then (26, 8) else (99, 0)) else (bif Nat.beq k 16 then (20, 8) else (99, 0)))) else (bif Nat.blt k 19 then (bif Nat.blt k 18 then (bif Nat.beq k 17 then (20, 8) else (99, 0)) else (bif Nat.beq k 18 then (10, 5) else (99, 0))) else (bif Nat.blt k 20 then (bif Nat.beq k 19 then (20, 4) else (99, 0)) else (bif Nat.beq k 20 then (4, 4) else (99, 0))))) else (bif Nat.blt k 24 then (bif Nat.blt k 22 then (bif Nat.beq k 21 then (20, 16) else (99, 0)) else (bif Nat.blt k 23 then (bif Nat.beq k 22 then (23, 16) else (99, 0)) else (bif Nat.beq k 23 then (7, 5) else (99, 0)))) else (bif Nat.blt k 26 then (bif Nat.blt k 25 then (bif Nat.beq k 24 then (20, 7) else (99, 0)) else (bif Nat.beq k 25 then (20, 7) else (99, 0))) else (bif Nat.blt k 27 then (bif Nat.beq k 26 then (20, 17) else (99, 0)) else (bif Nat.beq k 27 then (5, 8) else (99, 0))))))) else (bif Nat.blt k 42 then (bif Nat.blt k 35 then (bif Nat.blt k 31 then (bif Nat.blt k 29 then (bif Nat.beq k 28 then (20, 6) else (99, 0)) else (bif Nat.blt k 30 then (bif Nat.beq k 29 then (26, 6) else (99, 0)) else (bif Nat.beq k 30 then (20, 4) else (99, 0)))) else (bif Nat.blt k 33 then (bif Nat.blt k 32 then (bif Nat.beq k 31 then (26, 6) else (99, 0)) else (bif Nat.beq k 32 then (20, 4) else (99, 0))) else (bif Nat.blt k 34 then (bif Nat.beq k 33 then (1, 4) else (99, 0)) else (bif Nat.beq k 34 then (8, 3) else (99, 0))))) else (bif Nat.blt k 38 then (bif Nat.blt k 36 then (bif Nat.beq k 35 then (20, 7) else (99, 0)) else (bif Nat.blt k 37 then (bif Nat.beq k 36 then (0, 7) else (99, 0)) else (bif Nat.beq k 37 then (20, 3) else (99, 0)))) else (bif Nat.blt k 40 then (bif Nat.blt k 39 then (bif Nat.beq k 38 then (26, 3) else (99, 0)) else (bif Nat.beq k 39 then (20, 28) else (99, 0))) else (bif Nat.blt k 41 then (bif Nat.beq k 40 then (26, 3) else (99, 0)) else (bif Nat.beq k 41 then (20, 7) else (99, 0)))))) else (bif Nat.blt k 49 then (bif Nat.blt k 45 then (bif Nat.blt k 43 then (bif Nat.beq k 42 then (20, 7) else (99, 0)) else (bif Nat.blt k 44 then (bif Nat.beq k 43 then (23, 7) else (99, 0)) else (bif Nat.beq k 44 then (6, 6) else (99, 0)))) else (bif Nat.blt k 47 then (bif Nat.blt k 46 then (bif Nat.beq k 45 then (20, 8) else (99, 0)) else (bif Nat.beq k 46 then (20, 6) else (99, 0))) else (bif Nat.blt k 48 then (bif Nat.beq k 47 then (20, 8) else (99, 0)) else (bif Nat.beq k 48 then (12, 89) else (99, 0))))) else (bif Nat.blt k 52 then (bif Nat.blt k 50 then (bif Nat.beq k 49 then (20, 1600) else (99, 0)) else (bif Nat.blt k 51 then (bif Nat.beq k 50 then (20, 6) else (99, 0)) else (bif Nat.beq k 51 then (24, 4) else (99, 0)))) else (bif Nat.blt k 54 then (bif Nat.blt k 53 then (bif Nat.beq k 52 then (24, 4) else (99, 0)) else (bif Nat.beq k 53 then (24, 4) else (99, 0))) else (bif Nat.blt k 55 then (bif Nat.beq k 54 then (24, 4) else (99, 0)) else (bif Nat.beq k 55 then (24, 6) else (99, 0)))))))) else (bif Nat.blt k 84 then (bif Nat.blt k 70 then (bif Nat.blt k 63 then (bif Nat.blt k 59 then (bif Nat.blt k 57 then (bif Nat.beq k 56 then (24, 5) else (99, 0)) else (bif Nat.blt k 58 then (bif Nat.beq k 57 then (24, 4) else (99, 0)) else (bif Nat.beq k 58 then (24, 3) else (99, 0)))) else (bif Nat.blt k 61 then (bif Nat.blt k 60 then (bif Nat.beq k 59 then (24, 3) else (99, 0)) else (bif Nat.beq k 60 then (24, 4) else (99, 0))) else (bif Nat.blt k 62 then (bif Nat.beq k 61 then (24, 4) else (99, 0)) else (bif Nat.beq k 62 then (24, 7) else (99, 0))))) else (bif Nat.blt k 66 then (bif Nat.blt k 64 then (bif Nat.beq k 63 then (24, 3) else (99, 0)) else (bif Nat.blt k 65 then (bif Nat.beq k 64 then (24, 4) else (99, 0)) else (bif Nat.beq k 65 then (24, 4) else (99, 0)))) else (bif Nat.blt k 68 then (bif Nat.blt k 67 then (bif Nat.beq k 66 then (24, 7) else (99, 0)) else (bif Nat.beq k 67 then (24, 4) else (99, 0))) else (bif Nat.blt k 69 then (bif Nat.beq k 68 then (20, 10) else (99, 0)) else (bif Nat.beq k 69 then (21, 40) else (99, 0)))))) else (bif Nat.blt k 77 then (bif Nat.blt k 73 then (bif Nat.blt k 71 then (bif Nat.beq k 70 then (20, 40) else (99, 0)) else (bif Nat.blt k 72 then (bif Nat.beq k 71 then (21, 14) else (99, 0)) else (bif Nat.beq k 72 then (20, 36) else (99, 0)))) else (bif Nat.blt k 75 then (bif Nat.blt k 74 then (bif Nat.beq k 73 then (20, 96) else (99, 0)) else (bif Nat.beq k 74 then (20, 98) else (99, 0))) else (bif Nat.blt k 76 then (bif Nat.beq k 75 then (20, 144) else (99, 0)) else (bif Nat.beq k 76 then (20, 4) else (99, 0))))) else (bif Nat.blt k 80 then (bif Nat.blt k 78 then (bif Nat.beq k 77 then (20, 8) else (99, 0)) else (bif Nat.blt k 79 then (bif Nat.beq k 78 then (20, 8) else (99, 0)) else (bif Nat.beq k 79 then (20, 16) else (99, 0)))) else (bif Nat.blt k 82 then (bif Nat.blt k 81 then (bif Nat.beq k 80 then (20, 16) else (99, 0)) else (bif Nat.beq k 81 then (20, 16) else (99, 0))) else (bif Nat.blt k 83 then (bif Nat.beq k 82 then (20, 96) else (99, 0)) else (bif Nat.beq k 83 then (20, 3) else (99, 0))))))) else (bif Nat.blt k 98 then (bif Nat.blt k 91 then (bif Nat.blt k 87 then (bif Nat.blt k 85 then (bif Nat.beq k 84 then (20, 5) else (99, 0)) else (bif Nat.blt k 86 then (bif Nat.beq k 85 then (20, 3) else (99, 0)) else (bif Nat.beq k 86 then (20, 3) else (99, 0)))) else (bif Nat.blt k 89 then (bif Nat.blt k 88 then (bif Nat.beq k 87 then (20, 3) else (99, 0)) else (bif Nat.beq k 88 then (20, 7) else (99, 0))) else (bif Nat.blt k 90 then (bif Nat.beq k 89 then (20, 7) else (99, 0)) else (bif Nat.beq k 90 then (24, 5) else (99, 0))))) else (bif Nat.blt k 94 then (bif Nat.blt k 92 then (bif Nat.beq k 91 then (24, 4) else (99, 0)) else (bif Nat.blt k 93 then (bif Nat.beq k 92 then (24, 5) else (99, 0)) else (bif Nat.beq k 93 then (24, 5) else (99, 0)))) else (bif Nat.blt k 96 then (bif Nat.blt k 95 then (bif Nat.beq k 94 then (24, 4) else (99, 0)) else (bif Nat.beq k 95 then (24, 5) else (99, 0))) else (bif Nat.blt k 97 then (bif Nat.beq k 96 then (24, 3) else (99, 0)) else (bif Nat.beq k 97 then (24, 3) else (99, 0)))))) else (bif Nat.blt k 105 then (bif Nat.blt k 101 then (bif Nat.blt k 99 then (bif Nat.beq k 98 then (24, 2) else (99, 0)) else (bif Nat.blt k 100 then (bif Nat.beq k 99 then (24, 3) else (99, 0)) else (bif Nat.beq k 100 then (24, 3) else (99, 0)))) else (bif Nat.blt k 103 then (bif Nat.blt k 102 then (bif Nat.beq k 101 then (24, 3) else (99, 0)) else (bif Nat.beq k 102 then (24, 6) else (99, 0))) else (bif Nat.blt k 104 then (bif Nat.beq k 103 then (24, 5) else (99, 0)) else (bif Nat.beq k 104 then (24, 6) else (99, 0))))) else (bif Nat.blt k 108 then (bif Nat.blt k 106 then (bif Nat.beq k 105 then (24, 4) else (99, 0)) else (bif Nat.blt k 107 then (bif Nat.beq k 106 then (24, 2) else (99, 0)) else (bif Nat.beq k 107 then (24, 3) else (99, 0)))) else (bif Nat.blt k 110 then (bif Nat.blt k 109 then (bif Nat.beq k 108 then (20, 1700) else (99, 0)) else (bif Nat.beq k 109 then (20, 1700) else (99, 0))) else (bif Nat.blt k 111 then (bif Nat.beq k 110 then (21, 1700) else (99, 0)) else (bif Nat.beq k 111 then (20, 17) else (99, 0)))))))))
def art0 (q : Nat) : Option (Nat × Nat) := (bif Nat.blt q 6160 then (bif Nat.blt q 2944 then (bif Nat.blt q 385 then (bif Nat.blt q 6 then (bif Nat.blt q 3 then (bif Nat.blt q 1 then (bif Nat.beq q 0 then some (1, 1) else none) else (bif Nat.blt q 2 then (bif Nat.beq q 1 then some (3, 1) else none) else (bif Nat.beq q 2 then some (20, 1) else none))) else (bif Nat.blt q 4 then (bif Nat.beq q 3 then some (23, 1) else none) else (bif Nat.blt q 5 then (bif Nat.beq q 4 then some (27, 1) else none) else (bif Nat.beq q 5 then some (33, 1) else none)))) else (bif Nat.blt q 9 then (bif Nat.blt q 7 then (bif Nat.beq q 6 then some (34, 1) else none) else (bif Nat.blt q 8 then (bif Nat.beq q 7 then some (36, 1) else none) else (bif Nat.beq q 8 then some (44, 1) else none))) else (bif Nat.blt q 128 then (bif Nat.blt q 10 then (bif Nat.beq q 9 then some (46, 1) else none) else (bif Nat.beq q 10 then some (47, 1) else none)) else (bif Nat.blt q 384 then (bif Nat.beq q 128 then some (2, 1) else none) else (bif Nat.beq q 384 then some (1, 1) else none))))) else (bif Nat.blt q 518 then (bif Nat.blt q 514 then (bif Nat.blt q 512 then (bif Nat.beq q 385 then some (4, 3) else none) else (bif Nat.blt q 513 then (bif Nat.beq q 512 then some (5, 0) else none) else (bif Nat.beq q 513 then some (6, 0) else none))) else (bif Nat.blt q 516 then (bif Nat.blt q 515 then (bif Nat.beq q 514 then some (7, 0) else none) else (bif Nat.beq q 515 then some (9, 0) else none)) else (bif Nat.blt q 517 then (bif Nat.beq q 516 then some (10, 0) else none) else (bif Nat.beq q 517 then some (12, 0) else none)))) else (bif Nat.blt q 2304 then (bif Nat.blt q 519 then (bif Nat.beq q 518 then some (14, 0) else none) else (bif Nat.blt q 520 then (bif Nat.beq q 519 then some (15, 0) else none) else (bif Nat.beq q 520 then some (17, 0) else none))) else (bif Nat.blt q 2561 then (bif Nat.blt q 2560 then (bif Nat.beq q 2304 then some (19, 0) else none) else (bif Nat.beq q 2560 then some (21, 1) else none)) else (bif Nat.blt q 2562 then (bif Nat.beq q 2561 then some (22, 1) else none) else (bif Nat.beq q 2562 then some (4, 2) else none)))))) else (bif Nat.blt q 4611 then (bif Nat.blt q 3459 then (bif Nat.blt q 3456 then (bif Nat.blt q 2945 then (bif Nat.beq q 2944 then some (24, 1) else none) else (bif Nat.blt q 2946 then (bif Nat.beq q 2945 then some (25, 1) else none) else (bif Nat.beq q 2946 then some (26, 1) else none))) else (bif Nat.blt q 3457 then (bif Nat.beq q 3456 then some (20, 1) else none) else (bif Nat.blt q 3458 then (bif Nat.beq q 3457 then some (28, 1) else none) else (bif Nat.beq q 3458 then some (29, 1) else none)))) else (bif Nat.blt q 4353 then (bif Nat.blt q 4224 then (bif Nat.beq q 3459 then some (31, 1) else none) else (bif Nat.blt q 4352 then (bif Nat.beq q 4224 then some (20, 1) else none) else (bif Nat.beq q 4352 then some (20, 1) else none))) else (bif Nat.blt q 4609 then (bif Nat.blt q 4608 then (bif Nat.beq q 4353 then some (35, 1) else none) else (bif Nat.beq q 4608 then some (20, 1) else none)) else (bif Nat.blt q 4610 then (bif Nat.beq q 4609 then some (37, 1) else none) else (bif Nat.beq q 4610 then some (38, 1) else none))))) else (bif Nat.blt q 6153 then (bif Nat.blt q 5632 then (bif Nat.blt q 4612 then (bif Nat.beq q 4611 then some (40, 1) else none) else (bif Nat.blt q 4613 then (bif Nat.beq q 4612 then some (42, 1) else none) else (bif Nat.beq q 4613 then some (43, 1) else none))) else (bif Nat.blt q 5634 then (bif Nat.blt q 5633 then (bif Nat.beq q 5632 then some (1, 1) else none) else (bif Nat.beq q 5633 then some (20, 1) else none)) else (bif Nat.blt q 6144 then (bif Nat.beq q 5634 then some (45, 1) else none) else (bif Nat.beq q 6144 then some (49, 1) else none)))) else (bif Nat.blt q 6156 then (bif Nat.blt q 6154 then (bif Nat.beq q 6153 then some (50, 1) else none) else (bif Nat.blt q 6155 then (bif Nat.beq q 6154 then some (51, 1) else none) else (bif Nat.beq q 6155 then some (52, 1) else none))) else (bif Nat.blt q 6158 then (bif Nat.blt q 6157 then (bif Nat.beq q 6156 then some (53, 1) else none) else (bif Nat.beq q 6157 then some (54, 1) else none)) else (bif Nat.blt q 6159 then (bif Nat.beq q 6158 then some (55, 1) else none) else (bif Nat.beq q 6159 then some (56, 1) else none))))))) else (bif Nat.blt q 6196 then (bif Nat.blt q 6174 then (bif Nat.blt q 6166 then (bif Nat.blt q 6163 then (bif Nat.blt q 6161 then (bif Nat.beq q 6160 then some (57, 1) else none) else (bif Nat.blt q 6162 then (bif Nat.beq q 6161 then some (58, 1) else none) else (bif Nat.beq q 6162 then some (59, 1) else none))) else (bif Nat.blt q 6164 then (bif Nat.beq q 6163 then some (60, 1) else none) else (bif Nat.blt q 6165 then (bif Nat.beq q 6164 then some (61, 1) else none) else (bif Nat.beq q 6165 then some (62, 1) else none)))) else (bif Nat.blt q 6169 then (bif Nat.blt q 6167 then (bif Nat.beq q 6166 then some (63, 1) else none) else (bif Nat.blt q 6168 then (bif Nat.beq q 6167 then some (64, 1) else none) else (bif Nat.beq q 6168 then some (65, 1) else none))) else (bif Nat.blt q 6172 then (bif Nat.blt q 6170 then (bif Nat.beq q 6169 then some (66, 1) else none) else (bif Nat.beq q 6170 then some (67, 1) else none)) else (bif Nat.blt q 6173 then (bif Nat.beq q 6172 then some (68, 1) else none) else (bif Nat.beq q 6173 then some (69, 1) else none))))) else (bif Nat.blt q 6184 then (bif Nat.blt q 6177 then (bif Nat.blt q 6175 then (bif Nat.beq q 6174 then some (70, 1) else none) else (bif Nat.blt q 6176 then (bif Nat.beq q 6175 then some (71, 1) else none) else (bif Nat.beq q 6176 then some (72, 1) else none))) else (bif Nat.blt q 6179 then (bif Nat.blt q 6178 then (bif Nat.beq q 6177 then some (73, 1) else none) else (bif Nat.beq q 6178 then some (74, 1) else none)) else (bif Nat.blt q 6180 then (bif Nat.beq q 6179 then some (75, 1) else none) else (bif Nat.beq q 6180 then some (76, 1) else none)))) else (bif Nat.blt q 6189 then (bif Nat.blt q 6185 then (bif Nat.beq q 6184 then some (77, 1) else none) else (bif Nat.blt q 6187 then (bif Nat.beq q 6185 then some (78, 1) else none) else (bif Nat.beq q 6187 then some (79, 1) else none))) else (bif Nat.blt q 6193 then (bif Nat.blt q 6190 then (bif Nat.beq q 6189 then some (80, 1) else none) else (bif Nat.beq q 6190 then some (81, 1) else none)) else (bif Nat.blt q 6195 then (bif Nat.beq q 6193 then some (82, 1) else none) else (bif Nat.beq q 6195 then some (83, 1) else none)))))) else (bif Nat.blt q 6211 then (bif Nat.blt q 6204 then (bif Nat.blt q 6199 then (bif Nat.blt q 6197 then (bif Nat.beq q 6196 then some (84, 1) else none) else (bif Nat.blt q 6198 then (bif Nat.beq q 6197 then some (85, 1) else none) else (bif Nat.beq q 6198 then some (86, 1) else none))) else (bif Nat.blt q 6202 then (bif Nat.blt q 6200 then (bif Nat.beq q 6199 then some (87, 1) else none) else (bif Nat.beq q 6200 then some (88, 1) else none)) else (bif Nat.blt q 6203 then (bif Nat.beq q 6202 then some (89, 1) else none) else (bif Nat.beq q 6203 then some (90, 1) else none)))) else (bif Nat.blt q 6207 then (bif Nat.blt q 6205 then (bif Nat.beq q 6204 then some (91, 1) else none) else (bif Nat.blt q 6206 then (bif Nat.beq q 6205 then some (92, 1) else none) else (bif Nat.beq q 6206 then some (93, 1) else none))) else (bif Nat.blt q 6209 then (bif Nat.blt q 6208 then (bif Nat.beq q 6207 then some (94, 1) else none) else (bif Nat.beq q 6208 then some (95, 1) else none)) else (bif Nat.blt q 6210 then (bif Nat.beq q 6209 then some (96, 1) else none) else (bif Nat.beq q 6210 then some (97, 1) else none))))) else (bif Nat.blt q 6218 then (bif Nat.blt q 6214 then (bif Nat.blt q 6212 then (bif Nat.beq q 6211 then some (98, 1) else none) else (bif Nat.blt q 6213 then (bif Nat.beq q 6212 then some (99, 1) else none) else (bif Nat.beq q 6213 then some (100, 1) else none))) else (bif Nat.blt q 6216 then (bif Nat.blt q 6215 then (bif Nat.beq q 6214 then some (101, 1) else none) else (bif Nat.beq q 6215 then some (102, 1) else none)) else (bif Nat.blt q 6217 then (bif Nat.beq q 6216 then some (103, 1) else none) else (bif Nat.beq q 6217 then some (104, 1) else none)))) else (bif Nat.blt q 6221 then (bif Nat.blt q 6219 then (bif Nat.beq q 6218 then some (105, 1) else none) else (bif Nat.blt q 6220 then (bif Nat.beq q 6219 then some (106, 1) else none) else (bif Nat.beq q 6220 then some (107, 1) else none))) else (bif Nat.blt q 6227 then (bif Nat.blt q 6223 then (bif Nat.beq q 6221 then some (108, 1) else none) else (bif Nat.beq q 6223 then some (109, 1) else none)) else (bif Nat.blt q 6231 then (bif Nat.beq q 6227 then some (110, 1) else none) else (bif Nat.beq q 6231 then some (111, 1) else none))))))))
def art (k s : Nat) : Option (Nat × Nat) := bif Nat.blt s 128 then art0 (k * 128 + s) else none
/-- what a field of references holds -/
def ar (k s i x y : Nat) : Option (Nat × Nat) := match art k s with
  | some (k2, 0) => some (k2, i)
  | some (k2, 1) => some (k2, 0)
  | some (k2, 2) => some (k2, x)
  | some (k2, 3) => some (k2, y)
  | _ => none
def aet (k : Nat) : Option (Nat × Nat) := (bif Nat.blt k 15 then (bif Nat.blt k 12 then (bif Nat.blt k 10 then (bif Nat.beq k 7 then some (8, 6) else none) else (bif Nat.beq k 10 then some (11, 6) else none)) else (bif Nat.blt k 14 then (bif Nat.beq k 12 then some (13, 16) else none) else (bif Nat.beq k 14 then some (18, 7) else none))) else (bif Nat.blt k 31 then (bif Nat.blt k 29 then (bif Nat.beq k 15 then some (16, 8) else none) else (bif Nat.beq k 29 then some (30, 6) else none)) else (bif Nat.blt k 38 then (bif Nat.beq k 31 then some (32, 6) else none) else (bif Nat.blt k 40 then (bif Nat.beq k 38 then some (39, 3) else none) else (bif Nat.beq k 40 then some (41, 3) else none)))))
/-- what an array of references holds -/
def ae (k i j : Nat) : Option (Nat × Nat) := match aet k with
  | some (k2, n) => some (k2, j + i * n)
  | _ => none
def am_ui (c : Nat → Nat → Nat → Int32) (k i j : Nat) (v : Int32) : Nat → Nat → Nat → Int32 := fun k2 i2 j2 => if k2 = k ∧ i2 = i ∧ j2 = j then v else c k2 i2 j2
def am_ul (l : Nat → Nat → Int64) (k j : Nat) (v : Int64) : Nat → Nat → Int64 := fun k2 j2 => if k2 = k ∧ j2 = j then v else l k2 j2
def am_ld : ml → Nat → Option mv
  | [], _ => none
  | v :: _, 0 => v
  | _ :: l, n + 1 => am_ld l n
def am_set : ml → Nat → Option mv → ml
  | [], _, _ => []
  | _ :: l, 0, v => v :: l
  | a :: l, n + 1, v => a :: am_set l n v
/-- the place ahead: a long there is no more -/
def am_kill : ml → Nat → ml
  | ls, 0 => ls
  | ls, n + 1 => match am_ld ls n with
    | some (.inr (.inl _)) => am_set ls n none
    | _ => ls
def am_s1 (ls : ml) (a : Nat) (v : mv) : ml := am_set (am_kill ls a) a (some v)
def am_s2 (ls : ml) (a : Nat) (v : mv) : ml := am_set (am_set (am_kill ls a) a (some v)) (a + 1) none
def am_mask : List Bool → ml → ml
  | b :: bs, v :: vs => (match b with | true => v | false => none) :: am_mask bs vs
  | _, _ => []
def am_cat1 (v : mv) : Nat := match v with
  | .inr (.inl _) => 2
  | _ => 1
def am_cat : List mv → Nat
  | [] => 0
  | v :: l => am_cat1 v + am_cat l
def am_swf {α : Type} (x : Int32) : List (Int32 × Nat) → Nat → (Nat → α) → α
  | [], d, f => f d
  | (v, t) :: l, d, f => if x = v then f t else am_swf x l d f
/-- behind a call that answers nothing, an int, a long -/
def am_bv (o : Option mr) (f : mg → Option mr) : Option mr := match o with
  | some (none, g) => f g
  | _ => none
def am_bi (o : Option mr) (f : Int32 → mg → Option mr) : Option mr := match o with
  | some (some (.inl v), g) => f v g
  | _ => none
def am_bl (o : Option mr) (f : Int64 → mg → Option mr) : Option mr := match o with
  | some (some (.inr (.inl v)), g) => f v g
  | _ => none
def am_inv (K : Nat → ml → List mv → mg → Option mr) (C : Nat → List mv → mg → Option mr) (a b c k : Nat) (ls : ml) (st : List mv) (g : mg) : Option mr :=
  if b ≤ st.length ∧ am_cat (st.drop b) ≤ 8 ∧ am_cat (st.take b).reverse ≤ (am_head a).2.1 then
    match c with
    | 0 => am_bv (C a (st.take b).reverse g) (fun g => K (k + 1) ls (st.drop b) g)
    | 1 => am_bi (C a (st.take b).reverse g) (fun v g => K (k + 1) ls (vi v :: st.drop b) g)
    | 2 => am_bl (C a (st.take b).reverse g) (fun v g => K (k + 1) ls (vl v :: st.drop b) g)
    | _ => none
  else none
def am_fd (x y : Int32) : Int32 := if (x ^^^ y) < 0 then (if x / y * y = x then x / y else x / y - 1) else x / y
def am_m2i (f : Int32 → Int32 → Int32) (K : Nat → ml → List mv → mg → Option mr) (k : Nat) (ls : ml) (st : List mv) (g : mg) : Option mr := match st with
  | .inl y :: .inl x :: st => if am_cat st ≤ 8 then K (k + 1) ls (vi (f x y) :: st) g else none
  | _ => none
def am_m2l (f : Int64 → Int64 → Int64) (K : Nat → ml → List mv → mg → Option mr) (k : Nat) (ls : ml) (st : List mv) (g : mg) : Option mr := match st with
  | .inr (.inl y) :: .inr (.inl x) :: st => if am_cat st ≤ 8 then K (k + 1) ls (vl (f x y) :: st) g else none
  | _ => none
/-- Math's own: min, max, floorDiv -/
def am_math (K : Nat → ml → List mv → mg → Option mr) (a k : Nat) (ls : ml) (st : List mv) (g : mg) : Option mr :=
  if a = 294 then am_m2i (fun x y => if y < x then y else x) K k ls st g
  else if a = 295 then am_m2i (fun x y => if x < y then y else x) K k ls st g
  else if a = 296 then am_m2l (fun x y => if y < x then y else x) K k ls st g
  else if a = 297 then am_m2l (fun x y => if y < x then x else y) K k ls st g
  else match st with
    | .inl y :: .inl x :: st => if y = 0 then none else if am_cat st ≤ 8 then K (k + 1) ls (vi (am_fd x y) :: st) g else none
    | _ => none
/-- the receiver is of the method's own class -/
def am_rcv (a : Nat) (as : List mv) : Bool := match as with
  | .inr (.inr (kd, _)) :: _ => Nat.beq (af kd).1 (am_head a).1
  | _ => false
def am_do (K : Nat → ml → List mv → mg → Option mr) (C : Nat → List mv → mg → Option mr) (o : mo) (k : Nat) (ls : ml) (st : List mv) (g : mg) : Option mr :=
  match o with
  | (i, a, b, c, z) => match i with
    | .iconst _ => K (k + 1) ls (z :: st) g
    | .bipush _ => K (k + 1) ls (z :: st) g
    | .sipush _ => K (k + 1) ls (z :: st) g
    | .lconst _ => K (k + 1) ls (z :: st) g
    | .ldc _ => K (k + 1) ls (z :: st) g
    | .ldc_w _ => K (k + 1) ls (z :: st) g
    | .ldc2_w _ => K (k + 1) ls (z :: st) g
    | .iload _ => match am_ld ls a with | some (.inl v) => K (k + 1) ls (.inl v :: st) g | _ => none
    | .iload_n _ => match am_ld ls a with | some (.inl v) => K (k + 1) ls (.inl v :: st) g | _ => none
    | .lload _ => match am_ld ls a with | some (.inr (.inl v)) => K (k + 1) ls (.inr (.inl v) :: st) g | _ => none
    | .lload_n _ => match am_ld ls a with | some (.inr (.inl v)) => K (k + 1) ls (.inr (.inl v) :: st) g | _ => none
    | .aload _ => match am_ld ls a with | some (.inr (.inr v)) => K (k + 1) ls (.inr (.inr v) :: st) g | _ => none
    | .aload_n _ => match am_ld ls a with | some (.inr (.inr v)) => K (k + 1) ls (.inr (.inr v) :: st) g | _ => none
    | .istore _ => match st with | .inl v :: st => K (k + 1) (am_s1 ls a (.inl v)) st g | _ => none
    | .istore_n _ => match st with | .inl v :: st => K (k + 1) (am_s1 ls a (.inl v)) st g | _ => none
    | .astore _ => match st with | .inr (.inr v) :: st => K (k + 1) (am_s1 ls a (.inr (.inr v))) st g | _ => none
    | .astore_n _ => match st with | .inr (.inr v) :: st => K (k + 1) (am_s1 ls a (.inr (.inr v))) st g | _ => none
    | .lstore _ => match st with | .inr (.inl v) :: st => K (k + 1) (am_s2 ls a (.inr (.inl v))) st g | _ => none
    | .lstore_n _ => match st with | .inr (.inl v) :: st => K (k + 1) (am_s2 ls a (.inr (.inl v))) st g | _ => none
    | .iinc _ _ => match am_ld ls a, z with | some (.inl v), .inl n => K (k + 1) (am_s1 ls a (.inl (v + n))) st g | _, _ => none
    | .iadd => match st with | .inl y :: .inl x :: st => K (k + 1) ls (.inl (x + y) :: st) g | _ => none
    | .isub => match st with | .inl y :: .inl x :: st => K (k + 1) ls (.inl (x - y) :: st) g | _ => none
    | .imul => match st with | .inl y :: .inl x :: st => K (k + 1) ls (.inl (x * y) :: st) g | _ => none
    | .idiv => match st with | .inl y :: .inl x :: st => if y = 0 then none else K (k + 1) ls (.inl (x / y) :: st) g | _ => none
    | .irem => match st with | .inl y :: .inl x :: st => if y = 0 then none else K (k + 1) ls (.inl (x - x / y * y) :: st) g | _ => none
    | .iand => match st with | .inl y :: .inl x :: st => K (k + 1) ls (.inl (x &&& y) :: st) g | _ => none
    | .ior => match st with | .inl y :: .inl x :: st => K (k + 1) ls (.inl (x ||| y) :: st) g | _ => none
    | .ixor => match st with | .inl y :: .inl x :: st => K (k + 1) ls (.inl (x ^^^ y) :: st) g | _ => none
    | .ishl => match st with | .inl y :: .inl x :: st => K (k + 1) ls (.inl (x <<< (y &&& 31)) :: st) g | _ => none
    | .ishr => match st with | .inl y :: .inl x :: st => K (k + 1) ls (.inl (x >>> (y &&& 31)) :: st) g | _ => none
    | .iushr => match st with | .inl y :: .inl x :: st => K (k + 1) ls (.inl ((x.toUInt32 >>> (y.toUInt32 &&& Int32.toUInt32 31)).toInt32) :: st) g | _ => none
    | .ladd => match st with | .inr (.inl y) :: .inr (.inl x) :: st => K (k + 1) ls (.inr (.inl (x + y)) :: st) g | _ => none
    | .lsub => match st with | .inr (.inl y) :: .inr (.inl x) :: st => K (k + 1) ls (.inr (.inl (x - y)) :: st) g | _ => none
    | .lmul => match st with | .inr (.inl y) :: .inr (.inl x) :: st => K (k + 1) ls (.inr (.inl (x * y)) :: st) g | _ => none
    | .land => match st with | .inr (.inl y) :: .inr (.inl x) :: st => K (k + 1) ls (.inr (.inl (x &&& y)) :: st) g | _ => none
    | .ldiv => match st with | .inr (.inl y) :: .inr (.inl x) :: st => if y = 0 then none else K (k + 1) ls (.inr (.inl (x / y)) :: st) g | _ => none
    | .lrem => match st with | .inr (.inl y) :: .inr (.inl x) :: st => if y = 0 then none else K (k + 1) ls (.inr (.inl (x - x / y * y)) :: st) g | _ => none
    | .i2l => match st with | .inl x :: st => K (k + 1) ls (.inr (.inl x.toInt64) :: st) g | _ => none
    | .l2i => match st with | .inr (.inl x) :: st => K (k + 1) ls (.inl x.toInt32 :: st) g | _ => none
    | .i2b => match st with | .inl x :: st => K (k + 1) ls (.inl x.toInt8.toInt32 :: st) g | _ => none
    | .lcmp => match st with | .inr (.inl y) :: .inr (.inl x) :: st => K (k + 1) ls (.inl (lg_cmp x y) :: st) g | _ => none
    | .dup => match st with
      | .inl v :: st => K (k + 1) ls (.inl v :: .inl v :: st) g
      | .inr (.inr v) :: st => K (k + 1) ls (.inr (.inr v) :: .inr (.inr v) :: st) g
      | _ => none
    | .dup2 => match st with
      | .inl v :: .inr (.inr r) :: st => K (k + 1) ls (.inl v :: .inr (.inr r) :: .inl v :: .inr (.inr r) :: st) g
      | _ => none
    | .pop => match st with | .inl _ :: st => K (k + 1) ls st g | _ => none
    | .ifCond .eq _ => match st with | .inl x :: st => if x = 0 then K a ls st g else K (k + 1) ls st g | _ => none
    | .ifCond .ne _ => match st with | .inl x :: st => if x = 0 then K (k + 1) ls st g else K a ls st g | _ => none
    | .ifCond .lt _ => match st with | .inl x :: st => if x < 0 then K a ls st g else K (k + 1) ls st g | _ => none
    | .ifCond .ge _ => match st with | .inl x :: st => if x < 0 then K (k + 1) ls st g else K a ls st g | _ => none
    | .ifCond .gt _ => match st with | .inl x :: st => if 0 < x then K a ls st g else K (k + 1) ls st g | _ => none
    | .ifCond .le _ => match st with | .inl x :: st => if 0 < x then K (k + 1) ls st g else K a ls st g | _ => none
    | .if_icmp .eq _ => match st with | .inl y :: .inl x :: st => if x = y then K a ls st g else K (k + 1) ls st g | _ => none
    | .if_icmp .ne _ => match st with | .inl y :: .inl x :: st => if x = y then K (k + 1) ls st g else K a ls st g | _ => none
    | .if_icmp .lt _ => match st with | .inl y :: .inl x :: st => if x < y then K a ls st g else K (k + 1) ls st g | _ => none
    | .if_icmp .ge _ => match st with | .inl y :: .inl x :: st => if x < y then K (k + 1) ls st g else K a ls st g | _ => none
    | .if_icmp .gt _ => match st with | .inl y :: .inl x :: st => if y < x then K a ls st g else K (k + 1) ls st g | _ => none
    | .if_icmp .le _ => match st with | .inl y :: .inl x :: st => if y < x then K (k + 1) ls st g else K a ls st g | _ => none
    | .goto _ => K a ls st g
    | .tableswitch _ _ _ _ => match st with
      | .inl x :: st => match am_nth am_sws a with
        | some (l, d) => am_swf x l d (fun t => K t ls st g)
        | none => none
      | _ => none
    | .lookupswitch _ _ => match st with
      | .inl x :: st => match am_nth am_sws a with
        | some (l, d) => am_swf x l d (fun t => K t ls st g)
        | none => none
      | _ => none
    | .getfield _ => match st with
      | .inr (.inr (kd, i)) :: st => if (af kd).1 = a then
          match c with
          | 1 => K (k + 1) ls (vl (g.2.1 kd b) :: st) g
          | 2 => match ar kd b i g.2.2.1 g.2.2.2 with
            | some r => K (k + 1) ls (.inr (.inr r) :: st) g
            | none => none
          | _ => K (k + 1) ls (vi (g.1 kd i b) :: st) g
        else none
      | _ => none
    | .putfield _ => match c with
      | 0 => match st with
        | .inl v :: .inr (.inr (kd, i)) :: st => if (af kd).1 = a then K (k + 1) ls st (am_ui g.1 kd i b v, g.2) else none
        | _ => none
      | 3 => match st with
        | .inl v :: .inr (.inr (kd, i)) :: st => if (af kd).1 = a then (if v = 0 ∨ v = 1 then K (k + 1) ls st (am_ui g.1 kd i b v, g.2) else none) else none
        | _ => none
      | 1 => match st with
        | .inr (.inl v) :: .inr (.inr (kd, _)) :: st => if (af kd).1 = a then K (k + 1) ls st (g.1, am_ul g.2.1 kd b v, g.2.2) else none
        | _ => none
      | 2 => match st with
        | .inr (.inr (kv, j)) :: .inr (.inr (kd, _)) :: st => if (af kd).1 = a ∧ kv = 4 then
            match art kd b with
            | some (_, 2) => K (k + 1) ls st (g.1, g.2.1, j, g.2.2.2)
            | some (_, 3) => K (k + 1) ls st (g.1, g.2.1, g.2.2.1, j)
            | _ => none
          else none
        | _ => none
      | _ => none
    | .iaload => match st with
      | .inl j :: .inr (.inr (kd, i)) :: st => if (af kd).1 = 20 then (if j < 0 ∨ (af kd).2 ≤ j.toNatClampNeg then none else K (k + 1) ls (vi (g.1 kd i j.toNatClampNeg) :: st) g) else none
      | _ => none
    | .baload => match st with
      | .inl j :: .inr (.inr (kd, i)) :: st => if (af kd).1 = 22 ∨ (af kd).1 = 23 then (if j < 0 ∨ (af kd).2 ≤ j.toNatClampNeg then none else K (k + 1) ls (vi (g.1 kd i j.toNatClampNeg) :: st) g) else none
      | _ => none
    | .caload => match st with
      | .inl j :: .inr (.inr (kd, i)) :: st => if (af kd).1 = 24 then (if j < 0 ∨ (af kd).2 ≤ j.toNatClampNeg then none else K (k + 1) ls (vi (g.1 kd i j.toNatClampNeg) :: st) g) else none
      | _ => none
    | .laload => match st with
      | .inl j :: .inr (.inr (kd, _)) :: st => if (af kd).1 = 21 then (if j < 0 ∨ (af kd).2 ≤ j.toNatClampNeg then none else K (k + 1) ls (vl (g.2.1 kd j.toNatClampNeg) :: st) g) else none
      | _ => none
    | .aaload => match st with
      | .inl j :: .inr (.inr (kd, i)) :: st => if (af kd).1 = 25 ∨ (af kd).1 = 26 then (if j < 0 ∨ (af kd).2 ≤ j.toNatClampNeg then none else
          match ae kd i j.toNatClampNeg with
          | some r => K (k + 1) ls (.inr (.inr r) :: st) g
          | none => none) else none
      | _ => none
    | .iastore => match st with
      | .inl v :: .inl j :: .inr (.inr (kd, i)) :: st => if (af kd).1 = 20 then (if j < 0 ∨ (af kd).2 ≤ j.toNatClampNeg then none else K (k + 1) ls st (am_ui g.1 kd i j.toNatClampNeg v, g.2)) else none
      | _ => none
    | .bastore => match st with
      | .inl v :: .inl j :: .inr (.inr (kd, i)) :: st =>
        if (af kd).1 = 22 then (if j < 0 ∨ (af kd).2 ≤ j.toNatClampNeg then none else K (k + 1) ls st (am_ui g.1 kd i j.toNatClampNeg (vp_nar .byte v), g.2))
        else if (af kd).1 = 23 then (if j < 0 ∨ (af kd).2 ≤ j.toNatClampNeg then none else K (k + 1) ls st (am_ui g.1 kd i j.toNatClampNeg (vp_nar .boolean v), g.2)) else none
      | _ => none
    | .lastore => match st with
      | .inr (.inl v) :: .inl j :: .inr (.inr (kd, _)) :: st => if (af kd).1 = 21 then (if j < 0 ∨ (af kd).2 ≤ j.toNatClampNeg then none else K (k + 1) ls st (g.1, am_ul g.2.1 kd j.toNatClampNeg v, g.2.2)) else none
      | _ => none
    | .arraylength => match st with
      | .inr (.inr (kd, _)) :: st => if 20 ≤ (af kd).1 ∧ (af kd).1 ≤ 26 then K (k + 1) ls (vi (Int32.ofNat (af kd).2) :: st) g else none
      | _ => none
    | .invokestatic _ => if 294 ≤ a ∧ a ≤ 298 then am_math K a k ls st g else am_inv K C a b c k ls st g
    | .invokevirtual _ =>
      if a = 900 then match st with
        | .inr (.inr (kd, i)) :: st => if kd = 200 ∧ am_cat st ≤ 8 then K (k + 1) ls (vi (Int32.ofNat (am_str i).length) :: st) g else none
        | _ => none
      else if a = 901 then match st with
        | .inl j :: .inr (.inr (kd, i)) :: st => if kd = 200 ∧ am_cat st ≤ 8 then (if j < 0 ∨ (am_str i).length ≤ j.toNatClampNeg then none else K (k + 1) ls (vi ((am_str i).getD j.toNatClampNeg 0) :: st) g) else none
        | _ => none
      else if am_rcv a (st.take b).reverse = true then am_inv K C a b c k ls st g else none
    | .ireturn => match st with
      | [.inl v] => if a = 1 then (if v = 0 ∨ v = 1 then some (some (vi v), g) else none) else some (some (vi v), g)
      | _ => none
    | .lreturn => match st with
      | [.inr (.inl v)] => some (some (vl v), g)
      | _ => none
    | .return_ => match st with
      | [] => some (none, g)
      | _ => none
    | _ => none
end
section
/-! runs of the small machine; their limit X; many ops at once -/
def am_asc {α : Type} : List (Nat × α) → Nat → Option α
  | [], _ => none
  | (k, v) :: l, n => match Nat.beq k n with
    | true => some v
    | false => am_asc l n
def am_cut (m k : Nat) : Option (List Bool) := am_asc (am_kuts m) k
def am_msk (m k : Nat) (ls : ml) : ml := match am_cut m k with
  | some b => am_mask b ls
  | none => ls
def am_entA : List mv → ml
  | [] => []
  | .inr (.inl w) :: l => some (.inr (.inl w)) :: none :: am_entA l
  | .inl w :: l => some (.inl w) :: am_entA l
  | .inr (.inr w) :: l => some (.inr (.inr w)) :: am_entA l
def am_pad : Nat → ml → ml
  | 0, _ => []
  | n + 1, [] => none :: am_pad n []
  | n + 1, v :: l => v :: am_pad n l
def am_ent (m : Nat) (args : List mv) : ml := am_pad (am_head m).2.1 (am_entA args)
def am_cx (f : Nat → Nat → Nat → ml → List mv → mg → Option mr) : Nat → Nat → List mv → mg → Option mr
  | 0 => fun _ _ _ => none
  | d + 1 => fun y args g => f d y 0 (am_ent y args) [] g
def am_x : Nat → Nat → Nat → Nat → ml → List mv → mg → Option mr
  | 0 => fun _ _ _ _ _ _ => none
  | n + 1 => fun d m k ls st g => match am_nth (am_prog m) k with
    | none => none
    | some o => am_do (am_x n d m) (am_cx (am_x n) d) o k (am_msk m k ls) st g
/-- what a use of one op rests on -/
def am_Use (K : Nat → ml → List mv → mg → Option mr) (C : Nat → List mv → mg → Option mr) (r : mr) (f : (Nat → ml → List mv → mg → Option mr) → (Nat → List mv → mg → Option mr) → Option mr) : Prop :=
  (∀ K2 C2, f K2 C2 = some r) ∨ (∃ k ls st g, K k ls st g = some r ∧ ∀ K2 C2, K2 k ls st g = some r → f K2 C2 = some r) ∨
  (∃ y as g0 rc k ls st g, C y as g0 = some rc ∧ K k ls st g = some r ∧ ∀ K2 C2, C2 y as g0 = some rc → K2 k ls st g = some r → f K2 C2 = some r)
theorem am_Use.k {K C r f} (k : Nat) (ls : ml) (st : List mv) (g : mg) (h : K k ls st g = some r) (hf : ∀ K2 C2, f K2 C2 = K2 k ls st g) : am_Use K C r f :=
  Or.inr (Or.inl ⟨k, ls, st, g, h, fun K2 C2 h2 => (hf K2 C2).trans h2⟩)
theorem am_Use.r {K C r f} (hf : ∀ K2 C2, f K2 C2 = some r) : am_Use K C r f := Or.inl hf
theorem am_Use.eq {K C r f f2} (h : am_Use K C r f) (he : ∀ K2 C2, f2 K2 C2 = f K2 C2) : am_Use K C r f2 := by
  rcases h with h | ⟨k, ls, st, g, h1, h2⟩ | ⟨y, as, g0, rc, k, ls, st, g, h0, h1, h2⟩
  · exact Or.inl fun K2 C2 => (he K2 C2).trans (h K2 C2)
  · exact Or.inr (Or.inl ⟨k, ls, st, g, h1, fun K2 C2 h3 => (he K2 C2).trans (h2 K2 C2 h3)⟩)
  · exact Or.inr (Or.inr ⟨y, as, g0, rc, k, ls, st, g, h0, h1, fun K2 C2 h3 h4 => (he K2 C2).trans (h2 K2 C2 h3 h4)⟩)
theorem am_Use.ite {K C r} {p : Prop} [Decidable p] {f1 f2 : (Nat → ml → List mv → mg → Option mr) → (Nat → List mv → mg → Option mr) → Option mr} (h : (if p then f1 K C else f2 K C) = some r) (h1 : f1 K C = some r → am_Use K C r f1) (h2 : f2 K C = some r → am_Use K C r f2) : am_Use K C r (fun K C => if p then f1 K C else f2 K C) := by
  by_cases hp : p
  · rw [if_pos hp] at h
    exact (h1 h).eq fun K2 C2 => if_pos hp
  · rw [if_neg hp] at h
    exact (h2 h).eq fun K2 C2 => if_neg hp
theorem am_Use.swf {K C r} {x : Int32} {ls : ml} {st : List mv} {g : mg} : ∀ (l : List (Int32 × Nat)) (d : Nat), am_swf x l d (fun t => K t ls st g) = some r → am_Use K C r (fun K _ => am_swf x l d (fun t => K t ls st g))
  | [], d, h => am_Use.k d ls st g h (fun _ _ => rfl)
  | (v, t) :: l, d, h => by
    refine am_Use.ite (p := x = v) (f1 := fun K _ => K t ls st g) (f2 := fun K _ => am_swf x l d (fun t => K t ls st g)) h (fun h1 => am_Use.k t ls st g h1 (fun _ _ => rfl)) (fun h1 => am_Use.swf l d h1)
theorem am_bv_some {o : Option mr} {f : mg → Option mr} {r : mr} (h : am_bv o f = some r) : ∃ g, o = some (none, g) ∧ f g = some r := by
  unfold am_bv at h
  split at h
  · exact ⟨_, rfl, h⟩
  · cases h
theorem am_bi_some {o : Option mr} {f : Int32 → mg → Option mr} {r : mr} (h : am_bi o f = some r) : ∃ v g, o = some (some (vi v), g) ∧ f v g = some r := by
  unfold am_bi at h
  split at h
  · exact ⟨_, _, rfl, h⟩
  · cases h
theorem am_bl_some {o : Option mr} {f : Int64 → mg → Option mr} {r : mr} (h : am_bl o f = some r) : ∃ v g, o = some (some (vl v), g) ∧ f v g = some r := by
  unfold am_bl at h
  split at h
  · exact ⟨_, _, rfl, h⟩
  · cases h
theorem am_Use.inv {K C r} {a b c k : Nat} {ls : ml} {st : List mv} {g : mg} (h : am_inv K C a b c k ls st g = some r) : am_Use K C r (fun K C => am_inv K C a b c k ls st g) := by
  unfold am_inv at h ⊢
  by_cases hp : b ≤ st.length ∧ am_cat (st.drop b) ≤ 8 ∧ am_cat (st.take b).reverse ≤ (am_head a).2.1
  · rw [if_pos hp] at h
    refine am_Use.eq (f := fun K C => match (generalizing := false) c with
      | 0 => am_bv (C a (st.take b).reverse g) (fun g => K (k + 1) ls (st.drop b) g)
      | 1 => am_bi (C a (st.take b).reverse g) (fun v g => K (k + 1) ls (vi v :: st.drop b) g)
      | 2 => am_bl (C a (st.take b).reverse g) (fun v g => K (k + 1) ls (vl v :: st.drop b) g)
      | _ => none) ?_ (fun K2 C2 => if_pos hp)
    match c, h with
    | 0, h =>
      obtain ⟨g2, h1, h2⟩ := am_bv_some h
      exact Or.inr (Or.inr ⟨_, _, _, _, _, _, _, _, h1, h2, fun K2 C2 h3 h4 => by simp only [h3, am_bv]; exact h4⟩)
    | 1, h =>
      obtain ⟨v, g2, h1, h2⟩ := am_bi_some h
      exact Or.inr (Or.inr ⟨_, _, _, _, _, _, _, _, h1, h2, fun K2 C2 h3 h4 => by simp only [h3, am_bi]; exact h4⟩)
    | 2, h =>
      obtain ⟨v, g2, h1, h2⟩ := am_bl_some h
      exact Or.inr (Or.inr ⟨_, _, _, _, _, _, _, _, h1, h2, fun K2 C2 h3 h4 => by simp only [h3, am_bl]; exact h4⟩)
    | n + 3, h => cases h
  · rw [if_neg hp] at h
    cases h
theorem am_Use.math {K C r} {a k : Nat} {ls : ml} {st : List mv} {g : mg} (h : am_math K a k ls st g = some r) : am_Use K C r (fun K _ => am_math K a k ls st g) := by
  have i2 : ∀ f : Int32 → Int32 → Int32, am_m2i f K k ls st g = some r → am_Use K C r (fun K _ => am_m2i f K k ls st g) := by
    intro f h
    match st, h with
    | .inl y :: .inl x :: st, h => exact am_Use.ite h (fun h => am_Use.k _ _ _ _ h (fun _ _ => rfl)) (fun h => by cases h)
    | [], h => cases h
    | [.inl _], h => cases h
    | .inl _ :: .inr _ :: _, h => cases h
    | .inr _ :: _, h => cases h
  have l2 : ∀ f : Int64 → Int64 → Int64, am_m2l f K k ls st g = some r → am_Use K C r (fun K _ => am_m2l f K k ls st g) := by
    intro f h
    match st, h with
    | .inr (.inl y) :: .inr (.inl x) :: st, h => exact am_Use.ite h (fun h => am_Use.k _ _ _ _ h (fun _ _ => rfl)) (fun h => by cases h)
    | [], h => cases h
    | .inl _ :: _, h => cases h
    | [.inr (.inl _)], h => cases h
    | .inr (.inr _) :: _, h => cases h
    | .inr (.inl _) :: .inl _ :: _, h => cases h
    | .inr (.inl _) :: .inr (.inr _) :: _, h => cases h
  refine am_Use.ite h (fun h => i2 _ h) (fun h => am_Use.ite h (fun h => i2 _ h) (fun h => am_Use.ite h (fun h => l2 _ h) (fun h => am_Use.ite h (fun h => l2 _ h) (fun h => ?_))))
  match st, h with
  | .inl y :: .inl x :: st, h => exact am_Use.ite h (fun h => by cases h) (fun h => am_Use.ite h (fun h => am_Use.k _ _ _ _ h (fun _ _ => rfl)) (fun h => by cases h))
  | [], h => cases h
  | [.inl _], h => cases h
  | .inl _ :: .inr _ :: _, h => cases h
  | .inr _ :: _, h => cases h
set_option maxHeartbeats 4000000 in
theorem am_do_use {K C r} {o : mo} {k : Nat} {ls : ml} {st : List mv} {g : mg} (h : am_do K C o k ls st g = some r) : am_Use K C r (fun K C => am_do K C o k ls st g) := by
  obtain ⟨i, a, b, c, z⟩ := o
  cases i
  case invokestatic => exact am_Use.ite h (fun h => am_Use.math h) (fun h => am_Use.inv h)
  case invokevirtual =>
    refine am_Use.ite (p := a = 900) h (fun h => ?_) (fun h => am_Use.ite (p := a = 901) h (fun h => ?_) (fun h => am_Use.ite h (fun h => am_Use.inv h) (fun h => by cases h)))
    · split at h
      · refine am_Use.ite h (fun h => am_Use.k _ _ _ _ h (fun _ _ => rfl)) (fun h => by cases h)
      · cases h
    · split at h
      · refine am_Use.ite h (fun h => am_Use.ite h (fun h => by cases h) (fun h => am_Use.k _ _ _ _ h (fun _ _ => rfl))) (fun h => by cases h)
      · cases h
  case tableswitch =>
    match st, h with
    | .inl x :: st, h =>
      show am_Use K C r (fun K C => match am_nth am_sws a with | some (l, d) => am_swf x l d (fun t => K t ls st g) | none => none)
      change (match am_nth am_sws a with | some (l, d) => am_swf x l d (fun t => K t ls st g) | none => none) = some r at h
      cases hs : am_nth am_sws a with
      | none => rw [hs] at h; cases h
      | some q =>
        rw [hs] at h
        exact am_Use.swf _ _ h
    | [], h => cases h
    | .inr _ :: _, h => cases h
  case lookupswitch =>
    match st, h with
    | .inl x :: st, h =>
      show am_Use K C r (fun K C => match am_nth am_sws a with | some (l, d) => am_swf x l d (fun t => K t ls st g) | none => none)
      change (match am_nth am_sws a with | some (l, d) => am_swf x l d (fun t => K t ls st g) | none => none) = some r at h
      cases hs : am_nth am_sws a with
      | none => rw [hs] at h; cases h
      | some q =>
        rw [hs] at h
        exact am_Use.swf _ _ h
    | [], h => cases h
    | .inr _ :: _, h => cases h
  case ifCond cond off =>
    cases cond <;> (
      match st, h with
      | .inl x :: st, h => exact am_Use.ite h (fun h => am_Use.k _ _ _ _ h (fun _ _ => rfl)) (fun h => am_Use.k _ _ _ _ h (fun _ _ => rfl))
      | [], h => cases h
      | .inr _ :: _, h => cases h)
  case if_icmp cond off =>
    cases cond <;> (
      match st, h with
      | .inl y :: .inl x :: st, h => exact am_Use.ite h (fun h => am_Use.k _ _ _ _ h (fun _ _ => rfl)) (fun h => am_Use.k _ _ _ _ h (fun _ _ => rfl))
      | [], h => cases h
      | [.inl _], h => cases h
      | .inl _ :: .inr _ :: _, h => cases h
      | .inr _ :: _, h => cases h)
  case bastore =>
    match st, h with
    | .inl v :: .inl j :: .inr (.inr (kd, i)) :: st, h =>
      exact am_Use.ite h (fun h => am_Use.ite h (fun h => by cases h) (fun h => am_Use.k _ _ _ _ h (fun _ _ => rfl))) (fun h => am_Use.ite h (fun h => am_Use.ite h (fun h => by cases h) (fun h => am_Use.k _ _ _ _ h (fun _ _ => rfl))) (fun h => by cases h))
    | [], h => cases h
    | [.inl _], h => cases h
    | [.inl _, .inl _], h => cases h
    | .inl _ :: .inl _ :: .inl _ :: _, h => cases h
    | .inl _ :: .inl _ :: .inr (.inl _) :: _, h => cases h
    | .inl _ :: .inr _ :: _, h => cases h
    | .inr _ :: _, h => cases h
  all_goals first
    | (change none = some r at h; cases h; done)
    | exact am_Use.k _ _ _ _ h (fun _ _ => rfl)
    | skip
  all_goals
    simp only [am_do] at h ⊢
    (repeat' split at h) <;> first
      | (change none = some r at h; cases h; done)
      | (refine am_Use.k _ _ _ _ h (fun _ _ => ?_); simp only [*, and_self, ↓reduceIte]; done)
      | (refine am_Use.r (fun _ _ => ?_); simp only [*, and_self, ↓reduceIte]; done)
      | skip
end
section
/-! the limit of the runs, an equation an op, many ops at once -/
theorem am_cx_mono {f f2 : Nat → Nat → Nat → ml → List mv → mg → Option mr} (h : ∀ d m k ls st g r, f d m k ls st g = some r → f2 d m k ls st g = some r) : ∀ d y as g r, am_cx f d y as g = some r → am_cx f2 d y as g = some r
  | 0, _, _, _, _, h1 => by cases h1
  | d + 1, _, _, _, _, h1 => h _ _ _ _ _ _ _ h1
theorem am_x_succ : ∀ n d m k ls st g r, am_x n d m k ls st g = some r → am_x (n + 1) d m k ls st g = some r := by
  intro n
  induction n with
  | zero => intro d m k ls st g r h; cases h
  | succ n ih =>
    intro d m k ls st g r h
    unfold am_x at h ⊢
    try dsimp only at h ⊢
    cases hp : am_nth (am_prog m) k with
    | none => rw [hp] at h; cases h
    | some o =>
      rw [hp] at h
      try dsimp only at h ⊢
      rcases am_do_use h with h1 | ⟨k1, l1, s1, g1, h1, h2⟩ | ⟨y, as, g0, rc, k1, l1, s1, g1, h0, h1, h2⟩
      · exact h1 _ _
      · exact h2 _ _ (ih _ _ _ _ _ _ _ h1)
      · exact h2 _ _ (am_cx_mono ih _ _ _ _ _ h0) (ih _ _ _ _ _ _ _ h1)
theorem am_x_le {n n2 d m k ls st g r} (h : am_x n d m k ls st g = some r) (hn : n ≤ n2) : am_x n2 d m k ls st g = some r := by
  induction hn with
  | refl => exact h
  | step _ ih => exact am_x_succ _ _ _ _ _ _ _ _ ih
noncomputable def X (d m k : Nat) (ls : ml) (st : List mv) (g : mg) : Option mr :=
  @dite _ (∃ r, ∃ n, am_x n d m k ls st g = some r) (Classical.propDecidable _) (fun h => some h.choose) (fun _ => none)
theorem X_iff {d m k ls st g r} : X d m k ls st g = some r ↔ ∃ n, am_x n d m k ls st g = some r := by
  unfold X
  by_cases h : ∃ r, ∃ n, am_x n d m k ls st g = some r
  · rw [dif_pos h]
    obtain ⟨n, hn⟩ := h.choose_spec
    constructor
    · intro e
      have e := Option.some.inj e
      exact ⟨n, e ▸ hn⟩
    · rintro ⟨n2, h2⟩
      have a := am_x_le hn (Nat.le_max_left n n2)
      have b := am_x_le h2 (Nat.le_max_right n n2)
      exact a.symm.trans b
  · rw [dif_neg h]
    constructor
    · intro e; cases e
    · rintro ⟨n, hn⟩; exact absurd ⟨r, n, hn⟩ h
/-- a call, with d levels below it -/
noncomputable def E (d y : Nat) (as : List mv) (g : mg) : Option mr := X d y 0 (am_ent y as) [] g
theorem X_eq {d m k ls st g} : X (d + 1) m k ls st g = match am_nth (am_prog m) k with
    | none => none
    | some o => am_do (X (d + 1) m) (E d) o k (am_msk m k ls) st g := by
  apply Option.ext
  intro r
  cases hp : am_nth (am_prog m) k with
  | none =>
    try dsimp only
    constructor
    · intro h
      obtain ⟨n, hn⟩ := X_iff.mp h
      cases n with
      | zero => cases hn
      | succ n => unfold am_x at hn; rw [hp] at hn; cases hn
    · intro h; cases h
  | some o =>
    try dsimp only
    constructor
    · intro h
      obtain ⟨n, hn⟩ := X_iff.mp h
      cases n with
      | zero => cases hn
      | succ n =>
        unfold am_x at hn
        try dsimp only at hn
        rw [hp] at hn
        try dsimp only at hn
        rcases am_do_use hn with h1 | ⟨k1, l1, s1, g1, h1, h2⟩ | ⟨y, as, g0, rc, k1, l1, s1, g1, h0, h1, h2⟩
        · exact h1 _ _
        · exact h2 _ _ (X_iff.mpr ⟨_, h1⟩)
        · exact h2 _ _ (X_iff.mpr ⟨_, h0⟩) (X_iff.mpr ⟨_, h1⟩)
    · intro h
      rcases am_do_use h with h1 | ⟨k1, l1, s1, g1, h1, h2⟩ | ⟨y, as, g0, rc, k1, l1, s1, g1, h0, h1, h2⟩
      · refine X_iff.mpr ⟨1, ?_⟩
        unfold am_x
        try dsimp only
        rw [hp]
        exact h1 _ _
      · obtain ⟨n, hn⟩ := X_iff.mp h1
        refine X_iff.mpr ⟨n + 1, ?_⟩
        unfold am_x
        try dsimp only
        rw [hp]
        exact h2 _ _ hn
      · obtain ⟨n, hn⟩ := X_iff.mp h1
        obtain ⟨n2, hn2⟩ := X_iff.mp h0
        refine X_iff.mpr ⟨max n n2 + 1, ?_⟩
        unfold am_x
        try dsimp only
        rw [hp]
        exact h2 _ _ (am_x_le hn2 (Nat.le_max_right n n2)) (am_x_le hn (Nat.le_max_left n n2))
theorem am_mask_mask : ∀ (b : List Bool) (ls : ml), am_mask b (am_mask b ls) = am_mask b ls
  | [], ls => by cases ls <;> rfl
  | b :: bs, [] => rfl
  | b :: bs, v :: vs => by
    show _ :: am_mask bs (am_mask bs vs) = _ :: am_mask bs vs
    rw [am_mask_mask bs vs]
    cases b <;> rfl
theorem X_mask {d m k ls st g b} (h : am_cut m k = some b) : X (d + 1) m k ls st g = X (d + 1) m k (am_mask b ls) st g := by
  rw [X_eq, X_eq]
  have e1 : am_msk m k ls = am_mask b ls := by unfold am_msk; rw [h]
  have e2 : am_msk m k (am_mask b ls) = am_mask b ls := by unfold am_msk; rw [h]; exact am_mask_mask b ls
  rw [e1, e2]
def am_drop {α : Type} : List α → Nat → List α
  | l, 0 => l
  | [], _ + 1 => []
  | _ :: l, n + 1 => am_drop l n
theorem am_drop_nth {α : Type} : ∀ (l : List α) (k : Nat), am_nth l k = (match am_drop l k with | [] => none | a :: _ => some a)
  | [], 0 => rfl
  | [], _ + 1 => rfl
  | _ :: _, 0 => rfl
  | _ :: l, k + 1 => am_drop_nth l k
theorem am_drop_tail {α : Type} : ∀ (l : List α) (k : Nat) (a : α) (t : List α), am_drop l k = a :: t → am_drop l (k + 1) = t
  | [], 0, _, _, h => by cases h
  | [], _ + 1, _, _, h => by cases h
  | b :: l, 0, a, t, h => by
    cases h
    cases l <;> rfl
  | b :: l, k + 1, a, t, h => am_drop_tail l k a t h
/-- n ops at once, up to a cut; the code from here on is in hand -/
def am_sx (K : Nat → ml → List mv → mg → Option mr) (C : Nat → List mv → mg → Option mr) (cd : List mo) (ct : List (Nat × List Bool)) : Nat → List mo → Nat → ml → List mv → mg → Option mr
  | 0 => fun _ => K
  | n + 1 => fun rest k ls st g => match rest with
    | [] => none
    | o :: tl => am_do (fun k2 ls st g => match am_asc ct k2 with
      | some b => K k2 (am_mask b ls) st g
      | none => am_sx K C cd ct n (bif Nat.beq k2 (k + 1) then tl else am_drop cd k2) k2 ls st g) C o k ls st g
theorem am_sx_eq {d m : Nat} : ∀ (n : Nat) (rest : List mo) (k : Nat) (ls : ml) (st : List mv) (g : mg), rest = am_drop (am_prog m) k → am_msk m k ls = ls → X (d + 1) m k ls st g = am_sx (X (d + 1) m) (E d) (am_prog m) (am_kuts m) n rest k ls st g := by
  intro n
  induction n with
  | zero => intro rest k ls st g _ _; rfl
  | succ n ih =>
    intro rest k ls st g hr hm
    rw [X_eq, am_drop_nth, ← hr, hm]
    cases rest with
    | nil => rfl
    | cons o tl =>
      show am_do (X (d + 1) m) (E d) o k ls st g = am_do (fun k2 ls st g => match am_asc (am_kuts m) k2 with
        | some b => X (d + 1) m k2 (am_mask b ls) st g
        | none => am_sx (X (d + 1) m) (E d) (am_prog m) (am_kuts m) n (bif Nat.beq k2 (k + 1) then tl else am_drop (am_prog m) k2) k2 ls st g) (E d) o k ls st g
      congr 1
      funext k2 ls2 st2 g2
      cases hc : am_asc (am_kuts m) k2 with
      | some b =>
        show X (d + 1) m k2 ls2 st2 g2 = X (d + 1) m k2 (am_mask b ls2) st2 g2
        exact X_mask (show am_cut m k2 = some b from hc)
      | none =>
        show X (d + 1) m k2 ls2 st2 g2 = am_sx _ _ _ _ n _ k2 ls2 st2 g2
        refine ih _ k2 ls2 st2 g2 ?_ (by unfold am_msk; rw [show am_cut m k2 = none from hc])
        cases hb : Nat.beq k2 (k + 1) with
        | true =>
          have e := Nat.eq_of_beq_eq_true hb
          subst e
          exact (am_drop_tail _ _ _ _ hr.symm).symm
        | false => rfl
theorem X_run {d m k : Nat} {ls : ml} {st : List mv} {g : mg} (n : Nat) (cd : List mo) (ct : List (Nat × List Bool)) {r : Option mr} (h1 : am_prog m = cd) (h2 : am_kuts m = ct) (h3 : am_msk m k ls = ls) (h : am_sx (X (d + 1) m) (E d) cd ct n (am_drop cd k) k ls st g = r) : X (d + 1) m k ls st g = r := by
  subst h1
  subst h2
  rw [← h]
  exact am_sx_eq n _ k ls st g rfl h3
end
section
/-! the world of the cells -/
def am_cells : List (Nat × Nat) := [(0, 0), (1, 0), (2, 0), (3, 0), (4, 0), (5, 0), (6, 0), (7, 0), (8, 0), (8, 1), (8, 2), (8, 3), (8, 4), (8, 5), (9, 0), (10, 0), (11, 0), (11, 1), (11, 2), (11, 3), (11, 4), (11, 5), (12, 0), (13, 0), (13, 1), (13, 2), (13, 3), (13, 4), (13, 5), (13, 6), (13, 7), (13, 8), (13, 9), (13, 10), (13, 11), (13, 12), (13, 13), (13, 14), (13, 15), (14, 0), (15, 0), (16, 0), (16, 1), (16, 2), (16, 3), (16, 4), (16, 5), (16, 6), (16, 7), (17, 0), (18, 0), (19, 0), (18, 1), (19, 1), (18, 2), (19, 2), (18, 3), (19, 3), (18, 4), (19, 4), (18, 5), (19, 5), (18, 6), (19, 6), (20, 0), (21, 0), (22, 0), (4, 1), (5, 1), (6, 1), (7, 1), (8, 6), (8, 7), (8, 8), (8, 9), (8, 10), (8, 11), (9, 1), (10, 1), (11, 6), (11, 7), (11, 8), (11, 9), (11, 10), (11, 11), (12, 1), (13, 16), (13, 17), (13, 18), (13, 19), (13, 20), (13, 21), (13, 22), (13, 23), (13, 24), (13, 25), (13, 26), (13, 27), (13, 28), (13, 29), (13, 30), (13, 31), (14, 1), (15, 1), (16, 8), (16, 9), (16, 10), (16, 11), (16, 12), (16, 13), (16, 14), (16, 15), (17, 1), (18, 7), (19, 7), (18, 8), (19, 8), (18, 9), (19, 9), (18, 10), (19, 10), (18, 11), (19, 11), (18, 12), (19, 12), (18, 13), (19, 13), (23, 0), (24, 0), (25, 0), (26, 0), (27, 0), (28, 0), (29, 0), (30, 0), (30, 1), (30, 2), (30, 3), (30, 4), (30, 5), (31, 0), (32, 0), (32, 1), (32, 2), (32, 3), (32, 4), (32, 5), (33, 0), (34, 0), (35, 0), (36, 0), (37, 0), (38, 0), (39, 0), (39, 1), (39, 2), (40, 0), (41, 0), (41, 1), (41, 2), (42, 0), (43, 0), (44, 0), (45, 0), (46, 0), (47, 0), (48, 0), (49, 0), (50, 0), (51, 0), (52, 0), (53, 0), (54, 0), (55, 0), (56, 0), (57, 0), (58, 0), (59, 0), (60, 0), (61, 0), (62, 0), (63, 0), (64, 0), (65, 0), (66, 0), (67, 0), (68, 0), (69, 0), (70, 0), (71, 0), (72, 0), (73, 0), (74, 0), (75, 0), (76, 0), (77, 0), (78, 0), (79, 0), (80, 0), (81, 0), (82, 0), (83, 0), (84, 0), (85, 0), (86, 0), (87, 0), (88, 0), (89, 0), (90, 0), (91, 0), (92, 0), (93, 0), (94, 0), (95, 0), (96, 0), (97, 0), (98, 0), (99, 0), (100, 0), (101, 0), (102, 0), (103, 0), (104, 0), (105, 0), (106, 0), (107, 0), (108, 0), (109, 0), (110, 0), (111, 0)]
def am_offs : List (List Nat) := [[0], [1], [2], [3], [4, 67], [5, 68], [6, 69], [7, 70], [8, 9, 10, 11, 12, 13, 71, 72, 73, 74, 75, 76], [14, 77], [15, 78], [16, 17, 18, 19, 20, 21, 79, 80, 81, 82, 83, 84], [22, 85], [23, 24, 25, 26, 27, 28, 29, 30, 31, 32, 33, 34, 35, 36, 37, 38, 86, 87, 88, 89, 90, 91, 92, 93, 94, 95, 96, 97, 98, 99, 100, 101], [39, 102], [40, 103], [41, 42, 43, 44, 45, 46, 47, 48, 104, 105, 106, 107, 108, 109, 110, 111], [49, 112], [50, 52, 54, 56, 58, 60, 62, 113, 115, 117, 119, 121, 123, 125], [51, 53, 55, 57, 59, 61, 63, 114, 116, 118, 120, 122, 124, 126], [64], [65], [66], [127], [128], [129], [130], [131], [132], [133], [134, 135, 136, 137, 138, 139], [140], [141, 142, 143, 144, 145, 146], [147], [148], [149], [150], [151], [152], [153, 154, 155], [156], [157, 158, 159], [160], [161], [162], [163], [164], [165], [166], [167], [168], [169], [170], [171], [172], [173], [174], [175], [176], [177], [178], [179], [180], [181], [182], [183], [184], [185], [186], [187], [188], [189], [190], [191], [192], [193], [194], [195], [196], [197], [198], [199], [200], [201], [202], [203], [204], [205], [206], [207], [208], [209], [210], [211], [212], [213], [214], [215], [216], [217], [218], [219], [220], [221], [222], [223], [224], [225], [226], [227], [228], [229]]
def am_off (k i : Nat) : Nat := match am_nth am_offs k with
  | none => 0
  | some r => match am_nth r i with
    | some q => q
    | none => 0
theorem am_cells_at : ∀ k, k < 112 → ∀ i, i < am_cnt k → am_cells[am_off k i]? = some (k, i) := by decide +kernel
theorem am_cells_inv : ∀ q, q < 230 → ∃ k, k < 112 ∧ am_cells[q]?.map Prod.fst = some k := by
  intro q hq
  have h : (List.range 230).all (fun q => match am_cells[q]? with | some e => decide (e.1 < 112 ∧ e.2 < am_cnt e.1 ∧ am_off e.1 e.2 = q) | none => false) = true := by decide +kernel
  have h1 := List.all_eq_true.mp h q (List.mem_range.mpr hq)
  cases he : am_cells[q]? with
  | none => rw [he] at h1; cases h1
  | some e =>
    rw [he] at h1
    exact ⟨e.1, (of_decide_eq_true h1).1, rfl⟩
theorem am_cells_off {q : Nat} {e : Nat × Nat} (h : am_cells[q]? = some e) : e.1 < 112 ∧ e.2 < am_cnt e.1 ∧ am_off e.1 e.2 = q := by
  have hq : q < 230 := by
    have := (List.getElem?_eq_some_iff.mp h).1
    exact this
  have hh : (List.range 230).all (fun q => match am_cells[q]? with | some e => decide (e.1 < 112 ∧ e.2 < am_cnt e.1 ∧ am_off e.1 e.2 = q) | none => false) = true := by decide +kernel
  have h1 := List.all_eq_true.mp hh q (List.mem_range.mpr hq)
  rw [h] at h1
  exact of_decide_eq_true h1
theorem am_off_lt {k i : Nat} (hk : k < 112) (hi : i < am_cnt k) : am_off k i < 230 := (List.getElem?_eq_some_iff.mp (am_cells_at k hk i hi)).1
def am_ad (base : Nat) (adK : Nat → Nat) (k i : Nat) : Nat := if k = 200 then adK i else base + am_off k i
def am_t (base : Nat) (adK : Nat → Nat) : mv → Value
  | .inl x => .int x
  | .inr (.inl x) => .long x
  | .inr (.inr (k, i)) => .ref (am_ad base adK k i)
def am_fv (base : Nat) (f : Nat → Int32) (h : Nat → Int64) (x y k i C s : Nat) : Value := match am_fty C s with
  | 1 => .long (h s)
  | 2 => match ar k s i x y with
    | some r => .ref (base + am_off r.1 r.2)
    | none => .null
  | _ => .int (f s)
def am_ec (base : Nat) (f : Nat → Int32) (h : Nat → Int64) (k i : Nat) : (Nat → Int32) ⊕ (Nat → Int64) ⊕ (Nat → UInt32) ⊕ (Nat → UInt64) ⊕ (Nat → Option Nat) := match (af k).1 with
  | 21 => .inr (.inl h)
  | 25 => .inr (.inr (.inr (.inr (fun j => (ae k i j).map (fun r => base + am_off r.1 r.2)))))
  | 26 => .inr (.inr (.inr (.inr (fun j => (ae k i j).map (fun r => base + am_off r.1 r.2)))))
  | _ => .inl f
def am_e (aC : Nat → ClassId) (base : Nat) (f : Nat → Int32) (h : Nat → Int64) (x y k i : Nat) : va_E :=
  if (af k).1 < 13 then .inr ((af k).1, (List.range (af k).2).map (am_fv base f h x y k i (af k).1))
  else .inl (aC (af k).1, (af k).2, am_ec base f h k i)
def am_w (aC : Nat → ClassId) (base : Nat) (g : mg) : va_W := am_cells.mapIdx (fun q e => (base + q, am_e aC base (g.1 e.1 e.2) (g.2.1 e.1) g.2.2.1 g.2.2.2 e.1 e.2))
theorem am_w_at (aC : Nat → ClassId) (base : Nat) (g : mg) {k i : Nat} (hk : k < 112) (hi : i < am_cnt k) : (am_w aC base g)[am_off k i]? = some (base + am_off k i, am_e aC base (g.1 k i) (g.2.1 k) g.2.2.1 g.2.2.2 k i) := by
  unfold am_w
  rw [List.getElem?_mapIdx, am_cells_at k hk i hi]
  rfl
theorem am_w_get {aC : Nat → ClassId} {base : Nat} {g : mg} {q : Nat} {e : Nat × va_E} (h : (am_w aC base g)[q]? = some e) : ∃ k i, am_cells[q]? = some (k, i) ∧ e = (base + q, am_e aC base (g.1 k i) (g.2.1 k) g.2.2.1 g.2.2.2 k i) := by
  unfold am_w at h
  rw [List.getElem?_mapIdx] at h
  cases hc : am_cells[q]? with
  | none => rw [hc] at h; cases h
  | some p => rw [hc] at h; exact ⟨p.1, p.2, rfl, (Option.some.inj h).symm⟩
theorem am_w_D (aC : Nat → ClassId) (base : Nat) (g : mg) : va_D (fun q => base ≤ q) (am_w aC base g) := by
  refine ⟨fun i j p q hi hj hpq => ?_, fun k q hq => ?_⟩
  · obtain ⟨_, _, _, rfl⟩ := am_w_get hi
    obtain ⟨_, _, _, rfl⟩ := am_w_get hj
    dsimp only at hpq
    omega
  · obtain ⟨_, _, _, rfl⟩ := am_w_get hq
    exact Nat.le_add_right _ _
theorem am_w_set {aC : Nat → ClassId} {base : Nat} {g g2 : mg} {k i : Nat} {E : va_E} (hk : k < 112) (hi : i < am_cnt k) (hE : am_e aC base (g2.1 k i) (g2.2.1 k) g2.2.2.1 g2.2.2.2 k i = E) (hne : ∀ k2 i2, k2 < 112 → i2 < am_cnt k2 → (k2 ≠ k ∨ i2 ≠ i) → am_e aC base (g2.1 k2 i2) (g2.2.1 k2) g2.2.2.1 g2.2.2.2 k2 i2 = am_e aC base (g.1 k2 i2) (g.2.1 k2) g.2.2.1 g.2.2.2 k2 i2) :
    (am_w aC base g).set (am_off k i) (base + am_off k i, E) = am_w aC base g2 := by
  apply List.ext_getElem?
  intro q
  by_cases hq : q = am_off k i
  · subst hq
    rw [List.getElem?_set_self (List.getElem?_eq_some_iff.mp (am_w_at aC base g hk hi)).1, am_w_at aC base g2 hk hi, hE]
  · rw [List.getElem?_set_ne (Ne.symm hq)]
    unfold am_w
    rw [List.getElem?_mapIdx, List.getElem?_mapIdx]
    cases hc : am_cells[q]? with
    | none => rfl
    | some e =>
      obtain ⟨h1, h2, h3⟩ := am_cells_off hc
      have hd : e.1 ≠ k ∨ e.2 ≠ i := by
        by_cases h4 : e.1 = k
        · refine Or.inr fun h5 => hq ?_
          rw [← h3, h4, h5]
        · exact Or.inl h4
      show some (base + q, _) = some (base + q, _)
      rw [hne e.1 e.2 h1 h2 hd]
theorem am_ui_ne {c : Nat → Nat → Nat → Int32} {k i j : Nat} {v : Int32} {k2 i2 : Nat} (h : k2 ≠ k ∨ i2 ≠ i) : am_ui c k i j v k2 i2 = c k2 i2 := by
  funext j2
  unfold am_ui
  rw [if_neg]
  rintro ⟨h1, h2, -⟩
  rcases h with h | h
  · exact h h1
  · exact h h2
theorem am_ui_self {c : Nat → Nat → Nat → Int32} {k i j : Nat} {v : Int32} : am_ui c k i j v k i = upd (c k i) j v := by
  funext j2
  unfold am_ui upd
  by_cases h : j2 = j
  · rw [if_pos ⟨rfl, rfl, h⟩, if_pos h]
  · rw [if_neg (fun q => h q.2.2), if_neg h]
theorem am_ul_ne {l : Nat → Nat → Int64} {k j : Nat} {v : Int64} {k2 : Nat} (h : k2 ≠ k) : am_ul l k j v k2 = l k2 := by
  funext j2
  unfold am_ul
  rw [if_neg (fun q => h q.1)]
theorem am_ul_self {l : Nat → Nat → Int64} {k j : Nat} {v : Int64} : am_ul l k j v k = vp_updL (l k) j v := by
  funext j2
  unfold am_ul vp_updL
  by_cases h : j2 = j
  · rw [if_pos ⟨rfl, h⟩, if_pos h]
  · rw [if_neg (fun q => h q.2), if_neg h]
theorem am_map_set {N b : Nat} {F F2 : Nat → Value} {v : Value} (hb : b < N) (h1 : F2 b = v) (h2 : ∀ s, s ≠ b → F2 s = F s) : (List.range N).map F2 = ((List.range N).map F).set b v := by
  apply List.ext_getElem?
  intro q
  by_cases hq : q = b
  · subst hq
    rw [List.getElem?_set_self (by simp; exact hb), List.getElem?_map, List.getElem?_range hb]
    exact congrArg some h1
  · rw [List.getElem?_set_ne (Ne.symm hq), List.getElem?_map, List.getElem?_map]
    by_cases hqN : q < N
    · rw [List.getElem?_range hqN]
      exact congrArg some (h2 q hq)
    · rw [List.getElem?_eq_none (by rw [List.length_range]; omega)]
      rfl
/-! what the tables of families say, by the kernel -/
def am_okr (r : Nat × Nat) : Prop := r.1 < 112 ∧ r.2 < am_cnt r.1
theorem am_nth_mem {α : Type} : ∀ (l : List α) (n : Nat) (a : α), am_nth l n = some a → a ∈ l
  | [], _, _, h => by cases h
  | b :: l, 0, a, h => by cases h; exact List.mem_cons_self
  | b :: l, n + 1, a, h => List.mem_cons_of_mem _ (am_nth_mem l n a h)
def am_hw (k k2 h : Nat) : Prop := match h with
  | 0 => am_cnt k ≤ am_cnt k2
  | 1 => 0 < am_cnt k2
  | 2 => k2 = 4 ∧ k = 20
  | 3 => k2 = 4 ∧ k = 3
  | _ => False
theorem art_tab : ∀ k, k < 112 → ∀ s, s < 128 → ((match art k s with | none => true | some (k2, h) => decide (k2 < 112) && (match h with | 0 => decide (am_cnt k ≤ am_cnt k2) | 1 => decide (0 < am_cnt k2) | 2 => decide (k2 = 4 ∧ k = 20 ∧ s = 2) | 3 => decide (k2 = 4 ∧ k = 3 ∧ s = 1) | _ => false)) = true) := by decide +kernel
theorem art_lt {k s : Nat} {v : Nat × Nat} (h : art k s = some v) : s < 128 := by
  unfold art at h
  cases hb : Nat.blt s 128 with
  | true => exact Nat.le_of_ble_eq_true hb
  | false => rw [hb] at h; cases h
theorem am_rf_ent {k s : Nat} {k2 h : Nat} (hk : k < 112) (h2 : art k s = some (k2, h)) : k2 < 112 ∧ am_hw k k2 h ∧ (h = 2 → s = 2) ∧ (h = 3 → s = 1) := by
  have t := art_tab k hk s (art_lt h2)
  rw [h2] at t
  have t3 := Bool.and_eq_true_iff.mp t
  refine ⟨of_decide_eq_true t3.1, ?_⟩
  have t4 := t3.2
  match h, t4 with
  | 0, t4 => exact ⟨(of_decide_eq_true t4 : am_cnt k ≤ am_cnt k2), (fun q => by cases q), (fun q => by cases q)⟩
  | 1, t4 => exact ⟨(of_decide_eq_true t4 : 0 < am_cnt k2), (fun q => by cases q), (fun q => by cases q)⟩
  | 2, t4 =>
    have q : k2 = 4 ∧ k = 20 ∧ s = 2 := of_decide_eq_true t4
    exact ⟨⟨q.1, q.2.1⟩, fun _ => q.2.2, (fun q => by cases q)⟩
  | 3, t4 =>
    have q : k2 = 4 ∧ k = 3 ∧ s = 1 := of_decide_eq_true t4
    exact ⟨⟨q.1, q.2.1⟩, (fun q => by cases q), fun _ => q.2.2⟩
  | n + 4, t4 => cases t4
theorem am_cnt4 : am_cnt 4 = 2 := rfl
theorem am_rf_ok {k s i x y : Nat} {r : Nat × Nat} (hk : k < 112) (hi : i < am_cnt k) (hx : x < 2) (hy : y < 2) (h : ar k s i x y = some r) : am_okr r := by
  unfold ar at h
  split at h
  · rename_i k2 h2
    cases h
    obtain ⟨a, b, -⟩ := am_rf_ent hk h2
    exact ⟨a, Nat.lt_of_lt_of_le hi b⟩
  · rename_i k2 h2
    cases h
    obtain ⟨a, b, -⟩ := am_rf_ent hk h2
    exact ⟨a, b⟩
  · rename_i k2 h2
    cases h
    obtain ⟨a, b, -⟩ := am_rf_ent hk h2
    refine ⟨a, ?_⟩
    show x < am_cnt k2
    rw [b.1]; exact hx
  · rename_i k2 h2
    cases h
    obtain ⟨a, b, -⟩ := am_rf_ent hk h2
    refine ⟨a, ?_⟩
    show y < am_cnt k2
    rw [b.1]; exact hy
  · cases h
theorem am_re_tab : ∀ k, k < 112 → ((match aet k with | some (k2, n) => decide (k2 < 112 ∧ n = (af k).2 ∧ am_cnt k2 = n * am_cnt k) | _ => true) = true) := by decide +kernel
theorem am_re_ok {k i j : Nat} {r : Nat × Nat} (hk : k < 112) (hi : i < am_cnt k) (hj : j < (af k).2) (h : ae k i j = some r) : am_okr r := by
  have t := am_re_tab k hk
  unfold ae at h
  split at h
  · rename_i k2 n hn
    rw [hn] at t
    cases h
    obtain ⟨t1, t2, t3⟩ := of_decide_eq_true t
    refine ⟨t1, ?_⟩
    show j + i * n < am_cnt k2
    rw [t3]
    have hjn : j < n := by rw [t2]; exact hj
    calc j + i * n < n + i * n := Nat.add_lt_add_right hjn _
      _ = (i + 1) * n := by rw [Nat.add_mul, Nat.one_mul, Nat.add_comm]
      _ ≤ am_cnt k * n := Nat.mul_le_mul_right _ hi
      _ = n * am_cnt k := Nat.mul_comm _ _
  · cases h
/-- a family's type is a class that there is, with so many fields, or an array's -/
theorem af_tab : ∀ k, k < 112 → ((af k).1 < 13 ∧ (af k).2 = am_N (af k).1) ∨ (20 ≤ (af k).1 ∧ (af k).1 ≤ 26) := by decide +kernel
theorem af_long : ∀ k, k < 112 → ((af k).1 = 21 ∨ (af k).1 = 12) → am_cnt k = 1 := by decide +kernel
theorem am_fty_long : ∀ C, C < 13 → ∀ s, s < 89 → am_fty C s = 1 → C = 12 := by decide +kernel
end
section
/-! the small machine is sound: contexts -/
/-- methods that are walked (Math's own aren't) -/
def am_yok (y : Nat) : Prop := y < 300 ∧ ¬ (294 ≤ y ∧ y ≤ 298)
def am_loc (m : Nat) : Bool := (am_prog m).all fun o => match o.1 with
  | .istore _ => Nat.blt o.2.1 (am_head m).2.1
  | .istore_n _ => Nat.blt o.2.1 (am_head m).2.1
  | .astore _ => Nat.blt o.2.1 (am_head m).2.1
  | .astore_n _ => Nat.blt o.2.1 (am_head m).2.1
  | .lstore _ => Nat.blt (o.2.1 + 1) (am_head m).2.1
  | .lstore_n _ => Nat.blt (o.2.1 + 1) (am_head m).2.1
  | _ => true
theorem am_ld_lt : ∀ (ls : ml) (i : Nat) (v : mv), am_ld ls i = some v → i < ls.length
  | [], _, _, h => by cases h
  | _ :: _, 0, _, _ => Nat.zero_lt_succ _
  | _ :: l, n + 1, v, h => Nat.succ_lt_succ (am_ld_lt l n v h)
theorem am_set_len : ∀ (ls : ml) (i : Nat) (o : Option mv), (am_set ls i o).length = ls.length
  | [], _, _ => rfl
  | _ :: _, 0, _ => rfl
  | _ :: l, n + 1, o => congrArg (· + 1) (am_set_len l n o)
theorem am_ld_set_ne : ∀ (ls : ml) (a i : Nat) (o : Option mv), i ≠ a → am_ld (am_set ls a o) i = am_ld ls i
  | [], _, _, _, _ => rfl
  | _ :: _, 0, 0, _, h => absurd rfl h
  | _ :: _, 0, _ + 1, _, _ => rfl
  | _ :: _, _ + 1, 0, _, _ => rfl
  | _ :: l, a + 1, i + 1, o, h => am_ld_set_ne l a i o (fun q => h (congrArg (· + 1) q))
theorem am_ld_set_eq : ∀ (ls : ml) (a : Nat) (o : Option mv) (v : mv), am_ld (am_set ls a o) a = some v → o = some v
  | [], _, _, _, h => by cases h
  | _ :: _, 0, _, _, h => h
  | _ :: l, a + 1, o, v, h => am_ld_set_eq l a o v h
theorem am_kill_succ (ls : ml) (n : Nat) : am_kill ls (n + 1) = match am_ld ls n with
    | some (.inr (.inl _)) => am_set ls n none
    | _ => ls := rfl
theorem am_kill_len (ls : ml) (a : Nat) : (am_kill ls a).length = ls.length := by
  cases a with
  | zero => rfl
  | succ n =>
    rw [am_kill_succ]
    split
    · exact am_set_len _ _ _
    · rfl
theorem am_ld_kill {ls : ml} {a i : Nat} {v : mv} (h : am_ld (am_kill ls a) i = some v) : am_ld ls i = some v ∧ ¬ (i + 1 = a ∧ am_cat1 v = 2) := by
  cases a with
  | zero => exact ⟨h, fun q => by omega⟩
  | succ n =>
    rw [am_kill_succ] at h
    split at h
    · by_cases hi : i = n
      · subst hi
        have := am_ld_set_eq _ _ _ _ h
        cases this
      · rw [am_ld_set_ne _ _ _ _ hi] at h
        exact ⟨h, fun q => hi (by omega)⟩
    · rename_i hno
      refine ⟨h, fun q => ?_⟩
      have hi : i = n := by omega
      subst hi
      match v, q.2 with
      | .inr (.inl w), _ => exact hno w h
      | .inl w, q2 => cases q2
      | .inr (.inr w), q2 => cases q2
theorem am_t_cat (base : Nat) (adK : Nat → Nat) (v : mv) : (am_t base adK v).category = am_cat1 v := by
  match v with
  | .inl _ => rfl
  | .inr (.inl _) => rfl
  | .inr (.inr _) => rfl
theorem am_t_cats (base : Nat) (adK : Nat → Nat) : ∀ st : List mv, ((st.map (am_t base adK)).map fun v => v.category).sum = am_cat st
  | [] => rfl
  | v :: l => by
    show (am_t base adK v).category + ((l.map (am_t base adK)).map fun v => v.category).sum = am_cat1 v + am_cat l
    rw [am_t_cat, am_t_cats base adK l]
/-- the locals of the frame hold what the small machine knows of them -/
def am_lv (base : Nat) (adK : Nat → Nat) (LS : Array Slot) (nL : Nat) (ls : ml) : Prop := LS.size = nL ∧ lv_wf LS ∧ ∀ i v, am_ld ls i = some v → LS[i]? = some (.val (am_t base adK v))
def am_as (base : Nat) (adK : Nat → Nat) : Nat → ml → List (Nat × Value)
  | _, [] => []
  | n, none :: l => am_as base adK (n + 1) l
  | n, some v :: l => (n, am_t base adK v) :: am_as base adK (n + 1) l
theorem am_as_mem (base : Nat) (adK : Nat → Nat) : ∀ (ls : ml) (n : Nat) (q : Nat × Value), q ∈ am_as base adK n ls ↔ ∃ i v, am_ld ls i = some v ∧ q = (n + i, am_t base adK v)
  | [], n, q => ⟨fun h => (by cases h), fun ⟨_, _, h, _⟩ => by cases h⟩
  | none :: l, n, q => by
    refine (am_as_mem base adK l (n + 1) q).trans ⟨?_, ?_⟩
    · rintro ⟨i, v, h, rfl⟩
      exact ⟨i + 1, v, h, by rw [show n + 1 + i = n + (i + 1) by omega]⟩
    · rintro ⟨i, v, h, rfl⟩
      cases i with
      | zero => cases h
      | succ i => exact ⟨i, v, h, by rw [show n + 1 + i = n + (i + 1) by omega]⟩
  | some w :: l, n, q => by
    refine List.mem_cons.trans ⟨?_, ?_⟩
    · rintro (rfl | h)
      · exact ⟨0, w, rfl, rfl⟩
      · obtain ⟨i, v, h1, rfl⟩ := (am_as_mem base adK l (n + 1) q).mp h
        exact ⟨i + 1, v, h1, by rw [show n + 1 + i = n + (i + 1) by omega]⟩
    · rintro ⟨i, v, h, rfl⟩
      cases i with
      | zero => exact Or.inl (by cases h; rfl)
      | succ i => exact Or.inr ((am_as_mem base adK l (n + 1) _).mpr ⟨i, v, h, by rw [show n + 1 + i = n + (i + 1) by omega]⟩)
theorem am_lv.has {base : Nat} {adK : Nat → Nat} {LS : Array Slot} {nL : Nat} {ls : ml} (h : am_lv base adK LS nL ls) : lv_has LS nL (am_as base adK 0 ls) := by
  refine ⟨h.1, h.2.1, fun q hq => ?_⟩
  obtain ⟨i, v, h1, rfl⟩ := (am_as_mem base adK ls 0 q).mp hq
  rw [Nat.zero_add]
  exact h.2.2 i v h1
theorem am_lv.mask {base : Nat} {adK : Nat → Nat} {LS : Array Slot} {nL : Nat} {ls ls2 : ml} (h : am_lv base adK LS nL ls) (hm : ∀ i v, am_ld ls2 i = some v → am_ld ls i = some v) : am_lv base adK LS nL ls2 := ⟨h.1, h.2.1, fun i v q => h.2.2 i v (hm i v q)⟩
theorem am_ld_mask : ∀ (b : List Bool) (ls : ml) (i : Nat) (v : mv), am_ld (am_mask b ls) i = some v → am_ld ls i = some v
  | [], ls, i, v, h => by cases ls <;> cases h
  | b :: bs, [], i, v, h => by cases h
  | b :: bs, w :: ls, 0, v, h => by
    cases b
    · cases h
    · exact h
  | b :: bs, w :: ls, i + 1, v, h => am_ld_mask bs ls i v h
theorem am_lv.s1 {base : Nat} {adK : Nat → Nat} {LS : Array Slot} {nL : Nat} {ls : ml} {a : Nat} {v : mv} (h : lv_has LS nL ((a, am_t base adK v) :: (am_as base adK 0 ls).filter (fun q => !(q.1 == a) && !(q.1 + 1 == a && q.2.category == 2)))) : am_lv base adK LS nL (am_s1 ls a v) := by
  refine ⟨h.1, h.2.1, fun i w hw => ?_⟩
  unfold am_s1 at hw
  by_cases hi : i = a
  · subst hi
    have e := am_ld_set_eq _ _ _ _ hw
    cases e
    exact h.2.2 (i, am_t base adK v) List.mem_cons_self
  · rw [am_ld_set_ne _ _ _ _ hi] at hw
    obtain ⟨h1, h2⟩ := am_ld_kill hw
    refine h.2.2 (i, am_t base adK w) (List.mem_cons_of_mem _ (List.mem_filter.mpr ⟨(am_as_mem base adK ls 0 _).mpr ⟨i, w, h1, by rw [Nat.zero_add]⟩, ?_⟩))
    simp only [Bool.and_eq_true, Bool.not_eq_true', beq_eq_false_iff_ne, ne_eq, Bool.and_eq_false_iff]
    refine ⟨hi, ?_⟩
    by_cases h3 : i + 1 = a
    · right
      rw [am_t_cat]
      exact fun h4 => h2 ⟨h3, h4⟩
    · exact Or.inl h3
theorem am_lv.s2 {base : Nat} {adK : Nat → Nat} {LS : Array Slot} {nL : Nat} {ls : ml} {a : Nat} {v : mv} (h : lv_has LS nL ((a, am_t base adK v) :: (am_as base adK 0 ls).filter (fun q => !(q.1 == a) && (!(q.1 == a + 1) && !(q.1 + 1 == a && q.2.category == 2))))) : am_lv base adK LS nL (am_s2 ls a v) := by
  refine ⟨h.1, h.2.1, fun i w hw => ?_⟩
  unfold am_s2 at hw
  by_cases hi1 : i = a + 1
  · subst hi1
    have e := am_ld_set_eq _ _ _ _ hw
    cases e
  · rw [am_ld_set_ne _ _ _ _ hi1] at hw
    by_cases hi : i = a
    · subst hi
      have e := am_ld_set_eq _ _ _ _ hw
      cases e
      exact h.2.2 (i, am_t base adK v) List.mem_cons_self
    · rw [am_ld_set_ne _ _ _ _ hi] at hw
      obtain ⟨h1, h2⟩ := am_ld_kill hw
      refine h.2.2 (i, am_t base adK w) (List.mem_cons_of_mem _ (List.mem_filter.mpr ⟨(am_as_mem base adK ls 0 _).mpr ⟨i, w, h1, by rw [Nat.zero_add]⟩, ?_⟩))
      simp only [Bool.and_eq_true, Bool.not_eq_true', beq_eq_false_iff_ne, ne_eq, Bool.and_eq_false_iff]
      refine ⟨hi, hi1, ?_⟩
      by_cases h3 : i + 1 = a
      · right
        rw [am_t_cat]
        exact fun h4 => h2 ⟨h3, h4⟩
      · exact Or.inl h3
/-- references point into the tables -/
def am_okv : mv → Prop
  | .inr (.inr (k, i)) => (k = 200 ∧ i < 2) ∨ (k < 112 ∧ i < am_cnt k)
  | _ => True
def am_vok (ls : ml) (st : List mv) (g : mg) : Prop := (∀ i v, am_ld ls i = some v → am_okv v) ∧ (∀ v ∈ st, am_okv v) ∧ g.2.2.1 < 2 ∧ g.2.2.2 < 2
def am_tys (aC : Nat → ClassId) : List (ClassId × FieldType) := [(aC 20, .int), (aC 21, .long), (aC 22, .byte), (aC 23, .boolean), (aC 24, .char), (aC 25, .object "WordEach$Witness"), (aC 26, .array .int)]
def am_good : List Cond := lw_tbl.filter goodWord
def am_W (m : Nat) : List Cond := Cond.code (am_Y m) (am_B m) (am_head m).2.1 (am_ret m) :: am_good
def am_lens : List Nat := am_strs.map List.length
/-- what is known of the tables and the texts at a state -/
def am_S (dC : Nat → ClassId) (dI : Nat → Nat → Nat) (aC : Nat → ClassId) (base : Nat) (adK adV : Nat → Nat) (U : State) : Prop :=
  va_K (dC, dI) classes (am_tys aC) U ∧ vk_S 2 am_lens am_strs adK adV (fun q => base ≤ q) U U.heap ∧
  (∀ e ∈ am_srs, vk_R (am_R e.1) e.2.1 (am_texts.getD e.2.2.1 "") (adK e.2.2.1) U) ∧ (∀ e ∈ am_nls, va_Nw (Cond.methodLinkNest (am_R e.1) e.2.1 (am_Y e.2.2.1) "WordEach") U) ∧
  va_Z "java/lang/String" "COMPACT_STRINGS" "Z" (.int 1) (fun q => base ≤ q) U U.heap ∧ va_Zq "jdk/internal/util/Preconditions" "SIOOBE_FORMATTER" "Ljava/util/function/BiFunction;" (fun q => base ≤ q) U U.heap
def am_rm (d : Nat) : Room := { frames := d + 10, cells := 0, slots := 0, locals := 40 * d + 400 }
def am_Pc (dC : Nat → ClassId) (dI : Nat → Nat → Nat) (aC : Nat → ClassId) (base : Nat) (adK adV : Nat → Nat) (as : List mv) (g : mg) : Array Value → State → Prop :=
  va_Pc (as.map (am_t base adK)) (fun U => am_S dC dI aC base adK adV U ∧ va_P (dC, dI) classes (am_w aC base g) U.heap)
def am_Qc (dC : Nat → ClassId) (dI : Nat → Nat → Nat) (aC : Nat → ClassId) (base : Nat) (adK : Nat → Nat) (r : Option mv) (g : mg) : Array Value → State → Outcome → State → Prop :=
  fun _ st o t => o = .returned (r.map (am_t base adK)) ∧ va_P (dC, dI) classes (am_w aC base g) t.heap ∧ va_F (fun q => base ≤ q) st t ∧ g.2.2.1 < 2 ∧ g.2.2.2 < 2
def am_Fix (dC : Nat → ClassId) (dI : Nat → Nat → Nat) (aC : Nat → ClassId) (base : Nat) (adK adV : Nat → Nat) (p : Program) (s : State) (m : MethodId) (args : Array Value) (meth : Method) (c : Code) (mi : Nat) : Prop :=
  p.tables.exec = Jvm.exec ∧ c.code = am_B mi ∧ c.maxLocals = (am_head mi).2.1 ∧ s.vm.findClass (am_R (am_head mi).1) = some m.cls ∧ (∀ w ∈ am_W mi, w.before args s = true) ∧ meth.sig.returnType = am_ret mi ∧ meth.locks = false ∧ am_S dC dI aC base adK adV s
/-- the goal: from this frame on the method comes to its end with r, g2 -/
def am_Go (l : Launch) (dC : Nat → ClassId) (dI : Nat → Nat → Nat) (aC : Nat → ClassId) (base : Nat) (adK : Nat → Nat) (p : Program) (e : Env) (s : State) (m : MethodId) (args : Array Value) (below : List Frame) (meth : Method) (c : Code) (mi d : Nat) (r : Option mv) (g2 : mg) (H : Heap) (locs : List Loc) (b : Nat) (LS : Array Slot) (st : List mv) : Prop :=
  W p l e (am_rm d) s m args below meth c H locs 0 0 (MQ below (am_Qc dC dI aC base adK r g2) args s 0 0 (fun q => base ≤ q)) (F0 m b LS (st.map (am_t base adK)))
def am_K (l : Launch) (dC : Nat → ClassId) (dI : Nat → Nat → Nat) (aC : Nat → ClassId) (base : Nat) (adK : Nat → Nat) (p : Program) (e : Env) (s : State) (m : MethodId) (args : Array Value) (below : List Frame) (meth : Method) (c : Code) (mi d : Nat) (r : Option mv) (g2 : mg) (K : Nat → ml → List mv → mg → Option mr) : Prop :=
  ∀ k ls st g, K k ls st g = some (r, g2) → am_vok ls st g → ∀ H locs LS b, am_lv base adK LS (am_head mi).2.1 ls → va_P (dC, dI) classes (am_w aC base g) H → va_S (fun q => base ≤ q) s.heap H locs → am_nth (am_bp mi) k = some b → am_Go l dC dI aC base adK p e s m args below meth c mi d r g2 H locs b LS st
/-- all that a step's theorem begins with -/
def am_X (l : Launch) (dC : Nat → ClassId) (dI : Nat → Nat → Nat) (aC : Nat → ClassId) (base : Nat) (adK adV : Nat → Nat) (p : Program) (e : Env) (s : State) (m : MethodId) (args : Array Value) (below : List Frame) (meth : Method) (c : Code) (mi d : Nat) (r : Option mv) (g2 : mg) (K : Nat → ml → List mv → mg → Option mr) (k : Nat) (ls : ml) (st : List mv) (g : mg) (H : Heap) (locs : List Loc) (b : Nat) (LS : Array Slot) : Prop :=
  am_yok mi ∧ am_Fix dC dI aC base adK adV p s m args meth c mi ∧ am_K l dC dI aC base adK p e s m args below meth c mi d r g2 K ∧ am_lv base adK LS (am_head mi).2.1 ls ∧ va_P (dC, dI) classes (am_w aC base g) H ∧ va_S (fun q => base ≤ q) s.heap H locs ∧ am_vok ls st g ∧ am_nth (am_bp mi) k = some b
theorem am_vok.st {ls : ml} {st st2 : List mv} {g : mg} (h : am_vok ls st g) (h2 : ∀ v ∈ st2, am_okv v) : am_vok ls st2 g := ⟨h.1, h2, h.2.2⟩
theorem am_ok_i (v : Int32) : am_okv (.inl v) := trivial
theorem am_ok_l (v : Int64) : am_okv (.inr (.inl v)) := trivial
theorem am_ok_c {v : mv} {st : List mv} (h1 : am_okv v) (h2 : ∀ v ∈ st, am_okv v) : ∀ w ∈ v :: st, am_okv w := fun w h => by
  rcases List.mem_cons.mp h with rfl | h
  · exact h1
  · exact h2 w h
theorem am_ok_t {v : mv} {st : List mv} (h : ∀ w ∈ v :: st, am_okv w) : ∀ w ∈ st, am_okv w := fun w hw => h w (List.mem_cons_of_mem _ hw)
theorem am_ok_h {v : mv} {st : List mv} (h : ∀ w ∈ v :: st, am_okv w) : am_okv v := h v List.mem_cons_self
theorem am_vok_s1 {ls : ml} {a : Nat} {v : mv} (h : ∀ i v, am_ld ls i = some v → am_okv v) (hv : am_okv v) : ∀ i w, am_ld (am_s1 ls a v) i = some w → am_okv w := by
  intro i w hw
  unfold am_s1 at hw
  by_cases hi : i = a
  · subst hi
    have e := am_ld_set_eq _ _ _ _ hw
    cases e
    exact hv
  · rw [am_ld_set_ne _ _ _ _ hi] at hw
    exact h i w (am_ld_kill hw).1
theorem am_vok_s2 {ls : ml} {a : Nat} {v : mv} (h : ∀ i v, am_ld ls i = some v → am_okv v) (hv : am_okv v) : ∀ i w, am_ld (am_s2 ls a v) i = some w → am_okv w := by
  intro i w hw
  unfold am_s2 at hw
  by_cases hi1 : i = a + 1
  · subst hi1
    have e := am_ld_set_eq _ _ _ _ hw
    cases e
  · rw [am_ld_set_ne _ _ _ _ hi1] at hw
    by_cases hi : i = a
    · subst hi
      have e := am_ld_set_eq _ _ _ _ hw
      cases e
      exact hv
    · rw [am_ld_set_ne _ _ _ _ hi] at hw
      exact h i w (am_ld_kill hw).1
theorem am_in_W {m : Nat} {w : Cond} {i : Nat} (h : tables_1[i]? = some w) (hg : goodWord w = true) : w ∈ am_W m :=
  List.mem_cons_of_mem _ (List.mem_filter.mpr ⟨List.mem_append_right _ (List.mem_of_getElem? h), hg⟩)
theorem am_loc_all : ([0, 1, 2, 3, 4, 5, 6, 7, 8, 9, 10, 11, 12, 13, 14, 15, 16, 17, 18, 19, 20, 21, 22, 23, 24, 25, 26, 27, 28, 29, 30, 31, 32, 33, 34, 35, 36, 37, 38, 39, 40, 41, 42, 43, 44, 45, 46, 47, 48, 49, 50, 51, 52, 53, 54, 55, 56, 57, 58, 59, 60, 61, 62, 63, 64, 65, 66, 67, 68, 69, 70, 71, 72, 73, 74, 75, 76, 77, 78, 79, 80, 81, 82, 83, 84, 85, 86, 87, 88, 89, 90, 91, 92, 93, 94, 95, 96, 97, 98, 99, 100, 101, 102, 103, 104, 105, 106, 107, 108, 109, 110, 111, 112, 113, 114, 115, 116, 117, 118, 119, 120, 121, 122, 123, 124, 125, 126, 127, 128, 129, 130, 131, 132, 133, 134, 135, 136, 137, 138, 139, 140, 141, 142, 143, 144, 145, 146, 147, 148, 149, 150, 151, 152, 153, 154, 155, 156, 157, 158, 159, 160, 161, 162, 163, 164, 165, 166, 167, 168, 169, 170, 171, 172, 173, 174, 175, 176, 177, 178, 179, 180, 181, 182, 183, 184, 185, 186, 187, 188, 189, 190, 191, 192, 193, 194, 195, 196, 197, 198, 199, 200, 201, 202, 203, 204, 205, 206, 207, 208, 209, 210, 211, 212, 213, 214, 215, 216, 217, 218, 219, 220, 221, 222, 223, 224, 225, 226, 227, 228, 229, 230, 231, 232, 233, 234, 235, 236, 237, 238, 239, 240, 241, 242, 243, 244, 245, 246, 247, 248, 249, 250, 251, 252, 253, 254, 255, 256, 257, 258, 259, 260, 261, 262, 263, 264, 265, 266, 267, 268, 269, 270, 271, 272, 273, 274, 275, 276, 277, 278, 279, 280, 281, 282, 283, 284, 285, 286, 287, 288, 289, 290, 291, 292, 293, 294, 295, 296, 297, 298, 299] : List Nat).all am_loc = true := by decide +kernel
theorem am_loc_ok {m : Nat} (h : m < 300) : am_loc m = true := by
  have hm : m ∈ ([0, 1, 2, 3, 4, 5, 6, 7, 8, 9, 10, 11, 12, 13, 14, 15, 16, 17, 18, 19, 20, 21, 22, 23, 24, 25, 26, 27, 28, 29, 30, 31, 32, 33, 34, 35, 36, 37, 38, 39, 40, 41, 42, 43, 44, 45, 46, 47, 48, 49, 50, 51, 52, 53, 54, 55, 56, 57, 58, 59, 60, 61, 62, 63, 64, 65, 66, 67, 68, 69, 70, 71, 72, 73, 74, 75, 76, 77, 78, 79, 80, 81, 82, 83, 84, 85, 86, 87, 88, 89, 90, 91, 92, 93, 94, 95, 96, 97, 98, 99, 100, 101, 102, 103, 104, 105, 106, 107, 108, 109, 110, 111, 112, 113, 114, 115, 116, 117, 118, 119, 120, 121, 122, 123, 124, 125, 126, 127, 128, 129, 130, 131, 132, 133, 134, 135, 136, 137, 138, 139, 140, 141, 142, 143, 144, 145, 146, 147, 148, 149, 150, 151, 152, 153, 154, 155, 156, 157, 158, 159, 160, 161, 162, 163, 164, 165, 166, 167, 168, 169, 170, 171, 172, 173, 174, 175, 176, 177, 178, 179, 180, 181, 182, 183, 184, 185, 186, 187, 188, 189, 190, 191, 192, 193, 194, 195, 196, 197, 198, 199, 200, 201, 202, 203, 204, 205, 206, 207, 208, 209, 210, 211, 212, 213, 214, 215, 216, 217, 218, 219, 220, 221, 222, 223, 224, 225, 226, 227, 228, 229, 230, 231, 232, 233, 234, 235, 236, 237, 238, 239, 240, 241, 242, 243, 244, 245, 246, 247, 248, 249, 250, 251, 252, 253, 254, 255, 256, 257, 258, 259, 260, 261, 262, 263, 264, 265, 266, 267, 268, 269, 270, 271, 272, 273, 274, 275, 276, 277, 278, 279, 280, 281, 282, 283, 284, 285, 286, 287, 288, 289, 290, 291, 292, 293, 294, 295, 296, 297, 298, 299] : List Nat) := by
    rw [show ([0, 1, 2, 3, 4, 5, 6, 7, 8, 9, 10, 11, 12, 13, 14, 15, 16, 17, 18, 19, 20, 21, 22, 23, 24, 25, 26, 27, 28, 29, 30, 31, 32, 33, 34, 35, 36, 37, 38, 39, 40, 41, 42, 43, 44, 45, 46, 47, 48, 49, 50, 51, 52, 53, 54, 55, 56, 57, 58, 59, 60, 61, 62, 63, 64, 65, 66, 67, 68, 69, 70, 71, 72, 73, 74, 75, 76, 77, 78, 79, 80, 81, 82, 83, 84, 85, 86, 87, 88, 89, 90, 91, 92, 93, 94, 95, 96, 97, 98, 99, 100, 101, 102, 103, 104, 105, 106, 107, 108, 109, 110, 111, 112, 113, 114, 115, 116, 117, 118, 119, 120, 121, 122, 123, 124, 125, 126, 127, 128, 129, 130, 131, 132, 133, 134, 135, 136, 137, 138, 139, 140, 141, 142, 143, 144, 145, 146, 147, 148, 149, 150, 151, 152, 153, 154, 155, 156, 157, 158, 159, 160, 161, 162, 163, 164, 165, 166, 167, 168, 169, 170, 171, 172, 173, 174, 175, 176, 177, 178, 179, 180, 181, 182, 183, 184, 185, 186, 187, 188, 189, 190, 191, 192, 193, 194, 195, 196, 197, 198, 199, 200, 201, 202, 203, 204, 205, 206, 207, 208, 209, 210, 211, 212, 213, 214, 215, 216, 217, 218, 219, 220, 221, 222, 223, 224, 225, 226, 227, 228, 229, 230, 231, 232, 233, 234, 235, 236, 237, 238, 239, 240, 241, 242, 243, 244, 245, 246, 247, 248, 249, 250, 251, 252, 253, 254, 255, 256, 257, 258, 259, 260, 261, 262, 263, 264, 265, 266, 267, 268, 269, 270, 271, 272, 273, 274, 275, 276, 277, 278, 279, 280, 281, 282, 283, 284, 285, 286, 287, 288, 289, 290, 291, 292, 293, 294, 295, 296, 297, 298, 299] : List Nat) = List.range 300 by decide +kernel]
    exact List.mem_range.mpr h
  exact List.all_eq_true.mp am_loc_all m hm
theorem am_maxL : ([0, 1, 2, 3, 4, 5, 6, 7, 8, 9, 10, 11, 12, 13, 14, 15, 16, 17, 18, 19, 20, 21, 22, 23, 24, 25, 26, 27, 28, 29, 30, 31, 32, 33, 34, 35, 36, 37, 38, 39, 40, 41, 42, 43, 44, 45, 46, 47, 48, 49, 50, 51, 52, 53, 54, 55, 56, 57, 58, 59, 60, 61, 62, 63, 64, 65, 66, 67, 68, 69, 70, 71, 72, 73, 74, 75, 76, 77, 78, 79, 80, 81, 82, 83, 84, 85, 86, 87, 88, 89, 90, 91, 92, 93, 94, 95, 96, 97, 98, 99, 100, 101, 102, 103, 104, 105, 106, 107, 108, 109, 110, 111, 112, 113, 114, 115, 116, 117, 118, 119, 120, 121, 122, 123, 124, 125, 126, 127, 128, 129, 130, 131, 132, 133, 134, 135, 136, 137, 138, 139, 140, 141, 142, 143, 144, 145, 146, 147, 148, 149, 150, 151, 152, 153, 154, 155, 156, 157, 158, 159, 160, 161, 162, 163, 164, 165, 166, 167, 168, 169, 170, 171, 172, 173, 174, 175, 176, 177, 178, 179, 180, 181, 182, 183, 184, 185, 186, 187, 188, 189, 190, 191, 192, 193, 194, 195, 196, 197, 198, 199, 200, 201, 202, 203, 204, 205, 206, 207, 208, 209, 210, 211, 212, 213, 214, 215, 216, 217, 218, 219, 220, 221, 222, 223, 224, 225, 226, 227, 228, 229, 230, 231, 232, 233, 234, 235, 236, 237, 238, 239, 240, 241, 242, 243, 244, 245, 246, 247, 248, 249, 250, 251, 252, 253, 254, 255, 256, 257, 258, 259, 260, 261, 262, 263, 264, 265, 266, 267, 268, 269, 270, 271, 272, 273, 274, 275, 276, 277, 278, 279, 280, 281, 282, 283, 284, 285, 286, 287, 288, 289, 290, 291, 292, 293, 294, 295, 296, 297, 298, 299] : List Nat).all (fun m => Nat.ble (am_head m).2.1 9) = true := by decide +kernel
theorem am_range300 : ([0, 1, 2, 3, 4, 5, 6, 7, 8, 9, 10, 11, 12, 13, 14, 15, 16, 17, 18, 19, 20, 21, 22, 23, 24, 25, 26, 27, 28, 29, 30, 31, 32, 33, 34, 35, 36, 37, 38, 39, 40, 41, 42, 43, 44, 45, 46, 47, 48, 49, 50, 51, 52, 53, 54, 55, 56, 57, 58, 59, 60, 61, 62, 63, 64, 65, 66, 67, 68, 69, 70, 71, 72, 73, 74, 75, 76, 77, 78, 79, 80, 81, 82, 83, 84, 85, 86, 87, 88, 89, 90, 91, 92, 93, 94, 95, 96, 97, 98, 99, 100, 101, 102, 103, 104, 105, 106, 107, 108, 109, 110, 111, 112, 113, 114, 115, 116, 117, 118, 119, 120, 121, 122, 123, 124, 125, 126, 127, 128, 129, 130, 131, 132, 133, 134, 135, 136, 137, 138, 139, 140, 141, 142, 143, 144, 145, 146, 147, 148, 149, 150, 151, 152, 153, 154, 155, 156, 157, 158, 159, 160, 161, 162, 163, 164, 165, 166, 167, 168, 169, 170, 171, 172, 173, 174, 175, 176, 177, 178, 179, 180, 181, 182, 183, 184, 185, 186, 187, 188, 189, 190, 191, 192, 193, 194, 195, 196, 197, 198, 199, 200, 201, 202, 203, 204, 205, 206, 207, 208, 209, 210, 211, 212, 213, 214, 215, 216, 217, 218, 219, 220, 221, 222, 223, 224, 225, 226, 227, 228, 229, 230, 231, 232, 233, 234, 235, 236, 237, 238, 239, 240, 241, 242, 243, 244, 245, 246, 247, 248, 249, 250, 251, 252, 253, 254, 255, 256, 257, 258, 259, 260, 261, 262, 263, 264, 265, 266, 267, 268, 269, 270, 271, 272, 273, 274, 275, 276, 277, 278, 279, 280, 281, 282, 283, 284, 285, 286, 287, 288, 289, 290, 291, 292, 293, 294, 295, 296, 297, 298, 299] : List Nat) = List.range 300 := by decide +kernel
theorem am_virt_all : ([0, 1, 2, 3, 4, 5, 6, 7, 8, 9, 10, 11, 12, 13, 14, 15, 16, 17, 18, 19, 20, 21, 22, 23, 24, 25, 26, 27, 28, 29, 30, 31, 32, 33, 34, 35, 36, 37, 38, 39, 40, 41, 42, 43, 44, 45, 46, 47, 48, 49, 50, 51, 52, 53, 54, 55, 56, 57, 58, 59, 60, 61, 62, 63, 64, 65, 66, 67, 68, 69, 70, 71, 72, 73, 74, 75, 76, 77, 78, 79, 80, 81, 82, 83, 84, 85, 86, 87, 88, 89, 90, 91, 92, 93, 94, 95, 96, 97, 98, 99, 100, 101, 102, 103, 104, 105, 106, 107, 108, 109, 110, 111, 112, 113, 114, 115, 116, 117, 118, 119, 120, 121, 122, 123, 124, 125, 126, 127, 128, 129, 130, 131, 132, 133, 134, 135, 136, 137, 138, 139, 140, 141, 142, 143, 144, 145, 146, 147, 148, 149, 150, 151, 152, 153, 154, 155, 156, 157, 158, 159, 160, 161, 162, 163, 164, 165, 166, 167, 168, 169, 170, 171, 172, 173, 174, 175, 176, 177, 178, 179, 180, 181, 182, 183, 184, 185, 186, 187, 188, 189, 190, 191, 192, 193, 194, 195, 196, 197, 198, 199, 200, 201, 202, 203, 204, 205, 206, 207, 208, 209, 210, 211, 212, 213, 214, 215, 216, 217, 218, 219, 220, 221, 222, 223, 224, 225, 226, 227, 228, 229, 230, 231, 232, 233, 234, 235, 236, 237, 238, 239, 240, 241, 242, 243, 244, 245, 246, 247, 248, 249, 250, 251, 252, 253, 254, 255, 256, 257, 258, 259, 260, 261, 262, 263, 264, 265, 266, 267, 268, 269, 270, 271, 272, 273, 274, 275, 276, 277, 278, 279, 280, 281, 282, 283, 284, 285, 286, 287, 288, 289, 290, 291, 292, 293, 294, 295, 296, 297, 298, 299] : List Nat).all (fun m => (am_P m).1 || Nat.blt (am_head m).1 13) = true := by decide +kernel
theorem am_virt_lt {m : Nat} (h : m < 300) (hs : (am_P m).1 = false) : (am_head m).1 < 13 := by
  have e := am_virt_all
  rw [am_range300] at e
  have q := List.all_eq_true.mp e m (List.mem_range.mpr h)
  rw [hs, Bool.false_or] at q
  exact Nat.le_of_ble_eq_true q
theorem am_plain_all : ([0, 1, 2, 3, 4, 5, 6, 7, 8, 9, 10, 11, 12, 13, 14, 15, 16, 17, 18, 19, 20, 21, 22, 23, 24, 25, 26, 27, 28, 29, 30, 31, 32, 33, 34, 35, 36, 37, 38, 39, 40, 41, 42, 43, 44, 45, 46, 47, 48, 49, 50, 51, 52, 53, 54, 55, 56, 57, 58, 59, 60, 61, 62, 63, 64, 65, 66, 67, 68, 69, 70, 71, 72, 73, 74, 75, 76, 77, 78, 79, 80, 81, 82, 83, 84, 85, 86, 87, 88, 89, 90, 91, 92, 93, 94, 95, 96, 97, 98, 99, 100, 101, 102, 103, 104, 105, 106, 107, 108, 109, 110, 111, 112, 113, 114, 115, 116, 117, 118, 119, 120, 121, 122, 123, 124, 125, 126, 127, 128, 129, 130, 131, 132, 133, 134, 135, 136, 137, 138, 139, 140, 141, 142, 143, 144, 145, 146, 147, 148, 149, 150, 151, 152, 153, 154, 155, 156, 157, 158, 159, 160, 161, 162, 163, 164, 165, 166, 167, 168, 169, 170, 171, 172, 173, 174, 175, 176, 177, 178, 179, 180, 181, 182, 183, 184, 185, 186, 187, 188, 189, 190, 191, 192, 193, 194, 195, 196, 197, 198, 199, 200, 201, 202, 203, 204, 205, 206, 207, 208, 209, 210, 211, 212, 213, 214, 215, 216, 217, 218, 219, 220, 221, 222, 223, 224, 225, 226, 227, 228, 229, 230, 231, 232, 233, 234, 235, 236, 237, 238, 239, 240, 241, 242, 243, 244, 245, 246, 247, 248, 249, 250, 251, 252, 253, 254, 255, 256, 257, 258, 259, 260, 261, 262, 263, 264, 265, 266, 267, 268, 269, 270, 271, 272, 273, 274, 275, 276, 277, 278, 279, 280, 281, 282, 283, 284, 285, 286, 287, 288, 289, 290, 291, 292, 293, 294, 295, 296, 297, 298, 299] : List Nat).all (fun m => (Nat.ble 294 m && Nat.ble m 298) || (Jvm.plainName (am_Y m).cls && decide (am_nth (am_bp m) 0 = some 0))) = true := by decide +kernel
theorem am_plain {m : Nat} (h : am_yok m) : Jvm.plainName (am_Y m).cls = true ∧ am_nth (am_bp m) 0 = some 0 := by
  have e := am_plain_all
  rw [am_range300] at e
  have q := List.all_eq_true.mp e m (List.mem_range.mpr h.1)
  simp only [Bool.or_eq_true, Bool.and_eq_true] at q
  rcases q with q | q
  · exact absurd ⟨Nat.le_of_ble_eq_true q.1, Nat.le_of_ble_eq_true q.2⟩ h.2
  · exact ⟨q.1, of_decide_eq_true q.2⟩
end
section
/-! one theorem an instruction: values, locals, branches -/
section AMR
variable {l : Launch} {dC : Nat → ClassId} {dI : Nat → Nat → Nat} {aC : Nat → ClassId} {base : Nat} {adK adV : Nat → Nat} {p : Program} {e : Env} {s : State} {m : MethodId} {args : Array Value} {below : List Frame} {meth : Method} {c : Code} {mi d : Nat} {r : Option mv} {g2 : mg} {K : Nat → ml → List mv → mg → Option mr} {C : Nat → List mv → mg → Option mr} {k : Nat} {ls : ml} {st : List mv} {g : mg} {H : Heap} {locs : List Loc} {b : Nat} {LS : Array Slot} {a bb cc : Nat} {z : mv}
theorem am_r_iadd (X : am_X l dC dI aC base adK adV p e s m args below meth c mi d r g2 K k ls st g H locs b LS) (hd : decode (am_B mi) b = .ok (.iadd, 1)) (hn : am_nth (am_bp mi) (k + 1) = some (b + 1)) (h : am_do K C (.iadd, a, bb, cc, z) k ls st g = some (r, g2)) : am_Go l dC dI aC base adK p e s m args below meth c mi d r g2 H locs b LS st := by
  obtain ⟨hmi, ⟨hx, hb, hml, hown, hts, hret, hlk, hS⟩, hK, hL, hP, hV, ok, hbk⟩ := X
  change (match (generalizing := false) st with | .inl y :: .inl x :: st => K (k + 1) ls (.inl (x + y) :: st) g | _ => none) = some (r, g2) at h
  split at h
  next y x st1 => exact lv_iadd hx hb hd (hK _ _ _ _ h (ok.st (am_ok_c (am_ok_i _) (am_ok_t (am_ok_t ok.2.1)))) _ _ _ _ hL hP hV hn)
  next => cases h
theorem am_r_isub (X : am_X l dC dI aC base adK adV p e s m args below meth c mi d r g2 K k ls st g H locs b LS) (hd : decode (am_B mi) b = .ok (.isub, 1)) (hn : am_nth (am_bp mi) (k + 1) = some (b + 1)) (h : am_do K C (.isub, a, bb, cc, z) k ls st g = some (r, g2)) : am_Go l dC dI aC base adK p e s m args below meth c mi d r g2 H locs b LS st := by
  obtain ⟨hmi, ⟨hx, hb, hml, hown, hts, hret, hlk, hS⟩, hK, hL, hP, hV, ok, hbk⟩ := X
  change (match (generalizing := false) st with | .inl y :: .inl x :: st => K (k + 1) ls (.inl (x - y) :: st) g | _ => none) = some (r, g2) at h
  split at h
  next y x st1 => exact lv_isub hx hb hd (hK _ _ _ _ h (ok.st (am_ok_c (am_ok_i _) (am_ok_t (am_ok_t ok.2.1)))) _ _ _ _ hL hP hV hn)
  next => cases h
theorem am_r_imul (X : am_X l dC dI aC base adK adV p e s m args below meth c mi d r g2 K k ls st g H locs b LS) (hd : decode (am_B mi) b = .ok (.imul, 1)) (hn : am_nth (am_bp mi) (k + 1) = some (b + 1)) (h : am_do K C (.imul, a, bb, cc, z) k ls st g = some (r, g2)) : am_Go l dC dI aC base adK p e s m args below meth c mi d r g2 H locs b LS st := by
  obtain ⟨hmi, ⟨hx, hb, hml, hown, hts, hret, hlk, hS⟩, hK, hL, hP, hV, ok, hbk⟩ := X
  change (match (generalizing := false) st with | .inl y :: .inl x :: st => K (k + 1) ls (.inl (x * y) :: st) g | _ => none) = some (r, g2) at h
  split at h
  next y x st1 => exact lv_imul hx hb hd (hK _ _ _ _ h (ok.st (am_ok_c (am_ok_i _) (am_ok_t (am_ok_t ok.2.1)))) _ _ _ _ hL hP hV hn)
  next => cases h
theorem am_r_iand (X : am_X l dC dI aC base adK adV p e s m args below meth c mi d r g2 K k ls st g H locs b LS) (hd : decode (am_B mi) b = .ok (.iand, 1)) (hn : am_nth (am_bp mi) (k + 1) = some (b + 1)) (h : am_do K C (.iand, a, bb, cc, z) k ls st g = some (r, g2)) : am_Go l dC dI aC base adK p e s m args below meth c mi d r g2 H locs b LS st := by
  obtain ⟨hmi, ⟨hx, hb, hml, hown, hts, hret, hlk, hS⟩, hK, hL, hP, hV, ok, hbk⟩ := X
  change (match (generalizing := false) st with | .inl y :: .inl x :: st => K (k + 1) ls (.inl (x &&& y) :: st) g | _ => none) = some (r, g2) at h
  split at h
  next y x st1 => exact lv_iand hx hb hd (hK _ _ _ _ h (ok.st (am_ok_c (am_ok_i _) (am_ok_t (am_ok_t ok.2.1)))) _ _ _ _ hL hP hV hn)
  next => cases h
theorem am_r_ior (X : am_X l dC dI aC base adK adV p e s m args below meth c mi d r g2 K k ls st g H locs b LS) (hd : decode (am_B mi) b = .ok (.ior, 1)) (hn : am_nth (am_bp mi) (k + 1) = some (b + 1)) (h : am_do K C (.ior, a, bb, cc, z) k ls st g = some (r, g2)) : am_Go l dC dI aC base adK p e s m args below meth c mi d r g2 H locs b LS st := by
  obtain ⟨hmi, ⟨hx, hb, hml, hown, hts, hret, hlk, hS⟩, hK, hL, hP, hV, ok, hbk⟩ := X
  change (match (generalizing := false) st with | .inl y :: .inl x :: st => K (k + 1) ls (.inl (x ||| y) :: st) g | _ => none) = some (r, g2) at h
  split at h
  next y x st1 => exact lv_ior hx hb hd (hK _ _ _ _ h (ok.st (am_ok_c (am_ok_i _) (am_ok_t (am_ok_t ok.2.1)))) _ _ _ _ hL hP hV hn)
  next => cases h
theorem am_r_ixor (X : am_X l dC dI aC base adK adV p e s m args below meth c mi d r g2 K k ls st g H locs b LS) (hd : decode (am_B mi) b = .ok (.ixor, 1)) (hn : am_nth (am_bp mi) (k + 1) = some (b + 1)) (h : am_do K C (.ixor, a, bb, cc, z) k ls st g = some (r, g2)) : am_Go l dC dI aC base adK p e s m args below meth c mi d r g2 H locs b LS st := by
  obtain ⟨hmi, ⟨hx, hb, hml, hown, hts, hret, hlk, hS⟩, hK, hL, hP, hV, ok, hbk⟩ := X
  change (match (generalizing := false) st with | .inl y :: .inl x :: st => K (k + 1) ls (.inl (x ^^^ y) :: st) g | _ => none) = some (r, g2) at h
  split at h
  next y x st1 => exact lv_ixor hx hb hd (hK _ _ _ _ h (ok.st (am_ok_c (am_ok_i _) (am_ok_t (am_ok_t ok.2.1)))) _ _ _ _ hL hP hV hn)
  next => cases h
theorem am_r_ishl (X : am_X l dC dI aC base adK adV p e s m args below meth c mi d r g2 K k ls st g H locs b LS) (hd : decode (am_B mi) b = .ok (.ishl, 1)) (hn : am_nth (am_bp mi) (k + 1) = some (b + 1)) (h : am_do K C (.ishl, a, bb, cc, z) k ls st g = some (r, g2)) : am_Go l dC dI aC base adK p e s m args below meth c mi d r g2 H locs b LS st := by
  obtain ⟨hmi, ⟨hx, hb, hml, hown, hts, hret, hlk, hS⟩, hK, hL, hP, hV, ok, hbk⟩ := X
  change (match (generalizing := false) st with | .inl y :: .inl x :: st => K (k + 1) ls (.inl (x <<< (y &&& 31)) :: st) g | _ => none) = some (r, g2) at h
  split at h
  next y x st1 => exact lv_ishl hx hb hd (hK _ _ _ _ h (ok.st (am_ok_c (am_ok_i _) (am_ok_t (am_ok_t ok.2.1)))) _ _ _ _ hL hP hV hn)
  next => cases h
theorem am_r_ishr (X : am_X l dC dI aC base adK adV p e s m args below meth c mi d r g2 K k ls st g H locs b LS) (hd : decode (am_B mi) b = .ok (.ishr, 1)) (hn : am_nth (am_bp mi) (k + 1) = some (b + 1)) (h : am_do K C (.ishr, a, bb, cc, z) k ls st g = some (r, g2)) : am_Go l dC dI aC base adK p e s m args below meth c mi d r g2 H locs b LS st := by
  obtain ⟨hmi, ⟨hx, hb, hml, hown, hts, hret, hlk, hS⟩, hK, hL, hP, hV, ok, hbk⟩ := X
  change (match (generalizing := false) st with | .inl y :: .inl x :: st => K (k + 1) ls (.inl (x >>> (y &&& 31)) :: st) g | _ => none) = some (r, g2) at h
  split at h
  next y x st1 => exact lv_ishr hx hb hd (hK _ _ _ _ h (ok.st (am_ok_c (am_ok_i _) (am_ok_t (am_ok_t ok.2.1)))) _ _ _ _ hL hP hV hn)
  next => cases h
theorem am_r_iushr (X : am_X l dC dI aC base adK adV p e s m args below meth c mi d r g2 K k ls st g H locs b LS) (hd : decode (am_B mi) b = .ok (.iushr, 1)) (hn : am_nth (am_bp mi) (k + 1) = some (b + 1)) (h : am_do K C (.iushr, a, bb, cc, z) k ls st g = some (r, g2)) : am_Go l dC dI aC base adK p e s m args below meth c mi d r g2 H locs b LS st := by
  obtain ⟨hmi, ⟨hx, hb, hml, hown, hts, hret, hlk, hS⟩, hK, hL, hP, hV, ok, hbk⟩ := X
  change (match (generalizing := false) st with | .inl y :: .inl x :: st => K (k + 1) ls (.inl ((x.toUInt32 >>> (y.toUInt32 &&& Int32.toUInt32 31)).toInt32) :: st) g | _ => none) = some (r, g2) at h
  split at h
  next y x st1 => exact lv_iushr hx hb hd rfl (hK _ _ _ _ h (ok.st (am_ok_c (am_ok_i _) (am_ok_t (am_ok_t ok.2.1)))) _ _ _ _ hL hP hV hn)
  next => cases h
theorem am_r_idiv (X : am_X l dC dI aC base adK adV p e s m args below meth c mi d r g2 K k ls st g H locs b LS) (hd : decode (am_B mi) b = .ok (.idiv, 1)) (hn : am_nth (am_bp mi) (k + 1) = some (b + 1)) (h : am_do K C (.idiv, a, bb, cc, z) k ls st g = some (r, g2)) : am_Go l dC dI aC base adK p e s m args below meth c mi d r g2 H locs b LS st := by
  obtain ⟨hmi, ⟨hx, hb, hml, hown, hts, hret, hlk, hS⟩, hK, hL, hP, hV, ok, hbk⟩ := X
  change (match (generalizing := false) st with | .inl y :: .inl x :: st => if y = 0 then none else K (k + 1) ls (.inl (x / y) :: st) g | _ => none) = some (r, g2) at h
  split at h
  next y x st1 =>
    by_cases hy : y = 0
    · rw [if_pos hy] at h; cases h
    · rw [if_neg hy] at h
      exact lv_idiv hx hb hd hy (hK _ _ _ _ h (ok.st (am_ok_c (am_ok_i _) (am_ok_t (am_ok_t ok.2.1)))) _ _ _ _ hL hP hV hn)
  next => cases h
theorem am_r_irem (X : am_X l dC dI aC base adK adV p e s m args below meth c mi d r g2 K k ls st g H locs b LS) (hd : decode (am_B mi) b = .ok (.irem, 1)) (hn : am_nth (am_bp mi) (k + 1) = some (b + 1)) (h : am_do K C (.irem, a, bb, cc, z) k ls st g = some (r, g2)) : am_Go l dC dI aC base adK p e s m args below meth c mi d r g2 H locs b LS st := by
  obtain ⟨hmi, ⟨hx, hb, hml, hown, hts, hret, hlk, hS⟩, hK, hL, hP, hV, ok, hbk⟩ := X
  change (match (generalizing := false) st with | .inl y :: .inl x :: st => if y = 0 then none else K (k + 1) ls (.inl (x - x / y * y) :: st) g | _ => none) = some (r, g2) at h
  split at h
  next y x st1 =>
    by_cases hy : y = 0
    · rw [if_pos hy] at h; cases h
    · rw [if_neg hy] at h
      exact lv_irem hx hb hd hy (hK _ _ _ _ h (ok.st (am_ok_c (am_ok_i _) (am_ok_t (am_ok_t ok.2.1)))) _ _ _ _ hL hP hV hn)
  next => cases h
theorem am_r_ladd (X : am_X l dC dI aC base adK adV p e s m args below meth c mi d r g2 K k ls st g H locs b LS) (hd : decode (am_B mi) b = .ok (.ladd, 1)) (hn : am_nth (am_bp mi) (k + 1) = some (b + 1)) (h : am_do K C (.ladd, a, bb, cc, z) k ls st g = some (r, g2)) : am_Go l dC dI aC base adK p e s m args below meth c mi d r g2 H locs b LS st := by
  obtain ⟨hmi, ⟨hx, hb, hml, hown, hts, hret, hlk, hS⟩, hK, hL, hP, hV, ok, hbk⟩ := X
  change (match (generalizing := false) st with | .inr (.inl y) :: .inr (.inl x) :: st => K (k + 1) ls (.inr (.inl (x + y)) :: st) g | _ => none) = some (r, g2) at h
  split at h
  next y x st1 => exact lv_ladd hx hb hd (hK _ _ _ _ h (ok.st (am_ok_c (am_ok_l _) (am_ok_t (am_ok_t ok.2.1)))) _ _ _ _ hL hP hV hn)
  next => cases h
theorem am_r_lsub (X : am_X l dC dI aC base adK adV p e s m args below meth c mi d r g2 K k ls st g H locs b LS) (hd : decode (am_B mi) b = .ok (.lsub, 1)) (hn : am_nth (am_bp mi) (k + 1) = some (b + 1)) (h : am_do K C (.lsub, a, bb, cc, z) k ls st g = some (r, g2)) : am_Go l dC dI aC base adK p e s m args below meth c mi d r g2 H locs b LS st := by
  obtain ⟨hmi, ⟨hx, hb, hml, hown, hts, hret, hlk, hS⟩, hK, hL, hP, hV, ok, hbk⟩ := X
  change (match (generalizing := false) st with | .inr (.inl y) :: .inr (.inl x) :: st => K (k + 1) ls (.inr (.inl (x - y)) :: st) g | _ => none) = some (r, g2) at h
  split at h
  next y x st1 => exact lv_lsub hx hb hd (hK _ _ _ _ h (ok.st (am_ok_c (am_ok_l _) (am_ok_t (am_ok_t ok.2.1)))) _ _ _ _ hL hP hV hn)
  next => cases h
theorem am_r_lmul (X : am_X l dC dI aC base adK adV p e s m args below meth c mi d r g2 K k ls st g H locs b LS) (hd : decode (am_B mi) b = .ok (.lmul, 1)) (hn : am_nth (am_bp mi) (k + 1) = some (b + 1)) (h : am_do K C (.lmul, a, bb, cc, z) k ls st g = some (r, g2)) : am_Go l dC dI aC base adK p e s m args below meth c mi d r g2 H locs b LS st := by
  obtain ⟨hmi, ⟨hx, hb, hml, hown, hts, hret, hlk, hS⟩, hK, hL, hP, hV, ok, hbk⟩ := X
  change (match (generalizing := false) st with | .inr (.inl y) :: .inr (.inl x) :: st => K (k + 1) ls (.inr (.inl (x * y)) :: st) g | _ => none) = some (r, g2) at h
  split at h
  next y x st1 => exact lv_lmul hx hb hd (hK _ _ _ _ h (ok.st (am_ok_c (am_ok_l _) (am_ok_t (am_ok_t ok.2.1)))) _ _ _ _ hL hP hV hn)
  next => cases h
theorem am_r_land (X : am_X l dC dI aC base adK adV p e s m args below meth c mi d r g2 K k ls st g H locs b LS) (hd : decode (am_B mi) b = .ok (.land, 1)) (hn : am_nth (am_bp mi) (k + 1) = some (b + 1)) (h : am_do K C (.land, a, bb, cc, z) k ls st g = some (r, g2)) : am_Go l dC dI aC base adK p e s m args below meth c mi d r g2 H locs b LS st := by
  obtain ⟨hmi, ⟨hx, hb, hml, hown, hts, hret, hlk, hS⟩, hK, hL, hP, hV, ok, hbk⟩ := X
  change (match (generalizing := false) st with | .inr (.inl y) :: .inr (.inl x) :: st => K (k + 1) ls (.inr (.inl (x &&& y)) :: st) g | _ => none) = some (r, g2) at h
  split at h
  next y x st1 => exact lv_land hx hb hd (hK _ _ _ _ h (ok.st (am_ok_c (am_ok_l _) (am_ok_t (am_ok_t ok.2.1)))) _ _ _ _ hL hP hV hn)
  next => cases h
theorem am_r_ldiv (X : am_X l dC dI aC base adK adV p e s m args below meth c mi d r g2 K k ls st g H locs b LS) (hd : decode (am_B mi) b = .ok (.ldiv, 1)) (hn : am_nth (am_bp mi) (k + 1) = some (b + 1)) (h : am_do K C (.ldiv, a, bb, cc, z) k ls st g = some (r, g2)) : am_Go l dC dI aC base adK p e s m args below meth c mi d r g2 H locs b LS st := by
  obtain ⟨hmi, ⟨hx, hb, hml, hown, hts, hret, hlk, hS⟩, hK, hL, hP, hV, ok, hbk⟩ := X
  change (match (generalizing := false) st with | .inr (.inl y) :: .inr (.inl x) :: st => if y = 0 then none else K (k + 1) ls (.inr (.inl (x / y)) :: st) g | _ => none) = some (r, g2) at h
  split at h
  next y x st1 =>
    by_cases hy : y = 0
    · rw [if_pos hy] at h; cases h
    · rw [if_neg hy] at h
      exact lv_ldiv hx hb hd hy (hK _ _ _ _ h (ok.st (am_ok_c (am_ok_l _) (am_ok_t (am_ok_t ok.2.1)))) _ _ _ _ hL hP hV hn)
  next => cases h
theorem am_r_lrem (X : am_X l dC dI aC base adK adV p e s m args below meth c mi d r g2 K k ls st g H locs b LS) (hd : decode (am_B mi) b = .ok (.lrem, 1)) (hn : am_nth (am_bp mi) (k + 1) = some (b + 1)) (h : am_do K C (.lrem, a, bb, cc, z) k ls st g = some (r, g2)) : am_Go l dC dI aC base adK p e s m args below meth c mi d r g2 H locs b LS st := by
  obtain ⟨hmi, ⟨hx, hb, hml, hown, hts, hret, hlk, hS⟩, hK, hL, hP, hV, ok, hbk⟩ := X
  change (match (generalizing := false) st with | .inr (.inl y) :: .inr (.inl x) :: st => if y = 0 then none else K (k + 1) ls (.inr (.inl (x - x / y * y)) :: st) g | _ => none) = some (r, g2) at h
  split at h
  next y x st1 =>
    by_cases hy : y = 0
    · rw [if_pos hy] at h; cases h
    · rw [if_neg hy] at h
      exact lv_lrem hx hb hd hy (hK _ _ _ _ h (ok.st (am_ok_c (am_ok_l _) (am_ok_t (am_ok_t ok.2.1)))) _ _ _ _ hL hP hV hn)
  next => cases h
theorem am_r_i2l (X : am_X l dC dI aC base adK adV p e s m args below meth c mi d r g2 K k ls st g H locs b LS) (hd : decode (am_B mi) b = .ok (.i2l, 1)) (hn : am_nth (am_bp mi) (k + 1) = some (b + 1)) (h : am_do K C (.i2l, a, bb, cc, z) k ls st g = some (r, g2)) : am_Go l dC dI aC base adK p e s m args below meth c mi d r g2 H locs b LS st := by
  obtain ⟨hmi, ⟨hx, hb, hml, hown, hts, hret, hlk, hS⟩, hK, hL, hP, hV, ok, hbk⟩ := X
  change (match (generalizing := false) st with | .inl x :: st => K (k + 1) ls (.inr (.inl x.toInt64) :: st) g | _ => none) = some (r, g2) at h
  split at h
  next x st1 => exact lv_i2l hx hb hd rfl (hK _ _ _ _ h (ok.st (am_ok_c (am_ok_l _) (am_ok_t ok.2.1))) _ _ _ _ hL hP hV hn)
  next => cases h
theorem am_r_l2i (X : am_X l dC dI aC base adK adV p e s m args below meth c mi d r g2 K k ls st g H locs b LS) (hd : decode (am_B mi) b = .ok (.l2i, 1)) (hn : am_nth (am_bp mi) (k + 1) = some (b + 1)) (h : am_do K C (.l2i, a, bb, cc, z) k ls st g = some (r, g2)) : am_Go l dC dI aC base adK p e s m args below meth c mi d r g2 H locs b LS st := by
  obtain ⟨hmi, ⟨hx, hb, hml, hown, hts, hret, hlk, hS⟩, hK, hL, hP, hV, ok, hbk⟩ := X
  change (match (generalizing := false) st with | .inr (.inl x) :: st => K (k + 1) ls (.inl x.toInt32 :: st) g | _ => none) = some (r, g2) at h
  split at h
  next x st1 => exact lv_l2i hx hb hd rfl (hK _ _ _ _ h (ok.st (am_ok_c (am_ok_i _) (am_ok_t ok.2.1))) _ _ _ _ hL hP hV hn)
  next => cases h
theorem am_r_i2b (X : am_X l dC dI aC base adK adV p e s m args below meth c mi d r g2 K k ls st g H locs b LS) (hd : decode (am_B mi) b = .ok (.i2b, 1)) (hn : am_nth (am_bp mi) (k + 1) = some (b + 1)) (h : am_do K C (.i2b, a, bb, cc, z) k ls st g = some (r, g2)) : am_Go l dC dI aC base adK p e s m args below meth c mi d r g2 H locs b LS st := by
  obtain ⟨hmi, ⟨hx, hb, hml, hown, hts, hret, hlk, hS⟩, hK, hL, hP, hV, ok, hbk⟩ := X
  change (match (generalizing := false) st with | .inl x :: st => K (k + 1) ls (.inl x.toInt8.toInt32 :: st) g | _ => none) = some (r, g2) at h
  split at h
  next x st1 => exact lv_i2b hx hb hd rfl (hK _ _ _ _ h (ok.st (am_ok_c (am_ok_i _) (am_ok_t ok.2.1))) _ _ _ _ hL hP hV hn)
  next => cases h
theorem am_r_lcmp (X : am_X l dC dI aC base adK adV p e s m args below meth c mi d r g2 K k ls st g H locs b LS) (hd : decode (am_B mi) b = .ok (.lcmp, 1)) (hn : am_nth (am_bp mi) (k + 1) = some (b + 1)) (h : am_do K C (.lcmp, a, bb, cc, z) k ls st g = some (r, g2)) : am_Go l dC dI aC base adK p e s m args below meth c mi d r g2 H locs b LS st := by
  obtain ⟨hmi, ⟨hx, hb, hml, hown, hts, hret, hlk, hS⟩, hK, hL, hP, hV, ok, hbk⟩ := X
  change (match (generalizing := false) st with | .inr (.inl y) :: .inr (.inl x) :: st => K (k + 1) ls (.inl (lg_cmp x y) :: st) g | _ => none) = some (r, g2) at h
  split at h
  next y x st1 => exact W.lcmp hx hb hd (hK _ _ _ _ h (ok.st (am_ok_c (am_ok_i _) (am_ok_t (am_ok_t ok.2.1)))) _ _ _ _ hL hP hV hn)
  next => cases h
theorem am_r_pop (X : am_X l dC dI aC base adK adV p e s m args below meth c mi d r g2 K k ls st g H locs b LS) (hd : decode (am_B mi) b = .ok (.pop, 1)) (hn : am_nth (am_bp mi) (k + 1) = some (b + 1)) (h : am_do K C (.pop, a, bb, cc, z) k ls st g = some (r, g2)) : am_Go l dC dI aC base adK p e s m args below meth c mi d r g2 H locs b LS st := by
  obtain ⟨hmi, ⟨hx, hb, hml, hown, hts, hret, hlk, hS⟩, hK, hL, hP, hV, ok, hbk⟩ := X
  change (match (generalizing := false) st with | .inl _ :: st => K (k + 1) ls st g | _ => none) = some (r, g2) at h
  split at h
  next x st1 => exact lv_pop hx hb hd rfl (hK _ _ _ _ h (ok.st (am_ok_t ok.2.1)) _ _ _ _ hL hP hV hn)
  next => cases h
theorem am_r_dup (X : am_X l dC dI aC base adK adV p e s m args below meth c mi d r g2 K k ls st g H locs b LS) (hd : decode (am_B mi) b = .ok (.dup, 1)) (hn : am_nth (am_bp mi) (k + 1) = some (b + 1)) (h : am_do K C (.dup, a, bb, cc, z) k ls st g = some (r, g2)) : am_Go l dC dI aC base adK p e s m args below meth c mi d r g2 H locs b LS st := by
  obtain ⟨hmi, ⟨hx, hb, hml, hown, hts, hret, hlk, hS⟩, hK, hL, hP, hV, ok, hbk⟩ := X
  change (match (generalizing := false) st with | .inl v :: st => K (k + 1) ls (.inl v :: .inl v :: st) g | .inr (.inr v) :: st => K (k + 1) ls (.inr (.inr v) :: .inr (.inr v) :: st) g | _ => none) = some (r, g2) at h
  split at h
  next x st1 => exact lv_dup hx hb hd rfl (hK _ _ _ _ h (ok.st (am_ok_c (am_ok_i _) ok.2.1)) _ _ _ _ hL hP hV hn)
  next x st1 => exact lv_dup hx hb hd rfl (hK _ _ _ _ h (ok.st (am_ok_c (am_ok_h ok.2.1) ok.2.1)) _ _ _ _ hL hP hV hn)
  next => cases h
theorem am_r_dup2 (X : am_X l dC dI aC base adK adV p e s m args below meth c mi d r g2 K k ls st g H locs b LS) (hd : decode (am_B mi) b = .ok (.dup2, 1)) (hn : am_nth (am_bp mi) (k + 1) = some (b + 1)) (h : am_do K C (.dup2, a, bb, cc, z) k ls st g = some (r, g2)) : am_Go l dC dI aC base adK p e s m args below meth c mi d r g2 H locs b LS st := by
  obtain ⟨hmi, ⟨hx, hb, hml, hown, hts, hret, hlk, hS⟩, hK, hL, hP, hV, ok, hbk⟩ := X
  change (match (generalizing := false) st with | .inl v :: .inr (.inr r) :: st => K (k + 1) ls (.inl v :: .inr (.inr r) :: .inl v :: .inr (.inr r) :: st) g | _ => none) = some (r, g2) at h
  split at h
  next x y st1 => exact lv_dup2_11 hx hb hd rfl rfl (hK _ _ _ _ h (ok.st (am_ok_c (am_ok_i _) (am_ok_c (am_ok_h (am_ok_t ok.2.1)) ok.2.1))) _ _ _ _ hL hP hV hn)
  next => cases h
theorem am_r_iconst (X : am_X l dC dI aC base adK adV p e s m args below meth c mi d r g2 K k ls st g H locs b LS) {n : Int} (hz : z = vi (Int32.ofInt n)) (hd : decode (am_B mi) b = .ok (.iconst n, 1)) (hn : am_nth (am_bp mi) (k + 1) = some (b + 1)) (h : am_do K C (.iconst n, a, bb, cc, z) k ls st g = some (r, g2)) : am_Go l dC dI aC base adK p e s m args below meth c mi d r g2 H locs b LS st := by
  obtain ⟨hmi, ⟨hx, hb, hml, hown, hts, hret, hlk, hS⟩, hK, hL, hP, hV, ok, hbk⟩ := X
  change K (k + 1) ls (z :: st) g = some (r, g2) at h
  subst hz
  exact lv_iconst hx hb hd rfl (hK _ _ _ _ h (ok.st (am_ok_c (am_ok_i _) ok.2.1)) _ _ _ _ hL hP hV hn)
theorem am_r_bipush (X : am_X l dC dI aC base adK adV p e s m args below meth c mi d r g2 K k ls st g H locs b LS) {n : Int} (hz : z = vi (Int8.ofInt n).toInt32) (hd : decode (am_B mi) b = .ok (.bipush n, 2)) (hn : am_nth (am_bp mi) (k + 1) = some (b + 2)) (h : am_do K C (.bipush n, a, bb, cc, z) k ls st g = some (r, g2)) : am_Go l dC dI aC base adK p e s m args below meth c mi d r g2 H locs b LS st := by
  obtain ⟨hmi, ⟨hx, hb, hml, hown, hts, hret, hlk, hS⟩, hK, hL, hP, hV, ok, hbk⟩ := X
  change K (k + 1) ls (z :: st) g = some (r, g2) at h
  subst hz
  exact lv_bipush hx hb hd rfl (hK _ _ _ _ h (ok.st (am_ok_c (am_ok_i _) ok.2.1)) _ _ _ _ hL hP hV hn)
theorem am_r_sipush (X : am_X l dC dI aC base adK adV p e s m args below meth c mi d r g2 K k ls st g H locs b LS) {n : Int} (hz : z = vi (Int16.ofInt n).toInt32) (hd : decode (am_B mi) b = .ok (.sipush n, 3)) (hn : am_nth (am_bp mi) (k + 1) = some (b + 3)) (h : am_do K C (.sipush n, a, bb, cc, z) k ls st g = some (r, g2)) : am_Go l dC dI aC base adK p e s m args below meth c mi d r g2 H locs b LS st := by
  obtain ⟨hmi, ⟨hx, hb, hml, hown, hts, hret, hlk, hS⟩, hK, hL, hP, hV, ok, hbk⟩ := X
  change K (k + 1) ls (z :: st) g = some (r, g2) at h
  subst hz
  exact lv_sipush hx hb hd rfl (hK _ _ _ _ h (ok.st (am_ok_c (am_ok_i _) ok.2.1)) _ _ _ _ hL hP hV hn)
theorem am_r_lconst (X : am_X l dC dI aC base adK adV p e s m args below meth c mi d r g2 K k ls st g H locs b LS) {n : Fin 2} (hz : z = vl (Int64.ofNat n.val)) (hd : decode (am_B mi) b = .ok (.lconst n, 1)) (hn : am_nth (am_bp mi) (k + 1) = some (b + 1)) (h : am_do K C (.lconst n, a, bb, cc, z) k ls st g = some (r, g2)) : am_Go l dC dI aC base adK p e s m args below meth c mi d r g2 H locs b LS st := by
  obtain ⟨hmi, ⟨hx, hb, hml, hown, hts, hret, hlk, hS⟩, hK, hL, hP, hV, ok, hbk⟩ := X
  change K (k + 1) ls (z :: st) g = some (r, g2) at h
  subst hz
  exact lv_lconst hx hb hd rfl (hK _ _ _ _ h (ok.st (am_ok_c (am_ok_l _) ok.2.1)) _ _ _ _ hL hP hV hn)
theorem am_r_ldc (X : am_X l dC dI aC base adK adV p e s m args below meth c mi d r g2 K k ls st g H locs b LS) {n q : Nat} {v : Int32} (hz : z = vi v) (hq : tables_1[q]? = some (Cond.constant (am_R (am_head mi).1) n v)) (hd : decode (am_B mi) b = .ok (.ldc n, 2)) (hn : am_nth (am_bp mi) (k + 1) = some (b + 2)) (h : am_do K C (.ldc n, a, bb, cc, z) k ls st g = some (r, g2)) : am_Go l dC dI aC base adK p e s m args below meth c mi d r g2 H locs b LS st := by
  obtain ⟨hmi, ⟨hx, hb, hml, hown, hts, hret, hlk, hS⟩, hK, hL, hP, hV, ok, hbk⟩ := X
  change K (k + 1) ls (z :: st) g = some (r, g2) at h
  subst hz
  exact lv_ldc hx hb hown (hts _ (am_in_W hq rfl)) hd (hK _ _ _ _ h (ok.st (am_ok_c (am_ok_i _) ok.2.1)) _ _ _ _ hL hP hV hn)
theorem am_r_ldc_w (X : am_X l dC dI aC base adK adV p e s m args below meth c mi d r g2 K k ls st g H locs b LS) {n q : Nat} {v : Int32} (hz : z = vi v) (hq : tables_1[q]? = some (Cond.constant (am_R (am_head mi).1) n v)) (hd : decode (am_B mi) b = .ok (.ldc_w n, 3)) (hn : am_nth (am_bp mi) (k + 1) = some (b + 3)) (h : am_do K C (.ldc_w n, a, bb, cc, z) k ls st g = some (r, g2)) : am_Go l dC dI aC base adK p e s m args below meth c mi d r g2 H locs b LS st := by
  obtain ⟨hmi, ⟨hx, hb, hml, hown, hts, hret, hlk, hS⟩, hK, hL, hP, hV, ok, hbk⟩ := X
  change K (k + 1) ls (z :: st) g = some (r, g2) at h
  subst hz
  exact lv_ldcw hx hb hown (hts _ (am_in_W hq rfl)) hd (hK _ _ _ _ h (ok.st (am_ok_c (am_ok_i _) ok.2.1)) _ _ _ _ hL hP hV hn)
theorem am_r_ldc2_w (X : am_X l dC dI aC base adK adV p e s m args below meth c mi d r g2 K k ls st g H locs b LS) {n q : Nat} {v : Int64} (hz : z = vl v) (hq : tables_1[q]? = some (Cond.constantLong (am_R (am_head mi).1) n v)) (hd : decode (am_B mi) b = .ok (.ldc2_w n, 3)) (hn : am_nth (am_bp mi) (k + 1) = some (b + 3)) (h : am_do K C (.ldc2_w n, a, bb, cc, z) k ls st g = some (r, g2)) : am_Go l dC dI aC base adK p e s m args below meth c mi d r g2 H locs b LS st := by
  obtain ⟨hmi, ⟨hx, hb, hml, hown, hts, hret, hlk, hS⟩, hK, hL, hP, hV, ok, hbk⟩ := X
  change K (k + 1) ls (z :: st) g = some (r, g2) at h
  subst hz
  exact lv_ldc2 hx hb hown (hts _ (am_in_W hq rfl)) hd (hK _ _ _ _ h (ok.st (am_ok_c (am_ok_l _) ok.2.1)) _ _ _ _ hL hP hV hn)
theorem am_r_ldcS (X : am_X l dC dI aC base adK adV p e s m args below meth c mi d r g2 K k ls st g H locs b LS) {n : Nat} {q : Nat × Nat × Nat × Nat} (hq : q ∈ am_srs) (h1 : q.1 = (am_head mi).1) (h2 : q.2.1 = n) (hz : z = vr 200 q.2.2.1) (hd : decode (am_B mi) b = .ok (.ldc n, 2)) (hn : am_nth (am_bp mi) (k + 1) = some (b + 2)) (h : am_do K C (.ldc n, a, bb, cc, z) k ls st g = some (r, g2)) : am_Go l dC dI aC base adK p e s m args below meth c mi d r g2 H locs b LS st := by
  obtain ⟨hmi, ⟨hx, hb, hml, hown, hts, hret, hlk, hS⟩, hK, hL, hP, hV, ok, hbk⟩ := X
  change K (k + 1) ls (z :: st) g = some (r, g2) at h
  subst hz
  have hR := hS.2.2.1 q hq
  rw [h1, h2] at hR
  have h3 : q.2.2.1 < 2 := of_decide_eq_true (List.all_eq_true.mp (show am_srs.all (fun q => decide (q.2.2.1 < 2)) = true by decide) q hq)
  exact va_ldcS hx hb hown hR hd (hK _ _ _ _ h (ok.st (am_ok_c (Or.inl ⟨rfl, h3⟩) ok.2.1)) _ _ _ _ hL hP hV hn)
theorem am_r_iload (X : am_X l dC dI aC base adK adV p e s m args below meth c mi d r g2 K k ls st g H locs b LS) {i : Nat} (ha : i = a) (hd : decode (am_B mi) b = .ok (.iload i, 2)) (hn : am_nth (am_bp mi) (k + 1) = some (b + 2)) (h : am_do K C (.iload i, a, bb, cc, z) k ls st g = some (r, g2)) : am_Go l dC dI aC base adK p e s m args below meth c mi d r g2 H locs b LS st := by
  obtain ⟨hmi, ⟨hx, hb, hml, hown, hts, hret, hlk, hS⟩, hK, hL, hP, hV, ok, hbk⟩ := X
  change (match (generalizing := false) am_ld ls a with | some (.inl v) => K (k + 1) ls (.inl v :: st) g | _ => none) = some (r, g2) at h
  split at h
  next v hld =>
    subst ha
    exact lv_iload hx hb hd (hL.2.2 _ _ hld) (hK _ _ _ _ h (ok.st (am_ok_c (am_ok_i _) ok.2.1)) _ _ _ _ hL hP hV hn)
  next => cases h
theorem am_r_iload_n (X : am_X l dC dI aC base adK adV p e s m args below meth c mi d r g2 K k ls st g H locs b LS) {i : Fin 4} (ha : i.val = a) (hd : decode (am_B mi) b = .ok (.iload_n i, 1)) (hn : am_nth (am_bp mi) (k + 1) = some (b + 1)) (h : am_do K C (.iload_n i, a, bb, cc, z) k ls st g = some (r, g2)) : am_Go l dC dI aC base adK p e s m args below meth c mi d r g2 H locs b LS st := by
  obtain ⟨hmi, ⟨hx, hb, hml, hown, hts, hret, hlk, hS⟩, hK, hL, hP, hV, ok, hbk⟩ := X
  change (match (generalizing := false) am_ld ls a with | some (.inl v) => K (k + 1) ls (.inl v :: st) g | _ => none) = some (r, g2) at h
  split at h
  next v hld =>
    subst ha
    exact lv_iload_n hx hb hd rfl (hL.2.2 _ _ hld) (hK _ _ _ _ h (ok.st (am_ok_c (am_ok_i _) ok.2.1)) _ _ _ _ hL hP hV hn)
  next => cases h
theorem am_r_lload (X : am_X l dC dI aC base adK adV p e s m args below meth c mi d r g2 K k ls st g H locs b LS) {i : Nat} (ha : i = a) (hd : decode (am_B mi) b = .ok (.lload i, 2)) (hn : am_nth (am_bp mi) (k + 1) = some (b + 2)) (h : am_do K C (.lload i, a, bb, cc, z) k ls st g = some (r, g2)) : am_Go l dC dI aC base adK p e s m args below meth c mi d r g2 H locs b LS st := by
  obtain ⟨hmi, ⟨hx, hb, hml, hown, hts, hret, hlk, hS⟩, hK, hL, hP, hV, ok, hbk⟩ := X
  change (match (generalizing := false) am_ld ls a with | some (.inr (.inl v)) => K (k + 1) ls (.inr (.inl v) :: st) g | _ => none) = some (r, g2) at h
  split at h
  next v hld =>
    subst ha
    exact lv_lload hx hb hd (hL.2.2 _ _ hld) (hK _ _ _ _ h (ok.st (am_ok_c (am_ok_l _) ok.2.1)) _ _ _ _ hL hP hV hn)
  next => cases h
theorem am_r_lload_n (X : am_X l dC dI aC base adK adV p e s m args below meth c mi d r g2 K k ls st g H locs b LS) {i : Fin 4} (ha : i.val = a) (hd : decode (am_B mi) b = .ok (.lload_n i, 1)) (hn : am_nth (am_bp mi) (k + 1) = some (b + 1)) (h : am_do K C (.lload_n i, a, bb, cc, z) k ls st g = some (r, g2)) : am_Go l dC dI aC base adK p e s m args below meth c mi d r g2 H locs b LS st := by
  obtain ⟨hmi, ⟨hx, hb, hml, hown, hts, hret, hlk, hS⟩, hK, hL, hP, hV, ok, hbk⟩ := X
  change (match (generalizing := false) am_ld ls a with | some (.inr (.inl v)) => K (k + 1) ls (.inr (.inl v) :: st) g | _ => none) = some (r, g2) at h
  split at h
  next v hld =>
    subst ha
    exact lv_lload_n hx hb hd rfl (hL.2.2 _ _ hld) (hK _ _ _ _ h (ok.st (am_ok_c (am_ok_l _) ok.2.1)) _ _ _ _ hL hP hV hn)
  next => cases h
theorem am_r_aload (X : am_X l dC dI aC base adK adV p e s m args below meth c mi d r g2 K k ls st g H locs b LS) {i : Nat} (ha : i = a) (hd : decode (am_B mi) b = .ok (.aload i, 2)) (hn : am_nth (am_bp mi) (k + 1) = some (b + 2)) (h : am_do K C (.aload i, a, bb, cc, z) k ls st g = some (r, g2)) : am_Go l dC dI aC base adK p e s m args below meth c mi d r g2 H locs b LS st := by
  obtain ⟨hmi, ⟨hx, hb, hml, hown, hts, hret, hlk, hS⟩, hK, hL, hP, hV, ok, hbk⟩ := X
  change (match (generalizing := false) am_ld ls a with | some (.inr (.inr v)) => K (k + 1) ls (.inr (.inr v) :: st) g | _ => none) = some (r, g2) at h
  split at h
  next v hld =>
    subst ha
    exact lv_aload hx hb hd (hL.2.2 _ _ hld) (hK _ _ _ _ h (ok.st (am_ok_c (ok.1 _ _ hld) ok.2.1)) _ _ _ _ hL hP hV hn)
  next => cases h
theorem am_r_aload_n (X : am_X l dC dI aC base adK adV p e s m args below meth c mi d r g2 K k ls st g H locs b LS) {i : Fin 4} (ha : i.val = a) (hd : decode (am_B mi) b = .ok (.aload_n i, 1)) (hn : am_nth (am_bp mi) (k + 1) = some (b + 1)) (h : am_do K C (.aload_n i, a, bb, cc, z) k ls st g = some (r, g2)) : am_Go l dC dI aC base adK p e s m args below meth c mi d r g2 H locs b LS st := by
  obtain ⟨hmi, ⟨hx, hb, hml, hown, hts, hret, hlk, hS⟩, hK, hL, hP, hV, ok, hbk⟩ := X
  change (match (generalizing := false) am_ld ls a with | some (.inr (.inr v)) => K (k + 1) ls (.inr (.inr v) :: st) g | _ => none) = some (r, g2) at h
  split at h
  next v hld =>
    subst ha
    exact lv_aload_n hx hb hd rfl (hL.2.2 _ _ hld) (hK _ _ _ _ h (ok.st (am_ok_c (ok.1 _ _ hld) ok.2.1)) _ _ _ _ hL hP hV hn)
  next => cases h
theorem am_r_istore (X : am_X l dC dI aC base adK adV p e s m args below meth c mi d r g2 K k ls st g H locs b LS) {i : Nat} (ha : i = a) (hnl : a < (am_head mi).2.1) (hd : decode (am_B mi) b = .ok (.istore i, 2)) (hn : am_nth (am_bp mi) (k + 1) = some (b + 2)) (h : am_do K C (.istore i, a, bb, cc, z) k ls st g = some (r, g2)) : am_Go l dC dI aC base adK p e s m args below meth c mi d r g2 H locs b LS st := by
  obtain ⟨hmi, ⟨hx, hb, hml, hown, hts, hret, hlk, hS⟩, hK, hL, hP, hV, ok, hbk⟩ := X
  change (match (generalizing := false) st with | .inl v :: st => K (k + 1) (am_s1 ls a (.inl v)) st g | _ => none) = some (r, g2) at h
  split at h
  next v st1 =>
    subst ha
    exact lv_istore hx hb hd hL.has hnl rfl (fun LS2 h2 => hK _ _ _ _ h ⟨am_vok_s1 ok.1 (am_ok_i _), am_ok_t ok.2.1, ok.2.2⟩ _ _ _ _ (am_lv.s1 h2) hP hV hn)
  next => cases h
theorem am_r_istore_n (X : am_X l dC dI aC base adK adV p e s m args below meth c mi d r g2 K k ls st g H locs b LS) {i : Fin 4} (ha : i.val = a) (hnl : a < (am_head mi).2.1) (hd : decode (am_B mi) b = .ok (.istore_n i, 1)) (hn : am_nth (am_bp mi) (k + 1) = some (b + 1)) (h : am_do K C (.istore_n i, a, bb, cc, z) k ls st g = some (r, g2)) : am_Go l dC dI aC base adK p e s m args below meth c mi d r g2 H locs b LS st := by
  obtain ⟨hmi, ⟨hx, hb, hml, hown, hts, hret, hlk, hS⟩, hK, hL, hP, hV, ok, hbk⟩ := X
  change (match (generalizing := false) st with | .inl v :: st => K (k + 1) (am_s1 ls a (.inl v)) st g | _ => none) = some (r, g2) at h
  split at h
  next v st1 =>
    subst ha
    exact lv_istore_n hx hb hd rfl hL.has hnl rfl (fun LS2 h2 => hK _ _ _ _ h ⟨am_vok_s1 ok.1 (am_ok_i _), am_ok_t ok.2.1, ok.2.2⟩ _ _ _ _ (am_lv.s1 h2) hP hV hn)
  next => cases h
theorem am_r_astore (X : am_X l dC dI aC base adK adV p e s m args below meth c mi d r g2 K k ls st g H locs b LS) {i : Nat} (ha : i = a) (hnl : a < (am_head mi).2.1) (hd : decode (am_B mi) b = .ok (.astore i, 2)) (hn : am_nth (am_bp mi) (k + 1) = some (b + 2)) (h : am_do K C (.astore i, a, bb, cc, z) k ls st g = some (r, g2)) : am_Go l dC dI aC base adK p e s m args below meth c mi d r g2 H locs b LS st := by
  obtain ⟨hmi, ⟨hx, hb, hml, hown, hts, hret, hlk, hS⟩, hK, hL, hP, hV, ok, hbk⟩ := X
  change (match (generalizing := false) st with | .inr (.inr v) :: st => K (k + 1) (am_s1 ls a (.inr (.inr v))) st g | _ => none) = some (r, g2) at h
  split at h
  next v st1 =>
    subst ha
    exact lv_astore hx hb hd hL.has hnl rfl (fun LS2 h2 => hK _ _ _ _ h ⟨am_vok_s1 ok.1 (am_ok_h ok.2.1), am_ok_t ok.2.1, ok.2.2⟩ _ _ _ _ (am_lv.s1 h2) hP hV hn)
  next => cases h
theorem am_r_astore_n (X : am_X l dC dI aC base adK adV p e s m args below meth c mi d r g2 K k ls st g H locs b LS) {i : Fin 4} (ha : i.val = a) (hnl : a < (am_head mi).2.1) (hd : decode (am_B mi) b = .ok (.astore_n i, 1)) (hn : am_nth (am_bp mi) (k + 1) = some (b + 1)) (h : am_do K C (.astore_n i, a, bb, cc, z) k ls st g = some (r, g2)) : am_Go l dC dI aC base adK p e s m args below meth c mi d r g2 H locs b LS st := by
  obtain ⟨hmi, ⟨hx, hb, hml, hown, hts, hret, hlk, hS⟩, hK, hL, hP, hV, ok, hbk⟩ := X
  change (match (generalizing := false) st with | .inr (.inr v) :: st => K (k + 1) (am_s1 ls a (.inr (.inr v))) st g | _ => none) = some (r, g2) at h
  split at h
  next v st1 =>
    subst ha
    exact lv_astore_n hx hb hd rfl hL.has hnl rfl (fun LS2 h2 => hK _ _ _ _ h ⟨am_vok_s1 ok.1 (am_ok_h ok.2.1), am_ok_t ok.2.1, ok.2.2⟩ _ _ _ _ (am_lv.s1 h2) hP hV hn)
  next => cases h
theorem am_r_lstore (X : am_X l dC dI aC base adK adV p e s m args below meth c mi d r g2 K k ls st g H locs b LS) {i : Nat} (ha : i = a) (hnl : a + 1 < (am_head mi).2.1) (hd : decode (am_B mi) b = .ok (.lstore i, 2)) (hn : am_nth (am_bp mi) (k + 1) = some (b + 2)) (h : am_do K C (.lstore i, a, bb, cc, z) k ls st g = some (r, g2)) : am_Go l dC dI aC base adK p e s m args below meth c mi d r g2 H locs b LS st := by
  obtain ⟨hmi, ⟨hx, hb, hml, hown, hts, hret, hlk, hS⟩, hK, hL, hP, hV, ok, hbk⟩ := X
  change (match (generalizing := false) st with | .inr (.inl v) :: st => K (k + 1) (am_s2 ls a (.inr (.inl v))) st g | _ => none) = some (r, g2) at h
  split at h
  next v st1 =>
    subst ha
    exact lv_lstore hx hb hd hL.has hnl rfl (fun LS2 h2 => hK _ _ _ _ h ⟨am_vok_s2 ok.1 (am_ok_l _), am_ok_t ok.2.1, ok.2.2⟩ _ _ _ _ (am_lv.s2 h2) hP hV hn)
  next => cases h
theorem am_r_lstore_n (X : am_X l dC dI aC base adK adV p e s m args below meth c mi d r g2 K k ls st g H locs b LS) {i : Fin 4} (ha : i.val = a) (hnl : a + 1 < (am_head mi).2.1) (hd : decode (am_B mi) b = .ok (.lstore_n i, 1)) (hn : am_nth (am_bp mi) (k + 1) = some (b + 1)) (h : am_do K C (.lstore_n i, a, bb, cc, z) k ls st g = some (r, g2)) : am_Go l dC dI aC base adK p e s m args below meth c mi d r g2 H locs b LS st := by
  obtain ⟨hmi, ⟨hx, hb, hml, hown, hts, hret, hlk, hS⟩, hK, hL, hP, hV, ok, hbk⟩ := X
  change (match (generalizing := false) st with | .inr (.inl v) :: st => K (k + 1) (am_s2 ls a (.inr (.inl v))) st g | _ => none) = some (r, g2) at h
  split at h
  next v st1 =>
    subst ha
    exact lv_lstore_n hx hb hd rfl hL.has hnl rfl (fun LS2 h2 => hK _ _ _ _ h ⟨am_vok_s2 ok.1 (am_ok_l _), am_ok_t ok.2.1, ok.2.2⟩ _ _ _ _ (am_lv.s2 h2) hP hV hn)
  next => cases h
theorem am_r_iinc (X : am_X l dC dI aC base adK adV p e s m args below meth c mi d r g2 K k ls st g H locs b LS) {i : Nat} {n : Int} (ha : i = a) (hz : z = vi (Int32.ofInt n)) (hd : decode (am_B mi) b = .ok (.iinc i n, 3)) (hn : am_nth (am_bp mi) (k + 1) = some (b + 3)) (h : am_do K C (.iinc i n, a, bb, cc, z) k ls st g = some (r, g2)) : am_Go l dC dI aC base adK p e s m args below meth c mi d r g2 H locs b LS st := by
  obtain ⟨hmi, ⟨hx, hb, hml, hown, hts, hret, hlk, hS⟩, hK, hL, hP, hV, ok, hbk⟩ := X
  subst hz
  subst ha
  change (match (generalizing := false) am_ld ls i, vi (Int32.ofInt n) with | some (.inl v), .inl n => K (k + 1) (am_s1 ls i (.inl (v + n))) st g | _, _ => none) = some (r, g2) at h
  cases hld : am_ld ls i with
  | none => rw [hld] at h; cases h
  | some w =>
    rw [hld] at h
    match w, hld, h with
    | .inr _, hld, h => cases h
    | .inl v, hld, h =>
      have hi : i < (am_head mi).2.1 := by have q := (Array.getElem?_eq_some_iff.mp (hL.2.2 _ _ hld)).1; rwa [hL.1] at q
      obtain ⟨q, hq⟩ := List.getElem?_of_mem ((am_as_mem base adK ls 0 _).mpr ⟨i, _, hld, rfl⟩)
      rw [Nat.zero_add] at hq
      exact lv_iinc hx hb hd hL.has hq rfl hi rfl (fun LS2 h2 => hK _ _ _ _ h ⟨am_vok_s1 ok.1 (am_ok_i _), ok.2.1, ok.2.2⟩ _ _ _ _ (am_lv.s1 (v := .inl (v + Int32.ofInt n)) h2) hP hV hn)
theorem am_r_if_eq (X : am_X l dC dI aC base adK adV p e s m args below meth c mi d r g2 K k ls st g H locs b LS) {off : Int} {t : Nat} (ht : (b : Int) + off = (t : Int)) (hta : am_nth (am_bp mi) a = some t) (hd : decode (am_B mi) b = .ok (.ifCond .eq off, 3)) (hn : am_nth (am_bp mi) (k + 1) = some (b + 3)) (h : am_do K C (.ifCond .eq off, a, bb, cc, z) k ls st g = some (r, g2)) : am_Go l dC dI aC base adK p e s m args below meth c mi d r g2 H locs b LS st := by
  obtain ⟨hmi, ⟨hx, hb, hml, hown, hts, hret, hlk, hS⟩, hK, hL, hP, hV, ok, hbk⟩ := X
  change (match (generalizing := false) st with | .inl x :: st => if x = 0 then K a ls st g else K (k + 1) ls st g | _ => none) = some (r, g2) at h
  split at h
  next x st1 => exact lv_if_eq hx hb hd ht (fun q => hK _ _ _ _ (by rw [if_pos q] at h; exact h) (ok.st (am_ok_t ok.2.1)) _ _ _ _ hL hP hV hta) (fun q => hK _ _ _ _ (by rw [if_neg q] at h; exact h) (ok.st (am_ok_t ok.2.1)) _ _ _ _ hL hP hV hn)
  next => cases h
theorem am_r_icmp_eq (X : am_X l dC dI aC base adK adV p e s m args below meth c mi d r g2 K k ls st g H locs b LS) {off : Int} {t : Nat} (ht : (b : Int) + off = (t : Int)) (hta : am_nth (am_bp mi) a = some t) (hd : decode (am_B mi) b = .ok (.if_icmp .eq off, 3)) (hn : am_nth (am_bp mi) (k + 1) = some (b + 3)) (h : am_do K C (.if_icmp .eq off, a, bb, cc, z) k ls st g = some (r, g2)) : am_Go l dC dI aC base adK p e s m args below meth c mi d r g2 H locs b LS st := by
  obtain ⟨hmi, ⟨hx, hb, hml, hown, hts, hret, hlk, hS⟩, hK, hL, hP, hV, ok, hbk⟩ := X
  change (match (generalizing := false) st with | .inl y :: .inl x :: st => if x = y then K a ls st g else K (k + 1) ls st g | _ => none) = some (r, g2) at h
  split at h
  next y x st1 => exact lv_icmp_eq hx hb hd ht (fun q => hK _ _ _ _ (by rw [if_pos q] at h; exact h) (ok.st (am_ok_t (am_ok_t ok.2.1))) _ _ _ _ hL hP hV hta) (fun q => hK _ _ _ _ (by rw [if_neg q] at h; exact h) (ok.st (am_ok_t (am_ok_t ok.2.1))) _ _ _ _ hL hP hV hn)
  next => cases h
theorem am_r_if_ne (X : am_X l dC dI aC base adK adV p e s m args below meth c mi d r g2 K k ls st g H locs b LS) {off : Int} {t : Nat} (ht : (b : Int) + off = (t : Int)) (hta : am_nth (am_bp mi) a = some t) (hd : decode (am_B mi) b = .ok (.ifCond .ne off, 3)) (hn : am_nth (am_bp mi) (k + 1) = some (b + 3)) (h : am_do K C (.ifCond .ne off, a, bb, cc, z) k ls st g = some (r, g2)) : am_Go l dC dI aC base adK p e s m args below meth c mi d r g2 H locs b LS st := by
  obtain ⟨hmi, ⟨hx, hb, hml, hown, hts, hret, hlk, hS⟩, hK, hL, hP, hV, ok, hbk⟩ := X
  change (match (generalizing := false) st with | .inl x :: st => if x = 0 then K (k + 1) ls st g else K a ls st g | _ => none) = some (r, g2) at h
  split at h
  next x st1 => exact lv_if_ne hx hb hd ht (fun q => hK _ _ _ _ (by rw [if_neg q] at h; exact h) (ok.st (am_ok_t ok.2.1)) _ _ _ _ hL hP hV hta) (fun q => hK _ _ _ _ (by rw [if_pos q] at h; exact h) (ok.st (am_ok_t ok.2.1)) _ _ _ _ hL hP hV hn)
  next => cases h
theorem am_r_icmp_ne (X : am_X l dC dI aC base adK adV p e s m args below meth c mi d r g2 K k ls st g H locs b LS) {off : Int} {t : Nat} (ht : (b : Int) + off = (t : Int)) (hta : am_nth (am_bp mi) a = some t) (hd : decode (am_B mi) b = .ok (.if_icmp .ne off, 3)) (hn : am_nth (am_bp mi) (k + 1) = some (b + 3)) (h : am_do K C (.if_icmp .ne off, a, bb, cc, z) k ls st g = some (r, g2)) : am_Go l dC dI aC base adK p e s m args below meth c mi d r g2 H locs b LS st := by
  obtain ⟨hmi, ⟨hx, hb, hml, hown, hts, hret, hlk, hS⟩, hK, hL, hP, hV, ok, hbk⟩ := X
  change (match (generalizing := false) st with | .inl y :: .inl x :: st => if x = y then K (k + 1) ls st g else K a ls st g | _ => none) = some (r, g2) at h
  split at h
  next y x st1 => exact lv_icmp_ne hx hb hd ht (fun q => hK _ _ _ _ (by rw [if_neg q] at h; exact h) (ok.st (am_ok_t (am_ok_t ok.2.1))) _ _ _ _ hL hP hV hta) (fun q => hK _ _ _ _ (by rw [if_pos q] at h; exact h) (ok.st (am_ok_t (am_ok_t ok.2.1))) _ _ _ _ hL hP hV hn)
  next => cases h
theorem am_r_if_lt (X : am_X l dC dI aC base adK adV p e s m args below meth c mi d r g2 K k ls st g H locs b LS) {off : Int} {t : Nat} (ht : (b : Int) + off = (t : Int)) (hta : am_nth (am_bp mi) a = some t) (hd : decode (am_B mi) b = .ok (.ifCond .lt off, 3)) (hn : am_nth (am_bp mi) (k + 1) = some (b + 3)) (h : am_do K C (.ifCond .lt off, a, bb, cc, z) k ls st g = some (r, g2)) : am_Go l dC dI aC base adK p e s m args below meth c mi d r g2 H locs b LS st := by
  obtain ⟨hmi, ⟨hx, hb, hml, hown, hts, hret, hlk, hS⟩, hK, hL, hP, hV, ok, hbk⟩ := X
  change (match (generalizing := false) st with | .inl x :: st => if x < 0 then K a ls st g else K (k + 1) ls st g | _ => none) = some (r, g2) at h
  split at h
  next x st1 => exact lv_if_lt hx hb hd ht (fun q => hK _ _ _ _ (by rw [if_pos q] at h; exact h) (ok.st (am_ok_t ok.2.1)) _ _ _ _ hL hP hV hta) (fun q => hK _ _ _ _ (by rw [if_neg q] at h; exact h) (ok.st (am_ok_t ok.2.1)) _ _ _ _ hL hP hV hn)
  next => cases h
theorem am_r_icmp_lt (X : am_X l dC dI aC base adK adV p e s m args below meth c mi d r g2 K k ls st g H locs b LS) {off : Int} {t : Nat} (ht : (b : Int) + off = (t : Int)) (hta : am_nth (am_bp mi) a = some t) (hd : decode (am_B mi) b = .ok (.if_icmp .lt off, 3)) (hn : am_nth (am_bp mi) (k + 1) = some (b + 3)) (h : am_do K C (.if_icmp .lt off, a, bb, cc, z) k ls st g = some (r, g2)) : am_Go l dC dI aC base adK p e s m args below meth c mi d r g2 H locs b LS st := by
  obtain ⟨hmi, ⟨hx, hb, hml, hown, hts, hret, hlk, hS⟩, hK, hL, hP, hV, ok, hbk⟩ := X
  change (match (generalizing := false) st with | .inl y :: .inl x :: st => if x < y then K a ls st g else K (k + 1) ls st g | _ => none) = some (r, g2) at h
  split at h
  next y x st1 => exact lv_icmp_lt hx hb hd ht (fun q => hK _ _ _ _ (by rw [if_pos q] at h; exact h) (ok.st (am_ok_t (am_ok_t ok.2.1))) _ _ _ _ hL hP hV hta) (fun q => hK _ _ _ _ (by rw [if_neg q] at h; exact h) (ok.st (am_ok_t (am_ok_t ok.2.1))) _ _ _ _ hL hP hV hn)
  next => cases h
theorem am_r_if_ge (X : am_X l dC dI aC base adK adV p e s m args below meth c mi d r g2 K k ls st g H locs b LS) {off : Int} {t : Nat} (ht : (b : Int) + off = (t : Int)) (hta : am_nth (am_bp mi) a = some t) (hd : decode (am_B mi) b = .ok (.ifCond .ge off, 3)) (hn : am_nth (am_bp mi) (k + 1) = some (b + 3)) (h : am_do K C (.ifCond .ge off, a, bb, cc, z) k ls st g = some (r, g2)) : am_Go l dC dI aC base adK p e s m args below meth c mi d r g2 H locs b LS st := by
  obtain ⟨hmi, ⟨hx, hb, hml, hown, hts, hret, hlk, hS⟩, hK, hL, hP, hV, ok, hbk⟩ := X
  change (match (generalizing := false) st with | .inl x :: st => if x < 0 then K (k + 1) ls st g else K a ls st g | _ => none) = some (r, g2) at h
  split at h
  next x st1 => exact lv_if_ge hx hb hd ht (fun q => hK _ _ _ _ (by rw [if_neg (Int32.not_lt.mpr q)] at h; exact h) (ok.st (am_ok_t ok.2.1)) _ _ _ _ hL hP hV hta) (fun q => hK _ _ _ _ (by rw [if_pos (Int32.not_le.mp q)] at h; exact h) (ok.st (am_ok_t ok.2.1)) _ _ _ _ hL hP hV hn)
  next => cases h
theorem am_r_icmp_ge (X : am_X l dC dI aC base adK adV p e s m args below meth c mi d r g2 K k ls st g H locs b LS) {off : Int} {t : Nat} (ht : (b : Int) + off = (t : Int)) (hta : am_nth (am_bp mi) a = some t) (hd : decode (am_B mi) b = .ok (.if_icmp .ge off, 3)) (hn : am_nth (am_bp mi) (k + 1) = some (b + 3)) (h : am_do K C (.if_icmp .ge off, a, bb, cc, z) k ls st g = some (r, g2)) : am_Go l dC dI aC base adK p e s m args below meth c mi d r g2 H locs b LS st := by
  obtain ⟨hmi, ⟨hx, hb, hml, hown, hts, hret, hlk, hS⟩, hK, hL, hP, hV, ok, hbk⟩ := X
  change (match (generalizing := false) st with | .inl y :: .inl x :: st => if x < y then K (k + 1) ls st g else K a ls st g | _ => none) = some (r, g2) at h
  split at h
  next y x st1 => exact lv_icmp_ge hx hb hd ht (fun q => hK _ _ _ _ (by rw [if_neg (Int32.not_lt.mpr q)] at h; exact h) (ok.st (am_ok_t (am_ok_t ok.2.1))) _ _ _ _ hL hP hV hta) (fun q => hK _ _ _ _ (by rw [if_pos (Int32.not_le.mp q)] at h; exact h) (ok.st (am_ok_t (am_ok_t ok.2.1))) _ _ _ _ hL hP hV hn)
  next => cases h
theorem am_r_if_gt (X : am_X l dC dI aC base adK adV p e s m args below meth c mi d r g2 K k ls st g H locs b LS) {off : Int} {t : Nat} (ht : (b : Int) + off = (t : Int)) (hta : am_nth (am_bp mi) a = some t) (hd : decode (am_B mi) b = .ok (.ifCond .gt off, 3)) (hn : am_nth (am_bp mi) (k + 1) = some (b + 3)) (h : am_do K C (.ifCond .gt off, a, bb, cc, z) k ls st g = some (r, g2)) : am_Go l dC dI aC base adK p e s m args below meth c mi d r g2 H locs b LS st := by
  obtain ⟨hmi, ⟨hx, hb, hml, hown, hts, hret, hlk, hS⟩, hK, hL, hP, hV, ok, hbk⟩ := X
  change (match (generalizing := false) st with | .inl x :: st => if 0 < x then K a ls st g else K (k + 1) ls st g | _ => none) = some (r, g2) at h
  split at h
  next x st1 => exact lv_if_gt hx hb hd ht (fun q => hK _ _ _ _ (by rw [if_pos q] at h; exact h) (ok.st (am_ok_t ok.2.1)) _ _ _ _ hL hP hV hta) (fun q => hK _ _ _ _ (by rw [if_neg q] at h; exact h) (ok.st (am_ok_t ok.2.1)) _ _ _ _ hL hP hV hn)
  next => cases h
theorem am_r_icmp_gt (X : am_X l dC dI aC base adK adV p e s m args below meth c mi d r g2 K k ls st g H locs b LS) {off : Int} {t : Nat} (ht : (b : Int) + off = (t : Int)) (hta : am_nth (am_bp mi) a = some t) (hd : decode (am_B mi) b = .ok (.if_icmp .gt off, 3)) (hn : am_nth (am_bp mi) (k + 1) = some (b + 3)) (h : am_do K C (.if_icmp .gt off, a, bb, cc, z) k ls st g = some (r, g2)) : am_Go l dC dI aC base adK p e s m args below meth c mi d r g2 H locs b LS st := by
  obtain ⟨hmi, ⟨hx, hb, hml, hown, hts, hret, hlk, hS⟩, hK, hL, hP, hV, ok, hbk⟩ := X
  change (match (generalizing := false) st with | .inl y :: .inl x :: st => if y < x then K a ls st g else K (k + 1) ls st g | _ => none) = some (r, g2) at h
  split at h
  next y x st1 => exact lv_icmp_gt hx hb hd ht (fun q => hK _ _ _ _ (by rw [if_pos q] at h; exact h) (ok.st (am_ok_t (am_ok_t ok.2.1))) _ _ _ _ hL hP hV hta) (fun q => hK _ _ _ _ (by rw [if_neg q] at h; exact h) (ok.st (am_ok_t (am_ok_t ok.2.1))) _ _ _ _ hL hP hV hn)
  next => cases h
theorem am_r_if_le (X : am_X l dC dI aC base adK adV p e s m args below meth c mi d r g2 K k ls st g H locs b LS) {off : Int} {t : Nat} (ht : (b : Int) + off = (t : Int)) (hta : am_nth (am_bp mi) a = some t) (hd : decode (am_B mi) b = .ok (.ifCond .le off, 3)) (hn : am_nth (am_bp mi) (k + 1) = some (b + 3)) (h : am_do K C (.ifCond .le off, a, bb, cc, z) k ls st g = some (r, g2)) : am_Go l dC dI aC base adK p e s m args below meth c mi d r g2 H locs b LS st := by
  obtain ⟨hmi, ⟨hx, hb, hml, hown, hts, hret, hlk, hS⟩, hK, hL, hP, hV, ok, hbk⟩ := X
  change (match (generalizing := false) st with | .inl x :: st => if 0 < x then K (k + 1) ls st g else K a ls st g | _ => none) = some (r, g2) at h
  split at h
  next x st1 => exact lv_if_le hx hb hd ht (fun q => hK _ _ _ _ (by rw [if_neg (Int32.not_lt.mpr q)] at h; exact h) (ok.st (am_ok_t ok.2.1)) _ _ _ _ hL hP hV hta) (fun q => hK _ _ _ _ (by rw [if_pos (Int32.not_le.mp q)] at h; exact h) (ok.st (am_ok_t ok.2.1)) _ _ _ _ hL hP hV hn)
  next => cases h
theorem am_r_icmp_le (X : am_X l dC dI aC base adK adV p e s m args below meth c mi d r g2 K k ls st g H locs b LS) {off : Int} {t : Nat} (ht : (b : Int) + off = (t : Int)) (hta : am_nth (am_bp mi) a = some t) (hd : decode (am_B mi) b = .ok (.if_icmp .le off, 3)) (hn : am_nth (am_bp mi) (k + 1) = some (b + 3)) (h : am_do K C (.if_icmp .le off, a, bb, cc, z) k ls st g = some (r, g2)) : am_Go l dC dI aC base adK p e s m args below meth c mi d r g2 H locs b LS st := by
  obtain ⟨hmi, ⟨hx, hb, hml, hown, hts, hret, hlk, hS⟩, hK, hL, hP, hV, ok, hbk⟩ := X
  change (match (generalizing := false) st with | .inl y :: .inl x :: st => if y < x then K (k + 1) ls st g else K a ls st g | _ => none) = some (r, g2) at h
  split at h
  next y x st1 => exact lv_icmp_le hx hb hd ht (fun q => hK _ _ _ _ (by rw [if_neg (Int32.not_lt.mpr q)] at h; exact h) (ok.st (am_ok_t (am_ok_t ok.2.1))) _ _ _ _ hL hP hV hta) (fun q => hK _ _ _ _ (by rw [if_pos (Int32.not_le.mp q)] at h; exact h) (ok.st (am_ok_t (am_ok_t ok.2.1))) _ _ _ _ hL hP hV hn)
  next => cases h
theorem am_r_goto (X : am_X l dC dI aC base adK adV p e s m args below meth c mi d r g2 K k ls st g H locs b LS) {off : Int} {t : Nat} (ht : (b : Int) + off = (t : Int)) (hta : am_nth (am_bp mi) a = some t) (hd : decode (am_B mi) b = .ok (.goto off, 3)) (h : am_do K C (.goto off, a, bb, cc, z) k ls st g = some (r, g2)) : am_Go l dC dI aC base adK p e s m args below meth c mi d r g2 H locs b LS st := by
  obtain ⟨hmi, ⟨hx, hb, hml, hown, hts, hret, hlk, hS⟩, hK, hL, hP, hV, ok, hbk⟩ := X
  exact lv_goto hx hb hd ht (hK _ _ _ _ h ok _ _ _ _ hL hP hV hta)
theorem am_r_ireturn (X : am_X l dC dI aC base adK adV p e s m args below meth c mi d r g2 K k ls st g H locs b LS) (hrt : ((am_head mi).2.2 = 1 ∧ a = 0) ∨ ((am_head mi).2.2 = 2 ∧ a = 1)) (hd : decode (am_B mi) b = .ok (.ireturn, 1)) (h : am_do K C (.ireturn, a, bb, cc, z) k ls st g = some (r, g2)) : am_Go l dC dI aC base adK p e s m args below meth c mi d r g2 H locs b LS st := by
  obtain ⟨hmi, ⟨hx, hb, hml, hown, hts, hret, hlk, hS⟩, hK, hL, hP, hV, ok, hbk⟩ := X
  change (match (generalizing := false) st with | [.inl v] => if a = 1 then (if v = 0 ∨ v = 1 then some (some (vi v), g) else none) else some (some (vi v), g) | _ => none) = some (r, g2) at h
  split at h
  next v =>
    rcases hrt with ⟨h1, h2⟩ | ⟨h1, h2⟩
    · subst h2
      rw [if_neg (by decide)] at h
      cases h
      exact W.iret hx hb (by rw [hret]; unfold am_ret; rw [h1]; rfl) (fun t ht hW => ⟨rfl, by rw [ht]; exact hP, hV.F ht, ok.2.2⟩) hV.2.2 hd hlk
    · subst h2
      rw [if_pos rfl] at h
      by_cases hv : v = 0 ∨ v = 1
      · rw [if_pos hv] at h
        cases h
        exact W.zret (ty := .boolean) hx hb (by rw [hret]; unfold am_ret; rw [h1]; rfl) (by rcases hv with rfl | rfl <;> rfl) (fun t ht hW => ⟨rfl, by rw [ht]; exact hP, hV.F ht, ok.2.2⟩) hV.2.2 hd hlk
      · rw [if_neg hv] at h; cases h
  next => cases h
theorem am_r_lreturn (X : am_X l dC dI aC base adK adV p e s m args below meth c mi d r g2 K k ls st g H locs b LS) (hrt : (am_head mi).2.2 = 3) (hd : decode (am_B mi) b = .ok (.lreturn, 1)) (h : am_do K C (.lreturn, a, bb, cc, z) k ls st g = some (r, g2)) : am_Go l dC dI aC base adK p e s m args below meth c mi d r g2 H locs b LS st := by
  obtain ⟨hmi, ⟨hx, hb, hml, hown, hts, hret, hlk, hS⟩, hK, hL, hP, hV, ok, hbk⟩ := X
  change (match (generalizing := false) st with | [.inr (.inl v)] => some (some (vl v), g) | _ => none) = some (r, g2) at h
  split at h
  next v =>
    cases h
    exact W.lret hx hb (by rw [hret]; unfold am_ret; rw [hrt]; rfl) (fun t ht hW => ⟨rfl, by rw [ht]; exact hP, hV.F ht, ok.2.2⟩) hV.2.2 hd hlk
  next => cases h
theorem am_r_return (X : am_X l dC dI aC base adK adV p e s m args below meth c mi d r g2 K k ls st g H locs b LS) (hrt : (am_head mi).2.2 = 0) (hd : decode (am_B mi) b = .ok (.return_, 1)) (h : am_do K C (.return_, a, bb, cc, z) k ls st g = some (r, g2)) : am_Go l dC dI aC base adK p e s m args below meth c mi d r g2 H locs b LS st := by
  obtain ⟨hmi, ⟨hx, hb, hml, hown, hts, hret, hlk, hS⟩, hK, hL, hP, hV, ok, hbk⟩ := X
  change (match (generalizing := false) st with | [] => some (none, g) | _ => none) = some (r, g2) at h
  split at h
  next =>
    cases h
    exact W.vret hx hb (by rw [hret]; unfold am_ret; rw [hrt]; rfl) (fun t ht hW => ⟨rfl, by rw [ht]; exact hP, hV.F ht, ok.2.2⟩) hV.2.2 hd hlk
  next => cases h
end AMR
end
section
/-! one theorem an instruction: fields, arrays -/
theorem am_okv_ref {kd i : Nat} (h : am_okv (.inr (.inr (kd, i)))) (hf : (af kd).1 ≠ 99) : kd < 112 ∧ i < am_cnt kd := by
  rcases h with ⟨rfl, -⟩ | h
  · exact absurd rfl hf
  · exact h
theorem am_ad_eq {base : Nat} {adK : Nat → Nat} {kd i : Nat} (h : kd < 112) : am_ad base adK kd i = base + am_off kd i := by
  unfold am_ad
  rw [if_neg (by omega)]
theorem am_u_good {C : String} {T : u_T} {N : Nat} {w : Cond} (h : w ∈ u_ws C T N) : goodWord w = true := by
  unfold u_ws at h
  obtain ⟨k, -, rfl⟩ := List.mem_map.mp h
  unfold u_lay
  split <;> rfl
theorem am_inW {C : Nat} {mi : Nat} {R : String} {T : u_T} {N : Nat} (h : ∀ x ∈ u_ws R T N, x ∈ lw_tbl) : ∀ x ∈ u_ws R T N, x ∈ am_W mi :=
  fun x hx => List.mem_cons_of_mem _ (List.mem_filter.mpr ⟨h x hx, am_u_good hx⟩)
/-- what is known of a class by its number -/
def am_CI (C : Nat) : Prop := (∀ x ∈ u_ws (am_R C) (am_T C) (am_N C), x ∈ lw_tbl) ∧ classes[C]? = some (am_R C, am_T C, am_N C) ∧ (∃ ty0 : Nat → FieldType, ∀ k, k < am_N C → parseFieldDescriptor (am_T C k).2.2.1 = some (ty0 k)) ∧ (∀ a, a < am_N C → ∀ b, b < am_N C → a ≠ b → (am_T C a).2.1 ≠ (am_T C b).2.1) ∧ (∀ k, k < am_N C → (am_T C k).1 = am_R C)
theorem am_ci0 : am_CI 0 := ⟨am_in0, rfl, ⟨am_ty0, am_tk0⟩, am_nm0, by decide +kernel⟩
theorem am_ci1 : am_CI 1 := ⟨am_in1, rfl, ⟨am_ty1, am_tk1⟩, am_nm1, by decide +kernel⟩
theorem am_ci2 : am_CI 2 := ⟨am_in2, rfl, ⟨am_ty2, am_tk2⟩, am_nm2, by decide +kernel⟩
theorem am_ci3 : am_CI 3 := ⟨am_in3, rfl, ⟨am_ty3, am_tk3⟩, am_nm3, by decide +kernel⟩
theorem am_ci4 : am_CI 4 := ⟨am_in4, rfl, ⟨am_ty4, am_tk4⟩, am_nm4, by decide +kernel⟩
theorem am_ci5 : am_CI 5 := ⟨am_in5, rfl, ⟨am_ty5, am_tk5⟩, am_nm5, by decide +kernel⟩
theorem am_ci6 : am_CI 6 := ⟨am_in6, rfl, ⟨am_ty6, am_tk6⟩, am_nm6, by decide +kernel⟩
theorem am_ci7 : am_CI 7 := ⟨am_in7, rfl, ⟨am_ty7, am_tk7⟩, am_nm7, by decide +kernel⟩
theorem am_ci8 : am_CI 8 := ⟨am_in8, rfl, ⟨am_ty8, am_tk8⟩, am_nm8, by decide +kernel⟩
theorem am_ci9 : am_CI 9 := ⟨am_in9, rfl, ⟨am_ty9, am_tk9⟩, am_nm9, by decide +kernel⟩
theorem am_ci10 : am_CI 10 := ⟨am_in10, rfl, ⟨am_ty10, am_tk10⟩, am_nm10, by decide +kernel⟩
theorem am_ci11 : am_CI 11 := ⟨am_in11, rfl, ⟨am_ty11, am_tk11⟩, am_nm11, by decide +kernel⟩
theorem am_ci12 : am_CI 12 := ⟨am_in12, rfl, ⟨am_ty12, am_tk12⟩, am_nm12, by decide +kernel⟩
theorem am_ci {C : Nat} (h : C < 13) : am_CI C := by
  match C, h with
  | 0, _ => exact am_ci0
  | 1, _ => exact am_ci1
  | 2, _ => exact am_ci2
  | 3, _ => exact am_ci3
  | 4, _ => exact am_ci4
  | 5, _ => exact am_ci5
  | 6, _ => exact am_ci6
  | 7, _ => exact am_ci7
  | 8, _ => exact am_ci8
  | 9, _ => exact am_ci9
  | 10, _ => exact am_ci10
  | 11, _ => exact am_ci11
  | 12, _ => exact am_ci12
  | n + 13, h => exact absurd h (by omega)
theorem am_fls_lt : (am_fls.all fun e => decide (e.2.2.1 < 13 ∧ e.2.2.2.1 < am_N e.2.2.1 ∧ e.2.2.2.1 < 89)) = true := by decide +kernel
theorem am_e_obj {aC : Nat → ClassId} {base : Nat} {f : Nat → Int32} {h : Nat → Int64} {x y k i C : Nat} (hk : k < 112) (hC : C < 13) (hf : (af k).1 = C) : am_e aC base f h x y k i = .inr (C, (List.range (am_N C)).map (am_fv base f h x y k i C)) := by
  unfold am_e
  rcases af_tab k hk with ⟨h1, h2⟩ | ⟨h1, -⟩
  · rw [if_pos h1, h2, hf]
  · omega
theorem am_e_arr {aC : Nat → ClassId} {base : Nat} {f : Nat → Int32} {h : Nat → Int64} {x y k i C : Nat} (hC : 13 ≤ C) (hf : (af k).1 = C) : am_e aC base f h x y k i = .inl (aC C, (af k).2, am_ec base f h k i) := by
  unfold am_e
  rw [if_neg (by omega), hf]
section AMH
variable {l : Launch} {dC : Nat → ClassId} {dI : Nat → Nat → Nat} {aC : Nat → ClassId} {base : Nat} {adK adV : Nat → Nat} {p : Program} {e : Env} {s : State} {m : MethodId} {args : Array Value} {below : List Frame} {meth : Method} {c : Code} {mi d : Nat} {r : Option mv} {g2 : mg} {K : Nat → ml → List mv → mg → Option mr} {C : Nat → List mv → mg → Option mr} {k : Nat} {ls : ml} {st : List mv} {g : mg} {H : Heap} {locs : List Loc} {b : Nat} {LS : Array Slot} {a bb cc : Nat} {z : mv}
theorem am_r_getfield (X : am_X l dC dI aC base adK adV p e s m args below meth c mi d r g2 K k ls st g H locs b LS) {x q : Nat} (hq : (( am_head mi).1, x, a, bb, q) ∈ am_fls) (hty : am_fty a bb = cc) (hd : decode (am_B mi) b = .ok (.getfield x, 3)) (hn : am_nth (am_bp mi) (k + 1) = some (b + 3)) (h : am_do K C (.getfield x, a, bb, cc, z) k ls st g = some (r, g2)) : am_Go l dC dI aC base adK p e s m args below meth c mi d r g2 H locs b LS st := by
  obtain ⟨hmi, ⟨hx, hb, hml, hown, hts, hret, hlk, hS⟩, hK, hL, hP, hV, ok, hbk⟩ := X
  have hlt := of_decide_eq_true (List.all_eq_true.mp am_fls_lt _ hq)
  have hw := of_decide_eq_true (List.all_eq_true.mp am_fl_ok _ hq)
  dsimp only at hlt hw
  obtain ⟨ha, hbN, -⟩ := hlt
  obtain ⟨c1, c2, -, -, c5⟩ := am_ci ha
  change (match (generalizing := false) st with
      | .inr (.inr (kd, i)) :: st => if (af kd).1 = a then
          match (generalizing := false) cc with
          | 1 => K (k + 1) ls (vl (g.2.1 kd bb) :: st) g
          | 2 => match (generalizing := false) ar kd bb i g.2.2.1 g.2.2.2 with
            | some r => K (k + 1) ls (.inr (.inr r) :: st) g
            | none => none
          | _ => K (k + 1) ls (vi (g.1 kd i bb) :: st) g
        else none
      | _ => none) = some (r, g2) at h
  split at h
  next kd i st1 =>
    by_cases hf : (af kd).1 = a
    · rw [if_pos hf] at h
      obtain ⟨hk, hi⟩ := am_okv_ref (am_ok_h ok.2.1) (by omega)
      have he := am_w_at aC base g hk hi
      rw [am_e_obj hk ha hf] at he
      have hv : ((List.range (am_N a)).map (am_fv base (g.1 kd i) (g.2.1 kd) g.2.2.1 g.2.2.2 kd i a))[bb]? = some (am_fv base (g.1 kd i) (g.2.1 kd) g.2.2.1 g.2.2.2 kd i a bb) := by
        rw [List.getElem?_map, List.getElem?_range hbN]; rfl
      have key : ∀ v : mv, am_fv base (g.1 kd i) (g.2.1 kd) g.2.2.1 g.2.2.2 kd i a bb = am_t base adK v → am_okv v → K (k + 1) ls (v :: st1) g = some (r, g2) → am_Go l dC dI aC base adK p e s m args below meth c mi d r g2 H locs b LS (.inr (.inr (kd, i)) :: st1) := by
        intro v e1 okv hv2
        have row := va_get (rest := st1.map (am_t base adK)) (ls := LS) (Q := MQ below (am_Qc dC dI aC base adK r g2) args s 0 0 (fun q => base ≤ q)) (locs := locs) (cells := 0) (slots := 0) (below := below) (meth := meth) (l := l) (e := e) (R := am_rm d) hx hb (ref := am_R a) (C := am_R a) (T := am_T a) (N := am_N a) hts (am_inW (C := a) c1) hown hS.1 hP (am_off kd i) he c2 bb hbN (hts _ (am_in_W hw rfl)) (by rw [c5 bb hbN]; exact fun _ q => q) hv hd (by rw [e1]; exact hK _ _ _ _ hv2 (ok.st (am_ok_c okv (am_ok_t ok.2.1))) _ _ _ _ hL hP hV hn)
        unfold am_Go
        rw [List.map_cons]
        show W _ _ _ _ _ _ _ _ _ _ _ _ _ _ _ (F0 m b LS (Value.ref (am_ad base adK kd i) :: _))
        rw [am_ad_eq hk]
        exact row
      have hfv : am_fv base (g.1 kd i) (g.2.1 kd) g.2.2.1 g.2.2.2 kd i a bb = match (generalizing := false) cc with
          | 1 => .long (g.2.1 kd bb)
          | 2 => match (generalizing := false) ar kd bb i g.2.2.1 g.2.2.2 with
            | some r => .ref (base + am_off r.1 r.2)
            | none => .null
          | _ => .int (g.1 kd i bb) := by
        rw [← hty]; rfl
      split at h
      · exact key (vl (g.2.1 kd bb)) hfv (am_ok_l _) h
      · split at h
        · rename_i r1 hr1
          have hok := am_rf_ok hk hi ok.2.2.1 ok.2.2.2 hr1
          refine key (.inr (.inr r1)) ?_ (Or.inr hok) h
          rw [hfv]
          try dsimp only
          rw [hr1]
          show Value.ref _ = Value.ref (am_ad base adK r1.1 r1.2)
          rw [am_ad_eq hok.1]
        · cases h
      · rename_i h1 h2
        refine key (vi (g.1 kd i bb)) ?_ (am_ok_i _) h
        rw [hfv]
        split
        · exact absurd rfl h1
        · exact absurd rfl h2
        · rfl
    · rw [if_neg hf] at h; cases h
  next => cases h
end AMH
end
section
/-! one theorem an instruction: arrays, putfield -/
theorem am_ec_i {base : Nat} {f : Nat → Int32} {h : Nat → Int64} {k i : Nat} (h1 : (af k).1 ≠ 21) (h2 : (af k).1 ≠ 25) (h3 : (af k).1 ≠ 26) : am_ec base f h k i = .inl f := by
  unfold am_ec
  split
  · rename_i q; exact absurd q h1
  · rename_i q; exact absurd q h2
  · rename_i q; exact absurd q h3
  · rfl
theorem am_ec_l {base : Nat} {f : Nat → Int32} {h : Nat → Int64} {k i : Nat} (h1 : (af k).1 = 21) : am_ec base f h k i = .inr (.inl h) := by
  unfold am_ec
  rw [h1]
  rfl
theorem am_ec_r {base : Nat} {f : Nat → Int32} {h : Nat → Int64} {k i : Nat} (h1 : (af k).1 = 25 ∨ (af k).1 = 26) : am_ec base f h k i = .inr (.inr (.inr (.inr (fun j => (ae k i j).map (fun r => base + am_off r.1 r.2))))) := by
  unfold am_ec
  rcases h1 with h1 | h1 <;> rw [h1] <;> rfl
theorem am_e_x {aC : Nat → ClassId} {base : Nat} {f : Nat → Int32} {h : Nat → Int64} {x y x2 y2 k i : Nat} (hk : k < 112) (hx : k = 20 → x = x2) (hy : k = 3 → y = y2) : am_e aC base f h x y k i = am_e aC base f h x2 y2 k i := by
  have key : ∀ s, ar k s i x y = ar k s i x2 y2 := by
    intro s
    unfold ar
    split
    · rfl
    · rfl
    · rename_i k2 q
      rw [hx (am_rf_ent hk q).2.1.2]
    · rename_i k2 q
      rw [hy (am_rf_ent hk q).2.1.2]
    · rfl
  have e2 : am_fv base f h x y k i (af k).1 = am_fv base f h x2 y2 k i (af k).1 := by
    funext s
    unfold am_fv
    rw [key s]
  unfold am_e
  rw [e2]
theorem am_not_in {n : Nat} {j : Int32} (h : ¬ (j < 0 ∨ n ≤ j.toNatClampNeg)) : vp_in j n := h
section AMA
variable {l : Launch} {dC : Nat → ClassId} {dI : Nat → Nat → Nat} {aC : Nat → ClassId} {base : Nat} {adK adV : Nat → Nat} {p : Program} {e : Env} {s : State} {m : MethodId} {args : Array Value} {below : List Frame} {meth : Method} {c : Code} {mi d : Nat} {r : Option mv} {g2 : mg} {K : Nat → ml → List mv → mg → Option mr} {C : Nat → List mv → mg → Option mr} {k : Nat} {ls : ml} {st : List mv} {g : mg} {H : Heap} {locs : List Loc} {b : Nat} {LS : Array Slot} {a bb cc : Nat} {z : mv}
theorem am_r_iaload (X : am_X l dC dI aC base adK adV p e s m args below meth c mi d r g2 K k ls st g H locs b LS) (hd : decode (am_B mi) b = .ok (.iaload, 1)) (hn : am_nth (am_bp mi) (k + 1) = some (b + 1)) (h : am_do K C (.iaload, a, bb, cc, z) k ls st g = some (r, g2)) : am_Go l dC dI aC base adK p e s m args below meth c mi d r g2 H locs b LS st := by
  obtain ⟨hmi, ⟨hx, hb, hml, hown, hts, hret, hlk, hS⟩, hK, hL, hP, hV, ok, hbk⟩ := X
  change (match (generalizing := false) st with
      | .inl j :: .inr (.inr (kd, i)) :: st => if (af kd).1 = 20 then (if j < 0 ∨ (af kd).2 ≤ j.toNatClampNeg then none else K (k + 1) ls (vi (g.1 kd i j.toNatClampNeg) :: st) g) else none
      | _ => none) = some (r, g2) at h
  split at h
  next j kd i st1 =>
    by_cases hf0 : (af kd).1 = 20
    · rw [if_pos hf0] at h
      by_cases hj : j < 0 ∨ (af kd).2 ≤ j.toNatClampNeg
      · rw [if_pos hj] at h; cases h
      · rw [if_neg hj] at h
        have hf := hf0
        obtain ⟨hk, hi⟩ := am_okv_ref (am_ok_h (am_ok_t ok.2.1)) (by omega)
        have he := am_w_at aC base g hk hi
        rw [am_e_arr (C := 20) (by omega) hf, am_ec_i (by omega) (by omega) (by omega)] at he
        unfold am_Go
        show W _ _ _ _ _ _ _ _ _ _ _ _ _ _ _ (F0 m b LS (Value.int j :: Value.ref (am_ad base adK kd i) :: _))
        rw [am_ad_eq hk]
        exact va_iald hx hb hS.1 hP (am_off kd i) 0 he rfl (am_not_in hj) hd (hK _ _ _ _ h (ok.st (am_ok_c (am_ok_i _) (am_ok_t (am_ok_t ok.2.1)))) _ _ _ _ hL hP hV hn)
    · rw [if_neg hf0] at h; cases h
  next => cases h
theorem am_r_caload (X : am_X l dC dI aC base adK adV p e s m args below meth c mi d r g2 K k ls st g H locs b LS) (hd : decode (am_B mi) b = .ok (.caload, 1)) (hn : am_nth (am_bp mi) (k + 1) = some (b + 1)) (h : am_do K C (.caload, a, bb, cc, z) k ls st g = some (r, g2)) : am_Go l dC dI aC base adK p e s m args below meth c mi d r g2 H locs b LS st := by
  obtain ⟨hmi, ⟨hx, hb, hml, hown, hts, hret, hlk, hS⟩, hK, hL, hP, hV, ok, hbk⟩ := X
  change (match (generalizing := false) st with
      | .inl j :: .inr (.inr (kd, i)) :: st => if (af kd).1 = 24 then (if j < 0 ∨ (af kd).2 ≤ j.toNatClampNeg then none else K (k + 1) ls (vi (g.1 kd i j.toNatClampNeg) :: st) g) else none
      | _ => none) = some (r, g2) at h
  split at h
  next j kd i st1 =>
    by_cases hf0 : (af kd).1 = 24
    · rw [if_pos hf0] at h
      by_cases hj : j < 0 ∨ (af kd).2 ≤ j.toNatClampNeg
      · rw [if_pos hj] at h; cases h
      · rw [if_neg hj] at h
        have hf := hf0
        obtain ⟨hk, hi⟩ := am_okv_ref (am_ok_h (am_ok_t ok.2.1)) (by omega)
        have he := am_w_at aC base g hk hi
        rw [am_e_arr (C := 24) (by omega) hf, am_ec_i (by omega) (by omega) (by omega)] at he
        unfold am_Go
        show W _ _ _ _ _ _ _ _ _ _ _ _ _ _ _ (F0 m b LS (Value.int j :: Value.ref (am_ad base adK kd i) :: _))
        rw [am_ad_eq hk]
        exact va_cald hx hb hS.1 hP (am_off kd i) 4 he rfl (am_not_in hj) hd (hK _ _ _ _ h (ok.st (am_ok_c (am_ok_i _) (am_ok_t (am_ok_t ok.2.1)))) _ _ _ _ hL hP hV hn)
    · rw [if_neg hf0] at h; cases h
  next => cases h
theorem am_r_laload (X : am_X l dC dI aC base adK adV p e s m args below meth c mi d r g2 K k ls st g H locs b LS) (hd : decode (am_B mi) b = .ok (.laload, 1)) (hn : am_nth (am_bp mi) (k + 1) = some (b + 1)) (h : am_do K C (.laload, a, bb, cc, z) k ls st g = some (r, g2)) : am_Go l dC dI aC base adK p e s m args below meth c mi d r g2 H locs b LS st := by
  obtain ⟨hmi, ⟨hx, hb, hml, hown, hts, hret, hlk, hS⟩, hK, hL, hP, hV, ok, hbk⟩ := X
  change (match (generalizing := false) st with
      | .inl j :: .inr (.inr (kd, i)) :: st => if (af kd).1 = 21 then (if j < 0 ∨ (af kd).2 ≤ j.toNatClampNeg then none else K (k + 1) ls (vl (g.2.1 kd j.toNatClampNeg) :: st) g) else none
      | _ => none) = some (r, g2) at h
  split at h
  next j kd i st1 =>
    by_cases hf0 : (af kd).1 = 21
    · rw [if_pos hf0] at h
      by_cases hj : j < 0 ∨ (af kd).2 ≤ j.toNatClampNeg
      · rw [if_pos hj] at h; cases h
      · rw [if_neg hj] at h
        have hf := hf0
        obtain ⟨hk, hi⟩ := am_okv_ref (am_ok_h (am_ok_t ok.2.1)) (by omega)
        have he := am_w_at aC base g hk hi
        rw [am_e_arr (C := 21) (by omega) hf, am_ec_l hf] at he
        unfold am_Go
        show W _ _ _ _ _ _ _ _ _ _ _ _ _ _ _ (F0 m b LS (Value.int j :: Value.ref (am_ad base adK kd i) :: _))
        rw [am_ad_eq hk]
        exact va_lald hx hb hS.1 hP (am_off kd i) 1 he rfl (am_not_in hj) hd (hK _ _ _ _ h (ok.st (am_ok_c (am_ok_l _) (am_ok_t (am_ok_t ok.2.1)))) _ _ _ _ hL hP hV hn)
    · rw [if_neg hf0] at h; cases h
  next => cases h
theorem am_r_baload (X : am_X l dC dI aC base adK adV p e s m args below meth c mi d r g2 K k ls st g H locs b LS) (hd : decode (am_B mi) b = .ok (.baload, 1)) (hn : am_nth (am_bp mi) (k + 1) = some (b + 1)) (h : am_do K C (.baload, a, bb, cc, z) k ls st g = some (r, g2)) : am_Go l dC dI aC base adK p e s m args below meth c mi d r g2 H locs b LS st := by
  obtain ⟨hmi, ⟨hx, hb, hml, hown, hts, hret, hlk, hS⟩, hK, hL, hP, hV, ok, hbk⟩ := X
  change (match (generalizing := false) st with
      | .inl j :: .inr (.inr (kd, i)) :: st => if (af kd).1 = 22 ∨ (af kd).1 = 23 then (if j < 0 ∨ (af kd).2 ≤ j.toNatClampNeg then none else K (k + 1) ls (vi (g.1 kd i j.toNatClampNeg) :: st) g) else none
      | _ => none) = some (r, g2) at h
  split at h
  next j kd i st1 =>
    by_cases hf0 : (af kd).1 = 22 ∨ (af kd).1 = 23
    · rw [if_pos hf0] at h
      by_cases hj : j < 0 ∨ (af kd).2 ≤ j.toNatClampNeg
      · rw [if_pos hj] at h; cases h
      · rw [if_neg hj] at h
        rcases hf0 with hf | hf
        · obtain ⟨hk, hi⟩ := am_okv_ref (am_ok_h (am_ok_t ok.2.1)) (by omega)
          have he := am_w_at aC base g hk hi
          rw [am_e_arr (C := 22) (by omega) hf, am_ec_i (by omega) (by omega) (by omega)] at he
          unfold am_Go
          show W _ _ _ _ _ _ _ _ _ _ _ _ _ _ _ (F0 m b LS (Value.int j :: Value.ref (am_ad base adK kd i) :: _))
          rw [am_ad_eq hk]
          exact va_bald hx hb hS.1 hP (am_off kd i) 2 he rfl (am_not_in hj) hd (hK _ _ _ _ h (ok.st (am_ok_c (am_ok_i _) (am_ok_t (am_ok_t ok.2.1)))) _ _ _ _ hL hP hV hn)
        · obtain ⟨hk, hi⟩ := am_okv_ref (am_ok_h (am_ok_t ok.2.1)) (by omega)
          have he := am_w_at aC base g hk hi
          rw [am_e_arr (C := 23) (by omega) hf, am_ec_i (by omega) (by omega) (by omega)] at he
          unfold am_Go
          show W _ _ _ _ _ _ _ _ _ _ _ _ _ _ _ (F0 m b LS (Value.int j :: Value.ref (am_ad base adK kd i) :: _))
          rw [am_ad_eq hk]
          exact va_zald hx hb hS.1 hP (am_off kd i) 3 he rfl (am_not_in hj) hd (hK _ _ _ _ h (ok.st (am_ok_c (am_ok_i _) (am_ok_t (am_ok_t ok.2.1)))) _ _ _ _ hL hP hV hn)
    · rw [if_neg hf0] at h; cases h
  next => cases h
theorem am_r_aaload (X : am_X l dC dI aC base adK adV p e s m args below meth c mi d r g2 K k ls st g H locs b LS) (hd : decode (am_B mi) b = .ok (.aaload, 1)) (hn : am_nth (am_bp mi) (k + 1) = some (b + 1)) (h : am_do K C (.aaload, a, bb, cc, z) k ls st g = some (r, g2)) : am_Go l dC dI aC base adK p e s m args below meth c mi d r g2 H locs b LS st := by
  obtain ⟨hmi, ⟨hx, hb, hml, hown, hts, hret, hlk, hS⟩, hK, hL, hP, hV, ok, hbk⟩ := X
  change (match (generalizing := false) st with
      | .inl j :: .inr (.inr (kd, i)) :: st => if (af kd).1 = 25 ∨ (af kd).1 = 26 then (if j < 0 ∨ (af kd).2 ≤ j.toNatClampNeg then none else
          match (generalizing := false) ae kd i j.toNatClampNeg with
          | some r => K (k + 1) ls (.inr (.inr r) :: st) g
          | none => none) else none
      | _ => none) = some (r, g2) at h
  split at h
  next j kd i st1 =>
    by_cases hf : (af kd).1 = 25 ∨ (af kd).1 = 26
    · rw [if_pos hf] at h
      by_cases hj : j < 0 ∨ (af kd).2 ≤ j.toNatClampNeg
      · rw [if_pos hj] at h; cases h
      · rw [if_neg hj] at h
        have hjl : j.toNatClampNeg < (af kd).2 := Nat.not_le.mp fun q => hj (Or.inr q)
        obtain ⟨hk, hi⟩ := am_okv_ref (am_ok_h (am_ok_t ok.2.1)) (by rcases hf with q | q <;> omega)
        cases hre : ae kd i j.toNatClampNeg with
        | none => rw [hre] at h; cases h
        | some r1 =>
          rw [hre] at h
          dsimp only at h
          have hok := am_re_ok hk hi hjl hre
          have he := am_w_at aC base g hk hi
          rw [am_e_arr (C := (af kd).1) (by rcases hf with q | q <;> omega) rfl, am_ec_r hf] at he
          have hcell := hP _ _ he
          obtain ⟨ty, hty1, hty2⟩ : ∃ ty : FieldType, ty.isReference = true ∧ ArrOfT s (aC (af kd).1) ty := by
            rcases hf with q | q
            · rw [q]; exact ⟨_, rfl, (hS.1.2 5 _ rfl).1⟩
            · rw [q]; exact ⟨_, rfl, (hS.1.2 6 _ rfl).1⟩
          unfold am_Go
          show W _ _ _ _ _ _ _ _ _ _ _ _ _ _ _ (F0 m b LS (Value.int j :: Value.ref (am_ad base adK kd i) :: _))
          rw [am_ad_eq hk]
          refine W.aald (v := am_t base adK (.inr (.inr r1))) (ty := ty) hx hb hcell (hty2 (af kd).2 (fun j => va_rf ((ae kd i j).map (fun r => base + am_off r.1 r.2)))) hty1 (fun q => by cases q) (by show ¬ (j < 0 ∨ (arrV _ _ _).slots.size ≤ _); rw [arrV_size]; exact hj) ?_ rfl rfl hd (hK _ _ _ _ h (ok.st (am_ok_c (Or.inr hok) (am_ok_t (am_ok_t ok.2.1)))) _ _ _ _ hL hP hV hn)
          show (arrV _ _ _).slots[_]? = _
          rw [arrV_read _ _ hjl]
          dsimp only
          rw [hre]
          show some (Value.ref _) = some (Value.ref (am_ad base adK r1.1 r1.2))
          rw [am_ad_eq hok.1]
    · rw [if_neg hf] at h; cases h
  next => cases h
theorem am_r_arraylength (X : am_X l dC dI aC base adK adV p e s m args below meth c mi d r g2 K k ls st g H locs b LS) (hd : decode (am_B mi) b = .ok (.arraylength, 1)) (hn : am_nth (am_bp mi) (k + 1) = some (b + 1)) (h : am_do K C (.arraylength, a, bb, cc, z) k ls st g = some (r, g2)) : am_Go l dC dI aC base adK p e s m args below meth c mi d r g2 H locs b LS st := by
  obtain ⟨hmi, ⟨hx, hb, hml, hown, hts, hret, hlk, hS⟩, hK, hL, hP, hV, ok, hbk⟩ := X
  change (match (generalizing := false) st with
      | .inr (.inr (kd, _)) :: st => if 20 ≤ (af kd).1 ∧ (af kd).1 ≤ 26 then K (k + 1) ls (vi (Int32.ofNat (af kd).2) :: st) g else none
      | _ => none) = some (r, g2) at h
  split at h
  next kd i st1 =>
    by_cases hf : 20 ≤ (af kd).1 ∧ (af kd).1 ≤ 26
    · rw [if_pos hf] at h
      obtain ⟨hk, hi⟩ := am_okv_ref (am_ok_h ok.2.1) (by omega)
      have he := am_w_at aC base g hk hi
      rw [am_e_arr (C := (af kd).1) (by omega) rfl] at he
      obtain ⟨t0, ty, ht⟩ : ∃ (t0 : Nat) (ty : FieldType), (am_tys aC)[t0]? = some (aC (af kd).1, ty) := by
        have hc : (af kd).1 = 20 ∨ (af kd).1 = 21 ∨ (af kd).1 = 22 ∨ (af kd).1 = 23 ∨ (af kd).1 = 24 ∨ (af kd).1 = 25 ∨ (af kd).1 = 26 := by omega
        rcases hc with q | q | q | q | q | q | q <;> rw [q]
        · exact ⟨0, _, rfl⟩
        · exact ⟨1, _, rfl⟩
        · exact ⟨2, _, rfl⟩
        · exact ⟨3, _, rfl⟩
        · exact ⟨4, _, rfl⟩
        · exact ⟨5, _, rfl⟩
        · exact ⟨6, _, rfl⟩
      unfold am_Go
      show W _ _ _ _ _ _ _ _ _ _ _ _ _ _ _ (F0 m b LS (Value.ref (am_ad base adK kd i) :: _))
      rw [am_ad_eq hk]
      exact va_alen hx hb hS.1 hP _ t0 he ht rfl hd (hK _ _ _ _ h (ok.st (am_ok_c (am_ok_i _) (am_ok_t ok.2.1))) _ _ _ _ hL hP hV hn)
    · rw [if_neg hf] at h; cases h
  next => cases h
/-- an int cell of an array or object is written -/
theorem am_w_ui {kd i j : Nat} {v : Int32} {E : va_E} (hk : kd < 112) (hi : i < am_cnt kd) (hE : am_e aC base (am_ui g.1 kd i j v kd i) (g.2.1 kd) g.2.2.1 g.2.2.2 kd i = E) : (am_w aC base g).set (am_off kd i) (base + am_off kd i, E) = am_w aC base (am_ui g.1 kd i j v, g.2) :=
  am_w_set (g2 := (am_ui g.1 kd i j v, g.2)) hk hi hE (fun k2 i2 _ _ hne => by
    show am_e aC base (am_ui g.1 kd i j v k2 i2) (g.2.1 k2) g.2.2.1 g.2.2.2 k2 i2 = _
    rw [am_ui_ne hne])
theorem am_w_ul {kd i j : Nat} {v : Int64} {E : va_E} (hk : kd < 112) (hi : i < am_cnt kd) (h1 : am_cnt kd = 1) (hE : am_e aC base (g.1 kd i) (am_ul g.2.1 kd j v kd) g.2.2.1 g.2.2.2 kd i = E) : (am_w aC base g).set (am_off kd i) (base + am_off kd i, E) = am_w aC base (g.1, am_ul g.2.1 kd j v, g.2.2) :=
  am_w_set (g2 := (g.1, am_ul g.2.1 kd j v, g.2.2)) hk hi hE (fun k2 i2 _ hi2 hne => by
    show am_e aC base (g.1 k2 i2) (am_ul g.2.1 kd j v k2) g.2.2.1 g.2.2.2 k2 i2 = _
    rw [am_ul_ne]
    intro q
    subst q
    rcases hne with q | q
    · exact q rfl
    · omega)
theorem am_r_iastore (X : am_X l dC dI aC base adK adV p e s m args below meth c mi d r g2 K k ls st g H locs b LS) (hd : decode (am_B mi) b = .ok (.iastore, 1)) (hn : am_nth (am_bp mi) (k + 1) = some (b + 1)) (h : am_do K C (.iastore, a, bb, cc, z) k ls st g = some (r, g2)) : am_Go l dC dI aC base adK p e s m args below meth c mi d r g2 H locs b LS st := by
  obtain ⟨hmi, ⟨hx, hb, hml, hown, hts, hret, hlk, hS⟩, hK, hL, hP, hV, ok, hbk⟩ := X
  change (match (generalizing := false) st with
      | .inl v :: .inl j :: .inr (.inr (kd, i)) :: st => if (af kd).1 = 20 then (if j < 0 ∨ (af kd).2 ≤ j.toNatClampNeg then none else K (k + 1) ls st (am_ui g.1 kd i j.toNatClampNeg v, g.2)) else none
      | _ => none) = some (r, g2) at h
  split at h
  next v j kd i st1 =>
    by_cases hf : (af kd).1 = 20
    · rw [if_pos hf] at h
      by_cases hj : j < 0 ∨ (af kd).2 ≤ j.toNatClampNeg
      · rw [if_pos hj] at h; cases h
      · rw [if_neg hj] at h
        obtain ⟨hk, hi⟩ := am_okv_ref (am_ok_h (am_ok_t (am_ok_t ok.2.1))) (by omega)
        have he := am_w_at aC base g hk hi
        rw [am_e_arr (C := 20) (by omega) hf, am_ec_i (by omega) (by omega) (by omega)] at he
        unfold am_Go
        show W _ _ _ _ _ _ _ _ _ _ _ _ _ _ _ (F0 m b LS (Value.int v :: Value.int j :: Value.ref (am_ad base adK kd i) :: _))
        rw [am_ad_eq hk]
        refine va_iast hx hb hS.1 hP (am_w_D aC base g) hV (am_off kd i) 0 he rfl (am_not_in hj) hd (fun H1 locs1 hP1 hD1 hV1 => ?_)
        rw [am_w_ui (g := g) (v := v) (j := j.toNatClampNeg) hk hi (by rw [am_e_arr (C := 20) (by omega) hf, am_ec_i (by omega) (by omega) (by omega), am_ui_self])] at hP1
        exact hK _ _ _ _ h ⟨ok.1, am_ok_t (am_ok_t (am_ok_t ok.2.1)), ok.2.2⟩ _ _ _ _ hL hP1 hV1 hn
    · rw [if_neg hf] at h; cases h
  next => cases h
theorem am_r_bastore (X : am_X l dC dI aC base adK adV p e s m args below meth c mi d r g2 K k ls st g H locs b LS) (hd : decode (am_B mi) b = .ok (.bastore, 1)) (hn : am_nth (am_bp mi) (k + 1) = some (b + 1)) (h : am_do K C (.bastore, a, bb, cc, z) k ls st g = some (r, g2)) : am_Go l dC dI aC base adK p e s m args below meth c mi d r g2 H locs b LS st := by
  obtain ⟨hmi, ⟨hx, hb, hml, hown, hts, hret, hlk, hS⟩, hK, hL, hP, hV, ok, hbk⟩ := X
  change (match (generalizing := false) st with
      | .inl v :: .inl j :: .inr (.inr (kd, i)) :: st =>
        if (af kd).1 = 22 then (if j < 0 ∨ (af kd).2 ≤ j.toNatClampNeg then none else K (k + 1) ls st (am_ui g.1 kd i j.toNatClampNeg (vp_nar .byte v), g.2))
        else if (af kd).1 = 23 then (if j < 0 ∨ (af kd).2 ≤ j.toNatClampNeg then none else K (k + 1) ls st (am_ui g.1 kd i j.toNatClampNeg (vp_nar .boolean v), g.2)) else none
      | _ => none) = some (r, g2) at h
  split at h
  next v j kd i st1 =>
    by_cases hf : (af kd).1 = 22
    · rw [if_pos hf] at h
      by_cases hj : j < 0 ∨ (af kd).2 ≤ j.toNatClampNeg
      · rw [if_pos hj] at h; cases h
      · rw [if_neg hj] at h
        obtain ⟨hk, hi⟩ := am_okv_ref (am_ok_h (am_ok_t (am_ok_t ok.2.1))) (by omega)
        have he := am_w_at aC base g hk hi
        rw [am_e_arr (C := 22) (by omega) hf, am_ec_i (by omega) (by omega) (by omega)] at he
        unfold am_Go
        show W _ _ _ _ _ _ _ _ _ _ _ _ _ _ _ (F0 m b LS (Value.int v :: Value.int j :: Value.ref (am_ad base adK kd i) :: _))
        rw [am_ad_eq hk]
        refine va_bast hx hb hS.1 hP (am_w_D aC base g) hV (am_off kd i) 2 he rfl (am_not_in hj) hd (fun H1 locs1 hP1 hD1 hV1 => ?_)
        rw [am_w_ui (g := g) (v := vp_nar .byte v) (j := j.toNatClampNeg) hk hi (by rw [am_e_arr (C := 22) (by omega) hf, am_ec_i (by omega) (by omega) (by omega), am_ui_self])] at hP1
        exact hK _ _ _ _ h ⟨ok.1, am_ok_t (am_ok_t (am_ok_t ok.2.1)), ok.2.2⟩ _ _ _ _ hL hP1 hV1 hn
    · rw [if_neg hf] at h
      by_cases hf : (af kd).1 = 23
      · rw [if_pos hf] at h
        by_cases hj : j < 0 ∨ (af kd).2 ≤ j.toNatClampNeg
        · rw [if_pos hj] at h; cases h
        · rw [if_neg hj] at h
          obtain ⟨hk, hi⟩ := am_okv_ref (am_ok_h (am_ok_t (am_ok_t ok.2.1))) (by omega)
          have he := am_w_at aC base g hk hi
          rw [am_e_arr (C := 23) (by omega) hf, am_ec_i (by omega) (by omega) (by omega)] at he
          unfold am_Go
          show W _ _ _ _ _ _ _ _ _ _ _ _ _ _ _ (F0 m b LS (Value.int v :: Value.int j :: Value.ref (am_ad base adK kd i) :: _))
          rw [am_ad_eq hk]
          refine va_zast hx hb hS.1 hP (am_w_D aC base g) hV (am_off kd i) 3 he rfl (am_not_in hj) hd (fun H1 locs1 hP1 hD1 hV1 => ?_)
          rw [am_w_ui (g := g) (v := vp_nar .boolean v) (j := j.toNatClampNeg) hk hi (by rw [am_e_arr (C := 23) (by omega) hf, am_ec_i (by omega) (by omega) (by omega), am_ui_self])] at hP1
          exact hK _ _ _ _ h ⟨ok.1, am_ok_t (am_ok_t (am_ok_t ok.2.1)), ok.2.2⟩ _ _ _ _ hL hP1 hV1 hn
      · rw [if_neg hf] at h; cases h
  next => cases h
theorem am_r_lastore (X : am_X l dC dI aC base adK adV p e s m args below meth c mi d r g2 K k ls st g H locs b LS) (hd : decode (am_B mi) b = .ok (.lastore, 1)) (hn : am_nth (am_bp mi) (k + 1) = some (b + 1)) (h : am_do K C (.lastore, a, bb, cc, z) k ls st g = some (r, g2)) : am_Go l dC dI aC base adK p e s m args below meth c mi d r g2 H locs b LS st := by
  obtain ⟨hmi, ⟨hx, hb, hml, hown, hts, hret, hlk, hS⟩, hK, hL, hP, hV, ok, hbk⟩ := X
  change (match (generalizing := false) st with
      | .inr (.inl v) :: .inl j :: .inr (.inr (kd, _)) :: st => if (af kd).1 = 21 then (if j < 0 ∨ (af kd).2 ≤ j.toNatClampNeg then none else K (k + 1) ls st (g.1, am_ul g.2.1 kd j.toNatClampNeg v, g.2.2)) else none
      | _ => none) = some (r, g2) at h
  split at h
  next v j kd i st1 =>
    by_cases hf : (af kd).1 = 21
    · rw [if_pos hf] at h
      by_cases hj : j < 0 ∨ (af kd).2 ≤ j.toNatClampNeg
      · rw [if_pos hj] at h; cases h
      · rw [if_neg hj] at h
        obtain ⟨hk, hi⟩ := am_okv_ref (am_ok_h (am_ok_t (am_ok_t ok.2.1))) (by omega)
        have he := am_w_at aC base g hk hi
        rw [am_e_arr (C := 21) (by omega) hf, am_ec_l hf] at he
        unfold am_Go
        show W _ _ _ _ _ _ _ _ _ _ _ _ _ _ _ (F0 m b LS (Value.long v :: Value.int j :: Value.ref (am_ad base adK kd i) :: _))
        rw [am_ad_eq hk]
        refine va_last hx hb hS.1 hP (am_w_D aC base g) hV (am_off kd i) 1 he rfl (am_not_in hj) hd (fun H1 locs1 hP1 hD1 hV1 => ?_)
        rw [am_w_ul (g := g) (v := v) (j := j.toNatClampNeg) hk hi (af_long kd hk (Or.inl hf)) (by rw [am_e_arr (C := 21) (by omega) hf, am_ec_l hf, am_ul_self])] at hP1
        exact hK _ _ _ _ h ⟨ok.1, am_ok_t (am_ok_t (am_ok_t ok.2.1)), ok.2.2⟩ _ _ _ _ hL hP1 hV1 hn
    · rw [if_neg hf] at h; cases h
  next => cases h
end AMA
end
section
/-! putfield, switches, calls -/
theorem am_fv_upd {base : Nat} {f : Nat → Int32} {h : Nat → Int64} {x y k i C s j : Nat} {v : Int32} (hs : s ≠ j) : am_fv base (upd f j v) h x y k i C s = am_fv base f h x y k i C s := by
  unfold am_fv
  split
  · rfl
  · rfl
  · show Value.int (upd f j v s) = _
    unfold upd
    rw [if_neg hs]
theorem am_fv_updL {base : Nat} {f : Nat → Int32} {h : Nat → Int64} {x y k i C s j : Nat} {v : Int64} (hs : s ≠ j) : am_fv base f (vp_updL h j v) x y k i C s = am_fv base f h x y k i C s := by
  unfold am_fv
  split
  · show Value.long (vp_updL h j v s) = _
    unfold vp_updL
    rw [if_neg hs]
  · rfl
  · rfl
theorem am_fty_desc {C s : Nat} : (am_fty C s = 0 → (am_T C s).2.2.1 = "I") ∧ (am_fty C s = 3 → (am_T C s).2.2.1 = "Z") ∧ (am_fty C s = 1 → (am_T C s).2.2.1 = "J") := by
  unfold am_fty
  refine ⟨?_, ?_, ?_⟩
  · split
    · rename_i q; exact fun _ => q
    · intro h; cases h
    · intro h; cases h
    · intro h; cases h
  · split
    · intro h; cases h
    · rename_i q; exact fun _ => q
    · intro h; cases h
    · intro h; cases h
  · split
    · intro h; cases h
    · intro h; cases h
    · rename_i q; exact fun _ => q
    · intro h; cases h
theorem am_fty_ref : ∀ C, C < 13 → ∀ s, s < am_N C → am_fty C s = 2 → (match parseFieldDescriptor (am_T C s).2.2.1 with | some ty => ty.isReference | none => false) = true := by decide +kernel
theorem am_parse_I : parseFieldDescriptor "I" = some .int := by decide +kernel
theorem am_parse_Z : parseFieldDescriptor "Z" = some .boolean := by decide +kernel
theorem am_parse_J : parseFieldDescriptor "J" = some .long := by decide +kernel
theorem am_rf_20 {s i X Y X2 : Nat} (hs : s ≠ 2) : ar 20 s i X2 Y = ar 20 s i X Y := by
  unfold ar
  split
  · rfl
  · rfl
  · rename_i k2 q
    exact absurd ((am_rf_ent (by decide) q).2.2.1 rfl) hs
  · rfl
  · rfl
theorem am_rf_3 {s i X Y Y2 : Nat} (hs : s ≠ 1) : ar 3 s i X Y2 = ar 3 s i X Y := by
  unfold ar
  split
  · rfl
  · rfl
  · rfl
  · rename_i k2 q
    exact absurd ((am_rf_ent (by decide) q).2.2.2 rfl) hs
  · rfl
section AMP
variable {l : Launch} {dC : Nat → ClassId} {dI : Nat → Nat → Nat} {aC : Nat → ClassId} {base : Nat} {adK adV : Nat → Nat} {p : Program} {e : Env} {s : State} {m : MethodId} {args : Array Value} {below : List Frame} {meth : Method} {c : Code} {mi d : Nat} {r : Option mv} {g2 : mg} {K : Nat → ml → List mv → mg → Option mr} {C : Nat → List mv → mg → Option mr} {k : Nat} {ls : ml} {st : List mv} {g : mg} {H : Heap} {locs : List Loc} {b : Nat} {LS : Array Slot} {a bb cc : Nat} {z : mv}
theorem am_r_putfield (X : am_X l dC dI aC base adK adV p e s m args below meth c mi d r g2 K k ls st g H locs b LS) {x q : Nat} (hq : ((am_head mi).1, x, a, bb, q) ∈ am_fls) (hty : am_fty a bb = cc) (hfin : (am_T a bb).2.2.2 = false) (hd : decode (am_B mi) b = .ok (.putfield x, 3)) (hn : am_nth (am_bp mi) (k + 1) = some (b + 3)) (h : am_do K C (.putfield x, a, bb, cc, z) k ls st g = some (r, g2)) : am_Go l dC dI aC base adK p e s m args below meth c mi d r g2 H locs b LS st := by
  obtain ⟨hmi, ⟨hx, hb, hml, hown, hts, hret, hlk, hS⟩, hK, hL, hP, hV, ok, hbk⟩ := X
  have hlt := of_decide_eq_true (List.all_eq_true.mp am_fls_lt _ hq)
  have hw := of_decide_eq_true (List.all_eq_true.mp am_fl_ok _ hq)
  dsimp only at hlt hw
  obtain ⟨ha, hbN, hb89⟩ := hlt
  obtain ⟨c1, c2, ⟨ty0, c3⟩, c4, c5⟩ := am_ci ha
  have hts2 := fun x hx => am_inW (C := a) (mi := mi) c1 x hx
  have hlen : ∀ F : Nat → Value, bb < ((List.range (am_N a)).map F).length := fun F => by simpa using hbN
  have hcc : cc = 0 ∨ cc = 3 ∨ cc = 1 ∨ cc = 2 ∨ ∃ n, cc = n + 4 := by
    have q : cc = 0 ∨ cc = 3 ∨ cc = 1 ∨ cc = 2 ∨ 4 ≤ cc := by omega
    rcases q with q | q | q | q | q
    · exact Or.inl q
    · exact Or.inr (Or.inl q)
    · exact Or.inr (Or.inr (Or.inl q))
    · exact Or.inr (Or.inr (Or.inr (Or.inl q)))
    · exact Or.inr (Or.inr (Or.inr (Or.inr ⟨cc - 4, by omega⟩)))
  rcases hcc with rfl | rfl | rfl | rfl | ⟨n, rfl⟩
  ·
    change (match (generalizing := false) st with
        | .inl v :: .inr (.inr (kd, i)) :: st => if (af kd).1 = a then K (k + 1) ls st (am_ui g.1 kd i bb v, g.2) else none
        | _ => none) = some (r, g2) at h
    split at h
    next v kd i st1 =>
      by_cases hf : (af kd).1 = a
      · rw [if_pos hf] at h
        obtain ⟨hk, hi⟩ := am_okv_ref (am_ok_h (am_ok_t ok.2.1)) (by omega)
        have he := am_w_at aC base g hk hi
        rw [am_e_obj hk ha hf] at he
        unfold am_Go
        show W _ _ _ _ _ _ _ _ _ _ _ _ _ _ _ (F0 m b LS (Value.int v :: Value.ref (am_ad base adK kd i) :: _))
        rw [am_ad_eq hk]
        refine va_put hx hb (ref := am_R a) (C := am_R a) (T := am_T a) (N := am_N a) hts hts2 ty0 c3 c4 hown hS.1 hP (am_w_D aC base g) hV (am_off kd i) he c2 bb hbN (hts _ (am_in_W hw rfl)) (by rw [c5 bb hbN]; exact fun _ q => q) hfin (ty := .int) (by rw [am_fty_desc.1 hty]; exact am_parse_I) rfl rfl (hlen _) hd (fun H1 locs1 hP1 hD1 hV1 => ?_)
        rw [am_w_ui (g := g) (v := v) (j := bb) hk hi (by
          rw [am_e_obj hk ha hf, am_ui_self]
          refine congrArg (fun q => Sum.inr (a, q)) (am_map_set hbN ?_ (fun s hs => am_fv_upd hs))
          unfold am_fv
          rw [hty]
          show Value.int (upd (g.1 kd i) bb v bb) = _
          unfold upd
          rw [if_pos rfl])] at hP1
        exact hK _ _ _ _ h ⟨ok.1, am_ok_t (am_ok_t ok.2.1), ok.2.2⟩ _ _ _ _ hL hP1 hV1 hn
      · rw [if_neg hf] at h; cases h
    next => cases h
  ·
    change (match (generalizing := false) st with
        | .inl v :: .inr (.inr (kd, i)) :: st => if (af kd).1 = a then (if v = 0 ∨ v = 1 then K (k + 1) ls st (am_ui g.1 kd i bb v, g.2) else none) else none
        | _ => none) = some (r, g2) at h
    split at h
    next v kd i st1 =>
      by_cases hf : (af kd).1 = a
      · rw [if_pos hf] at h
        by_cases hv : v = 0 ∨ v = 1
        · rw [if_pos hv] at h
          obtain ⟨hk, hi⟩ := am_okv_ref (am_ok_h (am_ok_t ok.2.1)) (by omega)
          have he := am_w_at aC base g hk hi
          rw [am_e_obj hk ha hf] at he
          unfold am_Go
          show W _ _ _ _ _ _ _ _ _ _ _ _ _ _ _ (F0 m b LS (Value.int v :: Value.ref (am_ad base adK kd i) :: _))
          rw [am_ad_eq hk]
          refine va_put hx hb (ref := am_R a) (C := am_R a) (T := am_T a) (N := am_N a) hts hts2 ty0 c3 c4 hown hS.1 hP (am_w_D aC base g) hV (am_off kd i) he c2 bb hbN (hts _ (am_in_W hw rfl)) (by rw [c5 bb hbN]; exact fun _ q => q) hfin (ty := .boolean) (by rw [am_fty_desc.2.1 hty]; exact am_parse_Z) (by rcases hv with rfl | rfl <;> rfl) (by rcases hv with rfl | rfl <;> rfl) (hlen _) hd (fun H1 locs1 hP1 hD1 hV1 => ?_)
          rw [am_w_ui (g := g) (v := v) (j := bb) hk hi (by
            rw [am_e_obj hk ha hf, am_ui_self]
            refine congrArg (fun q => Sum.inr (a, q)) (am_map_set hbN ?_ (fun s hs => am_fv_upd hs))
            unfold am_fv
            rw [hty]
            show Value.int (upd (g.1 kd i) bb v bb) = _
            unfold upd
            rw [if_pos rfl])] at hP1
          exact hK _ _ _ _ h ⟨ok.1, am_ok_t (am_ok_t ok.2.1), ok.2.2⟩ _ _ _ _ hL hP1 hV1 hn
        · rw [if_neg hv] at h; cases h
      · rw [if_neg hf] at h; cases h
    next => cases h
  ·
    change (match (generalizing := false) st with
        | .inr (.inl v) :: .inr (.inr (kd, _)) :: st => if (af kd).1 = a then K (k + 1) ls st (g.1, am_ul g.2.1 kd bb v, g.2.2) else none
        | _ => none) = some (r, g2) at h
    split at h
    next v kd i st1 =>
      by_cases hf : (af kd).1 = a
      · rw [if_pos hf] at h
        obtain ⟨hk, hi⟩ := am_okv_ref (am_ok_h (am_ok_t ok.2.1)) (by omega)
        have he := am_w_at aC base g hk hi
        rw [am_e_obj hk ha hf] at he
        unfold am_Go
        show W _ _ _ _ _ _ _ _ _ _ _ _ _ _ _ (F0 m b LS (Value.long v :: Value.ref (am_ad base adK kd i) :: _))
        rw [am_ad_eq hk]
        refine va_put hx hb (ref := am_R a) (C := am_R a) (T := am_T a) (N := am_N a) hts hts2 ty0 c3 c4 hown hS.1 hP (am_w_D aC base g) hV (am_off kd i) he c2 bb hbN (hts _ (am_in_W hw rfl)) (by rw [c5 bb hbN]; exact fun _ q => q) hfin (ty := .long) (by rw [am_fty_desc.2.2 hty]; exact am_parse_J) rfl rfl (hlen _) hd (fun H1 locs1 hP1 hD1 hV1 => ?_)
        rw [am_w_ul (g := g) (v := v) (j := bb) hk hi (af_long kd hk (Or.inr (hf.trans (am_fty_long a ha bb hb89 hty)))) (by
          rw [am_e_obj hk ha hf, am_ul_self]
          refine congrArg (fun q => Sum.inr (a, q)) (am_map_set hbN ?_ (fun s hs => am_fv_updL hs))
          unfold am_fv
          rw [hty]
          show Value.long (vp_updL (g.2.1 kd) bb v bb) = _
          unfold vp_updL
          rw [if_pos rfl])] at hP1
        exact hK _ _ _ _ h ⟨ok.1, am_ok_t (am_ok_t ok.2.1), ok.2.2⟩ _ _ _ _ hL hP1 hV1 hn
      · rw [if_neg hf] at h; cases h
    next => cases h
  ·
    change (match (generalizing := false) st with
        | .inr (.inr (kv, j)) :: .inr (.inr (kd, _)) :: st => if (af kd).1 = a ∧ kv = 4 then
            match (generalizing := false) art kd bb with
            | some (_, 2) => K (k + 1) ls st (g.1, g.2.1, j, g.2.2.2)
            | some (_, 3) => K (k + 1) ls st (g.1, g.2.1, g.2.2.1, j)
            | _ => none
          else none
        | _ => none) = some (r, g2) at h
    split at h
    next kv j kd i st1 =>
      by_cases hf : (af kd).1 = a ∧ kv = 4
      · rw [if_pos hf] at h
        obtain ⟨hf, rfl⟩ := hf
        obtain ⟨hk, hi⟩ := am_okv_ref (am_ok_h (am_ok_t ok.2.1)) (by omega)
        have hj2 : j < 2 := (am_okv_ref (am_ok_h ok.2.1) (by decide)).2
        have he := am_w_at aC base g hk hi
        rw [am_e_obj hk ha hf] at he
        obtain ⟨ty, hty1, hty2⟩ : ∃ ty, parseFieldDescriptor (am_T a bb).2.2.1 = some ty ∧ ty.isReference = true := by
          have t := am_fty_ref a ha bb hbN hty
          cases hp : parseFieldDescriptor (am_T a bb).2.2.1 with
          | none => rw [hp] at t; cases t
          | some ty => rw [hp] at t; exact ⟨ty, rfl, t⟩
        have hnar : ∀ q : Nat, narrow ty (.ref q) = .ref q := fun q => by cases ty <;> first | rfl | cases hty2
        have hfit : ∀ q : Nat, fits ty (.ref q) = true := fun q => by cases ty <;> first | rfl | cases hty2
        have put : ∀ G : mg, (am_w aC base g).set (am_off kd i) (base + am_off kd i, .inr (a, ((List.range (am_N a)).map (am_fv base (g.1 kd i) (g.2.1 kd) g.2.2.1 g.2.2.2 kd i a)).set bb (.ref (base + am_off 4 j)))) = am_w aC base G → G.2.2.1 < 2 ∧ G.2.2.2 < 2 → K (k + 1) ls st1 G = some (r, g2) → am_Go l dC dI aC base adK p e s m args below meth c mi d r g2 H locs b LS (.inr (.inr (4, j)) :: .inr (.inr (kd, i)) :: st1) := by
          intro G hG hG2 hKG
          unfold am_Go
          show W _ _ _ _ _ _ _ _ _ _ _ _ _ _ _ (F0 m b LS (Value.ref (am_ad base adK 4 j) :: Value.ref (am_ad base adK kd i) :: _))
          rw [am_ad_eq hk, am_ad_eq (show 4 < 112 by decide)]
          refine va_put hx hb (ref := am_R a) (C := am_R a) (T := am_T a) (N := am_N a) hts hts2 ty0 c3 c4 hown hS.1 hP (am_w_D aC base g) hV (am_off kd i) he c2 bb hbN (hts _ (am_in_W hw rfl)) (by rw [c5 bb hbN]; exact fun _ q => q) hfin (ty := ty) hty1 (hnar _) (hfit _) (hlen _) hd (fun H1 locs1 hP1 hD1 hV1 => ?_)
          rw [hG] at hP1
          exact hK _ _ _ _ hKG ⟨ok.1, am_ok_t (am_ok_t ok.2.1), hG2⟩ _ _ _ _ hL hP1 hV1 hn
        have rfx : ∀ (k2 hw2 X Y : Nat), art kd bb = some (k2, hw2) → am_fv base (g.1 kd i) (g.2.1 kd) X Y kd i a bb = match hw2 with | 0 => .ref (base + am_off k2 i) | 1 => .ref (base + am_off k2 0) | 2 => .ref (base + am_off k2 X) | 3 => .ref (base + am_off k2 Y) | _ => .null := by
          intro k2 hw2 X Y hr
          unfold am_fv
          rw [hty]
          try dsimp only
          unfold ar
          rw [hr]
          match hw2 with
          | 0 => rfl
          | 1 => rfl
          | 2 => rfl
          | 3 => rfl
          | n + 4 => rfl
        have rfo : ∀ (X Y X2 Y2 : Nat) (s : Nat), (ar kd s i X Y = ar kd s i X2 Y2) → am_fv base (g.1 kd i) (g.2.1 kd) X Y kd i a s = am_fv base (g.1 kd i) (g.2.1 kd) X2 Y2 kd i a s := by
          intro X Y X2 Y2 s hq
          unfold am_fv
          rw [hq]
        split at h
        · rename_i k2 hr
          obtain ⟨q1, ⟨q2, q3⟩, q4, -⟩ := am_rf_ent hk hr
          subst q2
          subst q3
          have q4 := q4 rfl
          have hone : am_cnt 20 = 1 := rfl
          refine put (g.1, g.2.1, j, g.2.2.2) (am_w_set (g2 := (g.1, g.2.1, j, g.2.2.2)) hk hi ?_ (fun k2 i2 hk2 hi2 hne => am_e_x hk2 (fun q => by subst q; exfalso; rcases hne with q | q <;> first | exact q rfl | omega) (fun _ => rfl))) ⟨hj2, ok.2.2.2⟩ h
          rw [am_e_obj hk ha hf]
          refine congrArg (fun q => Sum.inr (a, q)) (am_map_set hbN (rfx _ _ _ _ hr) (fun s hs => rfo _ _ _ _ s (am_rf_20 (by rw [← q4]; exact hs))))
        · rename_i k2 hr
          obtain ⟨q1, ⟨q2, q3⟩, -, q4⟩ := am_rf_ent hk hr
          subst q2
          subst q3
          have q4 := q4 rfl
          have hone : am_cnt 3 = 1 := rfl
          refine put (g.1, g.2.1, g.2.2.1, j) (am_w_set (g2 := (g.1, g.2.1, g.2.2.1, j)) hk hi ?_ (fun k2 i2 hk2 hi2 hne => am_e_x hk2 (fun _ => rfl) (fun q => by subst q; exfalso; rcases hne with q | q <;> first | exact q rfl | omega))) ⟨ok.2.2.1, hj2⟩ h
          rw [am_e_obj hk ha hf]
          refine congrArg (fun q => Sum.inr (a, q)) (am_map_set hbN (rfx _ _ _ _ hr) (fun s hs => rfo _ _ _ _ s (am_rf_3 (by rw [← q4]; exact hs))))
        · cases h
      · rw [if_neg hf] at h; cases h
    next => cases h
  · cases h
end AMP
end
section
/-! switches, calls -/
theorem am_nx_some {bps : List Nat} {k b len : Nat} (h : am_nx bps k b len = true) : am_nth bps (k + 1) = some (b + len) := by
  unfold am_nx at h
  split at h
  · rename_i q hq
    rw [hq, Nat.eq_of_beq_eq_true h]
  · cases h
theorem am_tgt_some {bps : List Nat} {b t : Nat} {off : Int} (h : am_tgt bps b off t = true) : ∃ q, am_nth bps t = some q ∧ (b : Int) + off = (q : Int) := by
  unfold am_tgt at h
  split at h
  · rename_i q hq
    exact ⟨q, hq, of_decide_eq_true h⟩
  · cases h
theorem am_S_moved {dC : Nat → ClassId} {dI : Nat → Nat → Nat} {aC : Nat → ClassId} {base : Nat} {adK adV : Nat → Nat} {s U : State} {H : Heap} {locs : List Loc} (h : am_S dC dI aC base adK adV s) (hV : va_S (fun q => base ≤ q) s.heap H locs) (hU : U.heap = H) (hW : s.WarmedH U.vm) : am_S dC dI aC base adK adV U := by
  obtain ⟨h1, h2, h3, h4, h5, h6⟩ := h
  refine ⟨va_K.moved hW.alike h1, ?_, fun e he => (h3 e he).warm hW, fun e he => (h4 e he).warmM hW, ?_, ?_⟩
  · rw [hU]
    exact (h2.kept hV.2.1).moved hW.alike
  · rw [hU]
    exact (h5.kept hV.2.1).moved hW.alike
  · rw [hU]
    rcases h6 with h6 | ⟨t, h6⟩
    · exact Or.inl ((h6.kept hV.2.1).moved hW.alike)
    · exact Or.inr ⟨t, (h6.kept hV.2.1).moved hW.alike⟩
theorem am_S_calling {dC : Nat → ClassId} {dI : Nat → Nat → Nat} {aC : Nat → ClassId} {base : Nat} {adK adV : Nat → Nat} {U : State} {gf : JFrame} {mk : MethodId} {a : Array Value} (h : am_S dC dI aC base adK adV U) : am_S dC dI aC base adK adV (U.calling gf mk a) := by
  obtain ⟨h1, h2, h3, h4, h5, h6⟩ := h
  refine ⟨va_K.moved (u := U) (U := U.calling gf mk a) (Vm.Alike.refl U.vm) h1, vk_S.moved (u := U) (U := U.calling gf mk a) (Vm.Alike.refl U.vm) h2, fun e he => vk_R.same (u := U) rfl (h3 e he), fun e he => va_Nw.same rfl (u := U) rfl (h4 e he), va_Z.moved (u := U) (U := U.calling gf mk a) (Vm.Alike.refl U.vm) h5, ?_⟩
  rcases h6 with h6 | ⟨t, h6⟩
  · exact Or.inl (va_Z.moved (u := U) (U := U.calling gf mk a) (Vm.Alike.refl U.vm) h6)
  · exact Or.inr ⟨t, va_Z.moved (u := U) (U := U.calling gf mk a) (Vm.Alike.refl U.vm) h6⟩
theorem am_Pc_blind (dC : Nat → ClassId) (dI : Nat → Nat → Nat) (aC : Nat → ClassId) (base : Nat) (adK adV : Nat → Nat) (as : List mv) (g : mg) : FrameBlind (am_Pc dC dI aC base adK adV as g) :=
  fun _ _ _ _ q => ⟨q.1, am_S_calling q.2.1, q.2.2⟩
theorem am_inv_some {K : Nat → ml → List mv → mg → Option mr} {C : Nat → List mv → mg → Option mr} {a b c k : Nat} {ls : ml} {st : List mv} {g : mg} {r : mr} (h : am_inv K C a b c k ls st g = some r) :
    b ≤ st.length ∧ am_cat (st.drop b) ≤ 8 ∧ am_cat (st.take b).reverse ≤ (am_head a).2.1 ∧ ∃ rc gc, C a (st.take b).reverse g = some (rc, gc) ∧ K (k + 1) ls (rc.toList ++ st.drop b) gc = some r ∧ ∀ v ∈ rc.toList, am_okv v := by
  unfold am_inv at h
  by_cases hp : b ≤ st.length ∧ am_cat (st.drop b) ≤ 8 ∧ am_cat (st.take b).reverse ≤ (am_head a).2.1
  · rw [if_pos hp] at h
    refine ⟨hp.1, hp.2.1, hp.2.2, ?_⟩
    match c, h with
    | 0, h =>
      obtain ⟨g2, h1, h2⟩ := am_bv_some h
      exact ⟨none, g2, h1, h2, fun v hv => by cases hv⟩
    | 1, h =>
      obtain ⟨v, g2, h1, h2⟩ := am_bi_some h
      exact ⟨some (vi v), g2, h1, h2, am_ok_c (am_ok_i _) (fun v hv => by cases hv)⟩
    | 2, h =>
      obtain ⟨v, g2, h1, h2⟩ := am_bl_some h
      exact ⟨some (vl v), g2, h1, h2, am_ok_c (am_ok_l _) (fun v hv => by cases hv)⟩
    | n + 3, h => cases h
  · rw [if_neg hp] at h; cases h
/-- the method's own words, out of the check -/
theorem am_words {y : Nat} (hy : y < 300) : tables_1[(am_P y).2.2.1]? = some (Cond.code (am_Y y) (am_B y) (am_head y).2.1 (am_ret y)) ∧ tables_1[(am_P y).2.2.2.1]? = some (if (am_P y).1 then Cond.static (am_Y y) else Cond.instanceMethod (am_Y y)) ∧ ((am_P y).1 = true ∨ lw_tbl[(am_P y).2.2.2.2.1]? = some (Cond.selects (am_Y y).cls (am_Y y) (am_Y y))) ∧ tables_1[(am_P y).2.2.2.2.2]? = some (Cond.initialized (am_Y y).cls) ∧ (parseMethodDescriptor (am_Y y).desc).map (fun d => d.parameters.length) = some (am_P y).2.1 ∧ (am_Y y).cls = am_R (am_head y).1 ∧ (am_Y y).cls ≠ "java/lang/invoke/MethodHandle" ∧ (am_Y y).cls ≠ "java/lang/invoke/VarHandle" := by
  have h := am_wok_ok hy
  unfold am_wok at h
  simp only [Bool.and_eq_true, Bool.or_eq_true, decide_eq_true_eq] at h
  obtain ⟨h1, ⟨h2, h3⟩, h4, h5, h6, h7, h8⟩ := h
  exact ⟨h1, h2, h3, h4, h5, h6, h7, h8⟩
theorem am_W_good {mi y : Nat} (hy : y < 300) : GoodIn (am_W mi) (am_W y) := by
  intro w hw
  rcases List.mem_cons.mp hw with rfl | hw
  · exact ⟨am_in_W (am_words hy).1 rfl, good_of_word rfl⟩
  · exact ⟨List.mem_cons_of_mem _ hw, good_of_word (List.mem_filter.mp hw).2⟩
theorem am_maxL_le {y : Nat} (hy : y < 300) : (am_head y).2.1 ≤ 9 := by
  have hm : y ∈ List.range 300 := List.mem_range.mpr hy
  have h : (List.range 300).all (fun m => Nat.ble (am_head m).2.1 9) = true := by
    have e := am_maxL
    rwa [am_range300] at e
  exact Nat.le_of_ble_eq_true (List.all_eq_true.mp h y hm)
def am_Cok (l : Launch) (dC : Nat → ClassId) (dI : Nat → Nat → Nat) (aC : Nat → ClassId) (base : Nat) (adK adV : Nat → Nat) (d : Nat) (C : Nat → List mv → mg → Option mr) : Prop :=
  ∀ y as g rc gc, C y as g = some (rc, gc) → ∃ d2, d = d2 + 1 ∧ (am_yok y → (∀ v ∈ as, am_okv v) → am_cat as ≤ (am_head y).2.1 → g.2.2.1 < 2 ∧ g.2.2.2 < 2 → Met l (am_Y y) (am_W y) (am_rm d2) (am_Pc dC dI aC base adK adV as g) (am_Qc dC dI aC base adK rc gc) 0 0 (fun q => base ≤ q))
section AMC
variable {l : Launch} {dC : Nat → ClassId} {dI : Nat → Nat → Nat} {aC : Nat → ClassId} {base : Nat} {adK adV : Nat → Nat} {p : Program} {e : Env} {s : State} {m : MethodId} {args : Array Value} {below : List Frame} {meth : Method} {c : Code} {mi d : Nat} {r : Option mv} {g2 : mg} {K : Nat → ml → List mv → mg → Option mr} {C : Nat → List mv → mg → Option mr} {k : Nat} {ls : ml} {st : List mv} {g : mg} {H : Heap} {locs : List Loc} {b : Nat} {LS : Array Slot} {a bb cc : Nat} {z : mv}
theorem am_after {rc : Option mv} {gc : mg} {al : Array Value} {st0 rest : List Value} {Q : State → Prop} {R : Room} (hr : va_Run p l e R s m args below meth c H locs 0 0 0 0 (F0 m b LS st0) rest (am_Qc dC dI aC base adK rc gc al) (fun q => base ≤ q)) (hV : va_S (fun q => base ≤ q) s.heap H locs)
    (kk : ∀ (H1 : Heap) (locs1 : List Loc), va_P (dC, dI) classes (am_w aC base gc) H1 → va_S (fun q => base ≤ q) s.heap H1 locs1 → gc.2.2.1 < 2 ∧ gc.2.2.2 < 2 → W p l e R s m args below meth c H1 locs1 0 0 Q (F0 m (b + 3) LS ((rc.map (am_t base adK)).toList ++ rest))) : W p l e R s m args below meth c H locs 0 0 Q (F0 m b LS st0) := by
  intro T hT X
  obtain ⟨v, st₀, t, T', L, h0, X', hL, e1, e2, ⟨hv, hP1, ⟨hz, hk⟩, hg⟩, st⟩ := hr T hT X
  cases hv
  rw [h0] at hz hk
  obtain ⟨t2, a1, b1⟩ := kk T'.heap (locs ++ L) (by rw [e1]; exact hP1) ⟨Nat.le_trans hV.1 (by rw [e1]; exact hz), fun q h1 h2 => by rw [e1, hk q (Nat.lt_of_lt_of_le h1 hV.1) h2]; exact hV.2.1 q h1 h2, fun q hq => by
      rcases List.mem_append.mp hq with h | h
      · exact hV.2.2 q h
      · exact hL q h⟩ hg T' rfl X'
  exact ⟨t2, st t2 a1, b1⟩
theorem am_callB {d2 y x : Nat} (hx : p.tables.exec = Jvm.exec) (hts : ∀ w ∈ am_W mi, w.before args s = true) (hy : y < 300) {own : String} (hl : (Cond.methodLink own x (am_Y y)).before args s = true) : CallB (am_rm (d2 + 1)) s args own x (am_Y y) (am_B y) (am_head y).2.1 (am_ret y) (am_W y) (am_rm d2) 0 0 (am_P y).2.1 := by
  obtain ⟨w1, w2, w3, w4, w5, w6, w7⟩ := am_words hy
  have hm := am_maxL_le hy
  refine ⟨rfl, rfl, ?_, ?_, pay_in hts (am_W_good hy), List.mem_cons_self, hts _ (am_in_W w1 rfl), hts _ (am_in_W w4 rfl), w7, fun sig hs => ?_, hl⟩
  · show d2 + 10 + 1 ≤ d2 + 1 + 10; omega
  · show 8 + ((am_head y).2.1 + 11) + (40 * d2 + 400) ≤ 40 * (d2 + 1) + 400; omega
  · rw [hs] at w5
    exact (Option.some.inj w5).symm
theorem am_callN {d2 y x : Nat} (hx : p.tables.exec = Jvm.exec) (hts : ∀ w ∈ am_W mi, w.before args s = true) (hy : y < 300) {own : String} (hl : (Cond.methodLinkNest own x (am_Y y) "WordEach").before args s = true) : va_CN (am_rm (d2 + 1)) s args own x (am_Y y) "WordEach" (am_B y) (am_head y).2.1 (am_ret y) (am_W y) (am_rm d2) 0 0 (am_P y).2.1 := by
  obtain ⟨w1, w2, w3, w4, w5, w6, w7⟩ := am_words hy
  have hm := am_maxL_le hy
  refine ⟨⟨rfl, rfl, ?_, ?_, pay_in hts (am_W_good hy), List.mem_cons_self⟩, hts _ (am_in_W w1 rfl), hts _ (am_in_W w4 rfl), w7, fun sig hs => ?_, hl⟩
  · show d2 + 10 + 1 ≤ d2 + 1 + 10; omega
  · show 8 + ((am_head y).2.1 + 11) + (40 * d2 + 400) ≤ 40 * (d2 + 1) + 400; omega
  · rw [hs] at w5
    exact (Option.some.inj w5).symm
theorem am_map_take (bb : Nat) (st : List mv) : st.map (am_t base adK) = (((st.take bb).reverse).map (am_t base adK)).reverse ++ (st.drop bb).map (am_t base adK) := by
  rw [← List.map_reverse, List.reverse_reverse, ← List.map_append, List.take_append_drop]
theorem am_r_invokestatic (X : am_X l dC dI aC base adK adV p e s m args below meth c mi d r g2 K k ls st g H locs b LS) (hC : am_Cok l dC dI aC base adK adV d C) {x : Nat} (hy : a < 300) (hnm : ¬ (294 ≤ a ∧ a ≤ 298)) (hst : (am_P a).1 = true) (hnp : (am_P a).2.1 = bb) (hlk2 : (∃ q, ((am_head mi).1, x, a, q) ∈ am_mls) ∨ ∃ q, ((am_head mi).1, x, a, q) ∈ am_nls) (hd : decode (am_B mi) b = .ok (.invokestatic x, 3)) (hn : am_nth (am_bp mi) (k + 1) = some (b + 3)) (h : am_do K C (.invokestatic x, a, bb, cc, z) k ls st g = some (r, g2)) : am_Go l dC dI aC base adK p e s m args below meth c mi d r g2 H locs b LS st := by
  obtain ⟨hmi, ⟨hx, hb, hml, hown, hts, hret, hlk, hS⟩, hK, hL, hP, hV, ok, hbk⟩ := X
  have h : am_inv K C a bb cc k ls st g = some (r, g2) := by
    have h0 : (if 294 ≤ a ∧ a ≤ 298 then am_math K a k ls st g else am_inv K C a bb cc k ls st g) = some (r, g2) := h
    rwa [if_neg hnm] at h0
  obtain ⟨h1, h2, hca, rc, gc, h3, h4, h5⟩ := am_inv_some h
  obtain ⟨d2, rfl, hM⟩ := hC _ _ _ _ _ h3
  have okas : ∀ v ∈ (st.take bb).reverse, am_okv v := fun v hv => ok.2.1 v (List.mem_of_mem_take (List.mem_reverse.mp hv))
  have hM := hM ⟨hy, hnm⟩ okas hca ok.2.2
  have hcat : 2 * (F0 m b LS (st.map (am_t base adK))).monitorRoom + (((st.drop bb).map (am_t base adK)).map fun v => v.category).sum ≤ 8 := lv_room (by rw [am_t_cats]; exact h2)
  have hlen : (((st.take bb).reverse).map (am_t base adK)).length = (am_P a).2.1 := by
    rw [List.length_map, List.length_reverse, List.length_take, hnp]
    omega
  have hwst := (am_words hy).2.1
  rw [if_pos hst] at hwst
  have hpre : PreS s H (am_Pc dC dI aC base adK adV (st.take bb).reverse g) (((st.take bb).reverse).map (am_t base adK)) :=
    ⟨am_Pc_blind _ _ _ _ _ _ _ _, fun U hU hW => ⟨rfl, am_S_moved hS hV hU hW, by rw [hU]; exact hP⟩⟩
  have go : va_Run p l e (am_rm (d2 + 1)) s m args below meth c H locs 0 0 0 0 (F0 m b LS (st.map (am_t base adK))) ((st.drop bb).map (am_t base adK)) (am_Qc dC dI aC base adK rc gc (((st.take bb).reverse).map (am_t base adK)).toArray) (fun q => base ≤ q) := by
    rcases hlk2 with ⟨q, hq⟩ | ⟨q, hq⟩
    · have hw := of_decide_eq_true (List.all_eq_true.mp am_ml_ok _ hq)
      exact va_runS (own := am_R (am_head mi).1) ⟨hx, hb, hml, hown, hts⟩ hM ⟨am_callB hx hts hy (hts _ (am_in_W hw rfl)), hts _ (am_in_W hwst rfl)⟩ hpre rfl hlen hL.1 (am_map_take bb st) hcat hd ⟨Nat.le_refl _, Nat.le_refl _⟩
    · have hnw := va_Nw.use (A := args) rfl (hS.2.2.2.1 _ hq)
      exact va_runSN (own := am_R (am_head mi).1) ⟨hx, hb, hml, hown, hts⟩ hM ⟨am_callN hx hts hy hnw, hts _ (am_in_W hwst rfl), trivial⟩ hpre rfl hlen hL.1 (am_map_take bb st) hcat hd ⟨Nat.le_refl _, Nat.le_refl _⟩
  refine am_after go hV (fun H1 locs1 hP1 hV1 hg => ?_)
  have e1 : (rc.map (am_t base adK)).toList ++ (st.drop bb).map (am_t base adK) = (rc.toList ++ st.drop bb).map (am_t base adK) := by
    rw [List.map_append]
    cases rc <;> rfl
  rw [e1]
  exact hK _ _ _ _ h4 ⟨ok.1, fun v hv => by
    rcases List.mem_append.mp hv with q | q
    · exact h5 v q
    · exact ok.2.1 v (List.mem_of_mem_drop q), hg⟩ _ _ _ _ hL hP1 hV1 hn
theorem am_r_invokevirtual (X : am_X l dC dI aC base adK adV p e s m args below meth c mi d r g2 K k ls st g H locs b LS) (hC : am_Cok l dC dI aC base adK adV d C) {x : Nat} (hy : a < 300) (hnm : ¬ (294 ≤ a ∧ a ≤ 298)) (hst : (am_P a).1 = false) (hnp : (am_P a).2.1 + 1 = bb) (hlk2 : ∃ q, ((am_head mi).1, x, a, q) ∈ am_mls) (hd : decode (am_B mi) b = .ok (.invokevirtual x, 3)) (hn : am_nth (am_bp mi) (k + 1) = some (b + 3)) (h : am_do K C (.invokevirtual x, a, bb, cc, z) k ls st g = some (r, g2)) : am_Go l dC dI aC base adK p e s m args below meth c mi d r g2 H locs b LS st := by
  obtain ⟨hmi, ⟨hx, hb, hml, hown, hts, hret, hlk, hS⟩, hK, hL, hP, hV, ok, hbk⟩ := X
  have h : (if am_rcv a (st.take bb).reverse = true then am_inv K C a bb cc k ls st g else none) = some (r, g2) := by
    have h0 : (if a = 900 then _ else if a = 901 then _ else if am_rcv a (st.take bb).reverse = true then am_inv K C a bb cc k ls st g else none) = some (r, g2) := h
    rw [if_neg (by omega), if_neg (by omega)] at h0
    exact h0
  by_cases hrv : am_rcv a (st.take bb).reverse = true
  · rw [if_pos hrv] at h
    obtain ⟨h1, h2, hca, rc, gc, h3, h4, h5⟩ := am_inv_some h
    obtain ⟨d2, rfl, hM⟩ := hC _ _ _ _ _ h3
    have okas : ∀ v ∈ (st.take bb).reverse, am_okv v := fun v hv => ok.2.1 v (List.mem_of_mem_take (List.mem_reverse.mp hv))
    have hM := hM ⟨hy, hnm⟩ okas hca ok.2.2
    have hcat : 2 * (F0 m b LS (st.map (am_t base adK))).monitorRoom + (((st.drop bb).map (am_t base adK)).map fun v => v.category).sum ≤ 8 := lv_room (by rw [am_t_cats]; exact h2)
    obtain ⟨w1, w2, w3, w4, w5, w6, w7⟩ := am_words hy
    rw [if_neg (by rw [hst]; decide)] at w2
    obtain ⟨q, hq⟩ := hlk2
    have hw := of_decide_eq_true (List.all_eq_true.mp am_ml_ok _ hq)
    have hmt := am_map_take (base := base) (adK := adK) bb st
    have hlen0 : (st.take bb).reverse.length = bb := by rw [List.length_reverse, List.length_take]; omega
    generalize (st.take bb).reverse = as at h3 hM hrv okas hmt hlen0
    match as, h3, hM, hrv, okas, hmt, hlen0 with
    | .inr (.inr (kd, i)) :: as, h3, hM, hrv, okas, hmt, hlen0 =>
      have hf : (af kd).1 = (am_head a).1 := Nat.eq_of_beq_eq_true hrv
      have hlt13 : (am_head a).1 < 13 := am_virt_lt hy hst
      obtain ⟨hk, hi⟩ := am_okv_ref (okas _ List.mem_cons_self) (by omega)
      have he := am_w_at aC base g hk hi
      rw [am_e_obj hk hlt13 hf] at he
      obtain ⟨c1, c2, -, -, c5⟩ := am_ci hlt13
      have hrecv := va_recv hS.1 hP c2 he
      have hsel : (Cond.selects (am_Y a).cls (am_Y a) (am_Y a)).before args s = true := by
        rcases w3 with q | q
        · rw [hst] at q; cases q
        · exact hts _ (List.mem_cons_of_mem _ (List.mem_filter.mpr ⟨List.mem_of_getElem? q, rfl⟩))
      have hpre : PreV s H (am_Y a).cls (base + am_off kd i) (am_Pc dC dI aC base adK adV (.inr (.inr (kd, i)) :: as) g) (as.map (am_t base adK)) := by
        refine ⟨am_Pc_blind _ _ _ _ _ _ _ _, by rw [w6]; exact hrecv, fun U hU hW => ⟨?_, am_S_moved hS hV hU hW, by rw [hU]; exact hP⟩⟩
        rw [List.map_cons]
        show (Value.ref (base + am_off kd i) :: as.map (am_t base adK)).toArray = (Value.ref (am_ad base adK kd i) :: as.map (am_t base adK)).toArray
        rw [am_ad_eq hk]
      have hstk : st.map (am_t base adK) = (as.map (am_t base adK)).reverse ++ Value.ref (base + am_off kd i) :: (st.drop bb).map (am_t base adK) := by
        rw [hmt, List.map_cons, List.reverse_cons, List.append_assoc]
        show _ ++ ([Value.ref (am_ad base adK kd i)] ++ _) = _
        rw [am_ad_eq hk]
        rfl
      have go : va_Run p l e (am_rm (d2 + 1)) s m args below meth c H locs 0 0 0 0 (F0 m b LS (st.map (am_t base adK))) ((st.drop bb).map (am_t base adK)) (am_Qc dC dI aC base adK rc gc (Value.ref (base + am_off kd i) :: as.map (am_t base adK)).toArray) (fun q => base ≤ q) :=
        va_runV (own := am_R (am_head mi).1) (C := (am_Y a).cls) ⟨hx, hb, hml, hown, hts⟩ hM ⟨am_callB hx hts hy (hts _ (am_in_W hw rfl)), hts _ (am_in_W w2 rfl), hsel⟩ hpre rfl (by rw [List.length_map]; have := hlen0; rw [List.length_cons] at this; omega) hL.1 hstk hcat hd ⟨Nat.le_refl _, Nat.le_refl _⟩
      refine am_after go hV (fun H1 locs1 hP1 hV1 hg => ?_)
      have e1 : (rc.map (am_t base adK)).toList ++ (st.drop bb).map (am_t base adK) = (rc.toList ++ st.drop bb).map (am_t base adK) := by
        rw [List.map_append]
        cases rc <;> rfl
      rw [e1]
      exact hK _ _ _ _ h4 ⟨ok.1, fun v hv => by
        rcases List.mem_append.mp hv with q | q
        · exact h5 v q
        · exact ok.2.1 v (List.mem_of_mem_drop q), hg⟩ _ _ _ _ hL hP1 hV1 hn
    | [], _, _, hrv, _, _, _ => cases hrv
    | .inl _ :: _, _, _, hrv, _, _, _ => cases hrv
    | .inr (.inl _) :: _, _, _, hrv, _, _, _ => cases hrv
  · rw [if_neg hrv] at h; cases h
end AMC
end
section
/-! switches, texts, and the whole of it -/
theorem am_tsw_spec {bps : List Nat} {b d : Nat} {x : Int32} {α : Type} {f : Nat → Option α} {r : α} : ∀ (offs : List Int) (l : List (Int32 × Nat)) (v : Int), am_tsw bps b v offs l = true → am_swf x l d f = some r →
    (∃ j off t, offs[j]? = some off ∧ x.toInt = v + (j : Nat) ∧ am_tgt bps b off t = true ∧ f t = some r) ∨ ((x.toInt < v ∨ v + offs.length ≤ x.toInt) ∧ f d = some r)
  | [], [], v, _, h => Or.inr ⟨by simp only [List.length_nil]; omega, h⟩
  | [], _ :: _, _, h, _ => by cases h
  | _ :: _, [], _, h, _ => by cases h
  | off :: offs, (w, t) :: l, v, h, h2 => by
    unfold am_tsw at h
    simp only [Bool.and_eq_true, decide_eq_true_eq] at h
    obtain ⟨h3, h4, h5⟩ := h
    change (if x = w then f t else am_swf x l d f) = some r at h2
    by_cases hx : x = w
    · rw [if_pos hx] at h2
      exact Or.inl ⟨0, off, t, rfl, by rw [hx, h3]; simp, h4, h2⟩
    · rw [if_neg hx] at h2
      have hne : ¬ x.toInt = v := lv_neT hx h3
      rcases am_tsw_spec offs l (v + 1) h5 h2 with ⟨j, off2, t2, q1, q2, q3, q4⟩ | ⟨q1, q2⟩
      · exact Or.inl ⟨j + 1, off2, t2, q1, by rw [q2]; push_cast; omega, q3, q4⟩
      · refine Or.inr ⟨?_, q2⟩
        simp only [List.length_cons]
        push_cast
        omega
theorem am_lsw_spec {bps : List Nat} {b d : Nat} {x : Int32} {α : Type} {f : Nat → Option α} {r : α} {dv : Int} (hdv : am_tgt bps b dv d = true) : ∀ (ps : List (Int × Int)) (l : List (Int32 × Nat)), am_lsw bps b ps l = true → am_swf x l d f = some r →
    ∃ off t, Op.lookupswitch.offset ps dv x.toInt = off ∧ am_tgt bps b off t = true ∧ f t = some r
  | [], [], _, h => ⟨dv, d, rfl, hdv, h⟩
  | [], _ :: _, h, _ => by cases h
  | _ :: _, [], h, _ => by cases h
  | (v, off) :: ps, (w, t) :: l, h, h2 => by
    unfold am_lsw at h
    simp only [Bool.and_eq_true, decide_eq_true_eq] at h
    obtain ⟨h3, h4, h5⟩ := h
    change (if x = w then f t else am_swf x l d f) = some r at h2
    by_cases hx : x = w
    · rw [if_pos hx] at h2
      refine ⟨off, t, ?_, h4, h2⟩
      rw [Op.lookupswitch.offset_cons, if_pos (by rw [hx, h3])]
    · rw [if_neg hx] at h2
      rw [lv_osw hx h3]
      exact am_lsw_spec hdv ps l h5 h2
def am_yL : MethodName := ⟨"java/lang/String", "length", "()I"⟩
def am_yA : MethodName := ⟨"java/lang/String", "charAt", "(I)C"⟩
def am_WL : List Cond := Cond.code am_yL prog_17_method_54_code 1 (some .int) :: am_good
def am_WA : List Cond := Cond.code am_yA prog_17_method_56_code 2 (some .char) :: am_good
def am_rmS : Room := { frames := 6, cells := 0, slots := 0, locals := 200 }
def am_PcS (dC : Nat → ClassId) (dI : Nat → Nat → Nat) (aC : Nat → ClassId) (base : Nat) (adK adV : Nat → Nat) (i : Nat) (as : List Value) : Array Value → State → Prop := va_Pc (.ref (adK i) :: as) (fun U => am_S dC dI aC base adK adV U)
def am_SL (l : Launch) (dC : Nat → ClassId) (dI : Nat → Nat → Nat) (aC : Nat → ClassId) (base : Nat) (adK adV : Nat → Nat) : Prop := ∀ i, i < 2 → Met l am_yL am_WL am_rmS (am_PcS dC dI aC base adK adV i []) (QcRead (Int32.ofNat (am_str i).length)) 0 0 (fun _ => False)
def am_SA (l : Launch) (dC : Nat → ClassId) (dI : Nat → Nat → Nat) (aC : Nat → ClassId) (base : Nat) (adK adV : Nat → Nat) : Prop := ∀ i (j : Int32), i < 2 → ¬ (j < 0 ∨ (am_str i).length ≤ j.toNatClampNeg) → Met l am_yA am_WA am_rmS (am_PcS dC dI aC base adK adV i [.int j]) (QcRead ((am_str i).getD j.toNatClampNeg 0)) 0 0 (fun _ => False)
theorem am_str_words : tables_1[492]? = some (Cond.methodLink "WordEach$Tape" 45 am_yL) ∧ tables_1[493]? = some (Cond.instanceMethod am_yL) ∧ tables_1[494]? = some (Cond.selects "java/lang/String" am_yL am_yL) ∧ tables_1[14]? = some (Cond.initialized "java/lang/String") ∧ tables_1[502]? = some (Cond.methodLink "WordEach$Tape" 50 am_yA) ∧ tables_1[503]? = some (Cond.instanceMethod am_yA) ∧ tables_1[504]? = some (Cond.selects "java/lang/String" am_yA am_yA) := by decide +kernel
theorem am_str_code : tables_1[495]? = some (Cond.code am_yL prog_17_method_54_code 1 (some .int)) ∧ tables_1[505]? = some (Cond.code am_yA prog_17_method_56_code 2 (some .char)) := by decide +kernel
theorem am_WS_good {mi : Nat} {w0 : Cond} {q : Nat} (h : tables_1[q]? = some w0) (hg : goodWord w0 = true) : GoodIn (am_W mi) (w0 :: am_good) := by
  intro w hw
  rcases List.mem_cons.mp hw with rfl | hw
  · exact ⟨am_in_W h hg, good_of_word hg⟩
  · exact ⟨List.mem_cons_of_mem _ hw, good_of_word (List.mem_filter.mp hw).2⟩
theorem am_PcS_blind (dC : Nat → ClassId) (dI : Nat → Nat → Nat) (aC : Nat → ClassId) (base : Nat) (adK adV : Nat → Nat) (i : Nat) (as : List Value) : FrameBlind (am_PcS dC dI aC base adK adV i as) := fun _ _ _ _ q => ⟨q.1, am_S_calling q.2⟩
section AMS
variable {l : Launch} {dC : Nat → ClassId} {dI : Nat → Nat → Nat} {aC : Nat → ClassId} {base : Nat} {adK adV : Nat → Nat} {p : Program} {e : Env} {s : State} {m : MethodId} {args : Array Value} {below : List Frame} {meth : Method} {c : Code} {mi d : Nat} {r : Option mv} {g2 : mg} {K : Nat → ml → List mv → mg → Option mr} {C : Nat → List mv → mg → Option mr} {k : Nat} {ls : ml} {st : List mv} {g : mg} {H : Heap} {locs : List Loc} {b : Nat} {LS : Array Slot} {a bb cc : Nat} {z : mv}
theorem am_r_tableswitch (X : am_X l dC dI aC base adK adV p e s m args below meth c mi d r g2 K k ls st g H locs b LS) {dv lo hi : Int} {offs : Array Int} {len t : Nat} {sl : List (Int32 × Nat)} (hsw : am_nth am_sws a = some (sl, t)) (h1 : am_tgt (am_bp mi) b dv t = true) (h2 : (offs.size : Int) = hi - lo + 1) (h3 : am_tsw (am_bp mi) b lo offs.toList sl = true) (hd : decode (am_B mi) b = .ok (.tableswitch dv lo hi offs, len)) (h : am_do K C (.tableswitch dv lo hi offs, a, bb, cc, z) k ls st g = some (r, g2)) : am_Go l dC dI aC base adK p e s m args below meth c mi d r g2 H locs b LS st := by
  obtain ⟨hmi, ⟨hx, hb, hml, hown, hts, hret, hlk, hS⟩, hK, hL, hP, hV, ok, hbk⟩ := X
  change (match (generalizing := false) st with
      | .inl x :: st => match (generalizing := false) am_nth am_sws a with
        | some (l, d) => am_swf x l d (fun t => K t ls st g)
        | none => none
      | _ => none) = some (r, g2) at h
  split at h
  next x st1 =>
    rw [hsw] at h
    dsimp only at h
    rcases am_tsw_spec _ _ _ h3 h with ⟨j, off, t2, q1, q2, q3, q4⟩ | ⟨q1, q2⟩
    · obtain ⟨bt, q5, q6⟩ := am_tgt_some q3
      have hj : j < offs.size := by
        have := (List.getElem?_eq_some_iff.mp q1).1
        simpa using this
      refine lv_tableIn hx hb hd (by omega) (by omega) (off := off) ?_ q6 (hK _ _ _ _ q4 (ok.st (am_ok_t ok.2.1)) _ _ _ _ hL hP hV q5)
      rw [show (x.toInt - lo).toNat = j by omega]
      simpa using q1
    · obtain ⟨bt, q5, q6⟩ := am_tgt_some h1
      refine lv_tableOut hx hb hd ?_ q6 (hK _ _ _ _ q2 (ok.st (am_ok_t ok.2.1)) _ _ _ _ hL hP hV q5)
      have e : (offs.toList.length : Int) = offs.size := by simp
      rw [e] at q1
      omega
  next => cases h
theorem am_r_lookupswitch (X : am_X l dC dI aC base adK adV p e s m args below meth c mi d r g2 K k ls st g H locs b LS) {dv : Int} {ps : Array (Int × Int)} {len t : Nat} {sl : List (Int32 × Nat)} (hsw : am_nth am_sws a = some (sl, t)) (h1 : am_tgt (am_bp mi) b dv t = true) (h2 : (ps.toList.zip (ps.toList.drop 1)).all (fun (a, next) => a.1 < next.1) = true) (h3 : am_lsw (am_bp mi) b ps.toList sl = true) (hd : decode (am_B mi) b = .ok (.lookupswitch dv ps, len)) (h : am_do K C (.lookupswitch dv ps, a, bb, cc, z) k ls st g = some (r, g2)) : am_Go l dC dI aC base adK p e s m args below meth c mi d r g2 H locs b LS st := by
  obtain ⟨hmi, ⟨hx, hb, hml, hown, hts, hret, hlk, hS⟩, hK, hL, hP, hV, ok, hbk⟩ := X
  change (match (generalizing := false) st with
      | .inl x :: st => match (generalizing := false) am_nth am_sws a with
        | some (l, d) => am_swf x l d (fun t => K t ls st g)
        | none => none
      | _ => none) = some (r, g2) at h
  split at h
  next x st1 =>
    rw [hsw] at h
    dsimp only at h
    obtain ⟨off, t2, q1, q2, q3⟩ := am_lsw_spec h1 _ _ h3 h
    obtain ⟨bt, q5, q6⟩ := am_tgt_some q2
    exact lv_lookup hx hb hd h2 q1 q6 (hK _ _ _ _ q3 (ok.st (am_ok_t ok.2.1)) _ _ _ _ hL hP hV q5)
  next => cases h
theorem am_r_strlen (X : am_X l dC dI aC base adK adV p e s m args below meth c mi d r g2 K k ls st g H locs b LS) (hSL : am_SL l dC dI aC base adK adV) (ha : a = 900) (hown9 : (am_head mi).1 = 9) (hd : decode (am_B mi) b = .ok (.invokevirtual 45, 3)) (hn : am_nth (am_bp mi) (k + 1) = some (b + 3)) (h : am_do K C (.invokevirtual 45, a, bb, cc, z) k ls st g = some (r, g2)) : am_Go l dC dI aC base adK p e s m args below meth c mi d r g2 H locs b LS st := by
  obtain ⟨hmi, ⟨hx, hb, hml, hown, hts, hret, hlk, hS⟩, hK, hL, hP, hV, ok, hbk⟩ := X
  subst ha
  change (match (generalizing := false) st with
        | .inr (.inr (kd, i)) :: st => if kd = 200 ∧ am_cat st ≤ 8 then K (k + 1) ls (vi (Int32.ofNat (am_str i).length) :: st) g else none
        | _ => none) = some (r, g2) at h
  split at h
  next kd i st1 =>
    by_cases hk : kd = 200 ∧ am_cat st1 ≤ 8
    · rw [if_pos hk] at h
      obtain ⟨rfl, hcat⟩ := hk
      have hi : i < 2 := by
        rcases am_ok_h ok.2.1 with ⟨-, q⟩ | ⟨q, -⟩
        · exact q
        · omega
      obtain ⟨w1, w2, w3, w4, -⟩ := am_str_words
      rw [hown9] at hown
      refine W.callR (W.runV (own := "WordEach$Tape") (C := "java/lang/String") (b := adK i) (As := []) (rest := st1.map (am_t base adK)) ⟨hx, hb, hml, hown, hts⟩ (hSL i hi) ⟨⟨rfl, rfl, ?_, ?_, pay_in hts (am_WS_good am_str_code.1 rfl), List.mem_cons_self, hts _ (am_in_W am_str_code.1 rfl), hts _ (am_in_W w4 rfl), by decide, fun sig hs => ?_, hts _ (am_in_W w1 rfl)⟩, hts _ (am_in_W w2 rfl), hts _ (am_in_W w3 rfl)⟩ ⟨am_PcS_blind _ _ _ _ _ _ _ _, vk_recv hS.2.1 hi hV, fun U hU hW => ⟨rfl, am_S_moved hS hV hU hW⟩⟩ rfl rfl hL.1 rfl ?_ hd ⟨Nat.le_refl _, Nat.le_refl _⟩) (hK _ _ _ _ h (ok.st (am_ok_c (am_ok_i _) (am_ok_t ok.2.1))) _ _ _ _ hL hP hV hn)
      · show 6 + 1 ≤ d + 10; omega
      · show 8 + (1 + 11) + 200 ≤ 40 * d + 400; omega
      · have e : (parseMethodDescriptor am_yL.desc).map (fun d => d.parameters.length) = some 0 := by decide +kernel
        rw [hs] at e
        exact (Option.some.inj e).symm
      · refine lv_room ?_
        rw [am_t_cats]
        exact hcat
    · rw [if_neg hk] at h; cases h
  next => cases h
theorem am_r_charAt (X : am_X l dC dI aC base adK adV p e s m args below meth c mi d r g2 K k ls st g H locs b LS) (hSA : am_SA l dC dI aC base adK adV) (ha : a = 901) (hown9 : (am_head mi).1 = 9) (hd : decode (am_B mi) b = .ok (.invokevirtual 50, 3)) (hn : am_nth (am_bp mi) (k + 1) = some (b + 3)) (h : am_do K C (.invokevirtual 50, a, bb, cc, z) k ls st g = some (r, g2)) : am_Go l dC dI aC base adK p e s m args below meth c mi d r g2 H locs b LS st := by
  obtain ⟨hmi, ⟨hx, hb, hml, hown, hts, hret, hlk, hS⟩, hK, hL, hP, hV, ok, hbk⟩ := X
  subst ha
  change (match (generalizing := false) st with
        | .inl j :: .inr (.inr (kd, i)) :: st => if kd = 200 ∧ am_cat st ≤ 8 then (if j < 0 ∨ (am_str i).length ≤ j.toNatClampNeg then none else K (k + 1) ls (vi ((am_str i).getD j.toNatClampNeg 0) :: st) g) else none
        | _ => none) = some (r, g2) at h
  split at h
  next j kd i st1 =>
    by_cases hk : kd = 200 ∧ am_cat st1 ≤ 8
    · rw [if_pos hk] at h
      obtain ⟨rfl, hcat⟩ := hk
      by_cases hj : j < 0 ∨ (am_str i).length ≤ j.toNatClampNeg
      · rw [if_pos hj] at h; cases h
      · rw [if_neg hj] at h
        have hi : i < 2 := by
          rcases am_ok_h (am_ok_t ok.2.1) with ⟨-, q⟩ | ⟨q, -⟩
          · exact q
          · omega
        obtain ⟨-, -, -, w4, w1, w2, w3⟩ := am_str_words
        rw [hown9] at hown
        refine W.callR (W.runV (own := "WordEach$Tape") (C := "java/lang/String") (b := adK i) (As := [.int j]) (rest := st1.map (am_t base adK)) ⟨hx, hb, hml, hown, hts⟩ (hSA i j hi hj) ⟨⟨rfl, rfl, ?_, ?_, pay_in hts (am_WS_good am_str_code.2 rfl), List.mem_cons_self, hts _ (am_in_W am_str_code.2 rfl), hts _ (am_in_W w4 rfl), by decide, fun sig hs => ?_, hts _ (am_in_W w1 rfl)⟩, hts _ (am_in_W w2 rfl), hts _ (am_in_W w3 rfl)⟩ ⟨am_PcS_blind _ _ _ _ _ _ _ _, vk_recv hS.2.1 hi hV, fun U hU hW => ⟨rfl, am_S_moved hS hV hU hW⟩⟩ rfl rfl hL.1 rfl ?_ hd ⟨Nat.le_refl _, Nat.le_refl _⟩) (hK _ _ _ _ h (ok.st (am_ok_c (am_ok_i _) (am_ok_t (am_ok_t ok.2.1)))) _ _ _ _ hL hP hV hn)
        · show 6 + 1 ≤ d + 10; omega
        · show 8 + (2 + 11) + 200 ≤ 40 * d + 400; omega
        · have e : (parseMethodDescriptor am_yA.desc).map (fun d => d.parameters.length) = some 1 := by decide +kernel
          rw [hs] at e
          exact (Option.some.inj e).symm
        · refine lv_room ?_
          rw [am_t_cats]
          exact hcat
    · rw [if_neg hk] at h; cases h
  next => cases h
theorem am_math_words : am_Y 294 = Lib.Math.min.name ∧ am_Y 295 = Lib.Math.max.name ∧ am_Y 296 = Lib.MathLoose.min_long.x ∧ am_Y 297 = Lib.MathLoose.max_long.x ∧ am_B 294 = Lib.Math.min.code ∧ am_B 295 = Lib.Math.max.code ∧ am_B 296 = Lib.MathLoose.min_long.code ∧ am_B 297 = Lib.MathLoose.max_long.code := by decide +kernel
/-- floorDiv, as a row (proved elsewhere) -/
def am_FD (l : Launch) : Prop := ∀ (p : Program) (e : Env) (R : Room) (s : State) (m : MethodId) (args : Array Value) (below : List Frame) (meth : Method) (c : Code) (H : Heap) (locs : List Loc) (Q : State → Prop) (mi b x : Nat) (LS : Array Slot) (u w : Int32) (rest : List Value), p.tables.exec = Jvm.exec → c.code = am_B mi → c.maxLocals = LS.size → s.vm.findClass (am_R (am_head mi).1) = some m.cls → (Cond.methodLink (am_R (am_head mi).1) x (am_Y 298)).before args s = true → (Cond.static (am_Y 298)).before args s = true → (Cond.initialized "java/lang/Math").before args s = true → (Cond.code (am_Y 298) (am_B 298) 3 (some .int)).before args s = true → 1 ≤ R.frames → (rest.map fun v => v.category).sum + 20 ≤ R.locals → ¬ w = 0 → decode (am_B mi) b = .ok (.invokestatic x, 3) → W p l e R s m args below meth c H locs 0 0 Q (F0 m (b + 3) LS (.int (am_fd u w) :: rest)) → W p l e R s m args below meth c H locs 0 0 Q (F0 m b LS (.int w :: .int u :: rest))
theorem am_r_math (X : am_X l dC dI aC base adK adV p e s m args below meth c mi d r g2 K k ls st g H locs b LS) (hFD : am_FD l) {x : Nat} (hm : 294 ≤ a ∧ a ≤ 298) (hlk2 : ∃ q, ((am_head mi).1, x, a, q) ∈ am_mls) (hd : decode (am_B mi) b = .ok (.invokestatic x, 3)) (hn : am_nth (am_bp mi) (k + 1) = some (b + 3)) (h : am_do K C (.invokestatic x, a, bb, cc, z) k ls st g = some (r, g2)) : am_Go l dC dI aC base adK p e s m args below meth c mi d r g2 H locs b LS st := by
  obtain ⟨hmi, ⟨hx, hb, hml, hown, hts, hret, hlk, hS⟩, hK, hL, hP, hV, ok, hbk⟩ := X
  obtain ⟨q, hq⟩ := hlk2
  have hw := hts _ (am_in_W (of_decide_eq_true (List.all_eq_true.mp am_ml_ok _ hq)) rfl)
  dsimp only at hw
  have hy : a < 300 := by omega
  obtain ⟨w1, w2, w3, w4, w5, w6, w7⟩ := am_words hy
  have hcls : ∀ y, 294 ≤ y ∧ y ≤ 298 → (am_P y).1 = true ∧ (am_Y y).cls = "java/lang/Math" := by
    intro y hy
    have : y = 294 ∨ y = 295 ∨ y = 296 ∨ y = 297 ∨ y = 298 := by omega
    rcases this with rfl | rfl | rfl | rfl | rfl <;> exact ⟨rfl, rfl⟩
  obtain ⟨s1, s2⟩ := hcls a hm
  rw [if_pos s1] at w2
  have hst := hts _ (am_in_W w2 rfl)
  have hco := hts _ (am_in_W w1 rfl)
  have hin := hts _ (am_in_W w4 rfl)
  rw [s2] at hin
  have hml2 : c.maxLocals = LS.size := by rw [hml, hL.1]
  have hr : ∀ st1 : List mv, am_cat st1 ≤ 8 → ((st1.map (am_t base adK)).map fun v => v.category).sum + 20 ≤ (am_rm d).locals := by
    intro st1 h8
    rw [am_t_cats]
    show am_cat st1 + 20 ≤ 40 * d + 400
    omega
  have h0 : (if 294 ≤ a ∧ a ≤ 298 then am_math K a k ls st g else am_inv K C a bb cc k ls st g) = some (r, g2) := h
  rw [if_pos hm] at h0
  unfold am_math at h0
  obtain ⟨m1, m2, m3, m4, m5, m6, m7, m8⟩ := am_math_words
  by_cases a1 : a = 294
  · rw [if_pos a1] at h0
    subst a1
    unfold am_m2i at h0
    split at h0
    next y1 x1 st1 =>
      by_cases h8 : am_cat st1 ≤ 8
      · rw [if_pos h8] at h0
        rw [m1] at hw hst
        rw [m1, m5] at hco
        exact va_mmin hx hb hml2 hown hw hst hin hco (by show 1 ≤ d + 10; omega) (by have := hr st1 h8; omega) (Nat.le_refl _) (Nat.le_refl _) hd (hK _ _ _ _ h0 (ok.st (am_ok_c (am_ok_i _) (am_ok_t (am_ok_t ok.2.1)))) _ _ _ _ hL hP hV hn)
      · rw [if_neg h8] at h0; cases h0
    next => cases h0
  · rw [if_neg a1] at h0
    by_cases a2 : a = 295
    · rw [if_pos a2] at h0
      subst a2
      unfold am_m2i at h0
      split at h0
      next y1 x1 st1 =>
        by_cases h8 : am_cat st1 ≤ 8
        · rw [if_pos h8] at h0
          rw [m2] at hw hst
          rw [m2, m6] at hco
          exact va_mmax hx hb hml2 hown hw hst hin hco (by show 1 ≤ d + 10; omega) (by have := hr st1 h8; omega) (Nat.le_refl _) (Nat.le_refl _) hd (hK _ _ _ _ h0 (ok.st (am_ok_c (am_ok_i _) (am_ok_t (am_ok_t ok.2.1)))) _ _ _ _ hL hP hV hn)
        · rw [if_neg h8] at h0; cases h0
      next => cases h0
    · rw [if_neg a2] at h0
      by_cases a3 : a = 296
      · rw [if_pos a3] at h0
        subst a3
        unfold am_m2l at h0
        split at h0
        next y1 x1 st1 =>
          by_cases h8 : am_cat st1 ≤ 8
          · rw [if_pos h8] at h0
            rw [m3] at hw hst
            rw [m3, m7] at hco
            exact va_mmin_long hx hb hml2 hown hw hst hin hco (by show 1 ≤ d + 10; omega) (by have := hr st1 h8; omega) (Nat.le_refl _) (Nat.le_refl _) hd (hK _ _ _ _ h0 (ok.st (am_ok_c (am_ok_l _) (am_ok_t (am_ok_t ok.2.1)))) _ _ _ _ hL hP hV hn)
          · rw [if_neg h8] at h0; cases h0
        next => cases h0
      · rw [if_neg a3] at h0
        by_cases a4 : a = 297
        · rw [if_pos a4] at h0
          subst a4
          unfold am_m2l at h0
          split at h0
          next y1 x1 st1 =>
            by_cases h8 : am_cat st1 ≤ 8
            · rw [if_pos h8] at h0
              rw [m4] at hw hst
              rw [m4, m8] at hco
              exact va_mmax_long hx hb hml2 hown hw hst hin hco (by show 1 ≤ d + 10; omega) (by have := hr st1 h8; omega) (Nat.le_refl _) (Nat.le_refl _) hd (hK _ _ _ _ h0 (ok.st (am_ok_c (am_ok_l _) (am_ok_t (am_ok_t ok.2.1)))) _ _ _ _ hL hP hV hn)
            · rw [if_neg h8] at h0; cases h0
          next => cases h0
        · rw [if_neg a4] at h0
          have a5 : a = 298 := by omega
          subst a5
          split at h0
          next y1 x1 st1 =>
            by_cases hy0 : y1 = 0
            · rw [if_pos hy0] at h0; cases h0
            · rw [if_neg hy0] at h0
              by_cases h8 : am_cat st1 ≤ 8
              · rw [if_pos h8] at h0
                exact hFD p e _ s m args below meth c H locs _ mi b x LS x1 y1 _ hx hb hml2 hown hw hst hin hco (by show 1 ≤ d + 10; omega) (hr st1 h8) hy0 hd (hK _ _ _ _ h0 (ok.st (am_ok_c (am_ok_i _) (am_ok_t (am_ok_t ok.2.1)))) _ _ _ _ hL hP hV hn)
              · rw [if_neg h8] at h0; cases h0
          next => cases h0
end AMS
end
section
theorem am_mls_lt : (am_mls.all fun e => decide (e.2.2.1 < 300)) = true ∧ (am_nls.all fun e => decide (e.2.2.1 < 300)) = true := by decide +kernel
theorem am_mls_any {o x a : Nat} (h : am_mls.any (fun e => Nat.beq e.1 o && (Nat.beq e.2.1 x && Nat.beq e.2.2.1 a)) = true) : a < 300 ∧ ∃ q, (o, x, a, q) ∈ am_mls := by
  obtain ⟨e, he, h2⟩ := List.any_eq_true.mp h
  simp only [Bool.and_eq_true] at h2
  obtain ⟨h3, h4, h5⟩ := h2
  have e1 := Nat.eq_of_beq_eq_true h3
  have e2 := Nat.eq_of_beq_eq_true h4
  have e3 := Nat.eq_of_beq_eq_true h5
  have hlt := of_decide_eq_true (List.all_eq_true.mp am_mls_lt.1 e he)
  obtain ⟨p1, p2, p3, p4⟩ := e
  dsimp only at e1 e2 e3 hlt
  subst e1; subst e2; subst e3
  exact ⟨hlt, p4, he⟩
theorem am_nls_any {o x a : Nat} (h : am_nls.any (fun e => Nat.beq e.1 o && (Nat.beq e.2.1 x && Nat.beq e.2.2.1 a)) = true) : a < 300 ∧ ∃ q, (o, x, a, q) ∈ am_nls := by
  obtain ⟨e, he, h2⟩ := List.any_eq_true.mp h
  simp only [Bool.and_eq_true] at h2
  obtain ⟨h3, h4, h5⟩ := h2
  have e1 := Nat.eq_of_beq_eq_true h3
  have e2 := Nat.eq_of_beq_eq_true h4
  have e3 := Nat.eq_of_beq_eq_true h5
  have hlt := of_decide_eq_true (List.all_eq_true.mp am_mls_lt.2 e he)
  obtain ⟨p1, p2, p3, p4⟩ := e
  dsimp only at e1 e2 e3 hlt
  subst e1; subst e2; subst e3
  exact ⟨hlt, p4, he⟩
theorem am_nls_nm {o x a : Nat} (h : am_nls.any (fun e => Nat.beq e.1 o && (Nat.beq e.2.1 x && Nat.beq e.2.2.1 a)) = true) : ¬ (294 ≤ a ∧ a ≤ 298) := by
  obtain ⟨e, he, h2⟩ := List.any_eq_true.mp h
  simp only [Bool.and_eq_true] at h2
  rw [← Nat.eq_of_beq_eq_true h2.2.2]
  have t : (am_nls.all fun e => decide (e.2.2.1 < 294)) = true := by decide +kernel
  have := of_decide_eq_true (List.all_eq_true.mp t e he)
  omega
theorem am_nm_virt {a : Nat} (h : (am_P a).1 = false) : ¬ (294 ≤ a ∧ a ≤ 298) := by
  intro hm
  have q : a = 294 ∨ a = 295 ∨ a = 296 ∨ a = 297 ∨ a = 298 := by omega
  rcases q with rfl | rfl | rfl | rfl | rfl <;> cases h
theorem am_fls_any {o x a b : Nat} (h : am_fls.any (fun e => Nat.beq e.1 o && (Nat.beq e.2.1 x && (Nat.beq e.2.2.1 a && Nat.beq e.2.2.2.1 b))) = true) : ∃ q, (o, x, a, b, q) ∈ am_fls := by
  obtain ⟨e, he, h2⟩ := List.any_eq_true.mp h
  simp only [Bool.and_eq_true] at h2
  obtain ⟨h3, h4, h5, h6⟩ := h2
  have e1 := Nat.eq_of_beq_eq_true h3
  have e2 := Nat.eq_of_beq_eq_true h4
  have e3 := Nat.eq_of_beq_eq_true h5
  have e4 := Nat.eq_of_beq_eq_true h6
  obtain ⟨p1, p2, p3, p4, p5⟩ := e
  dsimp only at e1 e2 e3 e4
  subst e1; subst e2; subst e3; subst e4
  exact ⟨p5, he⟩
theorem am_cis_any {o x : Nat} {v : Int32} (h : am_cis.any (fun e => Nat.beq e.1 o && (Nat.beq e.2.1 x && decide (e.2.2.1 = v))) = true) : ∃ q : Nat, tables_1[q]? = some (Cond.constant (am_R o) x v) := by
  obtain ⟨e, he, h2⟩ := List.any_eq_true.mp h
  simp only [Bool.and_eq_true, decide_eq_true_eq] at h2
  obtain ⟨h3, h4, h5⟩ := h2
  have e1 := Nat.eq_of_beq_eq_true h3
  have e2 := Nat.eq_of_beq_eq_true h4
  have hw := of_decide_eq_true (List.all_eq_true.mp am_ci_ok e he)
  rw [e1, e2, h5] at hw
  exact ⟨_, hw⟩
theorem am_cls_any {o x : Nat} {v : Int64} (h : am_cls.any (fun e => Nat.beq e.1 o && (Nat.beq e.2.1 x && decide (e.2.2.1 = v))) = true) : ∃ q : Nat, tables_1[q]? = some (Cond.constantLong (am_R o) x v) := by
  obtain ⟨e, he, h2⟩ := List.any_eq_true.mp h
  simp only [Bool.and_eq_true, decide_eq_true_eq] at h2
  obtain ⟨h3, h4, h5⟩ := h2
  have e1 := Nat.eq_of_beq_eq_true h3
  have e2 := Nat.eq_of_beq_eq_true h4
  have hw := of_decide_eq_true (List.all_eq_true.mp am_cl_ok e he)
  rw [e1, e2, h5] at hw
  exact ⟨_, hw⟩
theorem am_chk_at {mi k b : Nat} {o : mo} (hmi : mi < 300) (ho : am_nth (am_prog mi) k = some o) (hb : am_nth (am_bp mi) k = some b) : ∃ len, decode (am_B mi) b = .ok (o.1, len) ∧ am_cf (am_head mi).1 (am_head mi).2.2 (am_bp mi) k b len o = true := by
  have h := am_chks_at (am_prog mi) 0 k o (am_chk_ok hmi) ho
  rw [Nat.zero_add] at h
  unfold am_chk1 at h
  rw [hb] at h
  dsimp only at h
  split at h
  · rename_i i len hd
    simp only [Bool.and_eq_true, decide_eq_true_eq] at h
    rw [h.1] at hd
    exact ⟨len, hd, h.2⟩
  · cases h
theorem am_loc_at {mi k : Nat} {o : mo} (hmi : mi < 300) (ho : am_nth (am_prog mi) k = some o) : (match o.1 with
  | .istore _ => Nat.blt o.2.1 (am_head mi).2.1
  | .istore_n _ => Nat.blt o.2.1 (am_head mi).2.1
  | .astore _ => Nat.blt o.2.1 (am_head mi).2.1
  | .astore_n _ => Nat.blt o.2.1 (am_head mi).2.1
  | .lstore _ => Nat.blt (o.2.1 + 1) (am_head mi).2.1
  | .lstore_n _ => Nat.blt (o.2.1 + 1) (am_head mi).2.1
  | _ => true) = true := List.all_eq_true.mp (am_loc_ok hmi) o (am_nth_mem _ _ _ ho)
section AMD
variable {l : Launch} {dC : Nat → ClassId} {dI : Nat → Nat → Nat} {aC : Nat → ClassId} {base : Nat} {adK adV : Nat → Nat} {p : Program} {e : Env} {s : State} {m : MethodId} {args : Array Value} {below : List Frame} {meth : Method} {c : Code} {mi d : Nat} {r : Option mv} {g2 : mg} {K : Nat → ml → List mv → mg → Option mr} {C : Nat → List mv → mg → Option mr} {k : Nat} {ls : ml} {st : List mv} {g : mg} {H : Heap} {locs : List Loc} {b : Nat} {LS : Array Slot} {a bb cc : Nat} {z : mv}
set_option maxHeartbeats 4000000 in
theorem am_disp (X : am_X l dC dI aC base adK adV p e s m args below meth c mi d r g2 K k ls st g H locs b LS) (hC : am_Cok l dC dI aC base adK adV d C) (hSL : am_SL l dC dI aC base adK adV) (hSA : am_SA l dC dI aC base adK adV) (hFD : am_FD l) {o : mo} (ho : am_nth (am_prog mi) k = some o) (h : am_do K C o k ls st g = some (r, g2)) : am_Go l dC dI aC base adK p e s m args below meth c mi d r g2 H locs b LS st := by
  have hmi := X.1.1
  have hbk := X.2.2.2.2.2.2.2
  obtain ⟨len, hd, hcf⟩ := am_chk_at hmi ho hbk
  have hlc := am_loc_at hmi ho
  obtain ⟨i, a, bb, cc, z⟩ := o
  dsimp only at hd hlc
  cases i
  case iadd =>
    have hcf := hcf
    simp only [am_cf, Bool.and_eq_true] at hcf
    obtain ⟨hl, hnx⟩ := hcf
    have hl := Nat.eq_of_beq_eq_true hl
    subst hl
    exact am_r_iadd X hd (am_nx_some hnx) h
  case isub =>
    have hcf := hcf
    simp only [am_cf, Bool.and_eq_true] at hcf
    obtain ⟨hl, hnx⟩ := hcf
    have hl := Nat.eq_of_beq_eq_true hl
    subst hl
    exact am_r_isub X hd (am_nx_some hnx) h
  case imul =>
    have hcf := hcf
    simp only [am_cf, Bool.and_eq_true] at hcf
    obtain ⟨hl, hnx⟩ := hcf
    have hl := Nat.eq_of_beq_eq_true hl
    subst hl
    exact am_r_imul X hd (am_nx_some hnx) h
  case iand =>
    have hcf := hcf
    simp only [am_cf, Bool.and_eq_true] at hcf
    obtain ⟨hl, hnx⟩ := hcf
    have hl := Nat.eq_of_beq_eq_true hl
    subst hl
    exact am_r_iand X hd (am_nx_some hnx) h
  case ior =>
    have hcf := hcf
    simp only [am_cf, Bool.and_eq_true] at hcf
    obtain ⟨hl, hnx⟩ := hcf
    have hl := Nat.eq_of_beq_eq_true hl
    subst hl
    exact am_r_ior X hd (am_nx_some hnx) h
  case ixor =>
    have hcf := hcf
    simp only [am_cf, Bool.and_eq_true] at hcf
    obtain ⟨hl, hnx⟩ := hcf
    have hl := Nat.eq_of_beq_eq_true hl
    subst hl
    exact am_r_ixor X hd (am_nx_some hnx) h
  case ishl =>
    have hcf := hcf
    simp only [am_cf, Bool.and_eq_true] at hcf
    obtain ⟨hl, hnx⟩ := hcf
    have hl := Nat.eq_of_beq_eq_true hl
    subst hl
    exact am_r_ishl X hd (am_nx_some hnx) h
  case ishr =>
    have hcf := hcf
    simp only [am_cf, Bool.and_eq_true] at hcf
    obtain ⟨hl, hnx⟩ := hcf
    have hl := Nat.eq_of_beq_eq_true hl
    subst hl
    exact am_r_ishr X hd (am_nx_some hnx) h
  case iushr =>
    have hcf := hcf
    simp only [am_cf, Bool.and_eq_true] at hcf
    obtain ⟨hl, hnx⟩ := hcf
    have hl := Nat.eq_of_beq_eq_true hl
    subst hl
    exact am_r_iushr X hd (am_nx_some hnx) h
  case idiv =>
    have hcf := hcf
    simp only [am_cf, Bool.and_eq_true] at hcf
    obtain ⟨hl, hnx⟩ := hcf
    have hl := Nat.eq_of_beq_eq_true hl
    subst hl
    exact am_r_idiv X hd (am_nx_some hnx) h
  case irem =>
    have hcf := hcf
    simp only [am_cf, Bool.and_eq_true] at hcf
    obtain ⟨hl, hnx⟩ := hcf
    have hl := Nat.eq_of_beq_eq_true hl
    subst hl
    exact am_r_irem X hd (am_nx_some hnx) h
  case ladd =>
    have hcf := hcf
    simp only [am_cf, Bool.and_eq_true] at hcf
    obtain ⟨hl, hnx⟩ := hcf
    have hl := Nat.eq_of_beq_eq_true hl
    subst hl
    exact am_r_ladd X hd (am_nx_some hnx) h
  case lsub =>
    have hcf := hcf
    simp only [am_cf, Bool.and_eq_true] at hcf
    obtain ⟨hl, hnx⟩ := hcf
    have hl := Nat.eq_of_beq_eq_true hl
    subst hl
    exact am_r_lsub X hd (am_nx_some hnx) h
  case lmul =>
    have hcf := hcf
    simp only [am_cf, Bool.and_eq_true] at hcf
    obtain ⟨hl, hnx⟩ := hcf
    have hl := Nat.eq_of_beq_eq_true hl
    subst hl
    exact am_r_lmul X hd (am_nx_some hnx) h
  case land =>
    have hcf := hcf
    simp only [am_cf, Bool.and_eq_true] at hcf
    obtain ⟨hl, hnx⟩ := hcf
    have hl := Nat.eq_of_beq_eq_true hl
    subst hl
    exact am_r_land X hd (am_nx_some hnx) h
  case ldiv =>
    have hcf := hcf
    simp only [am_cf, Bool.and_eq_true] at hcf
    obtain ⟨hl, hnx⟩ := hcf
    have hl := Nat.eq_of_beq_eq_true hl
    subst hl
    exact am_r_ldiv X hd (am_nx_some hnx) h
  case lrem =>
    have hcf := hcf
    simp only [am_cf, Bool.and_eq_true] at hcf
    obtain ⟨hl, hnx⟩ := hcf
    have hl := Nat.eq_of_beq_eq_true hl
    subst hl
    exact am_r_lrem X hd (am_nx_some hnx) h
  case i2l =>
    have hcf := hcf
    simp only [am_cf, Bool.and_eq_true] at hcf
    obtain ⟨hl, hnx⟩ := hcf
    have hl := Nat.eq_of_beq_eq_true hl
    subst hl
    exact am_r_i2l X hd (am_nx_some hnx) h
  case l2i =>
    have hcf := hcf
    simp only [am_cf, Bool.and_eq_true] at hcf
    obtain ⟨hl, hnx⟩ := hcf
    have hl := Nat.eq_of_beq_eq_true hl
    subst hl
    exact am_r_l2i X hd (am_nx_some hnx) h
  case i2b =>
    have hcf := hcf
    simp only [am_cf, Bool.and_eq_true] at hcf
    obtain ⟨hl, hnx⟩ := hcf
    have hl := Nat.eq_of_beq_eq_true hl
    subst hl
    exact am_r_i2b X hd (am_nx_some hnx) h
  case lcmp =>
    have hcf := hcf
    simp only [am_cf, Bool.and_eq_true] at hcf
    obtain ⟨hl, hnx⟩ := hcf
    have hl := Nat.eq_of_beq_eq_true hl
    subst hl
    exact am_r_lcmp X hd (am_nx_some hnx) h
  case pop =>
    have hcf := hcf
    simp only [am_cf, Bool.and_eq_true] at hcf
    obtain ⟨hl, hnx⟩ := hcf
    have hl := Nat.eq_of_beq_eq_true hl
    subst hl
    exact am_r_pop X hd (am_nx_some hnx) h
  case dup =>
    have hcf := hcf
    simp only [am_cf, Bool.and_eq_true] at hcf
    obtain ⟨hl, hnx⟩ := hcf
    have hl := Nat.eq_of_beq_eq_true hl
    subst hl
    exact am_r_dup X hd (am_nx_some hnx) h
  case dup2 =>
    have hcf := hcf
    simp only [am_cf, Bool.and_eq_true] at hcf
    obtain ⟨hl, hnx⟩ := hcf
    have hl := Nat.eq_of_beq_eq_true hl
    subst hl
    exact am_r_dup2 X hd (am_nx_some hnx) h
  case iaload =>
    have hcf := hcf
    simp only [am_cf, Bool.and_eq_true] at hcf
    obtain ⟨hl, hnx⟩ := hcf
    have hl := Nat.eq_of_beq_eq_true hl
    subst hl
    exact am_r_iaload X hd (am_nx_some hnx) h
  case baload =>
    have hcf := hcf
    simp only [am_cf, Bool.and_eq_true] at hcf
    obtain ⟨hl, hnx⟩ := hcf
    have hl := Nat.eq_of_beq_eq_true hl
    subst hl
    exact am_r_baload X hd (am_nx_some hnx) h
  case caload =>
    have hcf := hcf
    simp only [am_cf, Bool.and_eq_true] at hcf
    obtain ⟨hl, hnx⟩ := hcf
    have hl := Nat.eq_of_beq_eq_true hl
    subst hl
    exact am_r_caload X hd (am_nx_some hnx) h
  case laload =>
    have hcf := hcf
    simp only [am_cf, Bool.and_eq_true] at hcf
    obtain ⟨hl, hnx⟩ := hcf
    have hl := Nat.eq_of_beq_eq_true hl
    subst hl
    exact am_r_laload X hd (am_nx_some hnx) h
  case aaload =>
    have hcf := hcf
    simp only [am_cf, Bool.and_eq_true] at hcf
    obtain ⟨hl, hnx⟩ := hcf
    have hl := Nat.eq_of_beq_eq_true hl
    subst hl
    exact am_r_aaload X hd (am_nx_some hnx) h
  case iastore =>
    have hcf := hcf
    simp only [am_cf, Bool.and_eq_true] at hcf
    obtain ⟨hl, hnx⟩ := hcf
    have hl := Nat.eq_of_beq_eq_true hl
    subst hl
    exact am_r_iastore X hd (am_nx_some hnx) h
  case bastore =>
    have hcf := hcf
    simp only [am_cf, Bool.and_eq_true] at hcf
    obtain ⟨hl, hnx⟩ := hcf
    have hl := Nat.eq_of_beq_eq_true hl
    subst hl
    exact am_r_bastore X hd (am_nx_some hnx) h
  case lastore =>
    have hcf := hcf
    simp only [am_cf, Bool.and_eq_true] at hcf
    obtain ⟨hl, hnx⟩ := hcf
    have hl := Nat.eq_of_beq_eq_true hl
    subst hl
    exact am_r_lastore X hd (am_nx_some hnx) h
  case arraylength =>
    have hcf := hcf
    simp only [am_cf, Bool.and_eq_true] at hcf
    obtain ⟨hl, hnx⟩ := hcf
    have hl := Nat.eq_of_beq_eq_true hl
    subst hl
    exact am_r_arraylength X hd (am_nx_some hnx) h
  case iconst n =>
    have hcf := hcf
    simp only [am_cf, Bool.and_eq_true] at hcf
    obtain ⟨hl, hnx, hz⟩ := hcf
    have hl := Nat.eq_of_beq_eq_true hl
    subst hl
    exact am_r_iconst X (of_decide_eq_true hz) hd (am_nx_some hnx) h
  case bipush n =>
    have hcf := hcf
    simp only [am_cf, Bool.and_eq_true] at hcf
    obtain ⟨hl, hnx, hz⟩ := hcf
    have hl := Nat.eq_of_beq_eq_true hl
    subst hl
    exact am_r_bipush X (of_decide_eq_true hz) hd (am_nx_some hnx) h
  case sipush n =>
    have hcf := hcf
    simp only [am_cf, Bool.and_eq_true] at hcf
    obtain ⟨hl, hnx, hz⟩ := hcf
    have hl := Nat.eq_of_beq_eq_true hl
    subst hl
    exact am_r_sipush X (of_decide_eq_true hz) hd (am_nx_some hnx) h
  case lconst n =>
    have hcf := hcf
    simp only [am_cf, Bool.and_eq_true] at hcf
    obtain ⟨hl, hnx, hz⟩ := hcf
    have hl := Nat.eq_of_beq_eq_true hl
    subst hl
    exact am_r_lconst X (of_decide_eq_true hz) hd (am_nx_some hnx) h
  case iload n =>
    have hcf := hcf
    simp only [am_cf, Bool.and_eq_true] at hcf
    obtain ⟨hl, hnx, ha⟩ := hcf
    have hl := Nat.eq_of_beq_eq_true hl
    subst hl
    exact am_r_iload X (Nat.eq_of_beq_eq_true ha) hd (am_nx_some hnx) h
  case iload_n n =>
    have hcf := hcf
    simp only [am_cf, Bool.and_eq_true] at hcf
    obtain ⟨hl, hnx, ha⟩ := hcf
    have hl := Nat.eq_of_beq_eq_true hl
    subst hl
    exact am_r_iload_n X (Nat.eq_of_beq_eq_true ha) hd (am_nx_some hnx) h
  case lload n =>
    have hcf := hcf
    simp only [am_cf, Bool.and_eq_true] at hcf
    obtain ⟨hl, hnx, ha⟩ := hcf
    have hl := Nat.eq_of_beq_eq_true hl
    subst hl
    exact am_r_lload X (Nat.eq_of_beq_eq_true ha) hd (am_nx_some hnx) h
  case lload_n n =>
    have hcf := hcf
    simp only [am_cf, Bool.and_eq_true] at hcf
    obtain ⟨hl, hnx, ha⟩ := hcf
    have hl := Nat.eq_of_beq_eq_true hl
    subst hl
    exact am_r_lload_n X (Nat.eq_of_beq_eq_true ha) hd (am_nx_some hnx) h
  case aload n =>
    have hcf := hcf
    simp only [am_cf, Bool.and_eq_true] at hcf
    obtain ⟨hl, hnx, ha⟩ := hcf
    have hl := Nat.eq_of_beq_eq_true hl
    subst hl
    exact am_r_aload X (Nat.eq_of_beq_eq_true ha) hd (am_nx_some hnx) h
  case aload_n n =>
    have hcf := hcf
    simp only [am_cf, Bool.and_eq_true] at hcf
    obtain ⟨hl, hnx, ha⟩ := hcf
    have hl := Nat.eq_of_beq_eq_true hl
    subst hl
    exact am_r_aload_n X (Nat.eq_of_beq_eq_true ha) hd (am_nx_some hnx) h
  case istore n =>
    have hcf := hcf
    simp only [am_cf, Bool.and_eq_true] at hcf
    obtain ⟨hl, hnx, ha⟩ := hcf
    have hl := Nat.eq_of_beq_eq_true hl
    subst hl
    exact am_r_istore X (Nat.eq_of_beq_eq_true ha) (Nat.le_of_ble_eq_true hlc) hd (am_nx_some hnx) h
  case istore_n n =>
    have hcf := hcf
    simp only [am_cf, Bool.and_eq_true] at hcf
    obtain ⟨hl, hnx, ha⟩ := hcf
    have hl := Nat.eq_of_beq_eq_true hl
    subst hl
    exact am_r_istore_n X (Nat.eq_of_beq_eq_true ha) (Nat.le_of_ble_eq_true hlc) hd (am_nx_some hnx) h
  case lstore n =>
    have hcf := hcf
    simp only [am_cf, Bool.and_eq_true] at hcf
    obtain ⟨hl, hnx, ha⟩ := hcf
    have hl := Nat.eq_of_beq_eq_true hl
    subst hl
    exact am_r_lstore X (Nat.eq_of_beq_eq_true ha) (Nat.le_of_ble_eq_true hlc) hd (am_nx_some hnx) h
  case lstore_n n =>
    have hcf := hcf
    simp only [am_cf, Bool.and_eq_true] at hcf
    obtain ⟨hl, hnx, ha⟩ := hcf
    have hl := Nat.eq_of_beq_eq_true hl
    subst hl
    exact am_r_lstore_n X (Nat.eq_of_beq_eq_true ha) (Nat.le_of_ble_eq_true hlc) hd (am_nx_some hnx) h
  case astore n =>
    have hcf := hcf
    simp only [am_cf, Bool.and_eq_true] at hcf
    obtain ⟨hl, hnx, ha⟩ := hcf
    have hl := Nat.eq_of_beq_eq_true hl
    subst hl
    exact am_r_astore X (Nat.eq_of_beq_eq_true ha) (Nat.le_of_ble_eq_true hlc) hd (am_nx_some hnx) h
  case astore_n n =>
    have hcf := hcf
    simp only [am_cf, Bool.and_eq_true] at hcf
    obtain ⟨hl, hnx, ha⟩ := hcf
    have hl := Nat.eq_of_beq_eq_true hl
    subst hl
    exact am_r_astore_n X (Nat.eq_of_beq_eq_true ha) (Nat.le_of_ble_eq_true hlc) hd (am_nx_some hnx) h
  case iinc n x =>
    have hcf := hcf
    simp only [am_cf, Bool.and_eq_true] at hcf
    obtain ⟨hl, hnx, ha, hz⟩ := hcf
    have hl := Nat.eq_of_beq_eq_true hl
    subst hl
    exact am_r_iinc X (Nat.eq_of_beq_eq_true ha) (of_decide_eq_true hz) hd (am_nx_some hnx) h
  case ldc n =>
    simp only [am_cf, Bool.and_eq_true] at hcf
    obtain ⟨hl, hnx, hz⟩ := hcf
    have hl := Nat.eq_of_beq_eq_true hl
    subst hl
    split at hz
    · obtain ⟨q, hq⟩ := am_cis_any hz
      exact am_r_ldc X rfl hq hd (am_nx_some hnx) h
    · simp only [Bool.and_eq_true] at hz
      obtain ⟨h1, h2⟩ := hz
      obtain ⟨e1, he, h3⟩ := List.any_eq_true.mp h2
      simp only [Bool.and_eq_true] at h3
      obtain ⟨h4, h5, h6⟩ := h3
      exact am_r_ldcS X he (Nat.eq_of_beq_eq_true h4) (Nat.eq_of_beq_eq_true h5) (by rw [Nat.eq_of_beq_eq_true h1, Nat.eq_of_beq_eq_true h6]) hd (am_nx_some hnx) h
    · cases hz
  case ldc_w n =>
    simp only [am_cf, Bool.and_eq_true] at hcf
    obtain ⟨hl, hnx, hz⟩ := hcf
    have hl := Nat.eq_of_beq_eq_true hl
    subst hl
    split at hz
    · obtain ⟨q, hq⟩ := am_cis_any hz
      exact am_r_ldc_w X rfl hq hd (am_nx_some hnx) h
    · cases hz
  case ldc2_w n =>
    simp only [am_cf, Bool.and_eq_true] at hcf
    obtain ⟨hl, hnx, hz⟩ := hcf
    have hl := Nat.eq_of_beq_eq_true hl
    subst hl
    split at hz
    · obtain ⟨q, hq⟩ := am_cls_any hz
      exact am_r_ldc2_w X rfl hq hd (am_nx_some hnx) h
    · cases hz
  case ifCond cnd off =>
    have hcf := hcf
    simp only [am_cf, Bool.and_eq_true] at hcf
    obtain ⟨hl, hnx, htg⟩ := hcf
    have hl := Nat.eq_of_beq_eq_true hl
    subst hl
    obtain ⟨t, ht1, ht2⟩ := am_tgt_some htg
    cases cnd
    case eq => exact am_r_if_eq X ht2 ht1 hd (am_nx_some hnx) h
    case ne => exact am_r_if_ne X ht2 ht1 hd (am_nx_some hnx) h
    case lt => exact am_r_if_lt X ht2 ht1 hd (am_nx_some hnx) h
    case ge => exact am_r_if_ge X ht2 ht1 hd (am_nx_some hnx) h
    case gt => exact am_r_if_gt X ht2 ht1 hd (am_nx_some hnx) h
    case le => exact am_r_if_le X ht2 ht1 hd (am_nx_some hnx) h
  case if_icmp cnd off =>
    have hcf := hcf
    simp only [am_cf, Bool.and_eq_true] at hcf
    obtain ⟨hl, hnx, htg⟩ := hcf
    have hl := Nat.eq_of_beq_eq_true hl
    subst hl
    obtain ⟨t, ht1, ht2⟩ := am_tgt_some htg
    cases cnd
    case eq => exact am_r_icmp_eq X ht2 ht1 hd (am_nx_some hnx) h
    case ne => exact am_r_icmp_ne X ht2 ht1 hd (am_nx_some hnx) h
    case lt => exact am_r_icmp_lt X ht2 ht1 hd (am_nx_some hnx) h
    case ge => exact am_r_icmp_ge X ht2 ht1 hd (am_nx_some hnx) h
    case gt => exact am_r_icmp_gt X ht2 ht1 hd (am_nx_some hnx) h
    case le => exact am_r_icmp_le X ht2 ht1 hd (am_nx_some hnx) h
  case goto off =>
    simp only [am_cf, Bool.and_eq_true] at hcf
    obtain ⟨hl, htg⟩ := hcf
    have hl := Nat.eq_of_beq_eq_true hl
    subst hl
    obtain ⟨t, ht1, ht2⟩ := am_tgt_some htg
    exact am_r_goto X ht2 ht1 hd h
  case tableswitch dv lo hi offs =>
    simp only [am_cf] at hcf
    split at hcf
    · rename_i sl t hsw
      simp only [Bool.and_eq_true, decide_eq_true_eq] at hcf
      exact am_r_tableswitch X hsw hcf.1 hcf.2.1 hcf.2.2 hd h
    · cases hcf
  case lookupswitch dv ps =>
    simp only [am_cf] at hcf
    split at hcf
    · rename_i sl t hsw
      rw [Bool.and_eq_true, Bool.and_eq_true] at hcf
      exact am_r_lookupswitch X hsw hcf.1 hcf.2.1 hcf.2.2 hd h
    · cases hcf
  case getfield x =>
    have hcf := hcf
    simp only [am_cf, Bool.and_eq_true] at hcf
    obtain ⟨hl, hnx, hty, hany⟩ := hcf
    have hl := Nat.eq_of_beq_eq_true hl
    subst hl
    obtain ⟨q, hq⟩ := am_fls_any hany
    exact am_r_getfield X hq (Nat.eq_of_beq_eq_true hty) hd (am_nx_some hnx) h
  case putfield x =>
    simp only [am_cf, Bool.and_eq_true, Bool.not_eq_true'] at hcf
    obtain ⟨hl, hnx, hfin, hty, hany⟩ := hcf
    have hl := Nat.eq_of_beq_eq_true hl
    subst hl
    obtain ⟨q, hq⟩ := am_fls_any hany
    exact am_r_putfield X hq (Nat.eq_of_beq_eq_true hty) hfin hd (am_nx_some hnx) h
  case invokestatic x =>
    simp only [am_cf, Bool.and_eq_true, Bool.or_eq_true] at hcf
    obtain ⟨hl, hnx, hst, hnp, hor⟩ := hcf
    have hl := Nat.eq_of_beq_eq_true hl
    subst hl
    rcases hor with q | q
    · obtain ⟨h1, h2⟩ := am_mls_any q
      by_cases hm : 294 ≤ a ∧ a ≤ 298
      · exact am_r_math X hFD hm h2 hd (am_nx_some hnx) h
      · exact am_r_invokestatic X hC h1 hm hst (Nat.eq_of_beq_eq_true hnp) (Or.inl h2) hd (am_nx_some hnx) h
    · obtain ⟨h1, h2⟩ := am_nls_any q
      exact am_r_invokestatic X hC h1 (am_nls_nm q) hst (Nat.eq_of_beq_eq_true hnp) (Or.inr h2) hd (am_nx_some hnx) h
  case invokevirtual x =>
    simp only [am_cf, Bool.and_eq_true] at hcf
    obtain ⟨hl, hnx, hor⟩ := hcf
    have hl := Nat.eq_of_beq_eq_true hl
    subst hl
    by_cases h9 : a = 900
    · rw [if_pos h9] at hor
      simp only [Bool.and_eq_true] at hor
      have e2 := Nat.eq_of_beq_eq_true hor.2
      subst e2
      exact am_r_strlen X hSL h9 (Nat.eq_of_beq_eq_true hor.1) hd (am_nx_some hnx) h
    · rw [if_neg h9] at hor
      by_cases h91 : a = 901
      · rw [if_pos h91] at hor
        simp only [Bool.and_eq_true] at hor
        have e2 := Nat.eq_of_beq_eq_true hor.2
        subst e2
        exact am_r_charAt X hSA h91 (Nat.eq_of_beq_eq_true hor.1) hd (am_nx_some hnx) h
      · rw [if_neg h91] at hor
        simp only [Bool.and_eq_true, Bool.not_eq_true'] at hor
        obtain ⟨hst, hnp, hany⟩ := hor
        obtain ⟨h1, h2⟩ := am_mls_any hany
        exact am_r_invokevirtual X hC h1 (am_nm_virt hst) hst (Nat.eq_of_beq_eq_true hnp) h2 hd (am_nx_some hnx) h
  case ireturn =>
    simp only [am_cf, Bool.and_eq_true, Bool.or_eq_true] at hcf
    obtain ⟨hl, hrt⟩ := hcf
    have hl := Nat.eq_of_beq_eq_true hl
    subst hl
    exact am_r_ireturn X (hrt.imp (fun q => ⟨Nat.eq_of_beq_eq_true q.1, Nat.eq_of_beq_eq_true q.2⟩) (fun q => ⟨Nat.eq_of_beq_eq_true q.1, Nat.eq_of_beq_eq_true q.2⟩)) hd h
  case lreturn =>
    simp only [am_cf, Bool.and_eq_true] at hcf
    obtain ⟨hl, hrt⟩ := hcf
    have hl := Nat.eq_of_beq_eq_true hl
    subst hl
    exact am_r_lreturn X (Nat.eq_of_beq_eq_true hrt) hd h
  case return_ =>
    simp only [am_cf, Bool.and_eq_true] at hcf
    obtain ⟨hl, hrt⟩ := hcf
    have hl := Nat.eq_of_beq_eq_true hl
    subst hl
    exact am_r_return X (Nat.eq_of_beq_eq_true hrt) hd h
  all_goals (change none = some (r, g2) at h; cases h)
end AMD
theorem am_msk_ld {mi k : Nat} {ls : ml} {i : Nat} {v : mv} (h : am_ld (am_msk mi k ls) i = some v) : am_ld ls i = some v := by
  unfold am_msk at h
  split at h
  · exact am_ld_mask _ _ _ _ h
  · exact h
section AMZ
variable {l : Launch} {dC : Nat → ClassId} {dI : Nat → Nat → Nat} {aC : Nat → ClassId} {base : Nat} {adK adV : Nat → Nat}
theorem am_lg_len : ∀ as : List mv, (lg_sl (as.map (am_t base adK))).length = am_cat as
  | [] => rfl
  | .inl x :: as => by
    have h := am_lg_len as
    show (lg_sl (Value.int x :: as.map (am_t base adK))).length = 1 + am_cat as
    rw [← h]
    simp [lg_sl, Value.category, Nat.add_comm]
  | .inr (.inl x) :: as => by
    have h := am_lg_len as
    show (lg_sl (Value.long x :: as.map (am_t base adK))).length = 2 + am_cat as
    rw [← h]
    simp [lg_sl, Value.category, Nat.add_comm]
    omega
  | .inr (.inr x) :: as => by
    have h := am_lg_len as
    show (lg_sl (Value.ref (am_ad base adK x.1 x.2) :: as.map (am_t base adK))).length = 1 + am_cat as
    rw [← h]
    simp [lg_sl, Value.category, Nat.add_comm]
theorem am_entA_ld : ∀ (as : List mv) (n i : Nat) (v : mv), am_ld (am_entA as) i = some v → (n + i, am_t base adK v) ∈ lv_args n (as.map (am_t base adK)) ∧ v ∈ as
  | [], _, _, _, h => by cases h
  | .inl x :: as, n, 0, v, h => by cases h; exact ⟨List.mem_cons_self, List.mem_cons_self⟩
  | .inl x :: as, n, i + 1, v, h => by
    obtain ⟨q1, q2⟩ := am_entA_ld as (n + 1) i v h
    refine ⟨?_, List.mem_cons_of_mem _ q2⟩
    rw [show n + (i + 1) = n + 1 + i by omega]
    exact List.mem_cons_of_mem _ q1
  | .inr (.inr x) :: as, n, 0, v, h => by cases h; exact ⟨List.mem_cons_self, List.mem_cons_self⟩
  | .inr (.inr x) :: as, n, i + 1, v, h => by
    obtain ⟨q1, q2⟩ := am_entA_ld as (n + 1) i v h
    refine ⟨?_, List.mem_cons_of_mem _ q2⟩
    rw [show n + (i + 1) = n + 1 + i by omega]
    exact List.mem_cons_of_mem _ q1
  | .inr (.inl x) :: as, n, 0, v, h => by cases h; exact ⟨List.mem_cons_self, List.mem_cons_self⟩
  | .inr (.inl x) :: as, n, 1, v, h => by cases h
  | .inr (.inl x) :: as, n, i + 2, v, h => by
    obtain ⟨q1, q2⟩ := am_entA_ld as (n + 2) i v h
    refine ⟨?_, List.mem_cons_of_mem _ q2⟩
    rw [show n + (i + 2) = n + 2 + i by omega]
    exact List.mem_cons_of_mem _ q1
theorem am_pad_ld : ∀ (n : Nat) (l : ml) (i : Nat) (v : mv), am_ld (am_pad n l) i = some v → am_ld l i = some v
  | 0, _, _, _, h => by cases h
  | n + 1, [], 0, _, h => by cases h
  | n + 1, [], i + 1, v, h => by
    have q := am_pad_ld n [] i v h
    cases q
  | n + 1, w :: l, 0, v, h => h
  | n + 1, w :: l, i + 1, v, h => am_pad_ld n l i v h
/-- a method's run is its contract -/
theorem am_met {n d y : Nat} {as : List mv} {g : mg} {r : Option mv} {g2 : mg} (hn : ∀ (p : Program) (e : Env) (s : State) (m : MethodId) (args : Array Value) (below : List Frame) (meth : Method) (c : Code), am_Fix dC dI aC base adK adV p s m args meth c y → am_K l dC dI aC base adK p e s m args below meth c y d r g2 (am_x n d y)) (hy : am_yok y) (hoka : ∀ v ∈ as, am_okv v) (hcat : am_cat as ≤ (am_head y).2.1) (hg : g.2.2.1 < 2 ∧ g.2.2.2 < 2) (h : am_x n d y 0 (am_ent y as) [] g = some (r, g2)) : Met l (am_Y y) (am_W y) (am_rm d) (am_Pc dC dI aC base adK adV as g) (am_Qc dC dI aC base adK r g2) 0 0 (fun q => base ≤ q) := by
  refine Met.ofW (cc := am_B y) (maxL := (am_head y).2.1) (ret := am_ret y) (am_plain hy).1 rfl ?_
  intro p e s m args below meth c s₁ B hml hPc
  obtain ⟨rfl, hS, hP⟩ := hPc
  have hts := atoms_spec (ws := am_W y) B.pre
  have hown : s.vm.findClass (am_Y y).cls = some m.cls := findClass_of_methodNamed B.named
  rw [(am_words hy.1).2.2.2.2.2.1] at hown
  have hl := lv_entry (as.map (am_t base adK)) (n := (am_head y).2.1) (by rw [am_lg_len]; exact hcat)
  rw [lg_entry_eq]
  generalize (lg_sl (as.map (am_t base adK)) ++ List.replicate ((am_head y).2.1 - (lg_sl (as.map (am_t base adK))).length) Slot.unset).toArray = LS at hl ⊢
  exact hn p e s m _ below meth c ⟨B.exec, B.bytes, hml, hown, hts, B.returns, B.notSynchronized, hS⟩ 0 (am_ent y as) [] g h ⟨fun i v q => hoka v (am_entA_ld (base := base) (adK := adK) as 0 i v (am_pad_ld _ _ _ _ q)).2, (fun v q => by cases q), hg⟩ s.heap [] LS 0 ⟨hl.1, hl.2.1, fun i v q => by
    have q2 := (am_entA_ld (base := base) (adK := adK) as 0 i v (am_pad_ld _ _ _ _ q)).1
    rw [Nat.zero_add] at q2
    exact hl.2.2 _ q2⟩ hP va_S.rf (am_plain hy).2
theorem am_sound_n (hSL : am_SL l dC dI aC base adK adV) (hSA : am_SA l dC dI aC base adK adV) (hFD : am_FD l) : ∀ (n : Nat) (d mi : Nat) (r : Option mv) (g2 : mg) (p : Program) (e : Env) (s : State) (m : MethodId) (args : Array Value) (below : List Frame) (meth : Method) (c : Code), am_yok mi → am_Fix dC dI aC base adK adV p s m args meth c mi → am_K l dC dI aC base adK p e s m args below meth c mi d r g2 (am_x n d mi) := by
  intro n
  induction n with
  | zero => intro d mi r g2 p e s m args below meth c hmi hF k ls st g h; cases h
  | succ n ih =>
    intro d mi r g2 p e s m args below meth c hmi hF k ls st g h ok H locs LS b hL hP hV hb
    change (match (generalizing := false) am_nth (am_prog mi) k with
      | none => none
      | some o => am_do (am_x n d mi) (am_cx (am_x n) d) o k (am_msk mi k ls) st g) = some (r, g2) at h
    cases ho : am_nth (am_prog mi) k with
    | none => rw [ho] at h; cases h
    | some o =>
      rw [ho] at h
      refine am_disp (K := am_x n d mi) (C := am_cx (am_x n) d) (ls := am_msk mi k ls) (adV := adV) ⟨hmi, hF, ih d mi r g2 p e s m args below meth c hmi hF, hL.mask (fun i v q => am_msk_ld q), hP, hV, ⟨fun i v q => ok.1 i v (am_msk_ld q), ok.2⟩, hb⟩ ?_ hSL hSA hFD ho h
      intro y as g rc gc hc
      cases d with
      | zero => cases hc
      | succ d2 => exact ⟨d2, rfl, fun hy hoka hcat hg => am_met (fun p e s m args below meth c hF => ih d2 y rc gc p e s m args below meth c hy hF) hy hoka hcat hg hc⟩
/-- THE SMALL MACHINE IS SOUND -/
theorem am_sound (hSL : am_SL l dC dI aC base adK adV) (hSA : am_SA l dC dI aC base adK adV) (hFD : am_FD l) {d y : Nat} {as : List mv} {g : mg} {r : Option mv} {g2 : mg} (h : E d y as g = some (r, g2)) (hy : am_yok y) (hoka : ∀ v ∈ as, am_okv v) (hcat : am_cat as ≤ (am_head y).2.1) (hg : g.2.2.1 < 2 ∧ g.2.2.2 < 2) : Met l (am_Y y) (am_W y) (am_rm d) (am_Pc dC dI aC base adK adV as g) (am_Qc dC dI aC base adK r g2) 0 0 (fun q => base ≤ q) := by
  obtain ⟨n, hn⟩ := X_iff.mp h
  exact am_met (fun p e s m args below meth c hF => am_sound_n hSL hSA hFD n d y r g2 p e s m args below meth c hy hF) hy hoka hcat hg hn
end AMZ
end
section
/-- WordEach$Chance.forget()V -/
theorem q_0 {d : Nat} {c : Nat → Nat → Nat → Int32} {l : Nat → Nat → Int64} {x y : Nat} : E (d + 1) 0 [vr 36 0] (c, l, x, y) = X (d + 1) 0 5 [some (vr 36 0), some (vi 0)] [] (am_ui c 36 0 6 0, l, x, y) := X_run 8 am_c0 [(5, [true, true])] rfl rfl rfl rfl
theorem q_0_5 {d : Nat} {c : Nat → Nat → Nat → Int32} {l : Nat → Nat → Int64} {x y : Nat} {v1 : Int32} : X (d + 1) 0 5 [some (vr 36 0), some (vi v1)] [] (c, l, x, y) = if v1 < 7 then (if v1 < 0 ∨ 7 ≤ v1.toNatClampNeg then none else X (d + 1) 0 5 [some (vr 36 0), some (vi (v1 + 1))] [] (am_ui c 43 0 v1.toNatClampNeg 0, l, x, y)) else some (none, c, l, x, y) := X_run 13 am_c0 [(5, [true, true])] rfl rfl rfl rfl
/-- WordEach$Chance.waysTo(I)I -/
theorem q_1 {d : Nat} {c : Nat → Nat → Nat → Int32} {l : Nat → Nat → Int64} {x y : Nat} {a1 : Int32} : E (d + 1) 1 [vr 36 0, vi a1] (c, l, x, y) = am_bv (E d 2 [vr 36 0] (c, l, x, y)) (fun g1 => if a1 = 0 then (am_bi (E d 5 [vr 36 0] g1) (fun r3 g2 => some (some (vi ((r3 - (g2.1 37 0 1)) - (g2.1 37 0 2))), g2))) else (if a1 < 0 ∨ 3 ≤ a1.toNatClampNeg then none else some (some (vi (g1.1 37 0 a1.toNatClampNeg)), g1))) := X_run 20 am_c1 [] rfl rfl rfl rfl
/-- WordEach$Chance.countWays()V -/
theorem q_2 {d : Nat} {c : Nat → Nat → Nat → Int32} {l : Nat → Nat → Int64} {x y : Nat} : E (d + 1) 2 [vr 36 0] (c, l, x, y) = if (c 36 0 6) = 0 then X (d + 1) 2 9 [some (vr 36 0), some (vi 0), none] [] (am_ui c 36 0 6 1, l, x, y) else some (none, c, l, x, y) := X_run 11 am_c2 [(9, [true, true, false]), (19, [true, true, true])] rfl rfl rfl rfl
theorem q_2_9 {d : Nat} {c : Nat → Nat → Nat → Int32} {l : Nat → Nat → Int64} {x y : Nat} {v1 : Int32} : X (d + 1) 2 9 [some (vr 36 0), some (vi v1), none] [] (c, l, x, y) = if v1 < 3 then (if v1 < 0 ∨ 3 ≤ v1.toNatClampNeg then none else X (d + 1) 2 19 [some (vr 36 0), some (vi v1), some (vi 0)] [] (am_ui c 37 0 v1.toNatClampNeg 0, l, x, y)) else (am_bv (E d 3 [vr 36 0, vi 0, vi 32768] (c, l, x, y)) (fun g1 => some (none, g1))) := X_run 13 am_c2 [(9, [true, true, false]), (19, [true, true, true])] rfl rfl rfl rfl
theorem q_2_19 {d : Nat} {c : Nat → Nat → Nat → Int32} {l : Nat → Nat → Int64} {x y : Nat} {v1 : Int32} {v2 : Int32} : X (d + 1) 2 19 [some (vr 36 0), some (vi v1), some (vi v2)] [] (c, l, x, y) = if v1 < 0 ∨ 3 ≤ v1.toNatClampNeg then none else (if v2 < 28 then (if v1 < 0 ∨ 3 ≤ v1.toNatClampNeg then none else (if v2 < 0 ∨ 28 ≤ v2.toNatClampNeg then none else X (d + 1) 2 19 [some (vr 36 0), some (vi v1), some (vi (v2 + 1))] [] (am_ui c 39 v1.toNatClampNeg v2.toNatClampNeg 0, l, x, y))) else X (d + 1) 2 9 [some (vr 36 0), some (vi (v1 + 1)), none] [] (c, l, x, y)) := X_run 19 am_c2 [(9, [true, true, false]), (19, [true, true, true])] rfl rfl rfl rfl
/-- WordEach$Chance.walk(II)V -/
theorem q_3 {d : Nat} {c : Nat → Nat → Nat → Int32} {l : Nat → Nat → Int64} {x y : Nat} {a1 : Int32} {a2 : Int32} : E (d + 1) 3 [vr 36 0, vi a1, vi a2] (c, l, x, y) = if a2 = (-1) then some (none, c, l, x, y) else (if a1 < (c 4 x 12) then (if a1 < 0 ∨ 7 ≤ a1.toNatClampNeg then none else X (d + 1) 3 26 [some (vr 36 0), some (vi a1), some (vi a2), some (vr 18 (a1.toNatClampNeg + x * 7)), some (vi 0)] [] (c, l, x, y)) else (am_bi (E d 50 [vr 20 0, vi a2] (c, l, x, y)) (fun r2 g1 => am_bv (E d 4 [vr 36 0, vi r2] g1) (fun g3 => some (none, g3))))) := X_run 21 am_c3 [(26, [true, true, true, true, true])] rfl rfl rfl rfl
theorem q_3_26 {d : Nat} {c : Nat → Nat → Nat → Int32} {l : Nat → Nat → Int64} {x y : Nat} {v1 : Int32} {v2 : Int32} {v3 : Nat} {v4 : Int32} : X (d + 1) 3 26 [some (vr 36 0), some (vi v1), some (vi v2), some (vr 18 v3), some (vi v4)] [] (c, l, x, y) = if v4 < (c 18 v3 1) then (if v1 < 0 ∨ 7 ≤ v1.toNatClampNeg then none else (if v4 < 0 ∨ 4 ≤ v4.toNatClampNeg then none else (am_bi (E d 40 [vr 20 0, vi v2, vi (c 19 v3 v4.toNatClampNeg)] (am_ui c 42 0 v1.toNatClampNeg v4, l, x, y)) (fun r2 g1 => am_bv (E d 3 [vr 36 0, vi (v1 + 1), vi r2] g1) (fun g3 => X (d + 1) 3 26 [some (vr 36 0), some (vi v1), some (vi v2), some (vr 18 v3), some (vi (v4 + 1))] [] g3))))) else some (none, c, l, x, y) := X_run 27 am_c3 [(26, [true, true, true, true, true])] rfl rfl rfl rfl
/-- WordEach$Chance.tally(I)V -/
theorem q_4 {d : Nat} {c : Nat → Nat → Nat → Int32} {l : Nat → Nat → Int64} {x y : Nat} {a1 : Int32} : E (d + 1) 4 [vr 36 0, vi a1] (c, l, x, y) = if a1 = 0 then some (none, c, l, x, y) else (if a1 < 0 ∨ 3 ≤ a1.toNatClampNeg then none else (if a1 < 0 ∨ 3 ≤ a1.toNatClampNeg then none else X (d + 1) 4 13 [some (vr 36 0), some (vi a1), some (vi 0)] [] (am_ui c 37 0 a1.toNatClampNeg ((c 37 0 a1.toNatClampNeg) + 1), l, x, y))) := X_run 15 am_c4 [(13, [true, true, true])] rfl rfl rfl rfl
theorem q_4_13 {d : Nat} {c : Nat → Nat → Nat → Int32} {l : Nat → Nat → Int64} {x y : Nat} {v1 : Int32} {v2 : Int32} : X (d + 1) 4 13 [some (vr 36 0), some (vi v1), some (vi v2)] [] (c, l, x, y) = if v2 < (c 4 x 12) then (if v1 < 0 ∨ 3 ≤ v1.toNatClampNeg then none else (if v2 < 0 ∨ 7 ≤ v2.toNatClampNeg then none else (if (((4 : Int32) * v2) + (c 42 0 v2.toNatClampNeg)) < 0 ∨ 28 ≤ (((4 : Int32) * v2) + (c 42 0 v2.toNatClampNeg)).toNatClampNeg then none else (if (((4 : Int32) * v2) + (c 42 0 v2.toNatClampNeg)) < 0 ∨ 28 ≤ (((4 : Int32) * v2) + (c 42 0 v2.toNatClampNeg)).toNatClampNeg then none else X (d + 1) 4 13 [some (vr 36 0), some (vi v1), some (vi (v2 + 1))] [] (am_ui c 39 v1.toNatClampNeg (((4 : Int32) * v2) + (c 42 0 v2.toNatClampNeg)).toNatClampNeg ((c 39 v1.toNatClampNeg (((4 : Int32) * v2) + (c 42 0 v2.toNatClampNeg)).toNatClampNeg) + 1), l, x, y))))) else some (none, c, l, x, y) := X_run 28 am_c4 [(13, [true, true, true])] rfl rfl rfl rfl
/-- WordEach$Chance.allWays()I -/
theorem q_5 {d : Nat} {c : Nat → Nat → Nat → Int32} {l : Nat → Nat → Int64} {x y : Nat} : E (d + 1) 5 [vr 36 0] (c, l, x, y) = X (d + 1) 5 4 [some (vr 36 0), some (vi 1), some (vi 0)] [] (c, l, x, y) := X_run 7 am_c5 [(4, [true, true, true])] rfl rfl rfl rfl
theorem q_5_4 {d : Nat} {c : Nat → Nat → Nat → Int32} {l : Nat → Nat → Int64} {x y : Nat} {v1 : Int32} {v2 : Int32} : X (d + 1) 5 4 [some (vr 36 0), some (vi v1), some (vi v2)] [] (c, l, x, y) = if v2 < (c 4 x 12) then (if v2 < 0 ∨ 7 ≤ v2.toNatClampNeg then none else X (d + 1) 5 4 [some (vr 36 0), some (vi (v1 * (c 18 (v2.toNatClampNeg + x * 7) 1))), some (vi (v2 + 1))] [] (c, l, x, y)) else some (some (vi v1), c, l, x, y) := X_run 21 am_c5 [(4, [true, true, true])] rfl rfl rfl rfl
/-- WordEach$Chance.waysSaying(III)I -/
theorem q_6 {d : Nat} {c : Nat → Nat → Nat → Int32} {l : Nat → Nat → Int64} {x y : Nat} {a1 : Int32} {a2 : Int32} {a3 : Int32} : E (d + 1) 6 [vr 36 0, vi a1, vi a2, vi a3] (c, l, x, y) = am_bv (E d 2 [vr 36 0] (c, l, x, y)) (fun g1 => if a1 = 0 then (if a2 < 0 ∨ 7 ≤ a2.toNatClampNeg then none else (if (g1.1 18 (a2.toNatClampNeg + g1.2.2.1 * 7) 1) = 0 then some (some (vi 0), g1) else (am_bi (E d 5 [vr 36 0] g1) (fun r3 g2 => if (g1.1 18 (a2.toNatClampNeg + g1.2.2.1 * 7) 1) = 0 then none else if (((4 : Int32) * a2) + a3) < 0 ∨ 28 ≤ (((4 : Int32) * a2) + a3).toNatClampNeg then none else (if (((4 : Int32) * a2) + a3) < 0 ∨ 28 ≤ (((4 : Int32) * a2) + a3).toNatClampNeg then none else some (some (vi (((r3 / (g1.1 18 (a2.toNatClampNeg + g1.2.2.1 * 7) 1)) - (g2.1 39 1 (((4 : Int32) * a2) + a3).toNatClampNeg)) - (g2.1 39 2 (((4 : Int32) * a2) + a3).toNatClampNeg))), g2)))))) else (if a1 < 0 ∨ 3 ≤ a1.toNatClampNeg then none else (if (((4 : Int32) * a2) + a3) < 0 ∨ 28 ≤ (((4 : Int32) * a2) + a3).toNatClampNeg then none else some (some (vi (g1.1 39 a1.toNatClampNeg (((4 : Int32) * a2) + a3).toNatClampNeg)), g1)))) := X_run 41 am_c6 [] rfl rfl rfl rfl
/-- WordEach$Chance.waysHanging(II)I -/
theorem q_7 {d : Nat} {c : Nat → Nat → Nat → Int32} {l : Nat → Nat → Int64} {x y : Nat} {a1 : Int32} {a2 : Int32} : E (d + 1) 7 [vr 36 0, vi a1, vi a2] (c, l, x, y) = if a2 < 0 ∨ 7 ≤ a2.toNatClampNeg then none else (if (c 43 0 a2.toNatClampNeg) = 0 then (if a2 < 0 ∨ 7 ≤ a2.toNatClampNeg then none else X (d + 1) 7 12 [some (vr 36 0), some (vi a1), some (vi a2), some (vi 0)] [] (am_ui c 43 0 a2.toNatClampNeg 1, l, x, y)) else (if a1 < 0 ∨ 3 ≤ a1.toNatClampNeg then none else (if a2 < 0 ∨ 7 ≤ a2.toNatClampNeg then none else some (some (vi (c 41 a1.toNatClampNeg a2.toNatClampNeg)), c, l, x, y)))) := X_run 15 am_c7 [(12, [true, true, true, true])] rfl rfl rfl rfl
theorem q_7_12 {d : Nat} {c : Nat → Nat → Nat → Int32} {l : Nat → Nat → Int64} {x y : Nat} {v1 : Int32} {v2 : Int32} {v3 : Int32} : X (d + 1) 7 12 [some (vr 36 0), some (vi v1), some (vi v2), some (vi v3)] [] (c, l, x, y) = if v3 < 3 then (if v3 < 0 ∨ 3 ≤ v3.toNatClampNeg then none else (if v2 < 0 ∨ 7 ≤ v2.toNatClampNeg then none else X (d + 1) 7 12 [some (vr 36 0), some (vi v1), some (vi v2), some (vi (v3 + 1))] [] (am_ui c 41 v3.toNatClampNeg v2.toNatClampNeg 0, l, x, y))) else (am_bv (E d 8 [vr 36 0, vi 0, vi v2, vi 32768, vi 32768] (c, l, x, y)) (fun g1 => if v1 < 0 ∨ 3 ≤ v1.toNatClampNeg then none else (if v2 < 0 ∨ 7 ≤ v2.toNatClampNeg then none else some (some (vi (g1.1 41 v1.toNatClampNeg v2.toNatClampNeg)), g1)))) := X_run 18 am_c7 [(12, [true, true, true, true])] rfl rfl rfl rfl
/-- WordEach$Chance.walkAway(IIII)V -/
theorem q_8 {d : Nat} {c : Nat → Nat → Nat → Int32} {l : Nat → Nat → Int64} {x y : Nat} {a1 : Int32} {a2 : Int32} {a3 : Int32} {a4 : Int32} : E (d + 1) 8 [vr 36 0, vi a1, vi a2, vi a3, vi a4] (c, l, x, y) = if a3 = (-1) then (if a4 = (-1) then some (none, c, l, x, y) else (if a1 < (c 4 x 12) then (if a1 < 0 ∨ 7 ≤ a1.toNatClampNeg then none else X (d + 1) 8 46 [some (vr 36 0), some (vi a1), some (vi a2), some (vi a3), some (vi a4), some (vr 18 (a1.toNatClampNeg + x * 7)), some (vi 0), none] [] (c, l, x, y)) else (am_bi (E d 50 [vr 20 0, vi a3] (c, l, x, y)) (fun r2 g1 => if r2 < 0 ∨ 3 ≤ r2.toNatClampNeg then none else (if a2 < 0 ∨ 7 ≤ a2.toNatClampNeg then none else (am_bi (E d 50 [vr 20 0, vi a4] g1) (fun r4 g3 => if r2 = r4 then (if a2 < 0 ∨ 7 ≤ a2.toNatClampNeg then none else some (none, am_ui g3.1 41 r2.toNatClampNeg a2.toNatClampNeg ((g1.1 41 r2.toNatClampNeg a2.toNatClampNeg) + 0), g3.2.1, g3.2.2.1, g3.2.2.2)) else (if a2 < 0 ∨ 7 ≤ a2.toNatClampNeg then none else some (none, am_ui g3.1 41 r2.toNatClampNeg a2.toNatClampNeg ((g1.1 41 r2.toNatClampNeg a2.toNatClampNeg) + 1), g3.2.1, g3.2.2.1, g3.2.2.2))))))))) else (if a1 < (c 4 x 12) then (if a1 < 0 ∨ 7 ≤ a1.toNatClampNeg then none else X (d + 1) 8 46 [some (vr 36 0), some (vi a1), some (vi a2), some (vi a3), some (vi a4), some (vr 18 (a1.toNatClampNeg + x * 7)), some (vi 0), none] [] (c, l, x, y)) else (am_bi (E d 50 [vr 20 0, vi a3] (c, l, x, y)) (fun r6 g5 => if r6 < 0 ∨ 3 ≤ r6.toNatClampNeg then none else (if a2 < 0 ∨ 7 ≤ a2.toNatClampNeg then none else (am_bi (E d 50 [vr 20 0, vi a4] g5) (fun r8 g7 => if r6 = r8 then (if a2 < 0 ∨ 7 ≤ a2.toNatClampNeg then none else some (none, am_ui g7.1 41 r6.toNatClampNeg a2.toNatClampNeg ((g5.1 41 r6.toNatClampNeg a2.toNatClampNeg) + 0), g7.2.1, g7.2.2.1, g7.2.2.2)) else (if a2 < 0 ∨ 7 ≤ a2.toNatClampNeg then none else some (none, am_ui g7.1 41 r6.toNatClampNeg a2.toNatClampNeg ((g5.1 41 r6.toNatClampNeg a2.toNatClampNeg) + 1), g7.2.1, g7.2.2.1, g7.2.2.2)))))))) := X_run 37 am_c8 [(46, [true, true, true, true, true, true, true, false])] rfl rfl rfl rfl
theorem q_8_46 {d : Nat} {c : Nat → Nat → Nat → Int32} {l : Nat → Nat → Int64} {x y : Nat} {v1 : Int32} {v2 : Int32} {v3 : Int32} {v4 : Int32} {v5 : Nat} {v6 : Int32} : X (d + 1) 8 46 [some (vr 36 0), some (vi v1), some (vi v2), some (vi v3), some (vi v4), some (vr 18 v5), some (vi v6), none] [] (c, l, x, y) = if v6 < (c 18 v5 1) then (if v6 < 0 ∨ 4 ≤ v6.toNatClampNeg then none else (am_bi (E d 40 [vr 20 0, vi v3, vi (c 19 v5 v6.toNatClampNeg)] (c, l, x, y)) (fun r2 g1 => if v1 = v2 then (am_bv (E d 8 [vr 36 0, vi (v1 + 1), vi v2, vi r2, vi v4] g1) (fun g3 => X (d + 1) 8 46 [some (vr 36 0), some (vi v1), some (vi v2), some (vi v3), some (vi v4), some (vr 18 v5), some (vi (v6 + 1)), none] [] g3)) else (am_bi (E d 40 [vr 20 0, vi v4, vi (c 19 v5 v6.toNatClampNeg)] g1) (fun r5 g4 => am_bv (E d 8 [vr 36 0, vi (v1 + 1), vi v2, vi r2, vi r5] g4) (fun g6 => X (d + 1) 8 46 [some (vr 36 0), some (vi v1), some (vi v2), some (vi v3), some (vi v4), some (vr 18 v5), some (vi (v6 + 1)), none] [] g6)))))) else some (none, c, l, x, y) := X_run 33 am_c8 [(46, [true, true, true, true, true, true, true, false])] rfl rfl rfl rfl
/-- WordEach$Contest.play(III)I -/
theorem q_9 {d : Nat} {c : Nat → Nat → Nat → Int32} {l : Nat → Nat → Int64} {x y : Nat} {a1 : Int32} {a2 : Int32} {a3 : Int32} : E (d + 1) 9 [vr 33 0, vi a1, vi a2, vi a3] (c, l, x, y) = am_bi (E d 10 [vr 33 0, vi 0, vi a2, vi a3] (am_ui (am_ui (am_ui c 33 0 1 a1) 33 0 2 (-1)) 33 0 3 (-1), l, x, y)) (fun r2 g1 => some (some (vi r2), g1)) := X_run 17 am_c9 [] rfl rfl rfl rfl
/-- WordEach$Contest.outcome(III)I -/
theorem q_10 {d : Nat} {c : Nat → Nat → Nat → Int32} {l : Nat → Nat → Int64} {x y : Nat} {a1 : Int32} {a2 : Int32} {a3 : Int32} : E (d + 1) 10 [vr 33 0, vi a1, vi a2, vi a3] (c, l, x, y) = if a1 < (c 33 0 1) then (am_bi (E d 10 [vr 33 0, vi (a1 + 1), vi a2, vi a3] (c, l, x, y)) (fun r2 g1 => if r2 = ((1 : Int32) - (a1 - a1 / 2 * 2)) then some (some (vi ((1 : Int32) - (a1 - a1 / 2 * 2))), g1) else X (d + 1) 10 35 [some (vr 33 0), some (vi a1), some (vi a2), some (vi a3), some (vi (a1 - a1 / 2 * 2)), some (vi ((1 : Int32) - (a1 - a1 / 2 * 2))), some (vi 0)] [] g1)) else (am_bi (E d 50 [vr 20 0, vi a2] (c, l, x, y)) (fun r4 g3 => if r4 = 1 then some (some (vi 1), g3) else some (some (vi 0), g3))) := X_run 26 am_c10 [(35, [true, true, true, true, true, true, true])] rfl rfl rfl rfl
theorem q_10_35 {d : Nat} {c : Nat → Nat → Nat → Int32} {l : Nat → Nat → Int64} {x y : Nat} {v1 : Int32} {v2 : Int32} {v3 : Int32} {v4 : Int32} {v5 : Int32} {v6 : Int32} : X (d + 1) 10 35 [some (vr 33 0), some (vi v1), some (vi v2), some (vi v3), some (vi v4), some (vi v5), some (vi v6)] [] (c, l, x, y) = if v6 < (c 4 x 12) then (if ((v3 >>> (v6 &&& 31)) &&& 1) = 0 then (if v6 < 0 ∨ 7 ≤ v6.toNatClampNeg then none else (if (c 18 (v6.toNatClampNeg + x * 7) 4) = v4 then (am_bi (E d 11 [vr 33 0, vi v6, vi v1, vi v2, vi (v3 ||| ((1 : Int32) <<< (v6 &&& 31)))] (c, l, x, y)) (fun r2 g1 => if r2 = 0 then X (d + 1) 10 35 [some (vr 33 0), some (vi v1), some (vi v2), some (vi v3), some (vi v4), some (vi v5), some (vi (v6 + 1))] [] g1 else some (some (vi v5), g1))) else X (d + 1) 10 35 [some (vr 33 0), some (vi v1), some (vi v2), some (vi v3), some (vi v4), some (vi v5), some (vi (v6 + 1))] [] (c, l, x, y))) else X (d + 1) 10 35 [some (vr 33 0), some (vi v1), some (vi v2), some (vi v3), some (vi v4), some (vi v5), some (vi (v6 + 1))] [] (c, l, x, y)) else some (some (vi ((1 : Int32) - v5)), c, l, x, y) := X_run 37 am_c10 [(35, [true, true, true, true, true, true, true])] rfl rfl rfl rfl
/-- WordEach$Contest.winsBy(IIII)Z -/
theorem q_11 {d : Nat} {c : Nat → Nat → Nat → Int32} {l : Nat → Nat → Int64} {x y : Nat} {a1 : Int32} {a2 : Int32} {a3 : Int32} {a4 : Int32} : E (d + 1) 11 [vr 33 0, vi a1, vi a2, vi a3, vi a4] (c, l, x, y) = if a1 < 0 ∨ 7 ≤ a1.toNatClampNeg then none else X (d + 1) 11 9 [some (vr 33 0), some (vi a1), some (vi a2), some (vi a3), some (vi a4), some (vr 18 (a1.toNatClampNeg + x * 7)), some (vi 0)] [] (c, l, x, y) := X_run 12 am_c11 [(9, [true, true, true, true, true, true, true])] rfl rfl rfl rfl
theorem q_11_9 {d : Nat} {c : Nat → Nat → Nat → Int32} {l : Nat → Nat → Int64} {x y : Nat} {v1 : Int32} {v2 : Int32} {v3 : Int32} {v4 : Int32} {v5 : Nat} {v6 : Int32} : X (d + 1) 11 9 [some (vr 33 0), some (vi v1), some (vi v2), some (vi v3), some (vi v4), some (vr 18 v5), some (vi v6)] [] (c, l, x, y) = if v6 < (c 18 v5 1) then (if v6 < 0 ∨ 4 ≤ v6.toNatClampNeg then none else (am_bi (E d 40 [vr 20 0, vi v3, vi (c 19 v5 v6.toNatClampNeg)] (c, l, x, y)) (fun r2 g1 => am_bi (E d 10 [vr 33 0, vi (v2 + 1), vi r2, vi v4] g1) (fun r4 g3 => if r4 = ((1 : Int32) - (v2 - v2 / 2 * 2)) then (if v2 = 0 then some (some (vi 1), am_ui (am_ui g3.1 33 0 2 v1) 33 0 3 v6, g3.2.1, g3.2.2.1, g3.2.2.2) else some (some (vi 1), g3)) else X (d + 1) 11 9 [some (vr 33 0), some (vi v1), some (vi v2), some (vi v3), some (vi v4), some (vr 18 v5), some (vi (v6 + 1))] [] g3)))) else some (some (vi 0), c, l, x, y) := X_run 36 am_c11 [(9, [true, true, true, true, true, true, true])] rfl rfl rfl rfl
/-- WordEach$Court.adjourn()V -/
theorem q_12 {d : Nat} {c : Nat → Nat → Nat → Int32} {l : Nat → Nat → Int64} {x y : Nat} {q : Nat} : E (d + 1) 12 [vr 4 q] (c, l, x, y) = some (none, am_ui (am_ui (am_ui (am_ui (am_ui (am_ui (am_ui c 4 q 9 0) 4 q 10 0) 4 q 11 0) 4 q 12 0) 4 q 13 0) 4 q 14 (-1)) 4 q 15 (-1), l, x, y) := X_run 24 am_c12 [] rfl rfl rfl rfl
/-- WordEach$Court.isGiven(I)Z -/
theorem q_13 {d : Nat} {c : Nat → Nat → Nat → Int32} {l : Nat → Nat → Int64} {x y : Nat} {q : Nat} {a1 : Int32} : E (d + 1) 13 [vr 4 q, vi a1] (c, l, x, y) = X (d + 1) 13 2 [some (vr 4 q), some (vi a1), some (vi 0)] [] (c, l, x, y) := X_run 5 am_c13 [(2, [true, true, true])] rfl rfl rfl rfl
theorem q_13_2 {d : Nat} {c : Nat → Nat → Nat → Int32} {l : Nat → Nat → Int64} {x y : Nat} {v0 : Nat} {v1 : Int32} {v2 : Int32} : X (d + 1) 13 2 [some (vr 4 v0), some (vi v1), some (vi v2)] [] (c, l, x, y) = if v2 < (c 4 v0 12) then (if v2 < 0 ∨ 7 ≤ v2.toNatClampNeg then none else (if (c 18 (v2.toNatClampNeg + v0 * 7) 2) = v1 then some (some (vi 1), c, l, x, y) else X (d + 1) 13 2 [some (vr 4 v0), some (vi v1), some (vi (v2 + 1))] [] (c, l, x, y))) else (am_bi (E d 14 [vr 4 v0, vi v1] (c, l, x, y)) (fun r2 g1 => if r2 = (-1) then some (some (vi 0), g1) else some (some (vi 1), g1))) := X_run 16 am_c13 [(2, [true, true, true])] rfl rfl rfl rfl
/-- WordEach$Court.wordSpelled(I)I -/
theorem q_14 {d : Nat} {c : Nat → Nat → Nat → Int32} {l : Nat → Nat → Int64} {x y : Nat} {q : Nat} {a1 : Int32} : E (d + 1) 14 [vr 4 q, vi a1] (c, l, x, y) = X (d + 1) 14 2 [some (vr 4 q), some (vi a1), some (vi 0)] [] (c, l, x, y) := X_run 5 am_c14 [(2, [true, true, true])] rfl rfl rfl rfl
theorem q_14_2 {d : Nat} {c : Nat → Nat → Nat → Int32} {l : Nat → Nat → Int64} {x y : Nat} {v0 : Nat} {v1 : Int32} {v2 : Int32} : X (d + 1) 14 2 [some (vr 4 v0), some (vi v1), some (vi v2)] [] (c, l, x, y) = if v2 < (c 4 v0 9) then (if v2 < 0 ∨ 20 ≤ v2.toNatClampNeg then none else (if (c 5 v0 v2.toNatClampNeg) = v1 then some (some (vi v2), c, l, x, y) else X (d + 1) 14 2 [some (vr 4 v0), some (vi v1), some (vi (v2 + 1))] [] (c, l, x, y))) else some (some (vi (-1)), c, l, x, y) := X_run 15 am_c14 [(2, [true, true, true])] rfl rfl rfl rfl
/-- WordEach$Court.addLine(I)V -/
theorem q_15 {d : Nat} {c : Nat → Nat → Nat → Int32} {l : Nat → Nat → Int64} {x y : Nat} {q : Nat} {a1 : Int32} : E (d + 1) 15 [vr 4 q, vi a1] (c, l, x, y) = if (c 4 q 10) < 6 then (if 3 < a1 then some (none, c, l, x, y) else (if (c 4 q 10) < 0 ∨ 6 ≤ (c 4 q 10).toNatClampNeg then none else X (d + 1) 15 16 [some (vr 4 q), some (vi a1), some (vi 0)] [] (am_ui c 9 q (c 4 q 10).toNatClampNeg a1, l, x, y))) else some (none, c, l, x, y) := X_run 18 am_c15 [(16, [true, true, true]), (31, [true, true, true])] rfl rfl rfl rfl
theorem q_15_16 {d : Nat} {c : Nat → Nat → Nat → Int32} {l : Nat → Nat → Int64} {x y : Nat} {v0 : Nat} {v1 : Int32} {v2 : Int32} : X (d + 1) 15 16 [some (vr 4 v0), some (vi v1), some (vi v2)] [] (c, l, x, y) = if 2 < v2 then X (d + 1) 15 31 [some (vr 4 v0), some (vi v1), some (vi 0)] [] (c, l, x, y) else (if (c 4 v0 10) < 0 ∨ 6 ≤ (c 4 v0 10).toNatClampNeg then none else (if v2 < 0 ∨ 3 ≤ v2.toNatClampNeg then none else X (d + 1) 15 16 [some (vr 4 v0), some (vi v1), some (vi (v2 + 1))] [] (am_ui c 11 ((c 4 v0 10).toNatClampNeg + v0 * 6) v2.toNatClampNeg (-1), l, x, y))) := X_run 16 am_c15 [(16, [true, true, true]), (31, [true, true, true])] rfl rfl rfl rfl
theorem q_15_31 {d : Nat} {c : Nat → Nat → Nat → Int32} {l : Nat → Nat → Int64} {x y : Nat} {v0 : Nat} {v1 : Int32} {v2 : Int32} : X (d + 1) 15 31 [some (vr 4 v0), some (vi v1), some (vi v2)] [] (c, l, x, y) = if v2 < v1 then (if (c 4 v0 10) < 0 ∨ 6 ≤ (c 4 v0 10).toNatClampNeg then none else (if (c 4 v0 10) < 0 ∨ 6 ≤ (c 4 v0 10).toNatClampNeg then none else (if v2 < 0 ∨ 3 ≤ v2.toNatClampNeg then none else (if (c 8 ((c 4 v0 10).toNatClampNeg + v0 * 6) v2.toNatClampNeg) < 0 ∨ 3 ≤ (c 8 ((c 4 v0 10).toNatClampNeg + v0 * 6) v2.toNatClampNeg).toNatClampNeg then none else X (d + 1) 15 31 [some (vr 4 v0), some (vi v1), some (vi (v2 + 1))] [] (am_ui c 11 ((c 4 v0 10).toNatClampNeg + v0 * 6) (c 8 ((c 4 v0 10).toNatClampNeg + v0 * 6) v2.toNatClampNeg).toNatClampNeg v2, l, x, y))))) else some (none, am_ui c 4 v0 10 ((c 4 v0 10) + 1), l, x, y) := X_run 22 am_c15 [(16, [true, true, true]), (31, [true, true, true])] rfl rfl rfl rfl
/-- WordEach$Court.allLines()I -/
theorem q_16 {d : Nat} {c : Nat → Nat → Nat → Int32} {l : Nat → Nat → Int64} {x y : Nat} {q : Nat} : E (d + 1) 16 [vr 4 q] (c, l, x, y) = some (some (vi (((1 : Int32) <<< ((c 4 q 10) &&& 31)) - 1)), c, l, x, y) := X_run 9 am_c16 [] rfl rfl rfl rfl
/-- WordEach$Court.patternOf(I)I -/
theorem q_17 {d : Nat} {c : Nat → Nat → Nat → Int32} {l : Nat → Nat → Int64} {x y : Nat} {q : Nat} {a1 : Int32} : E (d + 1) 17 [vr 4 q, vi a1] (c, l, x, y) = X (d + 1) 17 4 [some (vr 4 q), some (vi a1), some (vi 1), some (vi 0)] [] (c, l, x, y) := X_run 7 am_c17 [(4, [true, true, true, true])] rfl rfl rfl rfl
theorem q_17_4 {d : Nat} {c : Nat → Nat → Nat → Int32} {l : Nat → Nat → Int64} {x y : Nat} {v0 : Nat} {v1 : Int32} {v2 : Int32} {v3 : Int32} : X (d + 1) 17 4 [some (vr 4 v0), some (vi v1), some (vi v2), some (vi v3)] [] (c, l, x, y) = if v1 < 0 ∨ 6 ≤ v1.toNatClampNeg then none else (if v3 < (c 9 v0 v1.toNatClampNeg) then (if v1 < 0 ∨ 6 ≤ v1.toNatClampNeg then none else (if v3 < 0 ∨ 3 ≤ v3.toNatClampNeg then none else (if (c 8 (v1.toNatClampNeg + v0 * 6) v3.toNatClampNeg) = 1 then X (d + 1) 17 4 [some (vr 4 v0), some (vi v1), some (vi (((2 : Int32) * v2) + 1)), some (vi (v3 + 1))] [] (c, l, x, y) else X (d + 1) 17 4 [some (vr 4 v0), some (vi v1), some (vi (((2 : Int32) * v2) + 0)), some (vi (v3 + 1))] [] (c, l, x, y)))) else some (some (vi v2), c, l, x, y)) := X_run 26 am_c17 [(4, [true, true, true, true])] rfl rfl rfl rfl
/-- WordEach$Court.speakersOf(I)I -/
theorem q_18 {d : Nat} {c : Nat → Nat → Nat → Int32} {l : Nat → Nat → Int64} {x y : Nat} {q : Nat} {a1 : Int32} : E (d + 1) 18 [vr 4 q, vi a1] (c, l, x, y) = X (d + 1) 18 4 [some (vr 4 q), some (vi a1), some (vi 0), some (vi 0)] [] (c, l, x, y) := X_run 7 am_c18 [(4, [true, true, true, true])] rfl rfl rfl rfl
theorem q_18_4 {d : Nat} {c : Nat → Nat → Nat → Int32} {l : Nat → Nat → Int64} {x y : Nat} {v0 : Nat} {v1 : Int32} {v2 : Int32} {v3 : Int32} : X (d + 1) 18 4 [some (vr 4 v0), some (vi v1), some (vi v2), some (vi v3)] [] (c, l, x, y) = if v3 < (c 4 v0 12) then (if v3 < 0 ∨ 7 ≤ v3.toNatClampNeg then none else (am_bi (E d 100 [vr 18 (v3.toNatClampNeg + v0 * 7), vi v1] (c, l, x, y)) (fun r2 g1 => if r2 = 0 then X (d + 1) 18 4 [some (vr 4 v0), some (vi v1), some (vi (v2 + 0)), some (vi (v3 + 1))] [] g1 else X (d + 1) 18 4 [some (vr 4 v0), some (vi v1), some (vi (v2 + 1)), some (vi (v3 + 1))] [] g1))) else some (some (vi v2), c, l, x, y) := X_run 21 am_c18 [(4, [true, true, true, true])] rfl rfl rfl rfl
/-- WordEach$Court.hasWitness(I)Z -/
theorem q_19 {d : Nat} {c : Nat → Nat → Nat → Int32} {l : Nat → Nat → Int64} {x y : Nat} {q : Nat} {a1 : Int32} : E (d + 1) 19 [vr 4 q, vi a1] (c, l, x, y) = if a1 < 0 then some (some (vi 0), c, l, x, y) else (if a1 < (c 4 q 12) then some (some (vi 1), c, l, x, y) else some (some (vi 0), c, l, x, y)) := X_run 11 am_c19 [] rfl rfl rfl rfl
/-- WordEach$Court.hasLine(I)Z -/
theorem q_20 {d : Nat} {c : Nat → Nat → Nat → Int32} {l : Nat → Nat → Int64} {x y : Nat} {q : Nat} {a1 : Int32} : E (d + 1) 20 [vr 4 q, vi a1] (c, l, x, y) = if a1 < 0 then some (some (vi 0), c, l, x, y) else (if a1 < (c 4 q 10) then some (some (vi 1), c, l, x, y) else some (some (vi 0), c, l, x, y)) := X_run 11 am_c20 [] rfl rfl rfl rfl
/-- WordEach$Court.hasSaying(II)Z -/
theorem q_21 {d : Nat} {c : Nat → Nat → Nat → Int32} {l : Nat → Nat → Int64} {x y : Nat} {q : Nat} {a1 : Int32} {a2 : Int32} : E (d + 1) 21 [vr 4 q, vi a1, vi a2] (c, l, x, y) = am_bi (E d 19 [vr 4 q, vi a1] (c, l, x, y)) (fun r2 g1 => if r2 = 0 then some (some (vi 0), g1) else (if a2 < 0 then some (some (vi 0), g1) else (if a1 < 0 ∨ 7 ≤ a1.toNatClampNeg then none else (if a2 < (g1.1 18 (a1.toNatClampNeg + q * 7) 1) then some (some (vi 1), g1) else some (some (vi 0), g1))))) := X_run 18 am_c21 [] rfl rfl rfl rfl
/-- WordEach$Court.isFact(III)Z -/
theorem q_22 {d : Nat} {c : Nat → Nat → Nat → Int32} {l : Nat → Nat → Int64} {x y : Nat} {q : Nat} {a1 : Int32} {a2 : Int32} {a3 : Int32} : E (d + 1) 22 [vr 4 q, vi a1, vi a2, vi a3] (c, l, x, y) = X (d + 1) 22 2 [some (vr 4 q), some (vi a1), some (vi a2), some (vi a3), some (vi 0), none] [] (c, l, x, y) := X_run 5 am_c22 [(2, [true, true, true, true, true, false])] rfl rfl rfl rfl
theorem q_22_2 {d : Nat} {c : Nat → Nat → Nat → Int32} {l : Nat → Nat → Int64} {x y : Nat} {v0 : Nat} {v1 : Int32} {v2 : Int32} {v3 : Int32} {v4 : Int32} : X (d + 1) 22 2 [some (vr 4 v0), some (vi v1), some (vi v2), some (vi v3), some (vi v4), none] [] (c, l, x, y) = if v4 < (c 4 v0 11) then (if v4 < 0 ∨ 16 ≤ v4.toNatClampNeg then none else (if (c 13 (v4.toNatClampNeg + v0 * 16) 0) = v1 then (if (c 13 (v4.toNatClampNeg + v0 * 16) 1) = v2 then (if v3 = (-1) then some (some (vi 1), c, l, x, y) else (if (c 13 (v4.toNatClampNeg + v0 * 16) 2) = v3 then some (some (vi 1), c, l, x, y) else X (d + 1) 22 2 [some (vr 4 v0), some (vi v1), some (vi v2), some (vi v3), some (vi (v4 + 1)), none] [] (c, l, x, y))) else X (d + 1) 22 2 [some (vr 4 v0), some (vi v1), some (vi v2), some (vi v3), some (vi (v4 + 1)), none] [] (c, l, x, y)) else X (d + 1) 22 2 [some (vr 4 v0), some (vi v1), some (vi v2), some (vi v3), some (vi (v4 + 1)), none] [] (c, l, x, y))) else some (some (vi 0), c, l, x, y) := X_run 32 am_c22 [(2, [true, true, true, true, true, false])] rfl rfl rfl rfl
/-- WordEach$Court.truth()I -/
theorem q_23 {d : Nat} {c : Nat → Nat → Nat → Int32} {l : Nat → Nat → Int64} {x y : Nat} {q : Nat} : E (d + 1) 23 [vr 4 q] (c, l, x, y) = if (c 4 q 14) = (-1) then some (some (vi 0), c, l, x, y) else (am_bi (E d 22 [vr 4 q, vi (c 4 q 14), vi (c 4 q 15), vi (-1)] (c, l, x, y)) (fun r2 g1 => if r2 = 0 then some (some (vi 2), g1) else some (some (vi 1), g1))) := X_run 17 am_c23 [] rfl rfl rfl rfl
/-- WordEach$CourtReader.readAll()I -/
theorem q_24 {d : Nat} {c : Nat → Nat → Nat → Int32} {l : Nat → Nat → Int64} {x y : Nat} : E (d + 1) 24 [vr 3 0] (c, l, x, y) = am_bv (E d 91 [vr 1 0] (c, l, x, y)) (fun g1 => am_bv (E d 12 [vr 4 g1.2.2.2] g1) (fun g2 => X (d + 1) 24 8 [some (vr 3 0), some (vi 0)] [] g2)) := X_run 11 am_c24 [(8, [true, true])] rfl rfl rfl rfl
theorem q_24_8 {d : Nat} {c : Nat → Nat → Nat → Int32} {l : Nat → Nat → Int64} {x y : Nat} {v1 : Int32} : X (d + 1) 24 8 [some (vr 3 0), some (vi v1)] [] (c, l, x, y) = if v1 < 70 then (if (c 1 0 4) = (-1) then some (some (vi v1), c, l, x, y) else (am_bv (E d 25 [vr 3 0] (c, l, x, y)) (fun g1 => am_bi (E d 98 [vr 1 0, vi 59] g1) (fun r3 g2 => if (g2.1 1 0 5) = 0 then X (d + 1) 24 8 [some (vr 3 0), some (vi (v1 + 1))] [] g2 else some (some (vi (-1)), g2))))) else (if (c 1 0 4) = (-1) then some (some (vi 70), c, l, x, y) else (am_bv (E d 95 [vr 1 0, vi 5, vi (c 1 0 2)] (c, l, x, y)) (fun g4 => some (some (vi (-1)), g4)))) := X_run 24 am_c24 [(8, [true, true])] rfl rfl rfl rfl
/-- WordEach$CourtReader.readStatement()V -/
theorem q_25 {d : Nat} {c : Nat → Nat → Nat → Int32} {l : Nat → Nat → Int64} {x y : Nat} : E (d + 1) 25 [vr 3 0] (c, l, x, y) = am_bi (E d 94 [vr 1 0, vr 200 0] (c, l, x, y)) (fun r2 g1 => if r2 < 0 then (if r2 = 6 then (am_bv (E d 29 [vr 3 0] g1) (fun g3 => some (none, g3))) else (if r2 = 10 then (am_bv (E d 30 [vr 3 0] g1) (fun g4 => some (none, g4))) else (if r2 = 11 then (am_bv (E d 32 [vr 3 0] g1) (fun g5 => some (none, g5))) else (if r2 = 15 then (am_bv (E d 34 [vr 3 0] g1) (fun g6 => some (none, g6))) else (if r2 = 16 then (am_bv (E d 35 [vr 3 0] g1) (fun g7 => some (none, g7))) else (am_bv (E d 95 [vr 1 0, vi 1, vi (g1.1 1 0 2)] g1) (fun g8 => some (none, g8)))))))) else (if 5 < r2 then (if r2 = 6 then (am_bv (E d 29 [vr 3 0] g1) (fun g9 => some (none, g9))) else (if r2 = 10 then (am_bv (E d 30 [vr 3 0] g1) (fun g10 => some (none, g10))) else (if r2 = 11 then (am_bv (E d 32 [vr 3 0] g1) (fun g11 => some (none, g11))) else (if r2 = 15 then (am_bv (E d 34 [vr 3 0] g1) (fun g12 => some (none, g12))) else (if r2 = 16 then (am_bv (E d 35 [vr 3 0] g1) (fun g13 => some (none, g13))) else (am_bv (E d 95 [vr 1 0, vi 1, vi (g1.1 1 0 2)] g1) (fun g14 => some (none, g14)))))))) else (am_bv (E d 26 [vr 3 0, vi r2] g1) (fun g15 => some (none, g15))))) := X_run 35 am_c25 [] rfl rfl rfl rfl
/-- WordEach$CourtReader.readWord(I)V -/
theorem q_26 {d : Nat} {c : Nat → Nat → Nat → Int32} {l : Nat → Nat → Int64} {x y : Nat} {a1 : Int32} : E (d + 1) 26 [vr 3 0, vi a1] (c, l, x, y) = am_bi (E d 27 [vr 3 0, vi (c 4 y 9), vi 20] (c, l, x, y)) (fun r2 g1 => if r2 = 0 then some (none, g1) else (am_bi (E d 28 [vr 3 0] g1) (fun r4 g3 => if (g3.1 1 0 5) = 0 then (if (g3.1 4 g3.2.2.2 9) < 0 ∨ 20 ≤ (g3.1 4 g3.2.2.2 9).toNatClampNeg then none else (if (g3.1 4 g3.2.2.2 9) < 0 ∨ 20 ≤ (g3.1 4 g3.2.2.2 9).toNatClampNeg then none else some (none, am_ui (am_ui (am_ui g3.1 5 g3.2.2.2 (g3.1 4 g3.2.2.2 9).toNatClampNeg r4) 6 g3.2.2.2 (g3.1 4 g3.2.2.2 9).toNatClampNeg a1) 4 g3.2.2.2 9 ((g3.1 4 g3.2.2.2 9) + 1), g3.2.1, g3.2.2.1, g3.2.2.2))) else some (none, g3)))) := X_run 40 am_c26 [] rfl rfl rfl rfl
/-- WordEach$CourtReader.begins(II)Z -/
theorem q_27 {d : Nat} {c : Nat → Nat → Nat → Int32} {l : Nat → Nat → Int64} {x y : Nat} {a1 : Int32} {a2 : Int32} : E (d + 1) 27 [vr 3 0, vi a1, vi a2] (c, l, x, y) = if a1 < a2 then (am_bv (E d 92 [vr 1 0] (c, l, x, y)) (fun g1 => some (some (vi 1), g1))) else (am_bv (E d 95 [vr 1 0, vi 5, vi (c 1 0 2)] (c, l, x, y)) (fun g2 => some (some (vi 0), g2))) := X_run 14 am_c27 [] rfl rfl rfl rfl
/-- WordEach$CourtReader.takeNewSpelling()I -/
theorem q_28 {d : Nat} {c : Nat → Nat → Nat → Int32} {l : Nat → Nat → Int64} {x y : Nat} : E (d + 1) 28 [vr 3 0] (c, l, x, y) = am_bi (E d 96 [vr 1 0] (c, l, x, y)) (fun r2 g1 => if (g1.1 1 0 5) = 0 then (am_bi (E d 13 [vr 4 g1.2.2.2, vi r2] g1) (fun r4 g3 => if r4 = 0 then (if (g3.1 1 0 5) = 0 then (am_bv (E d 92 [vr 1 0] g3) (fun g5 => some (some (vi r2), g5))) else some (some (vi r2), g3)) else (am_bv (E d 95 [vr 1 0, vi 3, vi (g3.1 1 0 2)] g3) (fun g6 => if (g6.1 1 0 5) = 0 then (am_bv (E d 92 [vr 1 0] g6) (fun g7 => some (some (vi r2), g7))) else some (some (vi r2), g6))))) else (if (g1.1 1 0 5) = 0 then (am_bv (E d 92 [vr 1 0] g1) (fun g8 => some (some (vi r2), g8))) else some (some (vi r2), g1))) := X_run 31 am_c28 [] rfl rfl rfl rfl
/-- WordEach$CourtReader.readLine()V -/
theorem q_29 {d : Nat} {c : Nat → Nat → Nat → Int32} {l : Nat → Nat → Int64} {x y : Nat} : E (d + 1) 29 [vr 3 0] (c, l, x, y) = am_bi (E d 27 [vr 3 0, vi (c 4 y 10), vi 6] (c, l, x, y)) (fun r2 g1 => if r2 = 0 then some (none, g1) else X (d + 1) 29 14 [some (vr 3 0), some (vi 0), some (vi 0), some (vi 0), none] [] g1) := X_run 16 am_c29 [(14, [true, true, true, true, false])] rfl rfl rfl rfl
theorem q_29_14 {d : Nat} {c : Nat → Nat → Nat → Int32} {l : Nat → Nat → Int64} {x y : Nat} {v1 : Int32} {v2 : Int32} {v3 : Int32} : X (d + 1) 29 14 [some (vr 3 0), some (vi v1), some (vi v2), some (vi v3), none] [] (c, l, x, y) = if v3 < 3 then (if v3 = 0 then (am_bi (E d 94 [vr 1 0, vr 200 0] (c, l, x, y)) (fun r2 g1 => if (r2 - 7) < 0 then (am_bv (E d 95 [vr 1 0, vi 1, vi (g1.1 1 0 2)] g1) (fun g3 => some (none, g3))) else (if 2 < (r2 - 7) then (am_bv (E d 95 [vr 1 0, vi 1, vi (g1.1 1 0 2)] g1) (fun g4 => some (none, g4))) else (if ((v1 >>> ((r2 - 7) &&& 31)) &&& 1) = 1 then (am_bv (E d 95 [vr 1 0, vi 1, vi (g1.1 1 0 2)] g1) (fun g5 => some (none, g5))) else (if (g1.1 4 g1.2.2.2 10) < 0 ∨ 6 ≤ (g1.1 4 g1.2.2.2 10).toNatClampNeg then none else (if v3 < 0 ∨ 3 ≤ v3.toNatClampNeg then none else (am_bv (E d 92 [vr 1 0] (am_ui g1.1 8 ((g1.1 4 g1.2.2.2 10).toNatClampNeg + g1.2.2.2 * 6) v3.toNatClampNeg (r2 - 7), g1.2.1, g1.2.2.1, g1.2.2.2)) (fun g6 => X (d + 1) 29 14 [some (vr 3 0), some (vi (v1 ||| ((1 : Int32) <<< ((r2 - 7) &&& 31)))), some (vi (v2 + 1)), some (vi (v3 + 1)), none] [] g6)))))))) else (if (c 1 0 4) = 59 then (if ((v1 >>> 0) &&& 1) = 0 then (am_bv (E d 95 [vr 1 0, vi 1, vi (c 1 0 2)] (c, l, x, y)) (fun g7 => some (none, g7))) else (if ((v1 >>> 1) &&& 1) = 0 then (am_bv (E d 95 [vr 1 0, vi 1, vi (c 1 0 2)] (c, l, x, y)) (fun g8 => some (none, g8))) else (am_bv (E d 15 [vr 4 y, vi v2] (c, l, x, y)) (fun g9 => some (none, g9))))) else (am_bi (E d 94 [vr 1 0, vr 200 0] (c, l, x, y)) (fun r11 g10 => if (r11 - 7) < 0 then (am_bv (E d 95 [vr 1 0, vi 1, vi (g10.1 1 0 2)] g10) (fun g12 => some (none, g12))) else (if 2 < (r11 - 7) then (am_bv (E d 95 [vr 1 0, vi 1, vi (g10.1 1 0 2)] g10) (fun g13 => some (none, g13))) else (if ((v1 >>> ((r11 - 7) &&& 31)) &&& 1) = 1 then (am_bv (E d 95 [vr 1 0, vi 1, vi (g10.1 1 0 2)] g10) (fun g14 => some (none, g14))) else (if (g10.1 4 g10.2.2.2 10) < 0 ∨ 6 ≤ (g10.1 4 g10.2.2.2 10).toNatClampNeg then none else (if v3 < 0 ∨ 3 ≤ v3.toNatClampNeg then none else (am_bv (E d 92 [vr 1 0] (am_ui g10.1 8 ((g10.1 4 g10.2.2.2 10).toNatClampNeg + g10.2.2.2 * 6) v3.toNatClampNeg (r11 - 7), g10.2.1, g10.2.2.1, g10.2.2.2)) (fun g15 => X (d + 1) 29 14 [some (vr 3 0), some (vi (v1 ||| ((1 : Int32) <<< ((r11 - 7) &&& 31)))), some (vi (v2 + 1)), some (vi (v3 + 1)), none] [] g15)))))))))) else (if ((v1 >>> 0) &&& 1) = 0 then (am_bv (E d 95 [vr 1 0, vi 1, vi (c 1 0 2)] (c, l, x, y)) (fun g16 => some (none, g16))) else (if ((v1 >>> 1) &&& 1) = 0 then (am_bv (E d 95 [vr 1 0, vi 1, vi (c 1 0 2)] (c, l, x, y)) (fun g17 => some (none, g17))) else (am_bv (E d 15 [vr 4 y, vi v2] (c, l, x, y)) (fun g18 => some (none, g18))))) := X_run 54 am_c29 [(14, [true, true, true, true, false])] rfl rfl rfl rfl
/-- WordEach$CourtReader.readFact()V -/
theorem q_30 {d : Nat} {c : Nat → Nat → Nat → Int32} {l : Nat → Nat → Int64} {x y : Nat} : E (d + 1) 30 [vr 3 0] (c, l, x, y) = am_bi (E d 27 [vr 3 0, vi (c 4 y 11), vi 16] (c, l, x, y)) (fun r2 g1 => if r2 = 0 then some (none, g1) else (am_bi (E d 31 [vr 3 0, vi 0] g1) (fun r4 g3 => am_bi (E d 31 [vr 3 0, vi 1] g3) (fun r6 g5 => if (g5.1 1 0 4) = 97 then (am_bi (E d 31 [vr 3 0, vi 0] g5) (fun r8 g7 => if (g7.1 1 0 5) = 0 then (if (g7.1 4 g7.2.2.2 11) < 0 ∨ 16 ≤ (g7.1 4 g7.2.2.2 11).toNatClampNeg then none else some (none, am_ui (am_ui (am_ui (am_ui g7.1 13 ((g7.1 4 g7.2.2.2 11).toNatClampNeg + g7.2.2.2 * 16) 0 r4) 13 ((g7.1 4 g7.2.2.2 11).toNatClampNeg + g7.2.2.2 * 16) 1 r6) 13 ((g7.1 4 g7.2.2.2 11).toNatClampNeg + g7.2.2.2 * 16) 2 r8) 4 g7.2.2.2 11 ((g7.1 4 g7.2.2.2 11) + 1), g7.2.1, g7.2.2.1, g7.2.2.2)) else some (none, g7))) else (if (g5.1 1 0 5) = 0 then (if (g5.1 4 g5.2.2.2 11) < 0 ∨ 16 ≤ (g5.1 4 g5.2.2.2 11).toNatClampNeg then none else some (none, am_ui (am_ui (am_ui (am_ui g5.1 13 ((g5.1 4 g5.2.2.2 11).toNatClampNeg + g5.2.2.2 * 16) 0 r4) 13 ((g5.1 4 g5.2.2.2 11).toNatClampNeg + g5.2.2.2 * 16) 1 r6) 13 ((g5.1 4 g5.2.2.2 11).toNatClampNeg + g5.2.2.2 * 16) 2 (-1)) 4 g5.2.2.2 11 ((g5.1 4 g5.2.2.2 11) + 1), g5.2.1, g5.2.2.1, g5.2.2.2)) else some (none, g5)))))) := X_run 59 am_c30 [] rfl rfl rfl rfl
/-- WordEach$CourtReader.takeWord(I)I -/
theorem q_31 {d : Nat} {c : Nat → Nat → Nat → Int32} {l : Nat → Nat → Int64} {x y : Nat} {a1 : Int32} : E (d + 1) 31 [vr 3 0, vi a1] (c, l, x, y) = am_bi (E d 96 [vr 1 0] (c, l, x, y)) (fun r2 g1 => if (g1.1 1 0 5) = 0 then (am_bi (E d 14 [vr 4 g1.2.2.2, vi r2] g1) (fun r4 g3 => if r4 = (-1) then (am_bv (E d 95 [vr 1 0, vi 3, vi (g3.1 1 0 2)] g3) (fun g5 => some (some (vi (-1)), g5))) else (if a1 = (-1) then (am_bv (E d 92 [vr 1 0] g3) (fun g6 => some (some (vi r4), g6))) else (if r4 < 0 ∨ 20 ≤ r4.toNatClampNeg then none else (if (g3.1 6 g3.2.2.2 r4.toNatClampNeg) = a1 then (am_bv (E d 92 [vr 1 0] g3) (fun g7 => some (some (vi r4), g7))) else (am_bv (E d 95 [vr 1 0, vi 3, vi (g3.1 1 0 2)] g3) (fun g8 => some (some (vi (-1)), g8)))))))) else some (some (vi (-1)), g1)) := X_run 37 am_c31 [] rfl rfl rfl rfl
/-- WordEach$CourtReader.readWitness()V -/
theorem q_32 {d : Nat} {c : Nat → Nat → Nat → Int32} {l : Nat → Nat → Int64} {x y : Nat} : E (d + 1) 32 [vr 3 0] (c, l, x, y) = am_bi (E d 27 [vr 3 0, vi (c 4 y 12), vi 7] (c, l, x, y)) (fun r2 g1 => if r2 = 0 then some (none, g1) else (if (g1.1 4 g1.2.2.2 12) < 0 ∨ 7 ≤ (g1.1 4 g1.2.2.2 12).toNatClampNeg then none else (am_bi (E d 28 [vr 3 0] g1) (fun r4 g3 => am_bv (E d 33 [vr 3 0, vi 12] (am_ui g3.1 18 ((g1.1 4 g1.2.2.2 12).toNatClampNeg + g1.2.2.2 * 7) 2 r4, g3.2.1, g3.2.2.1, g3.2.2.2)) (fun g5 => am_bi (E d 97 [vr 1 0, vi 99] g5) (fun r7 g6 => am_bv (E d 33 [vr 3 0, vi 13] (am_ui g6.1 18 ((g1.1 4 g1.2.2.2 12).toNatClampNeg + g1.2.2.2 * 7) 3 r7, g6.2.1, g6.2.2.1, g6.2.2.2)) (fun g8 => am_bi (E d 97 [vr 1 0, vi 1] g8) (fun r10 g9 => am_bv (E d 33 [vr 3 0, vi 14] (am_ui g9.1 18 ((g1.1 4 g1.2.2.2 12).toNatClampNeg + g1.2.2.2 * 7) 4 r10, g9.2.1, g9.2.2.1, g9.2.2.2)) (fun g11 => X (d + 1) 32 46 [some (vr 3 0), some (vr 18 ((g1.1 4 g1.2.2.2 12).toNatClampNeg + g1.2.2.2 * 7)), some (vi 0), none, none] [] (am_ui g11.1 18 ((g1.1 4 g1.2.2.2 12).toNatClampNeg + g1.2.2.2 * 7) 1 0, g11.2.1, g11.2.2.1, g11.2.2.2)))))))))) := X_run 48 am_c32 [(46, [true, true, true, false, false])] rfl rfl rfl rfl
theorem q_32_46 {d : Nat} {c : Nat → Nat → Nat → Int32} {l : Nat → Nat → Int64} {x y : Nat} {v1 : Nat} {v2 : Int32} : X (d + 1) 32 46 [some (vr 3 0), some (vr 18 v1), some (vi v2), none, none] [] (c, l, x, y) = if v2 < 4 then (if v2 = 0 then (am_bi (E d 31 [vr 3 0, vi (-1)] (c, l, x, y)) (fun r2 g1 => am_bi (E d 100 [vr 18 v1, vi r2] g1) (fun r4 g3 => if r4 = 0 then (if v2 < 0 ∨ 4 ≤ v2.toNatClampNeg then none else X (d + 1) 32 46 [some (vr 3 0), some (vr 18 v1), some (vi (v2 + 1)), none, none] [] (am_ui (am_ui g3.1 19 v1 v2.toNatClampNeg r2) 18 v1 1 (v2 + 1), g3.2.1, g3.2.2.1, g3.2.2.2)) else (am_bv (E d 95 [vr 1 0, vi 3, vi (c 1 0 2)] g3) (fun g5 => if v2 < 0 ∨ 4 ≤ v2.toNatClampNeg then none else X (d + 1) 32 46 [some (vr 3 0), some (vr 18 v1), some (vi (v2 + 1)), none, none] [] (am_ui (am_ui g5.1 19 v1 v2.toNatClampNeg r2) 18 v1 1 (v2 + 1), g5.2.1, g5.2.2.1, g5.2.2.2)))))) else (if (c 1 0 4) = 97 then (am_bi (E d 31 [vr 3 0, vi (-1)] (c, l, x, y)) (fun r7 g6 => am_bi (E d 100 [vr 18 v1, vi r7] g6) (fun r9 g8 => if r9 = 0 then (if v2 < 0 ∨ 4 ≤ v2.toNatClampNeg then none else X (d + 1) 32 46 [some (vr 3 0), some (vr 18 v1), some (vi (v2 + 1)), none, none] [] (am_ui (am_ui g8.1 19 v1 v2.toNatClampNeg r7) 18 v1 1 (v2 + 1), g8.2.1, g8.2.2.1, g8.2.2.2)) else (am_bv (E d 95 [vr 1 0, vi 3, vi (c 1 0 2)] g8) (fun g10 => if v2 < 0 ∨ 4 ≤ v2.toNatClampNeg then none else X (d + 1) 32 46 [some (vr 3 0), some (vr 18 v1), some (vi (v2 + 1)), none, none] [] (am_ui (am_ui g10.1 19 v1 v2.toNatClampNeg r7) 18 v1 1 (v2 + 1), g10.2.1, g10.2.2.1, g10.2.2.2)))))) else (if (c 1 0 5) = 0 then some (none, am_ui c 4 y 12 ((c 4 y 12) + 1), l, x, y) else some (none, c, l, x, y)))) else (if (c 1 0 5) = 0 then some (none, am_ui c 4 y 12 ((c 4 y 12) + 1), l, x, y) else some (none, c, l, x, y)) := X_run 42 am_c32 [(46, [true, true, true, false, false])] rfl rfl rfl rfl
/-- WordEach$CourtReader.takeOwn(I)V -/
theorem q_33 {d : Nat} {c : Nat → Nat → Nat → Int32} {l : Nat → Nat → Int64} {x y : Nat} {a1 : Int32} : E (d + 1) 33 [vr 3 0, vi a1] (c, l, x, y) = if (c 1 0 5) = 0 then (am_bi (E d 94 [vr 1 0, vr 200 0] (c, l, x, y)) (fun r2 g1 => if r2 = a1 then (am_bv (E d 92 [vr 1 0] g1) (fun g3 => some (none, g3))) else (am_bv (E d 95 [vr 1 0, vi 1, vi (g1.1 1 0 2)] g1) (fun g4 => some (none, g4))))) else some (none, c, l, x, y) := X_run 20 am_c33 [] rfl rfl rfl rfl
/-- WordEach$CourtReader.readAccused()V -/
theorem q_34 {d : Nat} {c : Nat → Nat → Nat → Int32} {l : Nat → Nat → Int64} {x y : Nat} : E (d + 1) 34 [vr 3 0] (c, l, x, y) = am_bv (E d 92 [vr 1 0] (c, l, x, y)) (fun g1 => am_bi (E d 31 [vr 3 0, vi 0] g1) (fun r3 g2 => am_bi (E d 31 [vr 3 0, vi 1] g2) (fun r5 g4 => if (g4.1 1 0 5) = 0 then some (none, am_ui (am_ui g4.1 4 g4.2.2.2 14 r3) 4 g4.2.2.2 15 r5, g4.2.1, g4.2.2.1, g4.2.2.2) else some (none, g4)))) := X_run 26 am_c34 [] rfl rfl rfl rfl
/-- WordEach$CourtReader.readCase()V -/
theorem q_35 {d : Nat} {c : Nat → Nat → Nat → Int32} {l : Nat → Nat → Int64} {x y : Nat} : E (d + 1) 35 [vr 3 0] (c, l, x, y) = am_bi (E d 27 [vr 3 0, vi (c 4 y 13), vi 8] (c, l, x, y)) (fun r2 g1 => if r2 = 0 then some (none, g1) else X (d + 1) 35 12 [some (vr 3 0), some (vi 0), some (vi 0)] [] g1) := X_run 14 am_c35 [(12, [true, true, true])] rfl rfl rfl rfl
theorem q_35_12 {d : Nat} {c : Nat → Nat → Nat → Int32} {l : Nat → Nat → Int64} {x y : Nat} {v1 : Int32} {v2 : Int32} : X (d + 1) 35 12 [some (vr 3 0), some (vi v1), some (vi v2)] [] (c, l, x, y) = if v2 < 8 then (if v2 = 0 then (if (c 4 y 13) < 0 ∨ 8 ≤ (c 4 y 13).toNatClampNeg then none else (am_bi (E d 31 [vr 3 0, vi (-1)] (c, l, x, y)) (fun r2 g1 => if v2 < 0 ∨ 8 ≤ v2.toNatClampNeg then none else X (d + 1) 35 12 [some (vr 3 0), some (vi (v1 + 1)), some (vi (v2 + 1))] [] (am_ui g1.1 16 ((c 4 y 13).toNatClampNeg + y * 8) v2.toNatClampNeg r2, g1.2.1, g1.2.2.1, g1.2.2.2)))) else (if (c 1 0 4) = 97 then (if (c 4 y 13) < 0 ∨ 8 ≤ (c 4 y 13).toNatClampNeg then none else (am_bi (E d 31 [vr 3 0, vi (-1)] (c, l, x, y)) (fun r4 g3 => if v2 < 0 ∨ 8 ≤ v2.toNatClampNeg then none else X (d + 1) 35 12 [some (vr 3 0), some (vi (v1 + 1)), some (vi (v2 + 1))] [] (am_ui g3.1 16 ((c 4 y 13).toNatClampNeg + y * 8) v2.toNatClampNeg r4, g3.2.1, g3.2.2.1, g3.2.2.2)))) else (if (c 1 0 5) = 0 then (if (c 4 y 13) < 0 ∨ 8 ≤ (c 4 y 13).toNatClampNeg then none else some (none, am_ui (am_ui c 17 y (c 4 y 13).toNatClampNeg v1) 4 y 13 ((c 4 y 13) + 1), l, x, y)) else some (none, c, l, x, y)))) else (if (c 1 0 5) = 0 then (if (c 4 y 13) < 0 ∨ 8 ≤ (c 4 y 13).toNatClampNeg then none else some (none, am_ui (am_ui c 17 y (c 4 y 13).toNatClampNeg v1) 4 y 13 ((c 4 y 13) + 1), l, x, y)) else some (none, c, l, x, y)) := X_run 32 am_c35 [(12, [true, true, true])] rfl rfl rfl rfl
/-- WordEach$Judge.forgetLines()V -/
theorem q_36 {d : Nat} {c : Nat → Nat → Nat → Int32} {l : Nat → Nat → Int64} {x y : Nat} : E (d + 1) 36 [vr 20 0] (c, l, x, y) = X (d + 1) 36 2 [some (vr 20 0), some (vi 0)] [] (c, l, x, y) := X_run 5 am_c36 [(2, [true, true])] rfl rfl rfl rfl
theorem q_36_2 {d : Nat} {c : Nat → Nat → Nat → Int32} {l : Nat → Nat → Int64} {x y : Nat} {v1 : Int32} : X (d + 1) 36 2 [some (vr 20 0), some (vi v1)] [] (c, l, x, y) = if v1 < 16 then (if v1 < 0 ∨ 16 ≤ v1.toNatClampNeg then none else (if v1 < 0 ∨ 16 ≤ v1.toNatClampNeg then none else X (d + 1) 36 2 [some (vr 20 0), some (vi (v1 + 1))] [] (am_ui (am_ui c 21 0 v1.toNatClampNeg (-1)) 22 0 v1.toNatClampNeg 0, l, x, y))) else some (none, c, l, x, y) := X_run 18 am_c36 [(2, [true, true])] rfl rfl rfl rfl
/-- WordEach$Judge.obey(I)V -/
theorem q_37 {d : Nat} {c : Nat → Nat → Nat → Int32} {l : Nat → Nat → Int64} {x y : Nat} {a1 : Int32} : E (d + 1) 37 [vr 20 0, vi a1] (c, l, x, y) = am_bv (E d 36 [vr 20 0] (am_ui c 20 0 3 a1, l, x, y)) (fun g1 => X (d + 1) 37 11 [some (vr 20 0), none, some (vi ((g1.1 4 g1.2.2.1 10) - 1)), none, none] [] g1) := X_run 14 am_c37 [(11, [true, false, true, false, false]), (29, [true, false, true, false, true])] rfl rfl rfl rfl
theorem q_37_11 {d : Nat} {c : Nat → Nat → Nat → Int32} {l : Nat → Nat → Int64} {x y : Nat} {v2 : Int32} : X (d + 1) 37 11 [some (vr 20 0), none, some (vi v2), none, none] [] (c, l, x, y) = if v2 < 0 then some (none, c, l, x, y) else (am_bi (E d 38 [vr 20 0, vi v2] (c, l, x, y)) (fun r2 g1 => if r2 = 0 then X (d + 1) 37 11 [some (vr 20 0), none, some (vi (v2 + (-1))), none, none] [] g1 else (am_bi (E d 17 [vr 4 g1.2.2.1, vi v2] g1) (fun r4 g3 => if r4 < 0 ∨ 16 ≤ r4.toNatClampNeg then none else X (d + 1) 37 29 [some (vr 20 0), none, some (vi v2), none, some (vi r4)] [] (am_ui g3.1 21 0 r4.toNatClampNeg v2, g3.2.1, g3.2.2.1, g3.2.2.2))))) := X_run 21 am_c37 [(11, [true, false, true, false, false]), (29, [true, false, true, false, true])] rfl rfl rfl rfl
theorem q_37_29 {d : Nat} {c : Nat → Nat → Nat → Int32} {l : Nat → Nat → Int64} {x y : Nat} {v2 : Int32} {v4 : Int32} : X (d + 1) 37 29 [some (vr 20 0), none, some (vi v2), none, some (vi v4)] [] (c, l, x, y) = if 0 < v4 then (if v4 < 0 ∨ 16 ≤ v4.toNatClampNeg then none else X (d + 1) 37 29 [some (vr 20 0), none, some (vi v2), none, some (vi (v4 >>> 1))] [] (am_ui c 22 0 v4.toNatClampNeg 1, l, x, y)) else X (d + 1) 37 11 [some (vr 20 0), none, some (vi (v2 + (-1))), none, none] [] (c, l, x, y) := X_run 15 am_c37 [(11, [true, false, true, false, false]), (29, [true, false, true, false, true])] rfl rfl rfl rfl
/-- WordEach$Judge.isInForce(I)Z -/
theorem q_38 {d : Nat} {c : Nat → Nat → Nat → Int32} {l : Nat → Nat → Int64} {x y : Nat} {a1 : Int32} : E (d + 1) 38 [vr 20 0, vi a1] (c, l, x, y) = if (((c 20 0 3) >>> (a1 &&& 31)) &&& 1) = 1 then some (some (vi 1), c, l, x, y) else some (some (vi 0), c, l, x, y) := X_run 13 am_c38 [] rfl rfl rfl rfl
/-- WordEach$Judge.senselessFrom([II)I -/
theorem q_39 {d : Nat} {c : Nat → Nat → Nat → Int32} {l : Nat → Nat → Int64} {x y : Nat} {kd : Nat} {ki : Nat} {a2 : Int32} (hkd : kd = 24 ∨ kd = 16) : E (d + 1) 39 [vr 20 0, vr kd ki, vi a2] (c, l, x, y) = X (d + 1) 39 6 [some (vr 20 0), some (vr kd ki), some (vi a2), some (vi 32768), some (vi (-1)), some (vi 0)] [] (c, l, x, y) := by rcases hkd with rfl | rfl <;> exact X_run 9 am_c39 [(6, [true, true, true, true, true, true])] rfl rfl rfl rfl
theorem q_39_6 {d : Nat} {c : Nat → Nat → Nat → Int32} {l : Nat → Nat → Int64} {x y : Nat} {kd : Nat} {v1 : Nat} {v2 : Int32} {v3 : Int32} {v4 : Int32} {v5 : Int32} (hkd : kd = 24 ∨ kd = 16) : X (d + 1) 39 6 [some (vr 20 0), some (vr kd v1), some (vi v2), some (vi v3), some (vi v4), some (vi v5)] [] (c, l, x, y) = if v5 < v2 then (if v4 = (-1) then (if v5 < 0 ∨ (af kd).2 ≤ v5.toNatClampNeg then none else (if (c kd v1 v5.toNatClampNeg) < 0 ∨ 20 ≤ (c kd v1 v5.toNatClampNeg).toNatClampNeg then none else (if (c 6 x (c kd v1 v5.toNatClampNeg).toNatClampNeg) = 5 then (if v5 < 0 ∨ (af kd).2 ≤ v5.toNatClampNeg then none else (am_bi (E d 40 [vr 20 0, vi v3, vi (c kd v1 v5.toNatClampNeg)] (c, l, x, y)) (fun r2 g1 => if r2 = (-1) then some (some (vi v4), g1) else (if v5 < 0 ∨ (af kd).2 ≤ v5.toNatClampNeg then none else (am_bi (E d 46 [vr 20 0, vi (g1.1 kd v1 v5.toNatClampNeg)] g1) (fun r4 g3 => if r4 = 0 then X (d + 1) 39 6 [some (vr 20 0), some (vr kd v1), some (vi v2), some (vi r2), some (vi v4), some (vi (v5 + 1))] [] g3 else X (d + 1) 39 6 [some (vr 20 0), some (vr kd v1), some (vi v2), some (vi r2), some (vi (-1)), some (vi (v5 + 1))] [] g3)))))) else (if v5 < 0 ∨ (af kd).2 ≤ v5.toNatClampNeg then none else (am_bi (E d 40 [vr 20 0, vi v3, vi (c kd v1 v5.toNatClampNeg)] (c, l, x, y)) (fun r6 g5 => if r6 = (-1) then some (some (vi v5), g5) else (if v5 < 0 ∨ (af kd).2 ≤ v5.toNatClampNeg then none else (am_bi (E d 46 [vr 20 0, vi (g5.1 kd v1 v5.toNatClampNeg)] g5) (fun r8 g7 => if r8 = 0 then X (d + 1) 39 6 [some (vr 20 0), some (vr kd v1), some (vi v2), some (vi r6), some (vi v5), some (vi (v5 + 1))] [] g7 else X (d + 1) 39 6 [some (vr 20 0), some (vr kd v1), some (vi v2), some (vi r6), some (vi (-1)), some (vi (v5 + 1))] [] g7))))))))) else (if v5 < 0 ∨ (af kd).2 ≤ v5.toNatClampNeg then none else (am_bi (E d 40 [vr 20 0, vi v3, vi (c kd v1 v5.toNatClampNeg)] (c, l, x, y)) (fun r10 g9 => if r10 = (-1) then some (some (vi v4), g9) else (if v5 < 0 ∨ (af kd).2 ≤ v5.toNatClampNeg then none else (am_bi (E d 46 [vr 20 0, vi (g9.1 kd v1 v5.toNatClampNeg)] g9) (fun r12 g11 => if r12 = 0 then X (d + 1) 39 6 [some (vr 20 0), some (vr kd v1), some (vi v2), some (vi r10), some (vi v4), some (vi (v5 + 1))] [] g11 else X (d + 1) 39 6 [some (vr 20 0), some (vr kd v1), some (vi v2), some (vi r10), some (vi (-1)), some (vi (v5 + 1))] [] g11))))))) else (am_bi (E d 43 [vr 20 0, vi v3] (c, l, x, y)) (fun r14 g13 => if r14 = (-1) then (if v4 = (-1) then some (some (vi v2), g13) else some (some (vi v4), g13)) else some (some (vi (-1)), g13))) := by rcases hkd with rfl | rfl <;> exact X_run 40 am_c39 [(6, [true, true, true, true, true, true])] rfl rfl rfl rfl
/-- WordEach$Judge.hear(II)I -/
theorem q_40 {d : Nat} {c : Nat → Nat → Nat → Int32} {l : Nat → Nat → Int64} {x y : Nat} {a1 : Int32} {a2 : Int32} : E (d + 1) 40 [vr 20 0, vi a1, vi a2] (c, l, x, y) = if a1 = (-1) then some (some (vi (-1)), c, l, x, y) else (if a2 < 0 ∨ 20 ≤ a2.toNatClampNeg then none else (if (c 6 x a2.toNatClampNeg) = 5 then some (some (vi a1), c, l, x, y) else (if (c 6 x a2.toNatClampNeg) = 2 then (am_bi (E d 41 [vi a1] (c, l, x, y)) (fun r2 g1 => if r2 = 1 then some (some (vi (a1 ^^^ 524288)), g1) else some (some (vi (-1)), g1))) else (if (c 6 x a2.toNatClampNeg) = 0 then (am_bi (E d 42 [vr 20 0, vi a1, vi a2, vi (c 6 x a2.toNatClampNeg)] (c, l, x, y)) (fun r4 g3 => some (some (vi r4), g3))) else (if (c 6 x a2.toNatClampNeg) = 1 then (am_bi (E d 42 [vr 20 0, vi a1, vi a2, vi (c 6 x a2.toNatClampNeg)] (c, l, x, y)) (fun r6 g5 => some (some (vi r6), g5))) else (am_bi (E d 43 [vr 20 0, vi a1] (c, l, x, y)) (fun r8 g7 => if r8 = (-1) then some (some (vi (-1)), g7) else some (some (vi (((32768 : Int32) ||| (r8 <<< 20)) ||| ((c 6 x a2.toNatClampNeg) <<< 23))), g7)))))))) := X_run 39 am_c40 [] rfl rfl rfl rfl
/-- WordEach$Judge.patternIn(I)I -/
theorem q_41 {d : Nat} {c : Nat → Nat → Nat → Int32} {l : Nat → Nat → Int64} {x y : Nat} {a1 : Int32} : E (d + 1) 41 [vi a1] (c, l, x, y) = some (some (vi ((a1 >>> 15) &&& 15)), c, l, x, y) := X_run 8 am_c41 [] rfl rfl rfl rfl
/-- WordEach$Judge.hearSlot(III)I -/
theorem q_42 {d : Nat} {c : Nat → Nat → Nat → Int32} {l : Nat → Nat → Int64} {x y : Nat} {a1 : Int32} {a2 : Int32} {a3 : Int32} : E (d + 1) 42 [vr 20 0, vi a1, vi a2, vi a3] (c, l, x, y) = if (((2 : Int32) * ((a1 >>> 15) &&& 15)) + a3) < 16 then (if (((2 : Int32) * ((a1 >>> 15) &&& 15)) + a3) < 0 ∨ 16 ≤ (((2 : Int32) * ((a1 >>> 15) &&& 15)) + a3).toNatClampNeg then none else (if (c 22 0 (((2 : Int32) * ((a1 >>> 15) &&& 15)) + a3).toNatClampNeg) = 0 then some (some (vi (-1)), c, l, x, y) else (if ((a1 >>> 15) &&& 15) < 2 then some (some (vi ((a1 + (((((2 : Int32) * ((a1 >>> 15) &&& 15)) + a3) - ((a1 >>> 15) &&& 15)) <<< 15)) + (a2 <<< 0))), c, l, x, y) else (if ((a1 >>> 15) &&& 15) < 4 then some (some (vi ((a1 + (((((2 : Int32) * ((a1 >>> 15) &&& 15)) + a3) - ((a1 >>> 15) &&& 15)) <<< 15)) + (a2 <<< 5))), c, l, x, y) else some (some (vi ((a1 + (((((2 : Int32) * ((a1 >>> 15) &&& 15)) + a3) - ((a1 >>> 15) &&& 15)) <<< 15)) + (a2 <<< 10))), c, l, x, y))))) else some (some (vi (-1)), c, l, x, y) := X_run 45 am_c42 [] rfl rfl rfl rfl
/-- WordEach$Judge.meaning(I)I -/
theorem q_43 {d : Nat} {c : Nat → Nat → Nat → Int32} {l : Nat → Nat → Int64} {x y : Nat} {a1 : Int32} : E (d + 1) 43 [vr 20 0, vi a1] (c, l, x, y) = if a1 = (-1) then some (some (vi (-1)), c, l, x, y) else (am_bi (E d 44 [vr 20 0, vi a1] (c, l, x, y)) (fun r2 g1 => if r2 = (-1) then some (some (vi (-1)), g1) else (am_bi (E d 45 [vr 20 0, vi a1, vi r2, vi 0] g1) (fun r4 g3 => am_bi (E d 45 [vr 20 0, vi a1, vi r2, vi 1] g3) (fun r6 g5 => am_bi (E d 45 [vr 20 0, vi a1, vi r2, vi 2] g5) (fun r8 g7 => am_bi (E d 22 [vr 4 g5.2.2.1, vi r4, vi r6, vi r8] g7) (fun r10 g9 => if r10 = 0 then (if r4 = (g9.1 4 g9.2.2.1 14) then (if r6 = (g9.1 4 g9.2.2.1 15) then (if (a1 &&& 524288) = 0 then (if ((a1 >>> 23) &&& 7) = 3 then some (some (vi (((a1 >>> 20) &&& 7) &&& 2)), g9) else (if ((a1 >>> 23) &&& 7) = 4 then some (some (vi (((a1 >>> 20) &&& 7) ||| 2)), g9) else some (some (vi 2), g9))) else (if ((a1 >>> 23) &&& 7) = 3 then some (some (vi (((a1 >>> 20) &&& 7) &&& 5)), g9) else (if ((a1 >>> 23) &&& 7) = 4 then some (some (vi (((a1 >>> 20) &&& 7) ||| 5)), g9) else some (some (vi 5), g9)))) else (if (a1 &&& 524288) = 0 then (if ((a1 >>> 23) &&& 7) = 3 then some (some (vi (((a1 >>> 20) &&& 7) &&& 0)), g9) else (if ((a1 >>> 23) &&& 7) = 4 then some (some (vi (((a1 >>> 20) &&& 7) ||| 0)), g9) else some (some (vi 0), g9))) else (if ((a1 >>> 23) &&& 7) = 3 then some (some (vi (((a1 >>> 20) &&& 7) &&& 7)), g9) else (if ((a1 >>> 23) &&& 7) = 4 then some (some (vi (((a1 >>> 20) &&& 7) ||| 7)), g9) else some (some (vi 7), g9))))) else (if (a1 &&& 524288) = 0 then (if ((a1 >>> 23) &&& 7) = 3 then some (some (vi (((a1 >>> 20) &&& 7) &&& 0)), g9) else (if ((a1 >>> 23) &&& 7) = 4 then some (some (vi (((a1 >>> 20) &&& 7) ||| 0)), g9) else some (some (vi 0), g9))) else (if ((a1 >>> 23) &&& 7) = 3 then some (some (vi (((a1 >>> 20) &&& 7) &&& 7)), g9) else (if ((a1 >>> 23) &&& 7) = 4 then some (some (vi (((a1 >>> 20) &&& 7) ||| 7)), g9) else some (some (vi 7), g9))))) else (if r4 = (g9.1 4 g9.2.2.1 14) then (if r6 = (g9.1 4 g9.2.2.1 15) then (if (a1 &&& 524288) = 0 then (if ((a1 >>> 23) &&& 7) = 3 then some (some (vi (((a1 >>> 20) &&& 7) &&& 3)), g9) else (if ((a1 >>> 23) &&& 7) = 4 then some (some (vi (((a1 >>> 20) &&& 7) ||| 3)), g9) else some (some (vi 3), g9))) else (if ((a1 >>> 23) &&& 7) = 3 then some (some (vi (((a1 >>> 20) &&& 7) &&& 4)), g9) else (if ((a1 >>> 23) &&& 7) = 4 then some (some (vi (((a1 >>> 20) &&& 7) ||| 4)), g9) else some (some (vi 4), g9)))) else (if (a1 &&& 524288) = 0 then (if ((a1 >>> 23) &&& 7) = 3 then some (some (vi (((a1 >>> 20) &&& 7) &&& 7)), g9) else (if ((a1 >>> 23) &&& 7) = 4 then some (some (vi (((a1 >>> 20) &&& 7) ||| 7)), g9) else some (some (vi 7), g9))) else (if ((a1 >>> 23) &&& 7) = 3 then some (some (vi (((a1 >>> 20) &&& 7) &&& 0)), g9) else (if ((a1 >>> 23) &&& 7) = 4 then some (some (vi (((a1 >>> 20) &&& 7) ||| 0)), g9) else some (some (vi 0), g9))))) else (if (a1 &&& 524288) = 0 then (if ((a1 >>> 23) &&& 7) = 3 then some (some (vi (((a1 >>> 20) &&& 7) &&& 7)), g9) else (if ((a1 >>> 23) &&& 7) = 4 then some (some (vi (((a1 >>> 20) &&& 7) ||| 7)), g9) else some (some (vi 7), g9))) else (if ((a1 >>> 23) &&& 7) = 3 then some (some (vi (((a1 >>> 20) &&& 7) &&& 0)), g9) else (if ((a1 >>> 23) &&& 7) = 4 then some (some (vi (((a1 >>> 20) &&& 7) ||| 0)), g9) else some (some (vi 0), g9)))))))))))) := X_run 85 am_c43 [] rfl rfl rfl rfl
/-- WordEach$Judge.lineOf(I)I -/
theorem q_44 {d : Nat} {c : Nat → Nat → Nat → Int32} {l : Nat → Nat → Int64} {x y : Nat} {a1 : Int32} : E (d + 1) 44 [vr 20 0, vi a1] (c, l, x, y) = am_bi (E d 41 [vi a1] (c, l, x, y)) (fun r2 g1 => if r2 < 0 ∨ 16 ≤ r2.toNatClampNeg then none else some (some (vi (g1.1 21 0 r2.toNatClampNeg)), g1)) := X_run 8 am_c44 [] rfl rfl rfl rfl
/-- WordEach$Judge.wordIn(III)I -/
theorem q_45 {d : Nat} {c : Nat → Nat → Nat → Int32} {l : Nat → Nat → Int64} {x y : Nat} {a1 : Int32} {a2 : Int32} {a3 : Int32} : E (d + 1) 45 [vr 20 0, vi a1, vi a2, vi a3] (c, l, x, y) = if a2 = (-1) then some (some (vi (-1)), c, l, x, y) else (if a2 < 0 ∨ 6 ≤ a2.toNatClampNeg then none else (if a3 < 0 ∨ 3 ≤ a3.toNatClampNeg then none else (if (c 11 (a2.toNatClampNeg + x * 6) a3.toNatClampNeg) = (-1) then some (some (vi (-1)), c, l, x, y) else some (some (vi ((a1 >>> (((5 : Int32) * (c 11 (a2.toNatClampNeg + x * 6) a3.toNatClampNeg)) &&& 31)) &&& 31)), c, l, x, y)))) := X_run 24 am_c45 [] rfl rfl rfl rfl
/-- WordEach$Judge.binds(I)Z -/
theorem q_46 {d : Nat} {c : Nat → Nat → Nat → Int32} {l : Nat → Nat → Int64} {x y : Nat} {a1 : Int32} : E (d + 1) 46 [vr 20 0, vi a1] (c, l, x, y) = if a1 < 0 ∨ 20 ≤ a1.toNatClampNeg then none else (if (c 6 x a1.toNatClampNeg) = 3 then some (some (vi 1), c, l, x, y) else (if a1 < 0 ∨ 20 ≤ a1.toNatClampNeg then none else (if (c 6 x a1.toNatClampNeg) = 4 then some (some (vi 1), c, l, x, y) else some (some (vi 0), c, l, x, y)))) := X_run 19 am_c46 [] rfl rfl rfl rfl
/-- WordEach$Judge.clauseTold([IIII)I -/
theorem q_47 {d : Nat} {c : Nat → Nat → Nat → Int32} {l : Nat → Nat → Int64} {x y : Nat} {kd : Nat} {ki : Nat} {a2 : Int32} {a3 : Int32} {a4 : Int32} (hkd : kd = 24 ∨ kd = 16) : E (d + 1) 47 [vr 20 0, vr kd ki, vi a2, vi a3, vi a4] (c, l, x, y) = X (d + 1) 47 8 [some (vr 20 0), some (vr kd ki), some (vi a2), some (vi a3), some (vi a4), some (vi 32768), some (vi 0), some (vi 0), some (vi 0)] [] (c, l, x, y) := by rcases hkd with rfl | rfl <;> exact X_run 11 am_c47 [(8, [true, true, true, true, true, true, true, true, true])] rfl rfl rfl rfl
theorem q_47_8 {d : Nat} {c : Nat → Nat → Nat → Int32} {l : Nat → Nat → Int64} {x y : Nat} {kd : Nat} {v1 : Nat} {v2 : Int32} {v3 : Int32} {v4 : Int32} {v5 : Int32} {v6 : Int32} {v7 : Int32} {v8 : Int32} (hkd : kd = 24 ∨ kd = 16) : X (d + 1) 47 8 [some (vr 20 0), some (vr kd v1), some (vi v2), some (vi v3), some (vi v4), some (vi v5), some (vi v6), some (vi v7), some (vi v8)] [] (c, l, x, y) = if v8 < v2 then (if v8 < 0 ∨ (af kd).2 ≤ v8.toNatClampNeg then none else (am_bi (E d 46 [vr 20 0, vi (c kd v1 v8.toNatClampNeg)] (c, l, x, y)) (fun r2 g1 => if r2 = 0 then (if v8 < 0 ∨ (af kd).2 ≤ v8.toNatClampNeg then none else (if (g1.1 kd v1 v8.toNatClampNeg) < 0 ∨ 20 ≤ (g1.1 kd v1 v8.toNatClampNeg).toNatClampNeg then none else (if (g1.1 6 g1.2.2.1 (g1.1 kd v1 v8.toNatClampNeg).toNatClampNeg) = 2 then (if v8 < 0 ∨ (af kd).2 ≤ v8.toNatClampNeg then none else (am_bi (E d 40 [vr 20 0, vi v5, vi (g1.1 kd v1 v8.toNatClampNeg)] g1) (fun r4 g3 => X (d + 1) 47 8 [some (vr 20 0), some (vr kd v1), some (vi v2), some (vi v3), some (vi v4), some (vi r4), some (vi v6), some (vi (v7 + 1)), some (vi (v8 + 1))] [] g3))) else (if v8 < 0 ∨ (af kd).2 ≤ v8.toNatClampNeg then none else (am_bi (E d 40 [vr 20 0, vi v5, vi (g1.1 kd v1 v8.toNatClampNeg)] g1) (fun r6 g5 => X (d + 1) 47 8 [some (vr 20 0), some (vr kd v1), some (vi v2), some (vi v3), some (vi v4), some (vi r6), some (vi v6), some (vi (v7 + 0)), some (vi (v8 + 1))] [] g5)))))) else (if v6 = v3 then (am_bi (E d 48 [vr 20 0, vi v5, vi v7, vi v4] g1) (fun r8 g7 => some (some (vi r8), g7))) else (if v8 < 0 ∨ (af kd).2 ≤ v8.toNatClampNeg then none else (if (g1.1 kd v1 v8.toNatClampNeg) < 0 ∨ 20 ≤ (g1.1 kd v1 v8.toNatClampNeg).toNatClampNeg then none else (if (g1.1 6 g1.2.2.1 (g1.1 kd v1 v8.toNatClampNeg).toNatClampNeg) = 2 then (if v8 < 0 ∨ (af kd).2 ≤ v8.toNatClampNeg then none else (am_bi (E d 40 [vr 20 0, vi v5, vi (g1.1 kd v1 v8.toNatClampNeg)] g1) (fun r10 g9 => X (d + 1) 47 8 [some (vr 20 0), some (vr kd v1), some (vi v2), some (vi v3), some (vi v4), some (vi r10), some (vi (v6 + 1)), some (vi 1), some (vi (v8 + 1))] [] g9))) else (if v8 < 0 ∨ (af kd).2 ≤ v8.toNatClampNeg then none else (am_bi (E d 40 [vr 20 0, vi v5, vi (g1.1 kd v1 v8.toNatClampNeg)] g1) (fun r12 g11 => X (d + 1) 47 8 [some (vr 20 0), some (vr kd v1), some (vi v2), some (vi v3), some (vi v4), some (vi r12), some (vi (v6 + 1)), some (vi 0), some (vi (v8 + 1))] [] g11)))))))))) else (if v6 = v3 then (am_bi (E d 48 [vr 20 0, vi v5, vi v7, vi v4] (c, l, x, y)) (fun r14 g13 => some (some (vi r14), g13))) else some (some (vi (-1)), c, l, x, y)) := by rcases hkd with rfl | rfl <;> exact X_run 41 am_c47 [(8, [true, true, true, true, true, true, true, true, true])] rfl rfl rfl rfl
/-- WordEach$Judge.toldOf(III)I -/
theorem q_48 {d : Nat} {c : Nat → Nat → Nat → Int32} {l : Nat → Nat → Int64} {x y : Nat} {a1 : Int32} {a2 : Int32} {a3 : Int32} : E (d + 1) 48 [vr 20 0, vi a1, vi a2, vi a3] (c, l, x, y) = if a3 = 0 then (am_bi (E d 44 [vr 20 0, vi a1] (c, l, x, y)) (fun r2 g1 => am_bi (E d 45 [vr 20 0, vi a1, vi r2, vi a3] g1) (fun r4 g3 => some (some (vi r4), g3)))) else if a3 = 1 then (am_bi (E d 44 [vr 20 0, vi a1] (c, l, x, y)) (fun r6 g5 => am_bi (E d 45 [vr 20 0, vi a1, vi r6, vi a3] g5) (fun r8 g7 => some (some (vi r8), g7)))) else if a3 = 2 then (am_bi (E d 44 [vr 20 0, vi a1] (c, l, x, y)) (fun r10 g9 => am_bi (E d 45 [vr 20 0, vi a1, vi r10, vi a3] g9) (fun r12 g11 => some (some (vi r12), g11)))) else if a3 = 3 then some (some (vi a2), c, l, x, y) else if a3 = 4 then (am_bi (E d 44 [vr 20 0, vi a1] (c, l, x, y)) (fun r14 g13 => some (some (vi r14), g13))) else if a3 = 5 then some (some (vi ((a1 >>> 23) &&& 7)), c, l, x, y) else some (some (vi (-1)), c, l, x, y) := X_run 12 am_c48 [] rfl rfl rfl rfl
/-- WordEach$Judge.hearRow([III)I -/
theorem q_49 {d : Nat} {c : Nat → Nat → Nat → Int32} {l : Nat → Nat → Int64} {x y : Nat} {kd : Nat} {ki : Nat} {a2 : Int32} {a3 : Int32} (hkd : kd = 24 ∨ kd = 16) : E (d + 1) 49 [vr 20 0, vr kd ki, vi a2, vi a3] (c, l, x, y) = X (d + 1) 49 4 [some (vr 20 0), some (vr kd ki), some (vi a2), some (vi a3), some (vi 32768), some (vi 0)] [] (c, l, x, y) := by rcases hkd with rfl | rfl <;> exact X_run 7 am_c49 [(4, [true, true, true, true, true, true])] rfl rfl rfl rfl
theorem q_49_4 {d : Nat} {c : Nat → Nat → Nat → Int32} {l : Nat → Nat → Int64} {x y : Nat} {kd : Nat} {v1 : Nat} {v2 : Int32} {v3 : Int32} {v4 : Int32} {v5 : Int32} (hkd : kd = 24 ∨ kd = 16) : X (d + 1) 49 4 [some (vr 20 0), some (vr kd v1), some (vi v2), some (vi v3), some (vi v4), some (vi v5)] [] (c, l, x, y) = if v5 < v2 then (if v5 = v3 then X (d + 1) 49 4 [some (vr 20 0), some (vr kd v1), some (vi v2), some (vi v3), some (vi v4), some (vi (v5 + 1))] [] (c, l, x, y) else (if v5 < 0 ∨ (af kd).2 ≤ v5.toNatClampNeg then none else (am_bi (E d 40 [vr 20 0, vi v4, vi (c kd v1 v5.toNatClampNeg)] (c, l, x, y)) (fun r2 g1 => X (d + 1) 49 4 [some (vr 20 0), some (vr kd v1), some (vi v2), some (vi v3), some (vi r2), some (vi (v5 + 1))] [] g1)))) else some (some (vi v4), c, l, x, y) := by rcases hkd with rfl | rfl <;> exact X_run 18 am_c49 [(4, [true, true, true, true, true, true])] rfl rfl rfl rfl
/-- WordEach$Judge.rule(I)I -/
theorem q_50 {d : Nat} {c : Nat → Nat → Nat → Int32} {l : Nat → Nat → Int64} {x y : Nat} {a1 : Int32} : E (d + 1) 50 [vr 20 0, vi a1] (c, l, x, y) = am_bi (E d 43 [vr 20 0, vi a1] (c, l, x, y)) (fun r2 g1 => if r2 = (-1) then some (some (vi 0), g1) else (if ((r2 >>> 1) &&& 1) = ((r2 >>> 2) &&& 1) then some (some (vi 0), g1) else (if ((r2 >>> 1) &&& 1) = 1 then some (some (vi 1), g1) else some (some (vi 2), g1)))) := X_run 30 am_c50 [] rfl rfl rfl rfl
/-- WordEach$Judge.ruleCase(I)I -/
theorem q_51 {d : Nat} {c : Nat → Nat → Nat → Int32} {l : Nat → Nat → Int64} {x y : Nat} {a1 : Int32} : E (d + 1) 51 [vr 20 0, vi a1] (c, l, x, y) = if a1 < 0 ∨ 8 ≤ a1.toNatClampNeg then none else (if a1 < 0 ∨ 8 ≤ a1.toNatClampNeg then none else (am_bi (E d 49 [vr 20 0, vr 16 (a1.toNatClampNeg + x * 8), vi (c 17 x a1.toNatClampNeg), vi (-1)] (c, l, x, y)) (fun r2 g1 => am_bi (E d 50 [vr 20 0, vi r2] g1) (fun r4 g3 => some (some (vi r4), g3))))) := X_run 18 am_c51 [] rfl rfl rfl rfl
/-- WordEach$Judge.wordsMissing(I)I -/
theorem q_52 {d : Nat} {c : Nat → Nat → Nat → Int32} {l : Nat → Nat → Int64} {x y : Nat} {a1 : Int32} : E (d + 1) 52 [vr 20 0, vi a1] (c, l, x, y) = am_bi (E d 44 [vr 20 0, vi a1] (c, l, x, y)) (fun r2 g1 => if r2 = (-1) then (am_bi (E d 41 [vi a1] g1) (fun r4 g3 => if r4 = 1 then some (some (vi 2), g3) else some (some (vi 1), g3))) else some (some (vi 0), g1)) := X_run 14 am_c52 [] rfl rfl rfl rfl
/-- WordEach$Planner.forget()V -/
theorem q_53 {d : Nat} {c : Nat → Nat → Nat → Int32} {l : Nat → Nat → Int64} {x y : Nat} : E (d + 1) 53 [vr 27 0] (c, l, x, y) = X (d + 1) 53 2 [some (vr 27 0), some (vi 0)] [] (c, l, x, y) := X_run 5 am_c53 [(2, [true, true])] rfl rfl rfl rfl
theorem q_53_2 {d : Nat} {c : Nat → Nat → Nat → Int32} {l : Nat → Nat → Int64} {x y : Nat} {v1 : Int32} : X (d + 1) 53 2 [some (vr 27 0), some (vi v1)] [] (c, l, x, y) = if v1 < 6 then (if v1 < 0 ∨ 6 ≤ v1.toNatClampNeg then none else X (d + 1) 53 2 [some (vr 27 0), some (vi (v1 + 1))] [] (am_ui c 28 0 v1.toNatClampNeg (-2), l, x, y)) else some (none, c, l, x, y) := X_run 13 am_c53 [(2, [true, true])] rfl rfl rfl rfl
/-- WordEach$Planner.tell(III)I -/
theorem q_54 {d : Nat} {c : Nat → Nat → Nat → Int32} {l : Nat → Nat → Int64} {x y : Nat} {a1 : Int32} {a2 : Int32} {a3 : Int32} : E (d + 1) 54 [vr 27 0, vi a1, vi a2, vi a3] (c, l, x, y) = if ((((3 : Int32) * (a1 - 1)) + a2) + 1) < 0 ∨ 6 ≤ ((((3 : Int32) * (a1 - 1)) + a2) + 1).toNatClampNeg then none else (if (c 28 0 ((((3 : Int32) * (a1 - 1)) + a2) + 1).toNatClampNeg) = (-2) then (am_bi (E d 55 [vr 27 0] (am_ui (am_ui (am_ui c 27 0 6 a1) 27 0 7 a2) 27 0 4 ((((3 : Int32) * (a1 - 1)) + a2) + 1), l, x, y)) (fun r2 g1 => if ((((3 : Int32) * (a1 - 1)) + a2) + 1) < 0 ∨ 6 ≤ ((((3 : Int32) * (a1 - 1)) + a2) + 1).toNatClampNeg then none else (if a3 = (-1) then (if (g1.1 27 0 4) < 0 ∨ 6 ≤ (g1.1 27 0 4).toNatClampNeg then none else some (some (vi (am_ui g1.1 28 0 ((((3 : Int32) * (a1 - 1)) + a2) + 1).toNatClampNeg r2 28 0 (g1.1 27 0 4).toNatClampNeg)), am_ui g1.1 28 0 ((((3 : Int32) * (a1 - 1)) + a2) + 1).toNatClampNeg r2, g1.2.1, g1.2.2.1, g1.2.2.2)) else (if a3 < 0 then (if a3 < 10 then some (some (vi (-1)), am_ui g1.1 28 0 ((((3 : Int32) * (a1 - 1)) + a2) + 1).toNatClampNeg r2, g1.2.1, g1.2.2.1, g1.2.2.2) else (if (g1.1 27 0 4) < 0 ∨ 6 ≤ (g1.1 27 0 4).toNatClampNeg then none else (if a3 < ((10 : Int32) + (am_ui g1.1 28 0 ((((3 : Int32) * (a1 - 1)) + a2) + 1).toNatClampNeg r2 28 0 (g1.1 27 0 4).toNatClampNeg)) then (if (g1.1 27 0 4) < 0 ∨ 6 ≤ (g1.1 27 0 4).toNatClampNeg then none else (if (a3 - 10) < 0 ∨ 4 ≤ (a3 - 10).toNatClampNeg then none else some (some (vi (g1.1 32 (g1.1 27 0 4).toNatClampNeg (a3 - 10).toNatClampNeg)), am_ui g1.1 28 0 ((((3 : Int32) * (a1 - 1)) + a2) + 1).toNatClampNeg r2, g1.2.1, g1.2.2.1, g1.2.2.2))) else some (some (vi (-1)), am_ui g1.1 28 0 ((((3 : Int32) * (a1 - 1)) + a2) + 1).toNatClampNeg r2, g1.2.1, g1.2.2.1, g1.2.2.2)))) else (if (g1.1 27 0 4) < 0 ∨ 6 ≤ (g1.1 27 0 4).toNatClampNeg then none else (if a3 < (am_ui g1.1 28 0 ((((3 : Int32) * (a1 - 1)) + a2) + 1).toNatClampNeg r2 28 0 (g1.1 27 0 4).toNatClampNeg) then (if (g1.1 27 0 4) < 0 ∨ 6 ≤ (g1.1 27 0 4).toNatClampNeg then none else (if a3 < 0 ∨ 4 ≤ a3.toNatClampNeg then none else some (some (vi (g1.1 30 (g1.1 27 0 4).toNatClampNeg a3.toNatClampNeg)), am_ui g1.1 28 0 ((((3 : Int32) * (a1 - 1)) + a2) + 1).toNatClampNeg r2, g1.2.1, g1.2.2.1, g1.2.2.2))) else (if a3 < 10 then some (some (vi (-1)), am_ui g1.1 28 0 ((((3 : Int32) * (a1 - 1)) + a2) + 1).toNatClampNeg r2, g1.2.1, g1.2.2.1, g1.2.2.2) else (if (g1.1 27 0 4) < 0 ∨ 6 ≤ (g1.1 27 0 4).toNatClampNeg then none else (if a3 < ((10 : Int32) + (am_ui g1.1 28 0 ((((3 : Int32) * (a1 - 1)) + a2) + 1).toNatClampNeg r2 28 0 (g1.1 27 0 4).toNatClampNeg)) then (if (g1.1 27 0 4) < 0 ∨ 6 ≤ (g1.1 27 0 4).toNatClampNeg then none else (if (a3 - 10) < 0 ∨ 4 ≤ (a3 - 10).toNatClampNeg then none else some (some (vi (g1.1 32 (g1.1 27 0 4).toNatClampNeg (a3 - 10).toNatClampNeg)), am_ui g1.1 28 0 ((((3 : Int32) * (a1 - 1)) + a2) + 1).toNatClampNeg r2, g1.2.1, g1.2.2.1, g1.2.2.2))) else some (some (vi (-1)), am_ui g1.1 28 0 ((((3 : Int32) * (a1 - 1)) + a2) + 1).toNatClampNeg r2, g1.2.1, g1.2.2.1, g1.2.2.2)))))))))) else (if a3 = (-1) then (if ((((3 : Int32) * (a1 - 1)) + a2) + 1) < 0 ∨ 6 ≤ ((((3 : Int32) * (a1 - 1)) + a2) + 1).toNatClampNeg then none else some (some (vi (c 28 0 ((((3 : Int32) * (a1 - 1)) + a2) + 1).toNatClampNeg)), am_ui (am_ui (am_ui c 27 0 6 a1) 27 0 7 a2) 27 0 4 ((((3 : Int32) * (a1 - 1)) + a2) + 1), l, x, y)) else (if a3 < 0 then (if a3 < 10 then some (some (vi (-1)), am_ui (am_ui (am_ui c 27 0 6 a1) 27 0 7 a2) 27 0 4 ((((3 : Int32) * (a1 - 1)) + a2) + 1), l, x, y) else (if ((((3 : Int32) * (a1 - 1)) + a2) + 1) < 0 ∨ 6 ≤ ((((3 : Int32) * (a1 - 1)) + a2) + 1).toNatClampNeg then none else (if a3 < ((10 : Int32) + (c 28 0 ((((3 : Int32) * (a1 - 1)) + a2) + 1).toNatClampNeg)) then (if ((((3 : Int32) * (a1 - 1)) + a2) + 1) < 0 ∨ 6 ≤ ((((3 : Int32) * (a1 - 1)) + a2) + 1).toNatClampNeg then none else (if (a3 - 10) < 0 ∨ 4 ≤ (a3 - 10).toNatClampNeg then none else some (some (vi (c 32 ((((3 : Int32) * (a1 - 1)) + a2) + 1).toNatClampNeg (a3 - 10).toNatClampNeg)), am_ui (am_ui (am_ui c 27 0 6 a1) 27 0 7 a2) 27 0 4 ((((3 : Int32) * (a1 - 1)) + a2) + 1), l, x, y))) else some (some (vi (-1)), am_ui (am_ui (am_ui c 27 0 6 a1) 27 0 7 a2) 27 0 4 ((((3 : Int32) * (a1 - 1)) + a2) + 1), l, x, y)))) else (if ((((3 : Int32) * (a1 - 1)) + a2) + 1) < 0 ∨ 6 ≤ ((((3 : Int32) * (a1 - 1)) + a2) + 1).toNatClampNeg then none else (if a3 < (c 28 0 ((((3 : Int32) * (a1 - 1)) + a2) + 1).toNatClampNeg) then (if ((((3 : Int32) * (a1 - 1)) + a2) + 1) < 0 ∨ 6 ≤ ((((3 : Int32) * (a1 - 1)) + a2) + 1).toNatClampNeg then none else (if a3 < 0 ∨ 4 ≤ a3.toNatClampNeg then none else some (some (vi (c 30 ((((3 : Int32) * (a1 - 1)) + a2) + 1).toNatClampNeg a3.toNatClampNeg)), am_ui (am_ui (am_ui c 27 0 6 a1) 27 0 7 a2) 27 0 4 ((((3 : Int32) * (a1 - 1)) + a2) + 1), l, x, y))) else (if a3 < 10 then some (some (vi (-1)), am_ui (am_ui (am_ui c 27 0 6 a1) 27 0 7 a2) 27 0 4 ((((3 : Int32) * (a1 - 1)) + a2) + 1), l, x, y) else (if ((((3 : Int32) * (a1 - 1)) + a2) + 1) < 0 ∨ 6 ≤ ((((3 : Int32) * (a1 - 1)) + a2) + 1).toNatClampNeg then none else (if a3 < ((10 : Int32) + (c 28 0 ((((3 : Int32) * (a1 - 1)) + a2) + 1).toNatClampNeg)) then (if ((((3 : Int32) * (a1 - 1)) + a2) + 1) < 0 ∨ 6 ≤ ((((3 : Int32) * (a1 - 1)) + a2) + 1).toNatClampNeg then none else (if (a3 - 10) < 0 ∨ 4 ≤ (a3 - 10).toNatClampNeg then none else some (some (vi (c 32 ((((3 : Int32) * (a1 - 1)) + a2) + 1).toNatClampNeg (a3 - 10).toNatClampNeg)), am_ui (am_ui (am_ui c 27 0 6 a1) 27 0 7 a2) 27 0 4 ((((3 : Int32) * (a1 - 1)) + a2) + 1), l, x, y))) else some (some (vi (-1)), am_ui (am_ui (am_ui c 27 0 6 a1) 27 0 7 a2) 27 0 4 ((((3 : Int32) * (a1 - 1)) + a2) + 1), l, x, y))))))))) := X_run 68 am_c54 [] rfl rfl rfl rfl
/-- WordEach$Planner.fewest()I -/
theorem q_55 {d : Nat} {c : Nat → Nat → Nat → Int32} {l : Nat → Nat → Int64} {x y : Nat} : E (d + 1) 55 [vr 27 0] (c, l, x, y) = X (d + 1) 55 3 [some (vr 27 0)] [] (am_ui c 27 0 5 1, l, x, y) := X_run 6 am_c55 [(3, [true])] rfl rfl rfl rfl
theorem q_55_3 {d : Nat} {c : Nat → Nat → Nat → Int32} {l : Nat → Nat → Int64} {x y : Nat} : X (d + 1) 55 3 [some (vr 27 0)] [] (c, l, x, y) = if 4 < (c 27 0 5) then some (some (vi (-1)), c, l, x, y) else (am_bi (E d 56 [vr 27 0, vi 0, vi 32768, vi 0] (c, l, x, y)) (fun r2 g1 => if r2 = 0 then X (d + 1) 55 3 [some (vr 27 0)] [] (am_ui g1.1 27 0 5 ((g1.1 27 0 5) + 1), g1.2.1, g1.2.2.1, g1.2.2.2) else some (some (vi (g1.1 27 0 5)), g1))) := X_run 20 am_c55 [(3, [true])] rfl rfl rfl rfl
/-- WordEach$Planner.seek(III)Z -/
theorem q_56 {d : Nat} {c : Nat → Nat → Nat → Int32} {l : Nat → Nat → Int64} {x y : Nat} {a1 : Int32} {a2 : Int32} {a3 : Int32} : E (d + 1) 56 [vr 27 0, vi a1, vi a2, vi a3] (c, l, x, y) = if a1 < (c 27 0 5) then (am_bi (E d 52 [vr 20 0, vi a2] (c, l, x, y)) (fun r2 g1 => if ((g1.1 27 0 5) - a1) < r2 then some (some (vi 0), g1) else X (d + 1) 56 28 [some (vr 27 0), some (vi a1), some (vi a2), some (vi a3), some (vi 0)] [] g1)) else (am_bi (E d 50 [vr 20 0, vi a2] (c, l, x, y)) (fun r4 g3 => if r4 = (g3.1 27 0 6) then some (some (vi 1), g3) else some (some (vi 0), g3))) := X_run 18 am_c56 [(28, [true, true, true, true, true])] rfl rfl rfl rfl
theorem q_56_28 {d : Nat} {c : Nat → Nat → Nat → Int32} {l : Nat → Nat → Int64} {x y : Nat} {v1 : Int32} {v2 : Int32} {v3 : Int32} {v4 : Int32} : X (d + 1) 56 28 [some (vr 27 0), some (vi v1), some (vi v2), some (vi v3), some (vi v4)] [] (c, l, x, y) = if v4 < (c 4 x 12) then (if ((v3 >>> (v4 &&& 31)) &&& 1) = 0 then (if (c 27 0 7) = (-1) then (if (c 27 0 4) < 0 ∨ 6 ≤ (c 27 0 4).toNatClampNeg then none else (if v1 < 0 ∨ 4 ≤ v1.toNatClampNeg then none else (am_bi (E d 57 [vr 27 0, vi v1, vi v2, vi (v3 ||| ((1 : Int32) <<< (v4 &&& 31)))] (am_ui c 30 (c 27 0 4).toNatClampNeg v1.toNatClampNeg v4, l, x, y)) (fun r2 g1 => if r2 = 0 then X (d + 1) 56 28 [some (vr 27 0), some (vi v1), some (vi v2), some (vi v3), some (vi (v4 + 1))] [] g1 else some (some (vi 1), g1))))) else (if v4 < 0 ∨ 7 ≤ v4.toNatClampNeg then none else (if (c 27 0 7) = (c 18 (v4.toNatClampNeg + x * 7) 4) then (if (c 27 0 4) < 0 ∨ 6 ≤ (c 27 0 4).toNatClampNeg then none else (if v1 < 0 ∨ 4 ≤ v1.toNatClampNeg then none else (am_bi (E d 57 [vr 27 0, vi v1, vi v2, vi (v3 ||| ((1 : Int32) <<< (v4 &&& 31)))] (am_ui c 30 (c 27 0 4).toNatClampNeg v1.toNatClampNeg v4, l, x, y)) (fun r4 g3 => if r4 = 0 then X (d + 1) 56 28 [some (vr 27 0), some (vi v1), some (vi v2), some (vi v3), some (vi (v4 + 1))] [] g3 else some (some (vi 1), g3))))) else X (d + 1) 56 28 [some (vr 27 0), some (vi v1), some (vi v2), some (vi v3), some (vi (v4 + 1))] [] (c, l, x, y)))) else X (d + 1) 56 28 [some (vr 27 0), some (vi v1), some (vi v2), some (vi v3), some (vi (v4 + 1))] [] (c, l, x, y)) else some (some (vi 0), c, l, x, y) := X_run 49 am_c56 [(28, [true, true, true, true, true])] rfl rfl rfl rfl
/-- WordEach$Planner.seekSaying(III)Z -/
theorem q_57 {d : Nat} {c : Nat → Nat → Nat → Int32} {l : Nat → Nat → Int64} {x y : Nat} {a1 : Int32} {a2 : Int32} {a3 : Int32} : E (d + 1) 57 [vr 27 0, vi a1, vi a2, vi a3] (c, l, x, y) = if (c 27 0 4) < 0 ∨ 6 ≤ (c 27 0 4).toNatClampNeg then none else (if a1 < 0 ∨ 4 ≤ a1.toNatClampNeg then none else (if (c 30 (c 27 0 4).toNatClampNeg a1.toNatClampNeg) < 0 ∨ 7 ≤ (c 30 (c 27 0 4).toNatClampNeg a1.toNatClampNeg).toNatClampNeg then none else X (d + 1) 57 15 [some (vr 27 0), some (vi a1), some (vi a2), some (vi a3), some (vr 18 ((c 30 (c 27 0 4).toNatClampNeg a1.toNatClampNeg).toNatClampNeg + x * 7)), some (vi 0), none] [] (c, l, x, y))) := X_run 18 am_c57 [(15, [true, true, true, true, true, true, false])] rfl rfl rfl rfl
theorem q_57_15 {d : Nat} {c : Nat → Nat → Nat → Int32} {l : Nat → Nat → Int64} {x y : Nat} {v1 : Int32} {v2 : Int32} {v3 : Int32} {v4 : Nat} {v5 : Int32} : X (d + 1) 57 15 [some (vr 27 0), some (vi v1), some (vi v2), some (vi v3), some (vr 18 v4), some (vi v5), none] [] (c, l, x, y) = if v5 < (c 18 v4 1) then (if v5 < 0 ∨ 4 ≤ v5.toNatClampNeg then none else (am_bi (E d 40 [vr 20 0, vi v2, vi (c 19 v4 v5.toNatClampNeg)] (c, l, x, y)) (fun r2 g1 => if (g1.1 27 0 4) < 0 ∨ 6 ≤ (g1.1 27 0 4).toNatClampNeg then none else (if v1 < 0 ∨ 4 ≤ v1.toNatClampNeg then none else (if r2 = (-1) then X (d + 1) 57 15 [some (vr 27 0), some (vi v1), some (vi v2), some (vi v3), some (vr 18 v4), some (vi (v5 + 1)), none] [] (am_ui g1.1 32 (g1.1 27 0 4).toNatClampNeg v1.toNatClampNeg v5, g1.2.1, g1.2.2.1, g1.2.2.2) else (if r2 = v2 then X (d + 1) 57 15 [some (vr 27 0), some (vi v1), some (vi v2), some (vi v3), some (vr 18 v4), some (vi (v5 + 1)), none] [] (am_ui g1.1 32 (g1.1 27 0 4).toNatClampNeg v1.toNatClampNeg v5, g1.2.1, g1.2.2.1, g1.2.2.2) else (am_bi (E d 56 [vr 27 0, vi (v1 + 1), vi r2, vi v3] (am_ui g1.1 32 (g1.1 27 0 4).toNatClampNeg v1.toNatClampNeg v5, g1.2.1, g1.2.2.1, g1.2.2.2)) (fun r4 g3 => if r4 = 0 then X (d + 1) 57 15 [some (vr 27 0), some (vi v1), some (vi v2), some (vi v3), some (vr 18 v4), some (vi (v5 + 1)), none] [] g3 else some (some (vi 1), g3))))))))) else some (some (vi 0), c, l, x, y) := X_run 40 am_c57 [(15, [true, true, true, true, true, true, false])] rfl rfl rfl rfl
/-- WordEach$Question.answer([I)J -/
theorem q_58 {d : Nat} {c : Nat → Nat → Nat → Int32} {l : Nat → Nat → Int64} {x y : Nat} : E (d + 1) 58 [vr 44 0, vr 47 0] (c, l, x, y) = am_bv (E d 91 [vr 1 0] (c, l, x, y)) (fun g1 => am_bi (E d 94 [vr 1 0, vr 200 1] g1) (fun r3 g2 => am_bi (E d 59 [vr 44 0] (am_ui (am_ui g2.1 44 0 3 (-1)) 44 0 4 0, g2.2.1, g2.2.2.1, g2.2.2.2)) (fun r5 g4 => if (g4.1 1 0 5) = 0 then X (d + 1) 58 31 [some (vr 44 0), some (vr 47 0), some (vi r3), some (vi (g4.1 4 g4.2.2.1 13))] [] (am_ui g4.1 44 0 3 0, g4.2.1, g4.2.2.1, g4.2.2.2) else some (some (vl (-1000000000000000)), g4)))) := X_run 32 am_c58 [(31, [true, true, true, true])] rfl rfl rfl rfl
theorem q_58_31 {d : Nat} {c : Nat → Nat → Nat → Int32} {l : Nat → Nat → Int64} {x y : Nat} {v2 : Int32} {v3 : Int32} : X (d + 1) 58 31 [some (vr 44 0), some (vr 47 0), some (vi v2), some (vi v3)] [] (c, l, x, y) = if (c 44 0 3) < v3 then (if (c 44 0 3) < 0 ∨ 8 ≤ (c 44 0 3).toNatClampNeg then none else (am_bv (E d 91 [vr 1 0] (am_ui c 44 0 4 (c 47 0 (c 44 0 3).toNatClampNeg), l, x, y)) (fun g1 => am_bi (E d 59 [vr 44 0] g1) (fun r3 g2 => if (g1.1 44 0 3) < 0 ∨ 8 ≤ (g1.1 44 0 3).toNatClampNeg then none else X (d + 1) 58 31 [some (vr 44 0), some (vr 47 0), some (vi v2), some (vi v3)] [] (am_ui (am_ui g2.1 45 0 (g1.1 44 0 3).toNatClampNeg r3) 44 0 3 ((g2.1 44 0 3) + 1), g2.2.1, g2.2.2.1, g2.2.2.2))))) else (if 2 < v2 then (am_bl (E d 76 [vr 44 0, vi v2, vi v3] (c, l, x, y)) (fun r5 g4 => some (some (vl r5), g4))) else (am_bl (E d 75 [vr 44 0, vi v2, vi v3] (c, l, x, y)) (fun r7 g6 => some (some (vl r7), g6)))) := X_run 30 am_c58 [(31, [true, true, true, true])] rfl rfl rfl rfl
/-- WordEach$Question.readWhole()I -/
theorem q_59 {d : Nat} {c : Nat → Nat → Nat → Int32} {l : Nat → Nat → Int64} {x y : Nat} : E (d + 1) 59 [vr 44 0] (c, l, x, y) = am_bi (E d 94 [vr 1 0, vr 200 1] (am_ui c 44 0 5 0, l, x, y)) (fun r2 g1 => if r2 < 0 then (am_bv (E d 95 [vr 1 0, vi 1, vi (g1.1 1 0 2)] g1) (fun g3 => some (some (vi 0), g3))) else (if 5 < r2 then (am_bv (E d 95 [vr 1 0, vi 1, vi (g1.1 1 0 2)] g1) (fun g4 => some (some (vi 0), g4))) else (am_bv (E d 92 [vr 1 0] g1) (fun g5 => if 2 < r2 then (am_bi (E d 65 [vr 44 0] g5) (fun r7 g6 => if (g6.1 1 0 4) = (-1) then some (some (vi r7), g6) else (am_bv (E d 95 [vr 1 0, vi 1, vi (g6.1 1 0 2)] g6) (fun g8 => some (some (vi r7), g8))))) else (am_bi (E d 60 [vr 44 0] g5) (fun r10 g9 => if (g9.1 1 0 4) = (-1) then some (some (vi r10), g9) else (am_bv (E d 95 [vr 1 0, vi 1, vi (g9.1 1 0 2)] g9) (fun g11 => some (some (vi r10), g11))))))))) := X_run 39 am_c59 [] rfl rfl rfl rfl
/-- WordEach$Question.readTest()I -/
theorem q_60 {d : Nat} {c : Nat → Nat → Nat → Int32} {l : Nat → Nat → Int64} {x y : Nat} : E (d + 1) 60 [vr 44 0] (c, l, x, y) = am_bi (E d 61 [vr 44 0] (c, l, x, y)) (fun r2 g1 => X (d + 1) 60 5 [some (vr 44 0), some (vi r2), some (vi 0)] [] g1) := X_run 8 am_c60 [(5, [true, true, true])] rfl rfl rfl rfl
theorem q_60_5 {d : Nat} {c : Nat → Nat → Nat → Int32} {l : Nat → Nat → Int64} {x y : Nat} {v1 : Int32} {v2 : Int32} : X (d + 1) 60 5 [some (vr 44 0), some (vi v1), some (vi v2)] [] (c, l, x, y) = if v2 < 1600 then (if (c 1 0 5) = 0 then (am_bi (E d 94 [vr 1 0, vr 200 1] (c, l, x, y)) (fun r2 g1 => if r2 = 6 then (am_bv (E d 92 [vr 1 0] g1) (fun g3 => am_bi (E d 61 [vr 44 0] g3) (fun r5 g4 => X (d + 1) 60 5 [some (vr 44 0), some (vi (v1 ||| r5)), some (vi (v2 + 1))] [] g4))) else some (some (vi v1), g1))) else some (some (vi v1), c, l, x, y)) else some (some (vi v1), c, l, x, y) := X_run 26 am_c60 [(5, [true, true, true])] rfl rfl rfl rfl
/-- WordEach$Question.readBoth()I -/
theorem q_61 {d : Nat} {c : Nat → Nat → Nat → Int32} {l : Nat → Nat → Int64} {x y : Nat} : E (d + 1) 61 [vr 44 0] (c, l, x, y) = am_bi (E d 62 [vr 44 0] (c, l, x, y)) (fun r2 g1 => X (d + 1) 61 5 [some (vr 44 0), some (vi r2), some (vi 0)] [] g1) := X_run 8 am_c61 [(5, [true, true, true])] rfl rfl rfl rfl
theorem q_61_5 {d : Nat} {c : Nat → Nat → Nat → Int32} {l : Nat → Nat → Int64} {x y : Nat} {v1 : Int32} {v2 : Int32} : X (d + 1) 61 5 [some (vr 44 0), some (vi v1), some (vi v2)] [] (c, l, x, y) = if v2 < 1600 then (if (c 1 0 5) = 0 then (am_bi (E d 94 [vr 1 0, vr 200 1] (c, l, x, y)) (fun r2 g1 => if r2 = 7 then (am_bv (E d 92 [vr 1 0] g1) (fun g3 => am_bi (E d 62 [vr 44 0] g3) (fun r5 g4 => X (d + 1) 61 5 [some (vr 44 0), some (vi (v1 &&& r5)), some (vi (v2 + 1))] [] g4))) else some (some (vi v1), g1))) else some (some (vi v1), c, l, x, y)) else some (some (vi v1), c, l, x, y) := X_run 26 am_c61 [(5, [true, true, true])] rfl rfl rfl rfl
/-- WordEach$Question.readFact()I -/
theorem q_62 {d : Nat} {c : Nat → Nat → Nat → Int32} {l : Nat → Nat → Int64} {x y : Nat} : E (d + 1) 62 [vr 44 0] (c, l, x, y) = am_bi (E d 94 [vr 1 0, vr 200 1] (c, l, x, y)) (fun r2 g1 => if r2 = 9 then (am_bv (E d 92 [vr 1 0] g1) (fun g3 => some (some (vi 1), g3))) else (if r2 = 8 then (if r2 = 8 then (am_bi (E d 63 [vr 44 0, vi 1] g1) (fun r5 g4 => some (some (vi r5), g4))) else (am_bi (E d 63 [vr 44 0, vi 0] g1) (fun r7 g6 => some (some (vi r7), g6)))) else (if (g1.1 1 0 4) = 91 then (if r2 = 8 then (am_bi (E d 63 [vr 44 0, vi 1] g1) (fun r9 g8 => some (some (vi r9), g8))) else (am_bi (E d 63 [vr 44 0, vi 0] g1) (fun r11 g10 => some (some (vi r11), g10)))) else (am_bi (E d 65 [vr 44 0] g1) (fun r13 g12 => if (g12.1 1 0 4) = 60 then (am_bi (E d 98 [vr 1 0, vi (g12.1 1 0 4)] g12) (fun r15 g14 => am_bi (E d 65 [vr 44 0] g14) (fun r17 g16 => if (g12.1 1 0 4) = 60 then (if r13 < r17 then some (some (vi 1), g16) else some (some (vi 0), g16)) else (if (g12.1 1 0 4) = 62 then (if r17 < r13 then some (some (vi 1), g16) else some (some (vi 0), g16)) else (if r13 = r17 then some (some (vi 1), g16) else some (some (vi 0), g16)))))) else (if (g12.1 1 0 4) = 62 then (am_bi (E d 98 [vr 1 0, vi (g12.1 1 0 4)] g12) (fun r19 g18 => am_bi (E d 65 [vr 44 0] g18) (fun r21 g20 => if (g12.1 1 0 4) = 60 then (if r13 < r21 then some (some (vi 1), g20) else some (some (vi 0), g20)) else (if (g12.1 1 0 4) = 62 then (if r21 < r13 then some (some (vi 1), g20) else some (some (vi 0), g20)) else (if r13 = r21 then some (some (vi 1), g20) else some (some (vi 0), g20)))))) else (if (g12.1 1 0 4) = 61 then (am_bi (E d 98 [vr 1 0, vi (g12.1 1 0 4)] g12) (fun r23 g22 => am_bi (E d 65 [vr 44 0] g22) (fun r25 g24 => if (g12.1 1 0 4) = 60 then (if r13 < r25 then some (some (vi 1), g24) else some (some (vi 0), g24)) else (if (g12.1 1 0 4) = 62 then (if r25 < r13 then some (some (vi 1), g24) else some (some (vi 0), g24)) else (if r13 = r25 then some (some (vi 1), g24) else some (some (vi 0), g24)))))) else (am_bv (E d 95 [vr 1 0, vi 1, vi (g12.1 1 0 2)] g12) (fun g26 => some (some (vi 0), g26)))))))))) := X_run 59 am_c62 [] rfl rfl rfl rfl
/-- WordEach$Question.readOpened(Z)I -/
theorem q_63 {d : Nat} {c : Nat → Nat → Nat → Int32} {l : Nat → Nat → Int64} {x y : Nat} {a1 : Int32} : E (d + 1) 63 [vr 44 0, vi a1] (c, l, x, y) = am_bi (E d 64 [vr 44 0] (c, l, x, y)) (fun r2 g1 => if r2 = 0 then some (some (vi 0), g1) else (am_bv (E d 92 [vr 1 0] g1) (fun g3 => if a1 = 0 then (am_bi (E d 60 [vr 44 0] g3) (fun r5 g4 => if a1 = 0 then (am_bi (E d 98 [vr 1 0, vi 93] g4) (fun r7 g6 => some (some (vi r5), am_ui g6.1 44 0 5 ((g6.1 44 0 5) - 1), g6.2.1, g6.2.2.1, g6.2.2.2))) else some (some (vi r5), am_ui g4.1 44 0 5 ((g4.1 44 0 5) - 1), g4.2.1, g4.2.2.1, g4.2.2.2))) else (am_bi (E d 62 [vr 44 0] g3) (fun r9 g8 => if a1 = 0 then (am_bi (E d 98 [vr 1 0, vi 93] g8) (fun r11 g10 => some (some (vi ((1 : Int32) - r9)), am_ui g10.1 44 0 5 ((g10.1 44 0 5) - 1), g10.2.1, g10.2.2.1, g10.2.2.2))) else some (some (vi ((1 : Int32) - r9)), am_ui g8.1 44 0 5 ((g8.1 44 0 5) - 1), g8.2.1, g8.2.2.1, g8.2.2.2)))))) := X_run 31 am_c63 [] rfl rfl rfl rfl
/-- WordEach$Question.opens()Z -/
theorem q_64 {d : Nat} {c : Nat → Nat → Nat → Int32} {l : Nat → Nat → Int64} {x y : Nat} : E (d + 1) 64 [vr 44 0] (c, l, x, y) = if (c 1 0 5) = 0 then (if (c 44 0 5) < 6 then (if (c 1 0 5) = 0 then some (some (vi 1), am_ui c 44 0 5 ((c 44 0 5) + 1), l, x, y) else some (some (vi 0), c, l, x, y)) else (am_bv (E d 95 [vr 1 0, vi 4, vi (c 1 0 2)] (c, l, x, y)) (fun g1 => if (g1.1 1 0 5) = 0 then some (some (vi 1), am_ui g1.1 44 0 5 ((g1.1 44 0 5) + 1), g1.2.1, g1.2.2.1, g1.2.2.2) else some (some (vi 0), g1)))) else (if (c 1 0 5) = 0 then some (some (vi 1), am_ui c 44 0 5 ((c 44 0 5) + 1), l, x, y) else some (some (vi 0), c, l, x, y)) := X_run 29 am_c64 [] rfl rfl rfl rfl
/-- WordEach$Question.readSum()I -/
theorem q_65 {d : Nat} {c : Nat → Nat → Nat → Int32} {l : Nat → Nat → Int64} {x y : Nat} : E (d + 1) 65 [vr 44 0] (c, l, x, y) = am_bi (E d 66 [vr 44 0] (c, l, x, y)) (fun r2 g1 => X (d + 1) 65 5 [some (vr 44 0), some (vi r2), some (vi 0), none, none] [] g1) := X_run 8 am_c65 [(5, [true, true, true, false, false])] rfl rfl rfl rfl
theorem q_65_5 {d : Nat} {c : Nat → Nat → Nat → Int32} {l : Nat → Nat → Int64} {x y : Nat} {v1 : Int32} {v2 : Int32} : X (d + 1) 65 5 [some (vr 44 0), some (vi v1), some (vi v2), none, none] [] (c, l, x, y) = if v2 < 1600 then (if (c 1 0 5) = 0 then (if (c 1 0 4) = 43 then (if (c 1 0 4) = 43 then (am_bv (E d 92 [vr 1 0] (c, l, x, y)) (fun g1 => am_bi (E d 66 [vr 44 0] g1) (fun r3 g2 => am_bi (E d 74 [vl (v1.toInt64 + r3.toInt64)] g2) (fun r5 g4 => X (d + 1) 65 5 [some (vr 44 0), some (vi r5), some (vi (v2 + 1)), none, none] [] g4)))) else (am_bv (E d 92 [vr 1 0] (c, l, x, y)) (fun g6 => am_bi (E d 66 [vr 44 0] g6) (fun r8 g7 => am_bi (E d 74 [vl (v1.toInt64 - r8.toInt64)] g7) (fun r10 g9 => X (d + 1) 65 5 [some (vr 44 0), some (vi r10), some (vi (v2 + 1)), none, none] [] g9))))) else (if (c 1 0 4) = 45 then (if (c 1 0 4) = 43 then (am_bv (E d 92 [vr 1 0] (c, l, x, y)) (fun g11 => am_bi (E d 66 [vr 44 0] g11) (fun r13 g12 => am_bi (E d 74 [vl (v1.toInt64 + r13.toInt64)] g12) (fun r15 g14 => X (d + 1) 65 5 [some (vr 44 0), some (vi r15), some (vi (v2 + 1)), none, none] [] g14)))) else (am_bv (E d 92 [vr 1 0] (c, l, x, y)) (fun g16 => am_bi (E d 66 [vr 44 0] g16) (fun r18 g17 => am_bi (E d 74 [vl (v1.toInt64 - r18.toInt64)] g17) (fun r20 g19 => X (d + 1) 65 5 [some (vr 44 0), some (vi r20), some (vi (v2 + 1)), none, none] [] g19))))) else some (some (vi v1), c, l, x, y))) else some (some (vi v1), c, l, x, y)) else some (some (vi v1), c, l, x, y) := X_run 46 am_c65 [(5, [true, true, true, false, false])] rfl rfl rfl rfl
/-- WordEach$Question.readProduct()I -/
theorem q_66 {d : Nat} {c : Nat → Nat → Nat → Int32} {l : Nat → Nat → Int64} {x y : Nat} : E (d + 1) 66 [vr 44 0] (c, l, x, y) = am_bi (E d 67 [vr 44 0] (c, l, x, y)) (fun r2 g1 => X (d + 1) 66 5 [some (vr 44 0), some (vi r2), some (vi 0), none, none] [] g1) := X_run 8 am_c66 [(5, [true, true, true, false, false])] rfl rfl rfl rfl
theorem q_66_5 {d : Nat} {c : Nat → Nat → Nat → Int32} {l : Nat → Nat → Int64} {x y : Nat} {v1 : Int32} {v2 : Int32} : X (d + 1) 66 5 [some (vr 44 0), some (vi v1), some (vi v2), none, none] [] (c, l, x, y) = if v2 < 1600 then (if (c 1 0 5) = 0 then (if (c 1 0 4) = 42 then (if (c 1 0 4) = 42 then (am_bv (E d 92 [vr 1 0] (c, l, x, y)) (fun g1 => am_bi (E d 67 [vr 44 0] g1) (fun r3 g2 => am_bi (E d 74 [vl (v1.toInt64 * r3.toInt64)] g2) (fun r5 g4 => X (d + 1) 66 5 [some (vr 44 0), some (vi r5), some (vi (v2 + 1)), none, none] [] g4)))) else (am_bv (E d 92 [vr 1 0] (c, l, x, y)) (fun g6 => am_bi (E d 67 [vr 44 0] g6) (fun r8 g7 => if r8 = 0 then X (d + 1) 66 5 [some (vr 44 0), some (vi 0), some (vi (v2 + 1)), none, none] [] g7 else (if r8 = 0 then none else X (d + 1) 66 5 [some (vr 44 0), some (vi (am_fd v1 r8)), some (vi (v2 + 1)), none, none] [] g7))))) else (if (c 1 0 4) = 47 then (if (c 1 0 4) = 42 then (am_bv (E d 92 [vr 1 0] (c, l, x, y)) (fun g9 => am_bi (E d 67 [vr 44 0] g9) (fun r11 g10 => am_bi (E d 74 [vl (v1.toInt64 * r11.toInt64)] g10) (fun r13 g12 => X (d + 1) 66 5 [some (vr 44 0), some (vi r13), some (vi (v2 + 1)), none, none] [] g12)))) else (am_bv (E d 92 [vr 1 0] (c, l, x, y)) (fun g14 => am_bi (E d 67 [vr 44 0] g14) (fun r16 g15 => if r16 = 0 then X (d + 1) 66 5 [some (vr 44 0), some (vi 0), some (vi (v2 + 1)), none, none] [] g15 else (if r16 = 0 then none else X (d + 1) 66 5 [some (vr 44 0), some (vi (am_fd v1 r16)), some (vi (v2 + 1)), none, none] [] g15))))) else some (some (vi v1), c, l, x, y))) else some (some (vi v1), c, l, x, y)) else some (some (vi v1), c, l, x, y) := X_run 46 am_c66 [(5, [true, true, true, false, false])] rfl rfl rfl rfl
/-- WordEach$Question.readPart()I -/
theorem q_67 {d : Nat} {c : Nat → Nat → Nat → Int32} {l : Nat → Nat → Int64} {x y : Nat} : E (d + 1) 67 [vr 44 0] (c, l, x, y) = if (c 1 0 5) = 0 then (if (c 1 0 4) = 48 then (am_bi (E d 97 [vr 1 0, vi 9999] (c, l, x, y)) (fun r2 g1 => some (some (vi r2), g1))) else (if (c 1 0 4) = 40 then (am_bi (E d 68 [vr 44 0, vi (-1)] (c, l, x, y)) (fun r4 g3 => some (some (vi r4), g3))) else (am_bi (E d 94 [vr 1 0, vr 200 1] (c, l, x, y)) (fun r6 g5 => if r6 < 10 then (am_bv (E d 95 [vr 1 0, vi 1, vi (g5.1 1 0 2)] g5) (fun g7 => some (some (vi 0), g7))) else (if r6 = 14 then (am_bi (E d 69 [vr 44 0, vi r6] g5) (fun r9 g8 => some (some (vi r9), g8))) else (if r6 = 15 then (am_bi (E d 69 [vr 44 0, vi r6] g5) (fun r11 g10 => some (some (vi r11), g10))) else (am_bv (E d 92 [vr 1 0] g5) (fun g12 => if r6 = 16 then (am_bi (E d 68 [vr 44 0, vi r6] g12) (fun r14 g13 => some (some (vi r14), g13))) else (if r6 = 17 then (am_bi (E d 68 [vr 44 0, vi r6] g12) (fun r16 g15 => some (some (vi r16), g15))) else (am_bi (E d 73 [vr 44 0, vi r6] g12) (fun r18 g17 => some (some (vi r18), g17)))))))))))) else some (some (vi 0), c, l, x, y) := X_run 44 am_c67 [] rfl rfl rfl rfl
/-- WordEach$Question.readBracket(I)I -/
theorem q_68 {d : Nat} {c : Nat → Nat → Nat → Int32} {l : Nat → Nat → Int64} {x y : Nat} {a1 : Int32} : E (d + 1) 68 [vr 44 0, vi a1] (c, l, x, y) = if (c 1 0 4) = 40 then (am_bi (E d 64 [vr 44 0] (c, l, x, y)) (fun r2 g1 => if r2 = 0 then some (some (vi 0), g1) else (am_bv (E d 92 [vr 1 0] g1) (fun g3 => am_bi (E d 65 [vr 44 0] g3) (fun r5 g4 => if a1 = (-1) then (am_bi (E d 98 [vr 1 0, vi 41] g4) (fun r7 g6 => some (some (vi r5), am_ui g6.1 44 0 5 ((g6.1 44 0 5) - 1), g6.2.1, g6.2.2.1, g6.2.2.2))) else (am_bi (E d 98 [vr 1 0, vi 44] g4) (fun r9 g8 => am_bi (E d 65 [vr 44 0] g8) (fun r11 g10 => if a1 = 16 then (am_bi (E d 98 [vr 1 0, vi 41] g10) (fun r13 g12 => some (some (vi (if r11 < r5 then r11 else r5)), am_ui g12.1 44 0 5 ((g12.1 44 0 5) - 1), g12.2.1, g12.2.2.1, g12.2.2.2))) else (am_bi (E d 98 [vr 1 0, vi 41] g10) (fun r15 g14 => some (some (vi (if r5 < r11 then r11 else r5)), am_ui g14.1 44 0 5 ((g14.1 44 0 5) - 1), g14.2.1, g14.2.2.1, g14.2.2.2))))))))))) else (am_bv (E d 95 [vr 1 0, vi 1, vi (c 1 0 2)] (c, l, x, y)) (fun g16 => am_bi (E d 64 [vr 44 0] g16) (fun r18 g17 => if r18 = 0 then some (some (vi 0), g17) else (am_bv (E d 92 [vr 1 0] g17) (fun g19 => am_bi (E d 65 [vr 44 0] g19) (fun r21 g20 => if a1 = (-1) then (am_bi (E d 98 [vr 1 0, vi 41] g20) (fun r23 g22 => some (some (vi r21), am_ui g22.1 44 0 5 ((g22.1 44 0 5) - 1), g22.2.1, g22.2.2.1, g22.2.2.2))) else (am_bi (E d 98 [vr 1 0, vi 44] g20) (fun r25 g24 => am_bi (E d 65 [vr 44 0] g24) (fun r27 g26 => if a1 = 16 then (am_bi (E d 98 [vr 1 0, vi 41] g26) (fun r29 g28 => some (some (vi (if r27 < r21 then r27 else r21)), am_ui g28.1 44 0 5 ((g28.1 44 0 5) - 1), g28.2.1, g28.2.2.1, g28.2.2.2))) else (am_bi (E d 98 [vr 1 0, vi 41] g26) (fun r31 g30 => some (some (vi (if r21 < r27 then r27 else r21)), am_ui g30.1 44 0 5 ((g30.1 44 0 5) - 1), g30.2.1, g30.2.2.1, g30.2.2.2)))))))))))) := X_run 55 am_c68 [] rfl rfl rfl rfl
/-- WordEach$Question.readPartOf(I)I -/
theorem q_69 {d : Nat} {c : Nat → Nat → Nat → Int32} {l : Nat → Nat → Int64} {x y : Nat} {a1 : Int32} : E (d + 1) 69 [vr 44 0, vi a1] (c, l, x, y) = am_bi (E d 64 [vr 44 0] (c, l, x, y)) (fun r2 g1 => if r2 = 0 then some (some (vi 0), g1) else (am_bv (E d 92 [vr 1 0] g1) (fun g3 => am_bi (E d 67 [vr 44 0] g3) (fun r5 g4 => if a1 = 14 then (am_bi (E d 70 [vr 44 0, vi r5] (am_ui g4.1 44 0 5 ((g4.1 44 0 5) - 1), g4.2.1, g4.2.2.1, g4.2.2.2)) (fun r7 g6 => some (some (vi r7), g6))) else (am_bi (E d 72 [vr 44 0, vi r5] (am_ui g4.1 44 0 5 ((g4.1 44 0 5) - 1), g4.2.1, g4.2.2.1, g4.2.2.2)) (fun r9 g8 => some (some (vi r9), g8))))))) := X_run 25 am_c69 [] rfl rfl rfl rfl
/-- WordEach$Question.wordAt(I)I -/
theorem q_70 {d : Nat} {c : Nat → Nat → Nat → Int32} {l : Nat → Nat → Int64} {x y : Nat} {a1 : Int32} : E (d + 1) 70 [vr 44 0, vi a1] (c, l, x, y) = if a1 < 0 then some (some (vi 99), c, l, x, y) else (am_bi (E d 71 [vr 44 0] (c, l, x, y)) (fun r2 g1 => if a1 < r2 then (if (g1.1 44 0 3) < 0 ∨ 8 ≤ (g1.1 44 0 3).toNatClampNeg then none else (if a1 < 0 ∨ 8 ≤ a1.toNatClampNeg then none else some (some (vi (g1.1 16 ((g1.1 44 0 3).toNatClampNeg + g1.2.2.1 * 8) a1.toNatClampNeg)), g1))) else some (some (vi 99), g1))) := X_run 18 am_c70 [] rfl rfl rfl rfl
/-- WordEach$Question.wordsOfCase()I -/
theorem q_71 {d : Nat} {c : Nat → Nat → Nat → Int32} {l : Nat → Nat → Int64} {x y : Nat} : E (d + 1) 71 [vr 44 0] (c, l, x, y) = if (c 44 0 3) = (-1) then some (some (vi 0), c, l, x, y) else (if (c 44 0 3) < 0 ∨ 8 ≤ (c 44 0 3).toNatClampNeg then none else some (some (vi (c 17 x (c 44 0 3).toNatClampNeg)), c, l, x, y)) := X_run 14 am_c71 [] rfl rfl rfl rfl
/-- WordEach$Question.timesHeard(I)I -/
theorem q_72 {d : Nat} {c : Nat → Nat → Nat → Int32} {l : Nat → Nat → Int64} {x y : Nat} {a1 : Int32} : E (d + 1) 72 [vr 44 0, vi a1] (c, l, x, y) = if (c 44 0 3) = (-1) then some (some (vi 0), c, l, x, y) else (if (c 44 0 3) < 0 ∨ 8 ≤ (c 44 0 3).toNatClampNeg then none else (am_bi (E d 71 [vr 44 0] (c, l, x, y)) (fun r2 g1 => am_bi (E d 104 [vr 16 ((c 44 0 3).toNatClampNeg + x * 8), vi r2, vi a1] g1) (fun r4 g3 => some (some (vi r4), g3))))) := X_run 18 am_c72 [] rfl rfl rfl rfl
/-- WordEach$Question.simplePart(I)I -/
theorem q_73 {d : Nat} {c : Nat → Nat → Nat → Int32} {l : Nat → Nat → Int64} {x y : Nat} {a1 : Int32} : E (d + 1) 73 [vr 44 0, vi a1] (c, l, x, y) = if a1 = 10 then some (some (vi (c 44 0 3)), c, l, x, y) else if a1 = 11 then (am_bi (E d 71 [vr 44 0] (c, l, x, y)) (fun r2 g1 => some (some (vi r2), g1))) else if a1 = 12 then some (some (vi (c 44 0 4)), c, l, x, y) else if a1 = 13 then (am_bi (E d 23 [vr 4 x] (c, l, x, y)) (fun r4 g3 => if (c 44 0 4) = r4 then some (some (vi 1), g3) else some (some (vi 0), g3))) else some (some (vi 0), c, l, x, y) := X_run 14 am_c73 [] rfl rfl rfl rfl
/-- WordEach$Question.held(J)I -/
theorem q_74 {d : Nat} {c : Nat → Nat → Nat → Int32} {l : Nat → Nat → Int64} {x y : Nat} {a1 : Int64} : E (d + 1) 74 [vl a1] (c, l, x, y) = some (some (vi (if (if a1 < 1000000 then a1 else 1000000) < (-1000000) then (-1000000) else (if a1 < 1000000 then a1 else 1000000)).toInt32), c, l, x, y) := X_run 9 am_c74 [] rfl rfl rfl rfl
/-- WordEach$Question.tellTest(II)J -/
theorem q_75 {d : Nat} {c : Nat → Nat → Nat → Int32} {l : Nat → Nat → Int64} {x y : Nat} {a1 : Int32} {a2 : Int32} : E (d + 1) 75 [vr 44 0, vi a1, vi a2] (c, l, x, y) = X (d + 1) 75 6 [some (vr 44 0), some (vi a1), some (vi a2), some (vi (-1)), some (vi (-1)), some (vi 0)] [] (c, l, x, y) := X_run 9 am_c75 [(6, [true, true, true, true, true, true])] rfl rfl rfl rfl
theorem q_75_6 {d : Nat} {c : Nat → Nat → Nat → Int32} {l : Nat → Nat → Int64} {x y : Nat} {v1 : Int32} {v2 : Int32} {v3 : Int32} {v4 : Int32} {v5 : Int32} : X (d + 1) 75 6 [some (vr 44 0), some (vi v1), some (vi v2), some (vi v3), some (vi v4), some (vi v5)] [] (c, l, x, y) = if v5 < v2 then (if v5 < 0 ∨ 8 ≤ v5.toNatClampNeg then none else (if (c 45 0 v5.toNatClampNeg) = 1 then (if v3 = (-1) then X (d + 1) 75 6 [some (vr 44 0), some (vi v1), some (vi v2), some (vi v5), some (vi v5), some (vi (v5 + 1))] [] (c, l, x, y) else X (d + 1) 75 6 [some (vr 44 0), some (vi v1), some (vi v2), some (vi v3), some (vi v5), some (vi (v5 + 1))] [] (c, l, x, y)) else X (d + 1) 75 6 [some (vr 44 0), some (vi v1), some (vi v2), some (vi v3), some (vi v4), some (vi (v5 + 1))] [] (c, l, x, y))) else (if v1 = 2 then (am_bi (E d 104 [vr 45 0, vi v2, vi 1] (c, l, x, y)) (fun r2 g1 => some (some (vl r2.toInt64), g1))) else (if v1 = 0 then some (some (vl v3.toInt64), c, l, x, y) else some (some (vl v4.toInt64), c, l, x, y))) := X_run 22 am_c75 [(6, [true, true, true, true, true, true])] rfl rfl rfl rfl
/-- WordEach$Question.tellSum(II)J -/
theorem q_76 {d : Nat} {c : Nat → Nat → Nat → Int32} {l : Nat → Nat → Int64} {x y : Nat} {a1 : Int32} {a2 : Int32} : E (d + 1) 76 [vr 44 0, vi a1, vi a2] (c, l, x, y) = if a2 = 0 then X (d + 1) 76 15 [some (vr 44 0), some (vi a1), some (vi a2), some (vl 0), none, some (vi 0), some (vi 0), some (vi 0)] [] (c, l, x, y) else X (d + 1) 76 15 [some (vr 44 0), some (vi a1), some (vi a2), some (vl 0), none, some (vi (c 45 0 0)), some (vi (c 45 0 0)), some (vi 0)] [] (c, l, x, y) := X_run 16 am_c76 [(15, [true, true, true, true, false, true, true, true])] rfl rfl rfl rfl
theorem q_76_15 {d : Nat} {c : Nat → Nat → Nat → Int32} {l : Nat → Nat → Int64} {x y : Nat} {v1 : Int32} {v2 : Int32} {v3 : Int64} {v5 : Int32} {v6 : Int32} {v7 : Int32} : X (d + 1) 76 15 [some (vr 44 0), some (vi v1), some (vi v2), some (vl v3), none, some (vi v5), some (vi v6), some (vi v7)] [] (c, l, x, y) = if v7 < v2 then (if v7 < 0 ∨ 8 ≤ v7.toNatClampNeg then none else (if v7 < 0 ∨ 8 ≤ v7.toNatClampNeg then none else (if v7 < 0 ∨ 8 ≤ v7.toNatClampNeg then none else (X (d + 1) 76 15 [some (vr 44 0), some (vi v1), some (vi v2), some (vl (v3 + (c 45 0 v7.toNatClampNeg).toInt64)), none, some (vi (if v5 < (c 45 0 v7.toNatClampNeg) then (c 45 0 v7.toNatClampNeg) else v5)), some (vi (if (c 45 0 v7.toNatClampNeg) < v6 then (c 45 0 v7.toNatClampNeg) else v6)), some (vi (v7 + 1))] [] (c, l, x, y))))) else (if v1 = 3 then some (some (vl v3), c, l, x, y) else (if v1 = 4 then some (some (vl v5.toInt64), c, l, x, y) else some (some (vl v6.toInt64), c, l, x, y))) := X_run 30 am_c76 [(15, [true, true, true, true, false, true, true, true])] rfl rfl rfl rfl
/-- WordEach$Row.placeOf(I)I -/
theorem q_77 {d : Nat} {c : Nat → Nat → Nat → Int32} {l : Nat → Nat → Int64} {x y : Nat} {a1 : Int32} : E (d + 1) 77 [vr 23 0, vi a1] (c, l, x, y) = X (d + 1) 77 2 [some (vr 23 0), some (vi a1), some (vi 0)] [] (c, l, x, y) := X_run 5 am_c77 [(2, [true, true, true])] rfl rfl rfl rfl
theorem q_77_2 {d : Nat} {c : Nat → Nat → Nat → Int32} {l : Nat → Nat → Int64} {x y : Nat} {v1 : Int32} {v2 : Int32} : X (d + 1) 77 2 [some (vr 23 0), some (vi v1), some (vi v2)] [] (c, l, x, y) = if v2 < (c 23 0 3) then (if v2 < 0 ∨ 7 ≤ v2.toNatClampNeg then none else (if (c 25 0 v2.toNatClampNeg) = v1 then some (some (vi v2), c, l, x, y) else X (d + 1) 77 2 [some (vr 23 0), some (vi v1), some (vi (v2 + 1))] [] (c, l, x, y))) else some (some (vi (-1)), c, l, x, y) := X_run 15 am_c77 [(2, [true, true, true])] rfl rfl rfl rfl
/-- WordEach$Row.add(II)V -/
theorem q_78 {d : Nat} {c : Nat → Nat → Nat → Int32} {l : Nat → Nat → Int64} {x y : Nat} {a1 : Int32} {a2 : Int32} : E (d + 1) 78 [vr 23 0, vi a1, vi a2] (c, l, x, y) = if (c 23 0 3) < 7 then (if (c 23 0 3) < 0 ∨ 7 ≤ (c 23 0 3).toNatClampNeg then none else (if (c 23 0 3) < 0 ∨ 7 ≤ (c 23 0 3).toNatClampNeg then none else some (none, am_ui (am_ui (am_ui c 25 0 (c 23 0 3).toNatClampNeg a1) 24 0 (c 23 0 3).toNatClampNeg a2) 23 0 3 ((c 23 0 3) + 1), l, x, y))) else some (none, c, l, x, y) := X_run 25 am_c78 [] rfl rfl rfl rfl
/-- WordEach$Row.speakerBits()I -/
theorem q_79 {d : Nat} {c : Nat → Nat → Nat → Int32} {l : Nat → Nat → Int64} {x y : Nat} : E (d + 1) 79 [vr 23 0] (c, l, x, y) = X (d + 1) 79 4 [some (vr 23 0), some (vi 0), some (vi 0)] [] (c, l, x, y) := X_run 7 am_c79 [(4, [true, true, true])] rfl rfl rfl rfl
theorem q_79_4 {d : Nat} {c : Nat → Nat → Nat → Int32} {l : Nat → Nat → Int64} {x y : Nat} {v1 : Int32} {v2 : Int32} : X (d + 1) 79 4 [some (vr 23 0), some (vi v1), some (vi v2)] [] (c, l, x, y) = if v2 < (c 23 0 3) then (if v2 < 0 ∨ 7 ≤ v2.toNatClampNeg then none else X (d + 1) 79 4 [some (vr 23 0), some (vi (v1 ||| ((1 : Int32) <<< ((c 25 0 v2.toNatClampNeg) &&& 31)))), some (vi (v2 + 1))] [] (c, l, x, y)) else some (some (vi v1), c, l, x, y) := X_run 18 am_c79 [(4, [true, true, true])] rfl rfl rfl rfl
/-- WordEach$Row.write(I)V -/
theorem q_80 {d : Nat} {c : Nat → Nat → Nat → Int32} {l : Nat → Nat → Int64} {x y : Nat} {a1 : Int32} : E (d + 1) 80 [vr 23 0, vi a1] (c, l, x, y) = am_bv (E d 81 [vr 23 0, vi (c 23 0 3)] (am_ui c 23 0 4 0, l, x, y)) (fun g1 => X (d + 1) 80 9 [some (vr 23 0), some (vi a1), some (vi 0), none] [] g1) := X_run 12 am_c80 [(9, [true, true, true, false]), (34, [true, false, true, true])] rfl rfl rfl rfl
theorem q_80_9 {d : Nat} {c : Nat → Nat → Nat → Int32} {l : Nat → Nat → Int64} {x y : Nat} {v1 : Int32} {v2 : Int32} : X (d + 1) 80 9 [some (vr 23 0), some (vi v1), some (vi v2), none] [] (c, l, x, y) = if v2 < (c 23 0 3) then (if v2 < 0 ∨ 7 ≤ v2.toNatClampNeg then none else (am_bv (E d 81 [vr 23 0, vi (c 25 0 v2.toNatClampNeg)] (c, l, x, y)) (fun g1 => if v2 < 0 ∨ 7 ≤ v2.toNatClampNeg then none else (am_bv (E d 81 [vr 23 0, vi (g1.1 24 0 v2.toNatClampNeg)] g1) (fun g2 => X (d + 1) 80 9 [some (vr 23 0), some (vi v1), some (vi (v2 + 1)), none] [] g2))))) else (am_bv (E d 81 [vr 23 0, vi v1] (c, l, x, y)) (fun g3 => X (d + 1) 80 34 [some (vr 23 0), none, some (vi 97), some (vi 0)] [] g3)) := X_run 21 am_c80 [(9, [true, true, true, false]), (34, [true, false, true, true])] rfl rfl rfl rfl
theorem q_80_34 {d : Nat} {c : Nat → Nat → Nat → Int32} {l : Nat → Nat → Int64} {x y : Nat} {v2 : Int32} {v3 : Int32} : X (d + 1) 80 34 [some (vr 23 0), none, some (vi v2), some (vi v3)] [] (c, l, x, y) = if v3 < (c 23 0 4) then (if v3 < 0 ∨ 17 ≤ v3.toNatClampNeg then none else X (d + 1) 80 34 [some (vr 23 0), none, some (vi ((((3 : Int32) * v2) + (c 26 0 v3.toNatClampNeg)) - (((3 : Int32) * v2) + (c 26 0 v3.toNatClampNeg)) / 241 * 241)), some (vi (v3 + 1))] [] (c, l, x, y)) else (am_bv (E d 81 [vr 23 0, vi v2] (c, l, x, y)) (fun g1 => some (none, g1))) := X_run 20 am_c80 [(9, [true, true, true, false]), (34, [true, false, true, true])] rfl rfl rfl rfl
/-- WordEach$Row.addOctet(I)V -/
theorem q_81 {d : Nat} {c : Nat → Nat → Nat → Int32} {l : Nat → Nat → Int64} {x y : Nat} {a1 : Int32} : E (d + 1) 81 [vr 23 0, vi a1] (c, l, x, y) = if (c 23 0 4) < 17 then (if (c 23 0 4) < 0 ∨ 17 ≤ (c 23 0 4).toNatClampNeg then none else some (none, am_ui (am_ui c 26 0 (c 23 0 4).toNatClampNeg a1) 23 0 4 ((c 23 0 4) + 1), l, x, y)) else some (none, c, l, x, y) := X_run 21 am_c81 [] rfl rfl rfl rfl
/-- WordEach$Row.isImage(LWordEach$Tape;LWordEach$Court;)Z -/
theorem q_82 {d : Nat} {c : Nat → Nat → Nat → Int32} {l : Nat → Nat → Int64} {x y : Nat} {q1 : Nat} : E (d + 1) 82 [vr 1 0, vr 4 q1] (c, l, x, y) = am_bi (E d 99 [vr 1 0, vi 0] (c, l, x, y)) (fun r2 g1 => if r2 = (-1) then some (some (vi 0), g1) else (if (g1.1 1 0 1) = (((2 : Int32) * r2) + 3) then X (d + 1) 82 21 [some (vr 1 0), some (vr 4 q1), some (vi r2), some (vi 97), some (vi 0)] [] g1 else some (some (vi 0), g1))) := X_run 22 am_c82 [(21, [true, true, true, true, true])] rfl rfl rfl rfl
theorem q_82_21 {d : Nat} {c : Nat → Nat → Nat → Int32} {l : Nat → Nat → Int64} {x y : Nat} {v1 : Nat} {v2 : Int32} {v3 : Int32} {v4 : Int32} : X (d + 1) 82 21 [some (vr 1 0), some (vr 4 v1), some (vi v2), some (vi v3), some (vi v4)] [] (c, l, x, y) = if v4 < ((c 1 0 1) - 1) then (am_bi (E d 99 [vr 1 0, vi v4] (c, l, x, y)) (fun r2 g1 => X (d + 1) 82 21 [some (vr 1 0), some (vr 4 v1), some (vi v2), some (vi ((((3 : Int32) * v3) + r2) - (((3 : Int32) * v3) + r2) / 241 * 241)), some (vi (v4 + 1))] [] g1)) else (am_bi (E d 99 [vr 1 0, vi ((c 1 0 1) - 1)] (c, l, x, y)) (fun r4 g3 => if v3 = r4 then (am_bi (E d 99 [vr 1 0, vi ((g3.1 1 0 1) - 2)] g3) (fun r6 g5 => am_bi (E d 16 [vr 4 v1] g5) (fun r8 g7 => if r8 < r6 then some (some (vi 0), g7) else (am_bi (E d 83 [vr 1 0, vr 4 v1, vi v2] g7) (fun r10 g9 => if r10 = 0 then some (some (vi 0), g9) else some (some (vi 1), g9)))))) else some (some (vi 0), g3))) := X_run 33 am_c82 [(21, [true, true, true, true, true])] rfl rfl rfl rfl
/-- WordEach$Row.areSaid(LWordEach$Tape;LWordEach$Court;I)Z -/
theorem q_83 {d : Nat} {c : Nat → Nat → Nat → Int32} {l : Nat → Nat → Int64} {x y : Nat} {q1 : Nat} {a3 : Int32} : E (d + 1) 83 [vr 1 0, vr 4 q1, vi a3] (c, l, x, y) = X (d + 1) 83 4 [some (vr 1 0), some (vr 4 q1), some (vi a3), some (vi 0), some (vi 0), none] [] (c, l, x, y) := X_run 7 am_c83 [(4, [true, true, true, true, true, false])] rfl rfl rfl rfl
theorem q_83_4 {d : Nat} {c : Nat → Nat → Nat → Int32} {l : Nat → Nat → Int64} {x y : Nat} {v1 : Nat} {v2 : Int32} {v3 : Int32} {v4 : Int32} : X (d + 1) 83 4 [some (vr 1 0), some (vr 4 v1), some (vi v2), some (vi v3), some (vi v4), none] [] (c, l, x, y) = if v4 < v2 then (am_bi (E d 99 [vr 1 0, vi (((2 : Int32) * v4) + 1)] (c, l, x, y)) (fun r2 g1 => am_bi (E d 19 [vr 4 v1, vi r2] g1) (fun r4 g3 => if r4 = 0 then some (some (vi 0), g3) else (if ((v3 >>> (r2 &&& 31)) &&& 1) = 1 then some (some (vi 0), g3) else (if r2 < 0 ∨ 7 ≤ r2.toNatClampNeg then none else (am_bi (E d 99 [vr 1 0, vi (((2 : Int32) * v4) + 2)] g3) (fun r6 g5 => am_bi (E d 100 [vr 18 (r2.toNatClampNeg + v1 * 7), vi r6] g5) (fun r8 g7 => if r8 = 0 then some (some (vi 0), g7) else X (d + 1) 83 4 [some (vr 1 0), some (vr 4 v1), some (vi v2), some (vi (v3 ||| ((1 : Int32) <<< (r2 &&& 31)))), some (vi (v4 + 1)), none] [] g7)))))))) else some (some (vi 1), c, l, x, y) := X_run 46 am_c83 [(4, [true, true, true, true, true, false])] rfl rfl rfl rfl
/-- WordEach$Row.readFrom(LWordEach$Tape;)V -/
theorem q_84 {d : Nat} {c : Nat → Nat → Nat → Int32} {l : Nat → Nat → Int64} {x y : Nat} : E (d + 1) 84 [vr 23 0, vr 1 0] (c, l, x, y) = X (d + 1) 84 5 [some (vr 23 0), some (vr 1 0), some (vi 0)] [] (am_ui c 23 0 3 0, l, x, y) := X_run 8 am_c84 [(5, [true, true, true])] rfl rfl rfl rfl
theorem q_84_5 {d : Nat} {c : Nat → Nat → Nat → Int32} {l : Nat → Nat → Int64} {x y : Nat} {v2 : Int32} : X (d + 1) 84 5 [some (vr 23 0), some (vr 1 0), some (vi v2)] [] (c, l, x, y) = am_bi (E d 99 [vr 1 0, vi 0] (c, l, x, y)) (fun r2 g1 => if v2 < r2 then (am_bi (E d 99 [vr 1 0, vi (((2 : Int32) * v2) + 1)] g1) (fun r4 g3 => am_bi (E d 99 [vr 1 0, vi (((2 : Int32) * v2) + 2)] g3) (fun r6 g5 => am_bv (E d 78 [vr 23 0, vi r4, vi r6] g5) (fun g7 => X (d + 1) 84 5 [some (vr 23 0), some (vr 1 0), some (vi (v2 + 1))] [] g7)))) else some (none, g1)) := X_run 26 am_c84 [(5, [true, true, true])] rfl rfl rfl rfl
/-- WordEach$Seats.arrange(I)V -/
theorem q_85 {d : Nat} {c : Nat → Nat → Nat → Int32} {l : Nat → Nat → Int64} {x y : Nat} {a1 : Int32} : E (d + 1) 85 [vr 34 0, vi a1] (c, l, x, y) = X (d + 1) 85 2 [some (vr 34 0), some (vi a1), some (vi 0), none] [] (c, l, x, y) := X_run 5 am_c85 [(2, [true, true, true, false]), (10, [true, true, true, true])] rfl rfl rfl rfl
theorem q_85_2 {d : Nat} {c : Nat → Nat → Nat → Int32} {l : Nat → Nat → Int64} {x y : Nat} {v1 : Int32} {v2 : Int32} : X (d + 1) 85 2 [some (vr 34 0), some (vi v1), some (vi v2), none] [] (c, l, x, y) = if v2 < (c 4 x 12) then X (d + 1) 85 10 [some (vr 34 0), some (vi v1), some (vi v2), some (vi v2)] [] (c, l, x, y) else some (none, c, l, x, y) := X_run 11 am_c85 [(2, [true, true, true, false]), (10, [true, true, true, true])] rfl rfl rfl rfl
theorem q_85_10 {d : Nat} {c : Nat → Nat → Nat → Int32} {l : Nat → Nat → Int64} {x y : Nat} {v1 : Int32} {v2 : Int32} {v3 : Int32} : X (d + 1) 85 10 [some (vr 34 0), some (vi v1), some (vi v2), some (vi v3)] [] (c, l, x, y) = if 0 < v3 then (if (v3 - 1) < 0 ∨ 7 ≤ (v3 - 1).toNatClampNeg then none else (am_bi (E d 86 [vr 34 0, vi v1, vi v2, vi (c 35 0 (v3 - 1).toNatClampNeg)] (c, l, x, y)) (fun r2 g1 => if r2 = 0 then (if v3 < 0 ∨ 7 ≤ v3.toNatClampNeg then none else X (d + 1) 85 2 [some (vr 34 0), some (vi v1), some (vi (v2 + 1)), none] [] (am_ui g1.1 35 0 v3.toNatClampNeg v2, g1.2.1, g1.2.2.1, g1.2.2.2)) else (if (v3 - 1) < 0 ∨ 7 ≤ (v3 - 1).toNatClampNeg then none else (if v3 < 0 ∨ 7 ≤ v3.toNatClampNeg then none else X (d + 1) 85 10 [some (vr 34 0), some (vi v1), some (vi v2), some (vi (v3 + (-1)))] [] (am_ui g1.1 35 0 v3.toNatClampNeg (g1.1 35 0 (v3 - 1).toNatClampNeg), g1.2.1, g1.2.2.1, g1.2.2.2)))))) else (if v3 < 0 ∨ 7 ≤ v3.toNatClampNeg then none else X (d + 1) 85 2 [some (vr 34 0), some (vi v1), some (vi (v2 + 1)), none] [] (am_ui c 35 0 v3.toNatClampNeg v2, l, x, y)) := X_run 28 am_c85 [(2, [true, true, true, false]), (10, [true, true, true, true])] rfl rfl rfl rfl
/-- WordEach$Seats.isAhead(III)Z -/
theorem q_86 {d : Nat} {c : Nat → Nat → Nat → Int32} {l : Nat → Nat → Int64} {x y : Nat} {a1 : Int32} {a2 : Int32} {a3 : Int32} : E (d + 1) 86 [vr 34 0, vi a1, vi a2, vi a3] (c, l, x, y) = if a2 < 0 ∨ 7 ≤ a2.toNatClampNeg then none else (if a3 < 0 ∨ 7 ≤ a3.toNatClampNeg then none else (if a1 = 1 then (if 0 < ((c 18 (a2.toNatClampNeg + x * 7) 3) - (c 18 (a3.toNatClampNeg + x * 7) 3)) then some (some (vi 1), c, l, x, y) else (if a1 = 2 then (if ((c 18 (a2.toNatClampNeg + x * 7) 3) - (c 18 (a3.toNatClampNeg + x * 7) 3)) < 0 then some (some (vi 1), c, l, x, y) else some (some (vi 0), c, l, x, y)) else some (some (vi 0), c, l, x, y))) else (if a1 = 2 then (if ((c 18 (a2.toNatClampNeg + x * 7) 3) - (c 18 (a3.toNatClampNeg + x * 7) 3)) < 0 then some (some (vi 1), c, l, x, y) else some (some (vi 0), c, l, x, y)) else some (some (vi 0), c, l, x, y)))) := X_run 31 am_c86 [] rfl rfl rfl rfl
/-- WordEach$Seats.ruleInOrder()I -/
theorem q_87 {d : Nat} {c : Nat → Nat → Nat → Int32} {l : Nat → Nat → Int64} {x y : Nat} : E (d + 1) 87 [vr 34 0] (c, l, x, y) = X (d + 1) 87 4 [some (vr 34 0), some (vi 32768), some (vi 0)] [] (c, l, x, y) := X_run 7 am_c87 [(4, [true, true, true])] rfl rfl rfl rfl
theorem q_87_4 {d : Nat} {c : Nat → Nat → Nat → Int32} {l : Nat → Nat → Int64} {x y : Nat} {v1 : Int32} {v2 : Int32} : X (d + 1) 87 4 [some (vr 34 0), some (vi v1), some (vi v2)] [] (c, l, x, y) = if v2 < (c 4 x 12) then (if v2 < 0 ∨ 7 ≤ v2.toNatClampNeg then none else (if (c 35 0 v2.toNatClampNeg) < 0 ∨ 7 ≤ (c 35 0 v2.toNatClampNeg).toNatClampNeg then none else (am_bi (E d 40 [vr 20 0, vi v1, vi (c 19 ((c 35 0 v2.toNatClampNeg).toNatClampNeg + x * 7) 0)] (c, l, x, y)) (fun r2 g1 => X (d + 1) 87 4 [some (vr 34 0), some (vi r2), some (vi (v2 + 1))] [] g1)))) else (am_bi (E d 50 [vr 20 0, vi v1] (c, l, x, y)) (fun r4 g3 => some (some (vi r4), g3))) := X_run 28 am_c87 [(4, [true, true, true])] rfl rfl rfl rfl
/-- WordEach$Seats.drawLot()V -/
theorem q_88 {d : Nat} {c : Nat → Nat → Nat → Int32} {l : Nat → Nat → Int64} {x y : Nat} : E (d + 1) 88 [vr 34 0] (c, l, x, y) = am_bv (E d 85 [vr 34 0, vi 0] (c, l, x, y)) (fun g1 => X (d + 1) 88 5 [some (vr 34 0), some (vi 0), none, none, none] [] g1) := X_run 8 am_c88 [(5, [true, true, false, false, false]), (29, [true, true, false, true, true])] rfl rfl rfl rfl
theorem q_88_5 {d : Nat} {c : Nat → Nat → Nat → Int32} {l : Nat → Nat → Int64} {x y : Nat} {v1 : Int32} : X (d + 1) 88 5 [some (vr 34 0), some (vi v1), none, none, none] [] (c, l, x, y) = if v1 < (c 4 x 12) then (am_bi (E d 89 [vr 34 0, vi ((c 4 x 12) - v1)] (c, l, x, y)) (fun r2 g1 => if (v1 + r2) < 0 ∨ 7 ≤ (v1 + r2).toNatClampNeg then none else X (d + 1) 88 29 [some (vr 34 0), some (vi v1), none, some (vi (g1.1 35 0 (v1 + r2).toNatClampNeg)), some (vi (v1 + r2))] [] g1)) else some (none, c, l, x, y) := X_run 27 am_c88 [(5, [true, true, false, false, false]), (29, [true, true, false, true, true])] rfl rfl rfl rfl
theorem q_88_29 {d : Nat} {c : Nat → Nat → Nat → Int32} {l : Nat → Nat → Int64} {x y : Nat} {v1 : Int32} {v3 : Int32} {v4 : Int32} : X (d + 1) 88 29 [some (vr 34 0), some (vi v1), none, some (vi v3), some (vi v4)] [] (c, l, x, y) = if v1 < v4 then (if (v4 - 1) < 0 ∨ 7 ≤ (v4 - 1).toNatClampNeg then none else (if v4 < 0 ∨ 7 ≤ v4.toNatClampNeg then none else X (d + 1) 88 29 [some (vr 34 0), some (vi v1), none, some (vi v3), some (vi (v4 + (-1)))] [] (am_ui c 35 0 v4.toNatClampNeg (c 35 0 (v4 - 1).toNatClampNeg), l, x, y))) else (if v1 < 0 ∨ 7 ≤ v1.toNatClampNeg then none else X (d + 1) 88 5 [some (vr 34 0), some (vi (v1 + 1)), none, none, none] [] (am_ui c 35 0 v1.toNatClampNeg v3, l, x, y)) := X_run 18 am_c88 [(5, [true, true, false, false, false]), (29, [true, true, false, true, true])] rfl rfl rfl rfl
/-- WordEach$Seats.draw(I)I -/
theorem q_89 {d : Nat} {c : Nat → Nat → Nat → Int32} {l : Nat → Nat → Int64} {x y : Nat} {a1 : Int32} : E (d + 1) 89 [vr 34 0, vi a1] (c, l, x, y) = if a1 < 1 then some (some (vi 0), am_ui c 34 0 2 ((((1103515245 : Int64) * (c 34 0 2).toInt64) + 12345) &&& 2147483647).toInt32, l, x, y) else (if a1 = 0 then none else some (some (vi ((((((1103515245 : Int64) * (c 34 0 2).toInt64) + 12345) &&& 2147483647).toInt32 / 64) - (((((1103515245 : Int64) * (c 34 0 2).toInt64) + 12345) &&& 2147483647).toInt32 / 64) / a1 * a1)), am_ui c 34 0 2 ((((1103515245 : Int64) * (c 34 0 2).toInt64) + 12345) &&& 2147483647).toInt32, l, x, y)) := X_run 24 am_c89 [] rfl rfl rfl rfl
/-- WordEach$Tape.put(I)V -/
theorem q_90 {d : Nat} {c : Nat → Nat → Nat → Int32} {l : Nat → Nat → Int64} {x y : Nat} {a1 : Int32} : E (d + 1) 90 [vr 1 0, vi a1] (c, l, x, y) = X (d + 1) 90 2 [some (vr 1 0), some (vi a1), some (vi 24)] [] (c, l, x, y) := X_run 5 am_c90 [(2, [true, true, true])] rfl rfl rfl rfl
theorem q_90_2 {d : Nat} {c : Nat → Nat → Nat → Int32} {l : Nat → Nat → Int64} {x y : Nat} {v1 : Int32} {v2 : Int32} : X (d + 1) 90 2 [some (vr 1 0), some (vi v1), some (vi v2)] [] (c, l, x, y) = if v2 < 0 then some (none, c, l, x, y) else (if (c 1 0 1) < 1600 then (if (c 1 0 1) < 0 ∨ 1600 ≤ (c 1 0 1).toNatClampNeg then none else X (d + 1) 90 2 [some (vr 1 0), some (vi v1), some (vi (v2 + (-8)))] [] (am_ui (am_ui c 2 0 (c 1 0 1).toNatClampNeg (vp_nar .byte ((v1.toUInt32 >>> ((v2 : Int32).toUInt32 &&& Int32.toUInt32 31)).toInt32).toInt8.toInt32)) 1 0 1 ((c 1 0 1) + 1), l, x, y)) else some (none, c, l, x, y)) := X_run 26 am_c90 [(2, [true, true, true])] rfl rfl rfl rfl
/-- WordEach$Tape.rewind()V -/
theorem q_91 {d : Nat} {c : Nat → Nat → Nat → Int32} {l : Nat → Nat → Int64} {x y : Nat} : E (d + 1) 91 [vr 1 0] (c, l, x, y) = am_bv (E d 92 [vr 1 0] (am_ui (am_ui (am_ui (am_ui (am_ui c 1 0 2 0) 1 0 3 0) 1 0 4 (-1)) 1 0 5 0) 1 0 6 (-1), l, x, y)) (fun g1 => some (none, g1)) := X_run 20 am_c91 [] rfl rfl rfl rfl
/-- WordEach$Tape.advance()V -/
theorem q_92 {d : Nat} {c : Nat → Nat → Nat → Int32} {l : Nat → Nat → Int64} {x y : Nat} : E (d + 1) 92 [vr 1 0] (c, l, x, y) = if (c 1 0 4) = 97 then X (d + 1) 92 21 [some (vr 1 0), some (vi 1), some (vi ((c 1 0 2) + (c 1 0 3)))] [] (am_ui c 1 0 2 ((c 1 0 2) + (c 1 0 3)), l, x, y) else (if (c 1 0 4) = 48 then X (d + 1) 92 21 [some (vr 1 0), some (vi 1), some (vi ((c 1 0 2) + (c 1 0 3)))] [] (am_ui c 1 0 2 ((c 1 0 2) + (c 1 0 3)), l, x, y) else X (d + 1) 92 21 [some (vr 1 0), some (vi 0), some (vi ((c 1 0 2) + (c 1 0 3)))] [] (am_ui c 1 0 2 ((c 1 0 2) + (c 1 0 3)), l, x, y)) := X_run 23 am_c92 [(21, [true, true, true]), (72, [true, true, true])] rfl rfl rfl rfl
theorem q_92_21 {d : Nat} {c : Nat → Nat → Nat → Int32} {l : Nat → Nat → Int64} {x y : Nat} {v1 : Int32} {v2 : Int32} : X (d + 1) 92 21 [some (vr 1 0), some (vi v1), some (vi v2)] [] (c, l, x, y) = if (c 1 0 2) < (c 1 0 1) then (if (c 1 0 2) < 0 ∨ 1600 ≤ (c 1 0 2).toNatClampNeg then none else (if (c 2 0 (c 1 0 2).toNatClampNeg) = 32 then X (d + 1) 92 21 [some (vr 1 0), some (vi v1), some (vi v2)] [] (am_ui c 1 0 2 ((c 1 0 2) + 1), l, x, y) else (if (c 1 0 2) < 0 ∨ 1600 ≤ (c 1 0 2).toNatClampNeg then none else (if (c 2 0 (c 1 0 2).toNatClampNeg) = 10 then X (d + 1) 92 21 [some (vr 1 0), some (vi v1), some (vi v2)] [] (am_ui c 1 0 2 ((c 1 0 2) + 1), l, x, y) else (am_bi (E d 93 [vr 1 0, vi (c 1 0 2)] (c, l, x, y)) (fun r2 g1 => if (g1.1 1 0 2) < (g1.1 1 0 1) then (if r2 = 97 then X (d + 1) 92 72 [some (vr 1 0), some (vi v1), some (vi v2)] [] (am_ui (am_ui g1.1 1 0 4 r2) 1 0 3 1, g1.2.1, g1.2.2.1, g1.2.2.2) else (if r2 = 48 then X (d + 1) 92 72 [some (vr 1 0), some (vi v1), some (vi v2)] [] (am_ui (am_ui g1.1 1 0 4 r2) 1 0 3 1, g1.2.1, g1.2.2.1, g1.2.2.2) else some (none, am_ui (am_ui g1.1 1 0 4 r2) 1 0 3 1, g1.2.1, g1.2.2.1, g1.2.2.2))) else (if r2 = 97 then X (d + 1) 92 72 [some (vr 1 0), some (vi v1), some (vi v2)] [] (am_ui (am_ui g1.1 1 0 4 r2) 1 0 3 0, g1.2.1, g1.2.2.1, g1.2.2.2) else (if r2 = 48 then X (d + 1) 92 72 [some (vr 1 0), some (vi v1), some (vi v2)] [] (am_ui (am_ui g1.1 1 0 4 r2) 1 0 3 0, g1.2.1, g1.2.2.1, g1.2.2.2) else some (none, am_ui (am_ui g1.1 1 0 4 r2) 1 0 3 0, g1.2.1, g1.2.2.1, g1.2.2.2))))))))) else (am_bi (E d 93 [vr 1 0, vi (c 1 0 2)] (c, l, x, y)) (fun r4 g3 => if (g3.1 1 0 2) < (g3.1 1 0 1) then (if r4 = 97 then X (d + 1) 92 72 [some (vr 1 0), some (vi v1), some (vi v2)] [] (am_ui (am_ui g3.1 1 0 4 r4) 1 0 3 1, g3.2.1, g3.2.2.1, g3.2.2.2) else (if r4 = 48 then X (d + 1) 92 72 [some (vr 1 0), some (vi v1), some (vi v2)] [] (am_ui (am_ui g3.1 1 0 4 r4) 1 0 3 1, g3.2.1, g3.2.2.1, g3.2.2.2) else some (none, am_ui (am_ui g3.1 1 0 4 r4) 1 0 3 1, g3.2.1, g3.2.2.1, g3.2.2.2))) else (if r4 = 97 then X (d + 1) 92 72 [some (vr 1 0), some (vi v1), some (vi v2)] [] (am_ui (am_ui g3.1 1 0 4 r4) 1 0 3 0, g3.2.1, g3.2.2.1, g3.2.2.2) else (if r4 = 48 then X (d + 1) 92 72 [some (vr 1 0), some (vi v1), some (vi v2)] [] (am_ui (am_ui g3.1 1 0 4 r4) 1 0 3 0, g3.2.1, g3.2.2.1, g3.2.2.2) else some (none, am_ui (am_ui g3.1 1 0 4 r4) 1 0 3 0, g3.2.1, g3.2.2.1, g3.2.2.2))))) := X_run 45 am_c92 [(21, [true, true, true]), (72, [true, true, true])] rfl rfl rfl rfl
theorem q_92_72 {d : Nat} {c : Nat → Nat → Nat → Int32} {l : Nat → Nat → Int64} {x y : Nat} {v1 : Int32} {v2 : Int32} : X (d + 1) 92 72 [some (vr 1 0), some (vi v1), some (vi v2)] [] (c, l, x, y) = if ((c 1 0 2) + (c 1 0 3)) < (c 1 0 1) then (am_bi (E d 93 [vr 1 0, vi ((c 1 0 2) + (c 1 0 3))] (c, l, x, y)) (fun r2 g1 => if r2 = (g1.1 1 0 4) then X (d + 1) 92 72 [some (vr 1 0), some (vi v1), some (vi v2)] [] (am_ui g1.1 1 0 3 ((g1.1 1 0 3) + 1), g1.2.1, g1.2.2.1, g1.2.2.2) else (if v1 = 0 then some (none, g1) else (if (g1.1 1 0 2) = v2 then some (none, am_ui g1.1 1 0 4 0, g1.2.1, g1.2.2.1, g1.2.2.2) else some (none, g1))))) else (if v1 = 0 then some (none, c, l, x, y) else (if (c 1 0 2) = v2 then some (none, am_ui c 1 0 4 0, l, x, y) else some (none, c, l, x, y))) := X_run 30 am_c92 [(21, [true, true, true]), (72, [true, true, true])] rfl rfl rfl rfl
/-- WordEach$Tape.signAt(I)I -/
theorem q_93 {d : Nat} {c : Nat → Nat → Nat → Int32} {l : Nat → Nat → Int64} {x y : Nat} {a1 : Int32} : E (d + 1) 93 [vr 1 0, vi a1] (c, l, x, y) = if a1 < (c 1 0 1) then (if a1 < 0 ∨ 1600 ≤ a1.toNatClampNeg then none else (if ((c 2 0 a1.toNatClampNeg) &&& 255) < 97 then (if ((c 2 0 a1.toNatClampNeg) &&& 255) < 48 then some (some (vi ((c 2 0 a1.toNatClampNeg) &&& 255)), c, l, x, y) else (if 57 < ((c 2 0 a1.toNatClampNeg) &&& 255) then some (some (vi ((c 2 0 a1.toNatClampNeg) &&& 255)), c, l, x, y) else some (some (vi 48), c, l, x, y))) else (if 122 < ((c 2 0 a1.toNatClampNeg) &&& 255) then (if ((c 2 0 a1.toNatClampNeg) &&& 255) < 48 then some (some (vi ((c 2 0 a1.toNatClampNeg) &&& 255)), c, l, x, y) else (if 57 < ((c 2 0 a1.toNatClampNeg) &&& 255) then some (some (vi ((c 2 0 a1.toNatClampNeg) &&& 255)), c, l, x, y) else some (some (vi 48), c, l, x, y))) else some (some (vi 97), c, l, x, y)))) else some (some (vi (-1)), c, l, x, y) := X_run 28 am_c93 [] rfl rfl rfl rfl
/-- WordEach$Tape.listed(Ljava/lang/String;)I -/
theorem q_94 {d : Nat} {c : Nat → Nat → Nat → Int32} {l : Nat → Nat → Int64} {x y : Nat} {t : Nat} : E (d + 1) 94 [vr 1 0, vr 200 t] (c, l, x, y) = if (c 1 0 4) = 97 then X (d + 1) 94 12 [some (vr 1 0), some (vr 200 t), some (vi 0), some (vi 0), some (vi 0), none] [] (c, l, x, y) else some (some (vi (-1)), c, l, x, y) := X_run 13 am_c94 [(12, [true, true, true, true, true, false])] rfl rfl rfl rfl
theorem q_94_12 {d : Nat} {c : Nat → Nat → Nat → Int32} {l : Nat → Nat → Int64} {x y : Nat} {v1 : Nat} {v2 : Int32} {v3 : Int32} {v4 : Int32} : X (d + 1) 94 12 [some (vr 1 0), some (vr 200 v1), some (vi v2), some (vi v3), some (vi v4), none] [] (c, l, x, y) = if v4 < (Int32.ofNat (am_str v1).length) then (if v4 < 0 ∨ (am_str v1).length ≤ v4.toNatClampNeg then none else (if ((am_str v1).getD v4.toNatClampNeg 0) = 32 then (if v3 = (c 1 0 3) then some (some (vi v2), c, l, x, y) else X (d + 1) 94 12 [some (vr 1 0), some (vr 200 v1), some (vi (v2 + 1)), some (vi 0), some (vi (v4 + 1)), none] [] (c, l, x, y)) else (if v3 = (-1) then X (d + 1) 94 12 [some (vr 1 0), some (vr 200 v1), some (vi v2), some (vi (-1)), some (vi (v4 + 1)), none] [] (c, l, x, y) else (if v3 < (c 1 0 3) then (if ((c 1 0 2) + v3) < 0 ∨ 1600 ≤ ((c 1 0 2) + v3).toNatClampNeg then none else (if v4 < 0 ∨ (am_str v1).length ≤ v4.toNatClampNeg then none else (if (c 2 0 ((c 1 0 2) + v3).toNatClampNeg) = ((am_str v1).getD v4.toNatClampNeg 0) then X (d + 1) 94 12 [some (vr 1 0), some (vr 200 v1), some (vi v2), some (vi (v3 + 1)), some (vi (v4 + 1)), none] [] (c, l, x, y) else X (d + 1) 94 12 [some (vr 1 0), some (vr 200 v1), some (vi v2), some (vi (-1)), some (vi (v4 + 1)), none] [] (c, l, x, y)))) else X (d + 1) 94 12 [some (vr 1 0), some (vr 200 v1), some (vi v2), some (vi (-1)), some (vi (v4 + 1)), none] [] (c, l, x, y))))) else (if v3 = (c 1 0 3) then some (some (vi v2), c, l, x, y) else some (some (vi (-1)), c, l, x, y)) := X_run 43 am_c94 [(12, [true, true, true, true, true, false])] rfl rfl rfl rfl
/-- WordEach$Tape.fail(II)V -/
theorem q_95 {d : Nat} {c : Nat → Nat → Nat → Int32} {l : Nat → Nat → Int64} {x y : Nat} {a1 : Int32} {a2 : Int32} : E (d + 1) 95 [vr 1 0, vi a1, vi a2] (c, l, x, y) = if (c 1 0 5) = 0 then some (none, am_ui (am_ui c 1 0 5 a1) 1 0 6 a2, l, x, y) else some (none, c, l, x, y) := X_run 12 am_c95 [] rfl rfl rfl rfl
/-- WordEach$Tape.spelled()I -/
theorem q_96 {d : Nat} {c : Nat → Nat → Nat → Int32} {l : Nat → Nat → Int64} {x y : Nat} : E (d + 1) 96 [vr 1 0] (c, l, x, y) = if (c 1 0 5) = 0 then (if (c 1 0 4) = 97 then (am_bi (E d 94 [vr 1 0, vr 200 0] (c, l, x, y)) (fun r2 g1 => if r2 = (-1) then (if 6 < (g1.1 1 0 3) then (am_bv (E d 95 [vr 1 0, vi 1, vi ((g1.1 1 0 2) + 6)] g1) (fun g3 => some (some (vi 0), g3))) else X (d + 1) 96 38 [some (vr 1 0), some (vi 0), some (vi 0)] [] g1) else (am_bv (E d 95 [vr 1 0, vi 1, vi (g1.1 1 0 2)] g1) (fun g4 => some (some (vi 0), g4))))) else (am_bv (E d 95 [vr 1 0, vi 1, vi (c 1 0 2)] (c, l, x, y)) (fun g5 => some (some (vi 0), g5)))) else some (some (vi 0), c, l, x, y) := X_run 27 am_c96 [(38, [true, true, true])] rfl rfl rfl rfl
theorem q_96_38 {d : Nat} {c : Nat → Nat → Nat → Int32} {l : Nat → Nat → Int64} {x y : Nat} {v1 : Int32} {v2 : Int32} : X (d + 1) 96 38 [some (vr 1 0), some (vi v1), some (vi v2)] [] (c, l, x, y) = if v2 < 6 then (if v2 < (c 1 0 3) then (if ((c 1 0 2) + v2) < 0 ∨ 1600 ≤ ((c 1 0 2) + v2).toNatClampNeg then none else X (d + 1) 96 38 [some (vr 1 0), some (vi ((v1 <<< 5) ||| (((c 2 0 ((c 1 0 2) + v2).toNatClampNeg) - 97) + 1))), some (vi (v2 + 1))] [] (c, l, x, y)) else X (d + 1) 96 38 [some (vr 1 0), some (vi ((v1 <<< 5) ||| 0)), some (vi (v2 + 1))] [] (c, l, x, y)) else some (some (vi v1), c, l, x, y) := X_run 29 am_c96 [(38, [true, true, true])] rfl rfl rfl rfl
/-- WordEach$Tape.takeNumber(I)I -/
theorem q_97 {d : Nat} {c : Nat → Nat → Nat → Int32} {l : Nat → Nat → Int64} {x y : Nat} {a1 : Int32} : E (d + 1) 97 [vr 1 0, vi a1] (c, l, x, y) = if (c 1 0 5) = 0 then (if (c 1 0 4) = 48 then (if 4 < (c 1 0 3) then (am_bv (E d 95 [vr 1 0, vi 1, vi ((c 1 0 2) + 4)] (c, l, x, y)) (fun g1 => some (some (vi (-1)), g1))) else X (d + 1) 97 33 [some (vr 1 0), some (vi a1), some (vi 0), some (vi 0)] [] (c, l, x, y)) else (am_bv (E d 95 [vr 1 0, vi 1, vi (c 1 0 2)] (c, l, x, y)) (fun g2 => some (some (vi (-1)), g2)))) else some (some (vi (-1)), c, l, x, y) := X_run 22 am_c97 [(33, [true, true, true, true])] rfl rfl rfl rfl
theorem q_97_33 {d : Nat} {c : Nat → Nat → Nat → Int32} {l : Nat → Nat → Int64} {x y : Nat} {v1 : Int32} {v2 : Int32} {v3 : Int32} : X (d + 1) 97 33 [some (vr 1 0), some (vi v1), some (vi v2), some (vi v3)] [] (c, l, x, y) = if v3 < (c 1 0 3) then (if ((c 1 0 2) + v3) < 0 ∨ 1600 ≤ ((c 1 0 2) + v3).toNatClampNeg then none else X (d + 1) 97 33 [some (vr 1 0), some (vi v1), some (vi ((((10 : Int32) * v2) + (c 2 0 ((c 1 0 2) + v3).toNatClampNeg)) - 48)), some (vi (v3 + 1))] [] (c, l, x, y)) else (if v1 < v2 then (am_bv (E d 95 [vr 1 0, vi 2, vi (c 1 0 2)] (c, l, x, y)) (fun g1 => some (some (vi (-1)), g1))) else (am_bv (E d 92 [vr 1 0] (c, l, x, y)) (fun g2 => some (some (vi v2), g2)))) := X_run 23 am_c97 [(33, [true, true, true, true])] rfl rfl rfl rfl
/-- WordEach$Tape.take(I)Z -/
theorem q_98 {d : Nat} {c : Nat → Nat → Nat → Int32} {l : Nat → Nat → Int64} {x y : Nat} {a1 : Int32} : E (d + 1) 98 [vr 1 0, vi a1] (c, l, x, y) = if (c 1 0 5) = 0 then (if (c 1 0 4) = a1 then (am_bv (E d 92 [vr 1 0] (c, l, x, y)) (fun g1 => some (some (vi 1), g1))) else (am_bv (E d 95 [vr 1 0, vi 1, vi (c 1 0 2)] (c, l, x, y)) (fun g2 => some (some (vi 0), g2)))) else (am_bv (E d 95 [vr 1 0, vi 1, vi (c 1 0 2)] (c, l, x, y)) (fun g3 => some (some (vi 0), g3))) := X_run 16 am_c98 [] rfl rfl rfl rfl
/-- WordEach$Tape.byteAt(I)I -/
theorem q_99 {d : Nat} {c : Nat → Nat → Nat → Int32} {l : Nat → Nat → Int64} {x y : Nat} {a1 : Int32} : E (d + 1) 99 [vr 1 0, vi a1] (c, l, x, y) = if a1 < 0 then some (some (vi (-1)), c, l, x, y) else (if a1 < (c 1 0 1) then (if a1 < 0 ∨ 1600 ≤ a1.toNatClampNeg then none else some (some (vi ((c 2 0 a1.toNatClampNeg) &&& 255)), c, l, x, y)) else some (some (vi (-1)), c, l, x, y)) := X_run 15 am_c99 [] rfl rfl rfl rfl
end
