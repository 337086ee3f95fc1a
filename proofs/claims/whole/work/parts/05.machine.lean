/-! cuts; one op of the small machine -/
def am_kutss : List (List (List (Nat × List Bool))) := [[[(5, [true, true])], [], [(9, [true, true, false]), (19, [true, true, true])], [(26, [true, true, true, true, true])], [(13, [true, true, true])], [(4, [true, true, true])], [], [(12, [true, true, true, true])], [(7, [true, true, true, true, true, false, false, false]), (46, [true, true, true, true, true, true, true, false])], [], [(35, [true, true, true, true, true, true, true])], [(9, [true, true, true, true, true, true, true])], [], [(2, [true, true, true])], [(2, [true, true, true])], [(16, [true, true, true]), (31, [true, true, true])], [], [(4, [true, true, true, true])]], [[(4, [true, true, true, true])], [], [], [], [(2, [true, true, true, true, true, false])], [], [(8, [true, true])], [(14, [true, true])], [], [], [], [(14, [true, true, true, true, false]), (24, [true, true, true, true, false]), (73, [true, true, true, false, false])], [(26, [true, true, true, false, false])], [], [(46, [true, true, true, false, false]), (56, [true, true, true, false, false])], [], [], [(12, [true, true, true]), (37, [true, true, false])]], [[(2, [true, true])], [(11, [true, false, true, false, false]), (29, [true, false, true, false, true])], [], [(6, [true, true, true, true, true, true]), (23, [true, true, true, true, true, true])], [], [], [(33, [false, true, true, false, true, true, false])], [(40, [true, true, false, true, true, false, false, false]), (57, [false, true, false, false, false, true, false, false])], [], [], [], [(8, [true, true, true, true, true, true, true, true, true]), (29, [true, true, true, true, true, true, true, true, true])], [], [(4, [true, true, true, true, true, true])], [], [], [], [(2, [true, true])]], [[(31, [true, false, false, true]), (57, [true, false, false, true])], [(3, [true])], [(28, [true, true, true, true, true]), (54, [true, true, true, true, true])], [(15, [true, true, true, true, true, true, false])], [(31, [true, true, true, true])], [(33, [true, false, false])], [(5, [true, true, true])], [(5, [true, true, true])], [(21, [true, true, false, false, false, false]), (55, [true, false, true, true, false, false])], [], [], [(5, [true, true, true, false, false]), (30, [true, true, true, false, false])], [(5, [true, true, true, false, false]), (30, [true, true, true, false, false])], [], [(12, [true, true, false, false]), (45, [true, false, true, false])], [], [], []], [[], [], [], [(6, [true, true, true, true, true, true])], [(15, [true, true, true, true, false, true, true, true])], [(2, [true, true, true])], [], [(4, [true, true, true])], [(9, [true, true, true, false]), (34, [true, false, true, true])], [], [(21, [true, true, true, true, true])], [(4, [true, true, true, true, true, false])], [(5, [true, true, true])], [(2, [true, true, true, false]), (10, [true, true, true, true])], [], [(4, [true, true, true])], [(5, [true, true, false, false, false]), (29, [true, true, false, true, true])], []], [[(2, [true, true, true])], [], [(21, [true, true, true]), (47, [true, true, true]), (72, [true, true, true])], [], [(12, [true, true, true, true, true, false]), (42, [true, true, true, true, true, false])], [], [(38, [true, true, true])], [(33, [true, true, true, true])], [], [], [], [], [], [], [(4, [true, true, true, true, true])], [], [], []], [[], [], [], [], [], [], [], [], [], [], [], [], [], [], [], [], [(21, [true, true, true, true, true, true, true, false, false]), (30, [true, true, true, true, true, true, true, true, true])], [(4, [true, true, true, true, true])]], [[(10, [true, true, true, true, true, false]), (17, [true, true, true, true, true, true])], [], [], [], [(15, [true, true, true, true, true, false])], [(33, [true, false, true, true, true])], [(2, [true, true])], [], [], [], [(17, [true, true, true, true, true])], [], [], [], [], [], [], []], [[], [], [], [(18, [true, true, true, true, true, true, true, false]), (42, [true, true, true, true, true, true, true, false])], [], [(34, [true, true]), (44, [true, false])], [(0, [true])], [(117, [true, false])], [], [], [(17, [true, true, true, false]), (40, [true, true, false, true])], [], [], [], [], [(30, [true, true, false])], [(33, [true, false]), (69, [true, false])], [(2, [true, true, false, true])]], [[(2, [true, true, false, true])], [(18, [true, false, true, true, true, false, false]), (45, [true, false, true, true, true, false, true]), (64, [true, false, true, true, true, false, false]), (79, [true, false, true, false, false, true, false])], [], [], [(47, [true, false, false])], [(27, [true, false, false, false, true])], [(49, [true, false, true, true, false, true, false, false]), (64, [true, false, true, true, false, true, true, true]), (85, [true, false, true, true, false, true, true, true])], [(26, [true, true, true, true, true]), (70, [true, true, true, true, true])], [], [], [], [(16, [true, false, true, true, false])], [], [], [(2, [true, true]), (19, [true, true]), (46, [true, true]), (63, [true, true]), (80, [true, true]), (97, [true, true]), (114, [true, true])], [], [], []], [[], [(16, [true, true, false, true, true]), (32, [true, true, false, true, true])], [], [], [], [], [(2, [true, true, true, true])], [], [], [(6, [false, false, true, true, false, true, true, false]), (25, [false, false, true, true, false, false, true, false])], [], [], [(2, [true, true, true])], [], [], [], [], []], [[], [(21, [true, true, true])], [], [], [(5, [true, true, true])], [], [(5, [true, true, false, false]), (51, [true, true, true, false])], [(2, [true, true, true, true, false, false, false, false]), (18, [true, true, true, true, true, false, false, false]), (46, [true, true, true, true, true, true, true, true])], [(13, [true, true, false, true, true]), (45, [true, true, false, true, true])], [], [], [], [(7, [true, true, true, true])], [(29, [true, false, true, true, false, false]), (41, [true, false, false, true, false, false])], [(2, [true, true, true, true, true])], [], [], []], [[], [], [], [], [(11, [true, false, true, true, true])], [(26, [true, true, true, true, true, true]), (38, [true, false, false, false, true, true])], [(7, [true, true, true, true, true, true]), (17, [true, true, true, true, true, true]), (40, [true, true, true, true, true, true])], [(29, [true, true, false, true, true])], [], [], [(5, [true, true, true])], [(2, [true, true, true, true])], [(8, [true, false, true])], [(2, [true, true, true, true, false]), (7, [true, true, true, true, true])], [(3, [true, true, true, true])], [(19, [true, true, true, true, true, true, true, false, false]), (27, [true, true, true, true, true, true, true, true, true]), (67, [false, false, false, false, false, false, true, true, false])], [], [(7, [true, true, true, true, true, false]), (13, [true, true, true, true, true, true])]], [[], [], [], [(20, [true, true, true]), (41, [true, true, true]), (63, [true, true, true]), (80, [true, true, true]), (90, [true, true, true]), (123, [true, true, true])], [], [], [(30, [true, true, true, false])], [(12, [true, true, true, true, false])], [(25, [true, true, true, true, false])], [(12, [true, true, true, true])], [], [(2, [true, true, true, false, false]), (10, [true, true, true, true, true])], [], [(5, [true, true])], [], [(12, [true, true, true, true])], [(4, [true, true, true, false, false]), (17, [true, true, true, true, true])], []], [[(12, [true, true, true, true])], [(4, [true, true, true])], [(4, [true, false, true, true])], [(5, [true, true, true])], [(29, [true, true, true, true, true, true, true])], [(16, [true, true, true, true, true])], [(48, [true, true, false]), (60, [true, true, false]), (86, [true, true, true])], [(36, [true, false])], [(2, [true, true, false]), (55, [true, false, false])], [], [(33, [true, true])], [], [(9, [true, true, true]), (27, [true, true, false])], [(2, [true, true, false, false, false, false]), (40, [true, true, false, false, false, false]), (51, [true, true, false, false, true, false]), (94, [true, false, false, false, false, false])], [], [], [], [(0, [true])]], [[], [(0, [true, false]), (19, [true, false]), (61, [true, false]), (69, [true, false]), (82, [true, true]), (115, [true, false]), (128, [true, true]), (169, [true, false])], [(5, [true, true])], [], [(0, [true])], [], [(0, [true])], [(0, [true]), (16, [true]), (38, [true]), (43, [true]), (69, [true])], [(2, [true, true])], [(5, [true, true, true, false]), (92, [true, true, true, false])], [], [], [(4, [true, true, false, true, true, true])], [], [], [], [], [(9, [true, true, true, false, true, false]), (20, [true, true, true, false, true, true]), (40, [true, true, true, false, false, false]), (49, [true, true, true, false, false, false])]], [[(8, [true, true])], [(4, [true, true, true, true])], [], [(25, [true, true, true])], [(50, [true, true, true, true])], [], [], [], [], [], [], []]]
def am_kuts (m : Nat) : List (Nat × List Bool) := match am_nth am_kutss (m / 18) with
  | none => []
  | some g => match am_nth g (m % 18) with
    | none => []
    | some c => c
/-- of a family: its type, its length; by halves, so that a look costs little -/
def af (k : Nat) : Nat × Nat := (bif Nat.blt k 56 then (bif Nat.blt k 28 then (bif Nat.blt k 14 then (bif Nat.blt k 7 then (bif Nat.blt k 3 then (bif Nat.blt k 1 then (bif Nat.beq k 0 then (11, 11) else (99, 0)) else (bif Nat.blt k 2 then (bif Nat.beq k 1 then (9, 7) else (99, 0)) else (bif Nat.beq k 2 then (22, 1600) else (99, 0)))) else (bif Nat.blt k 5 then (bif Nat.blt k 4 then (bif Nat.beq k 3 then (3, 2) else (99, 0)) else (bif Nat.beq k 4 then (2, 16) else (99, 0))) else (bif Nat.blt k 6 then (bif Nat.beq k 5 then (20, 20) else (99, 0)) else (bif Nat.beq k 6 then (20, 20) else (99, 0))))) else (bif Nat.blt k 10 then (bif Nat.blt k 8 then (bif Nat.beq k 7 then (26, 6) else (99, 0)) else (bif Nat.blt k 9 then (bif Nat.beq k 8 then (20, 3) else (99, 0)) else (bif Nat.beq k 9 then (20, 6) else (99, 0)))) else (bif Nat.blt k 12 then (bif Nat.blt k 11 then (bif Nat.beq k 10 then (26, 6) else (99, 0)) else (bif Nat.beq k 11 then (20, 3) else (99, 0))) else (bif Nat.blt k 13 then (bif Nat.beq k 12 then (26, 16) else (99, 0)) else (bif Nat.beq k 13 then (20, 3) else (99, 0)))))) else (bif Nat.blt k 21 then (bif Nat.blt k 17 then (bif Nat.blt k 15 then (bif Nat.beq k 14 then (25, 7) else (99, 0)) else (bif Nat.blt k 16 then (bif Nat.beq k 15 then (26, 8) else (99, 0)) else (bif Nat.beq k 16 then (20, 8) else (99, 0)))) else (bif Nat.blt k 19 then (bif Nat.blt k 18 then (bif Nat.beq k 17 then (20, 8) else (99, 0)) else (bif Nat.beq k 18 then (10, 5) else (99, 0))) else (bif Nat.blt k 20 then (bif Nat.beq k 19 then (20, 4) else (99, 0)) else (bif Nat.beq k 20 then (4, 4) else (99, 0))))) else (bif Nat.blt k 24 then (bif Nat.blt k 22 then (bif Nat.beq k 21 then (20, 16) else (99, 0)) else (bif Nat.blt k 23 then (bif Nat.beq k 22 then (23, 16) else (99, 0)) else (bif Nat.beq k 23 then (7, 5) else (99, 0)))) else (bif Nat.blt k 26 then (bif Nat.blt k 25 then (bif Nat.beq k 24 then (20, 7) else (99, 0)) else (bif Nat.beq k 25 then (20, 7) else (99, 0))) else (bif Nat.blt k 27 then (bif Nat.beq k 26 then (20, 17) else (99, 0)) else (bif Nat.beq k 27 then (5, 8) else (99, 0))))))) else (bif Nat.blt k 42 then (bif Nat.blt k 35 then (bif Nat.blt k 31 then (bif Nat.blt k 29 then (bif Nat.beq k 28 then (20, 6) else (99, 0)) else (bif Nat.blt k 30 then (bif Nat.beq k 29 then (26, 6) else (99, 0)) else (bif Nat.beq k 30 then (20, 4) else (99, 0)))) else (bif Nat.blt k 33 then (bif Nat.blt k 32 then (bif Nat.beq k 31 then (26, 6) else (99, 0)) else (bif Nat.beq k 32 then (20, 4) else (99, 0))) else (bif Nat.blt k 34 then (bif Nat.beq k 33 then (1, 4) else (99, 0)) else (bif Nat.beq k 34 then (8, 3) else (99, 0))))) else (bif Nat.blt k 38 then (bif Nat.blt k 36 then (bif Nat.beq k 35 then (20, 7) else (99, 0)) else (bif Nat.blt k 37 then (bif Nat.beq k 36 then (0, 7) else (99, 0)) else (bif Nat.beq k 37 then (20, 3) else (99, 0)))) else (bif Nat.blt k 40 then (bif Nat.blt k 39 then (bif Nat.beq k 38 then (26, 3) else (99, 0)) else (bif Nat.beq k 39 then (20, 28) else (99, 0))) else (bif Nat.blt k 41 then (bif Nat.beq k 40 then (26, 3) else (99, 0)) else (bif Nat.beq k 41 then (20, 7) else (99, 0)))))) else (bif Nat.blt k 49 then (bif Nat.blt k 45 then (bif Nat.blt k 43 then (bif Nat.beq k 42 then (20, 7) else (99, 0)) else (bif Nat.blt k 44 then (bif Nat.beq k 43 then (23, 7) else (99, 0)) else (bif Nat.beq k 44 then (6, 6) else (99, 0)))) else (bif Nat.blt k 47 then (bif Nat.blt k 46 then (bif Nat.beq k 45 then (20, 8) else (99, 0)) else (bif Nat.beq k 46 then (20, 6) else (99, 0))) else (bif Nat.blt k 48 then (bif Nat.beq k 47 then (20, 8) else (99, 0)) else (bif Nat.beq k 48 then (12, 89) else (99, 0))))) else (bif Nat.blt k 52 then (bif Nat.blt k 50 then (bif Nat.beq k 49 then (20, 1600) else (99, 0)) else (bif Nat.blt k 51 then (bif Nat.beq k 50 then (20, 6) else (99, 0)) else (bif Nat.beq k 51 then (24, 4) else (99, 0)))) else (bif Nat.blt k 54 then (bif Nat.blt k 53 then (bif Nat.beq k 52 then (24, 4) else (99, 0)) else (bif Nat.beq k 53 then (24, 4) else (99, 0))) else (bif Nat.blt k 55 then (bif Nat.beq k 54 then (24, 4) else (99, 0)) else (bif Nat.beq k 55 then (24, 6) else (99, 0)))))))) else (bif Nat.blt k 84 then (bif Nat.blt k 70 then (bif Nat.blt k 63 then (bif Nat.blt k 59 then (bif Nat.blt k 57 then (bif Nat.beq k 56 then (24, 5) else (99, 0)) else (bif Nat.blt k 58 then (bif Nat.beq k 57 then (24, 4) else (99, 0)) else (bif Nat.beq k 58 then (24, 3) else (99, 0)))) else (bif Nat.blt k 61 then (bif Nat.blt k 60 then (bif Nat.beq k 59 then (24, 3) else (99, 0)) else (bif Nat.beq k 60 then (24, 4) else (99, 0))) else (bif Nat.blt k 62 then (bif Nat.beq k 61 then (24, 4) else (99, 0)) else (bif Nat.beq k 62 then (24, 7) else (99, 0))))) else (bif Nat.blt k 66 then (bif Nat.blt k 64 then (bif Nat.beq k 63 then (24, 3) else (99, 0)) else (bif Nat.blt k 65 then (bif Nat.beq k 64 then (24, 4) else (99, 0)) else (bif Nat.beq k 65 then (24, 4) else (99, 0)))) else (bif Nat.blt k 68 then (bif Nat.blt k 67 then (bif Nat.beq k 66 then (24, 7) else (99, 0)) else (bif Nat.beq k 67 then (24, 4) else (99, 0))) else (bif Nat.blt k 69 then (bif Nat.beq k 68 then (20, 10) else (99, 0)) else (bif Nat.beq k 69 then (21, 40) else (99, 0)))))) else (bif Nat.blt k 77 then (bif Nat.blt k 73 then (bif Nat.blt k 71 then (bif Nat.beq k 70 then (20, 40) else (99, 0)) else (bif Nat.blt k 72 then (bif Nat.beq k 71 then (21, 14) else (99, 0)) else (bif Nat.beq k 72 then (20, 36) else (99, 0)))) else (bif Nat.blt k 75 then (bif Nat.blt k 74 then (bif Nat.beq k 73 then (20, 96) else (99, 0)) else (bif Nat.beq k 74 then (20, 98) else (99, 0))) else (bif Nat.blt k 76 then (bif Nat.beq k 75 then (20, 144) else (99, 0)) else (bif Nat.beq k 76 then (20, 4) else (99, 0))))) else (bif Nat.blt k 80 then (bif Nat.blt k 78 then (bif Nat.beq k 77 then (20, 8) else (99, 0)) else (bif Nat.blt k 79 then (bif Nat.beq k 78 then (20, 8) else (99, 0)) else (bif Nat.beq k 79 then (20, 16) else (99, 0)))) else (bif Nat.blt k 82 then (bif Nat.blt k 81 then (bif Nat.beq k 80 then (20, 16) else (99, 0)) else (bif Nat.beq k 81 then (20, 16) else (99, 0))) else (bif Nat.blt k 83 then (bif Nat.beq k 82 then (20, 96) else (99, 0)) else (bif Nat.beq k 83 then (20, 3) else (99, 0))))))) else (bif Nat.blt k 98 then (bif Nat.blt k 91 then (bif Nat.blt k 87 then (bif Nat.blt k 85 then (bif Nat.beq k 84 then (20, 5) else (99, 0)) else (bif Nat.blt k 86 then (bif Nat.beq k 85 then (20, 3) else (99, 0)) else (bif Nat.beq k 86 then (20, 3) else (99, 0)))) else (bif Nat.blt k 89 then (bif Nat.blt k 88 then (bif Nat.beq k 87 then (20, 3) else (99, 0)) else (bif Nat.beq k 88 then (20, 7) else (99, 0))) else (bif Nat.blt k 90 then (bif Nat.beq k 89 then (20, 7) else (99, 0)) else (bif Nat.beq k 90 then (24, 5) else (99, 0))))) else (bif Nat.blt k 94 then (bif Nat.blt k 92 then (bif Nat.beq k 91 then (24, 4) else (99, 0)) else (bif Nat.blt k 93 then (bif Nat.beq k 92 then (24, 5) else (99, 0)) else (bif Nat.beq k 93 then (24, 5) else (99, 0)))) else (bif Nat.blt k 96 then (bif Nat.blt k 95 then (bif Nat.beq k 94 then (24, 4) else (99, 0)) else (bif Nat.beq k 95 then (24, 5) else (99, 0))) else (bif Nat.blt k 97 then (bif Nat.beq k 96 then (24, 3) else (99, 0)) else (bif Nat.beq k 97 then (24, 3) else (99, 0)))))) else (bif Nat.blt k 105 then (bif Nat.blt k 101 then (bif Nat.blt k 99 then (bif Nat.beq k 98 then (24, 2) else (99, 0)) else (bif Nat.blt k 100 then (bif Nat.beq k 99 then (24, 3) else (99, 0)) else (bif Nat.beq k 100 then (24, 3) else (99, 0)))) else (bif Nat.blt k 103 then (bif Nat.blt k 102 then (bif Nat.beq k 101 then (24, 3) else (99, 0)) else (bif Nat.beq k 102 then (24, 6) else (99, 0))) else (bif Nat.blt k 104 then (bif Nat.beq k 103 then (24, 5) else (99, 0)) else (bif Nat.beq k 104 then (24, 6) else (99, 0))))) else (bif Nat.blt k 108 then (bif Nat.blt k 106 then (bif Nat.beq k 105 then (24, 4) else (99, 0)) else (bif Nat.blt k 107 then (bif Nat.beq k 106 then (24, 2) else (99, 0)) else (bif Nat.beq k 107 then (24, 3) else (99, 0)))) else (bif Nat.blt k 110 then (bif Nat.blt k 109 then (bif Nat.beq k 108 then (20, 1700) else (99, 0)) else (bif Nat.beq k 109 then (20, 1700) else (99, 0))) else (bif Nat.blt k 111 then (bif Nat.beq k 110 then (21, 1700) else (99, 0)) else (bif Nat.beq k 111 then (20, 17) else (99, 0)))))))))
def art0 (q : Nat) : Option (Nat × Nat) := (bif Nat.blt q 6160 then (bif Nat.blt q 2944 then (bif Nat.blt q 385 then (bif Nat.blt q 6 then (bif Nat.blt q 3 then (bif Nat.blt q 1 then (bif Nat.beq q 0 then some (1, 1) else none) else (bif Nat.blt q 2 then (bif Nat.beq q 1 then some (3, 1) else none) else (bif Nat.beq q 2 then some (20, 1) else none))) else (bif Nat.blt q 4 then (bif Nat.beq q 3 then some (23, 1) else none) else (bif Nat.blt q 5 then (bif Nat.beq q 4 then some (27, 1) else none) else (bif Nat.beq q 5 then some (33, 1) else none)))) else (bif Nat.blt q 9 then (bif Nat.blt q 7 then (bif Nat.beq q 6 then some (34, 1) else none) else (bif Nat.blt q 8 then (bif Nat.beq q 7 then some (36, 1) else none) else (bif Nat.beq q 8 then some (44, 1) else none))) else (bif Nat.blt q 128 then (bif Nat.blt q 10 then (bif Nat.beq q 9 then some (46, 1) else none) else (bif Nat.beq q 10 then some (47, 1) else none)) else (bif Nat.blt q 384 then (bif Nat.beq q 128 then some (2, 1) else none) else (bif Nat.beq q 384 then some (1, 1) else none))))) else (bif Nat.blt q 518 then (bif Nat.blt q 514 then (bif Nat.blt q 512 then (bif Nat.beq q 385 then some (4, 3) else none) else (bif Nat.blt q 513 then (bif Nat.beq q 512 then some (5, 0) else none) else (bif Nat.beq q 513 then some (6, 0) else none))) else (bif Nat.blt q 516 then (bif Nat.blt q 515 then (bif Nat.beq q 514 then some (7, 0) else none) else (bif Nat.beq q 515 then some (9, 0) else none)) else (bif Nat.blt q 517 then (bif Nat.beq q 516 then some (10, 0) else none) else (bif Nat.beq q 517 then some (12, 0) else none)))) else (bif Nat.blt q 2304 then (bif Nat.blt q 519 then (bif Nat.beq q 518 then some (14, 0) else none) else (bif Nat.blt q 520 then (bif Nat.beq q 519 then some (15, 0) else none) else (bif Nat.beq q 520 then some (17, 0) else none))) else (bif Nat.blt q 2561 then (bif Nat.blt q 2560 then (bif Nat.beq q 2304 then some (19, 0) else none) else (bif Nat.beq q 2560 then some (21, 1) else none)) else (bif Nat.blt q 2562 then (bif Nat.beq q 2561 then some (22, 1) else none) else (bif Nat.beq q 2562 then some (4, 2) else none)))))) else (bif Nat.blt q 4611 then (bif Nat.blt q 3459 then (bif Nat.blt q 3456 then (bif Nat.blt q 2945 then (bif Nat.beq q 2944 then some (24, 1) else none) else (bif Nat.blt q 2946 then (bif Nat.beq q 2945 then some (25, 1) else none) else (bif Nat.beq q 2946 then some (26, 1) else none))) else (bif Nat.blt q 3457 then (bif Nat.beq q 3456 then some (20, 1) else none) else (bif Nat.blt q 3458 then (bif Nat.beq q 3457 then some (28, 1) else none) else (bif Nat.beq q 3458 then some (29, 1) else none)))) else (bif Nat.blt q 4353 then (bif Nat.blt q 4224 then (bif Nat.beq q 3459 then some (31, 1) else none) else (bif Nat.blt q 4352 then (bif Nat.beq q 4224 then some (20, 1) else none) else (bif Nat.beq q 4352 then some (20, 1) else none))) else (bif Nat.blt q 4609 then (bif Nat.blt q 4608 then (bif Nat.beq q 4353 then some (35, 1) else none) else (bif Nat.beq q 4608 then some (20, 1) else none)) else (bif Nat.blt q 4610 then (bif Nat.beq q 4609 then some (37, 1) else none) else (bif Nat.beq q 4610 then some (38, 1) else none))))) else (bif Nat.blt q 6153 then (bif Nat.blt q 5632 then (bif Nat.blt q 4612 then (bif Nat.beq q 4611 then some (40, 1) else none) else (bif Nat.blt q 4613 then (bif Nat.beq q 4612 then some (42, 1) else none) else (bif Nat.beq q 4613 then some (43, 1) else none))) else (bif Nat.blt q 5634 then (bif Nat.blt q 5633 then (bif Nat.beq q 5632 then some (1, 1) else none) else (bif Nat.beq q 5633 then some (20, 1) else none)) else (bif Nat.blt q 6144 then (bif Nat.beq q 5634 then some (45, 1) else none) else (bif Nat.beq q 6144 then some (49, 1) else none)))) else (bif Nat.blt q 6156 then (bif Nat.blt q 6154 then (bif Nat.beq q 6153 then some (50, 1) else none) else (bif Nat.blt q 6155 then (bif Nat.beq q 6154 then some (51, 1) else none) else (bif Nat.beq q 6155 then some (52, 1) else none))) else (bif Nat.blt q 6158 then (bif Nat.blt q 6157 then (bif Nat.beq q 6156 then some (53, 1) else none) else (bif Nat.beq q 6157 then some (54, 1) else none)) else (bif Nat.blt q 6159 then (bif Nat.beq q 6158 then some (55, 1) else none) else (bif Nat.beq q 6159 then some (56, 1) else none))))))) else (bif Nat.blt q 6196 then (bif Nat.blt q 6174 then (bif Nat.blt q 6166 then (bif Nat.blt q 6163 then (bif Nat.blt q 6161 then (bif Nat.beq q 6160 then some (57, 1) else none) else (bif Nat.blt q 6162 then (bif Nat.beq q 6161 then some (58, 1) else none) else (bif Nat.beq q 6162 then some (59, 1) else none))) else (bif Nat.blt q 6164 then (bif Nat.beq q 6163 then some (60, 1) else none) else (bif Nat.blt q 6165 then (bif Nat.beq q 6164 then some (61, 1) else none) else (bif Nat.beq q 6165 then some (62, 1) else none)))) else (bif Nat.blt q 6169 then (bif Nat.blt q 6167 then (bif Nat.beq q 6166 then some (63, 1) else none) else (bif Nat.blt q 6168 then (bif Nat.beq q 6167 then some (64, 1) else none) else (bif Nat.beq q 6168 then some (65, 1) else none))) else (bif Nat.blt q 6172 then (bif Nat.blt q 6170 then (bif Nat.beq q 6169 then some (66, 1) else none) else (bif Nat.beq q 6170 then some (67, 1) else none)) else (bif Nat.blt q 6173 then (bif Nat.beq q 6172 then some (68, 1) else none) else (bif Nat.beq q 6173 then some (69, 1) else none))))) else (bif Nat.blt q 6184 then (bif Nat.blt q 6177 then (bif Nat.blt q 6175 then (bif Nat.beq q 6174 then some (70, 1) else none) else (bif Nat.blt q 6176 then (bif Nat.beq q 6175 then some (71, 1) else none) else (bif Nat.beq q 6176 then some (72, 1) else none))) else (bif Nat.blt q 6179 then (bif Nat.blt q 6178 then (bif Nat.beq q 6177 then some (73, 1) else none) else (bif Nat.beq q 6178 then some (74, 1) else none)) else (bif Nat.blt q 6180 then (bif Nat.beq q 6179 then some (75, 1) else none) else (bif Nat.beq q 6180 then some (76, 1) else none)))) else (bif Nat.blt q 6189 then (bif Nat.blt q 6185 then (bif Nat.beq q 6184 then some (77, 1) else none) else (bif Nat.blt q 6187 then (bif Nat.beq q 6185 then some (78, 1) else none) else (bif Nat.beq q 6187 then some (79, 1) else none))) else (bif Nat.blt q 6193 then (bif Nat.blt q 6190 then (bif Nat.beq q 6189 then some (80, 1) else none) else (bif Nat.beq q 6190 then some (81, 1) else none)) else (bif Nat.blt q 6195 then (bif Nat.beq q 6193 then some (82, 1) else none) else (bif Nat.beq q 6195 then some (83, 1) else none)))))) else (bif Nat.blt q 6211 then (bif Nat.blt q 6204 then (bif Nat.blt q 6199 then (bif Nat.blt q 6197 then (bif Nat.beq q 6196 then some (84, 1) else none) else (bif Nat.blt q 6198 then (bif Nat.beq q 6197 then some (85, 1) else none) else (bif Nat.beq q 6198 then some (86, 1) else none))) else (bif Nat.blt q 6202 then (bif Nat.blt q 6200 then (bif Nat.beq q 6199 then some (87, 1) else none) else (bif Nat.beq q 6200 then some (88, 1) else none)) else (bif Nat.blt q 6203 then (bif Nat.beq q 6202 then some (89, 1) else none) else (bif Nat.beq q 6203 then some (90, 1) else none)))) else (bif Nat.blt q 6207 then (bif Nat.blt q 6205 then (bif Nat.beq q 6204 then some (91, 1) else none) else (bif Nat.blt q 6206 then (bif Nat.beq q 6205 then some (92, 1) else none) else (bif Nat.beq q 6206 then some (93, 1) else none))) else (bif Nat.blt q 6209 then (bif Nat.blt q 6208 then (bif Nat.beq q 6207 then some (94, 1) else none) else (bif Nat.beq q 6208 then some (95, 1) else none)) else (bif Nat.blt q 6210 then (bif Nat.beq q 6209 then some (96, 1) else none) else (bif Nat.beq q 6210 then some (97, 1) else none))))) else (bif Nat.blt q 6218 then (bif Nat.blt q 6214 then (bif Nat.blt q 6212 then (bif Nat.beq q 6211 then some (98, 1) else none) else (bif Nat.blt q 6213 then (bif Nat.beq q 6212 then some (99, 1) else none) else (bif Nat.beq q 6213 then some (100, 1) else none))) else (bif Nat.blt q 6216 then (bif Nat.blt q 6215 then (bif Nat.beq q 6214 then some (101, 1) else none) else (bif Nat.beq q 6215 then some (102, 1) else none)) else (bif Nat.blt q 6217 then (bif Nat.beq q 6216 then some (103, 1) else none) else (bif Nat.beq q 6217 then some (104, 1) else none)))) else (bif Nat.blt q 6221 then (bif Nat.blt q 6219 then (bif Nat.beq q 6218 then some (105, 1) else none) else (bif Nat.blt q 6220 then (bif Nat.beq q 6219 then some (106, 1) else none) else (bif Nat.beq q 6220 then some (107, 1) else none))) else (bif Nat.blt q 6227 then (bif Nat.blt q 6223 then (bif Nat.beq q 6221 then some (108, 1) else none) else (bif Nat.beq q 6223 then some (109, 1) else none)) else (bif Nat.blt q 6231 then (bif Nat.beq q 6227 then some (110, 1) else none) else (bif Nat.beq q 6231 then some (111, 1) else none))))))))
def art (k s : Nat) : Option (Nat × Nat) := bif Nat.blt s 128 then art0 (k * 128 + s) else none
/-- what a field of references holds -/
def ar (k s i x y : Nat) : Option (Nat × Nat) := match art k s with
  | some (k2, 0) => some (k2, i)
  | some (k2, 1) => some (k2, 0)
  | some (k2, 2) => some (k2, x)
  | some (k2, 3) => some (k2, y)
  | _ => none
def aet (k : Nat) : Option (Nat × Nat) := (bif Nat.blt k 15 then (bif Nat.blt k 12 then (bif Nat.blt k 10 then (bif Nat.beq k 7 then some (8, 6) else none) else (bif Nat.beq k 10 then some (11, 6) else none)) else (bif Nat.blt k 14 then (bif Nat.beq k 12 then some (13, 16) else none) else (bif Nat.beq k 14 then some (18, 7) else none))) else (bif Nat.blt k 31 then (bif Nat.blt k 29 then (bif Nat.beq k 15 then some (16, 8) else none) else (bif Nat.beq k 29 then some (30, 6) else none)) else (bif Nat.blt k 38 then (bif Nat.beq k 31 then some (32, 6) else none) else (bif Nat.blt k 40 then (bif Nat.beq k 38 then some (39, 3) else none) else (bif Nat.beq k 40 then some (41, 3) else none)))))
/-- what an array of references holds -/
def ae (k i j : Nat) : Option (Nat × Nat) := match aet k with
  | some (k2, n) => some (k2, j + i * n)
  | _ => none
def am_ui (c : Nat → Nat → Nat → Int32) (k i j : Nat) (v : Int32) : Nat → Nat → Nat → Int32 := fun k2 i2 j2 => if k2 = k ∧ i2 = i ∧ j2 = j then v else c k2 i2 j2
def am_ul (l : Nat → Nat → Int64) (k j : Nat) (v : Int64) : Nat → Nat → Int64 := fun k2 j2 => if k2 = k ∧ j2 = j then v else l k2 j2
def am_ld : ml → Nat → Option mv
  | [], _ => none
  | v :: _, 0 => v
  | _ :: l, n + 1 => am_ld l n
def am_set : ml → Nat → Option mv → ml
  | [], _, _ => []
  | _ :: l, 0, v => v :: l
  | a :: l, n + 1, v => a :: am_set l n v
/-- the place ahead: a long there is no more -/
def am_kill : ml → Nat → ml
  | ls, 0 => ls
  | ls, n + 1 => match am_ld ls n with
    | some (.inr (.inl _)) => am_set ls n none
    | _ => ls
def am_s1 (ls : ml) (a : Nat) (v : mv) : ml := am_set (am_kill ls a) a (some v)
def am_s2 (ls : ml) (a : Nat) (v : mv) : ml := am_set (am_set (am_kill ls a) a (some v)) (a + 1) none
def am_mask : List Bool → ml → ml
  | b :: bs, v :: vs => (match b with | true => v | false => none) :: am_mask bs vs
  | _, _ => []
def am_cat1 (v : mv) : Nat := match v with
  | .inr (.inl _) => 2
  | _ => 1
def am_cat : List mv → Nat
  | [] => 0
  | v :: l => am_cat1 v + am_cat l
def am_swf {α : Type} (x : Int32) : List (Int32 × Nat) → Nat → (Nat → α) → α
  | [], d, f => f d
  | (v, t) :: l, d, f => if x = v then f t else am_swf x l d f
/-- behind a call that answers nothing, an int, a long -/
def am_bv (o : Option mr) (f : mg → Option mr) : Option mr := match o with
  | some (none, g) => f g
  | _ => none
def am_bi (o : Option mr) (f : Int32 → mg → Option mr) : Option mr := match o with
  | some (some (.inl v), g) => f v g
  | _ => none
def am_bl (o : Option mr) (f : Int64 → mg → Option mr) : Option mr := match o with
  | some (some (.inr (.inl v)), g) => f v g
  | _ => none
def am_inv (K : Nat → ml → List mv → mg → Option mr) (C : Nat → List mv → mg → Option mr) (a b c k : Nat) (ls : ml) (st : List mv) (g : mg) : Option mr :=
  if b ≤ st.length ∧ am_cat (st.drop b) ≤ 8 ∧ am_cat (st.take b).reverse ≤ (am_head a).2.1 then
    match c with
    | 0 => am_bv (C a (st.take b).reverse g) (fun g => K (k + 1) ls (st.drop b) g)
    | 1 => am_bi (C a (st.take b).reverse g) (fun v g => K (k + 1) ls (vi v :: st.drop b) g)
    | 2 => am_bl (C a (st.take b).reverse g) (fun v g => K (k + 1) ls (vl v :: st.drop b) g)
    | _ => none
  else none
def am_fd (x y : Int32) : Int32 := if (x ^^^ y) < 0 then (if x / y * y = x then x / y else x / y - 1) else x / y
def am_m2i (f : Int32 → Int32 → Int32) (K : Nat → ml → List mv → mg → Option mr) (k : Nat) (ls : ml) (st : List mv) (g : mg) : Option mr := match st with
  | .inl y :: .inl x :: st => if am_cat st ≤ 8 then K (k + 1) ls (vi (f x y) :: st) g else none
  | _ => none
def am_m2l (f : Int64 → Int64 → Int64) (K : Nat → ml → List mv → mg → Option mr) (k : Nat) (ls : ml) (st : List mv) (g : mg) : Option mr := match st with
  | .inr (.inl y) :: .inr (.inl x) :: st => if am_cat st ≤ 8 then K (k + 1) ls (vl (f x y) :: st) g else none
  | _ => none
/-- Math's own: min, max, floorDiv -/
def am_math (K : Nat → ml → List mv → mg → Option mr) (a k : Nat) (ls : ml) (st : List mv) (g : mg) : Option mr :=
  if a = 294 then am_m2i (fun x y => if y < x then y else x) K k ls st g
  else if a = 295 then am_m2i (fun x y => if x < y then y else x) K k ls st g
  else if a = 296 then am_m2l (fun x y => if y < x then y else x) K k ls st g
  else if a = 297 then am_m2l (fun x y => if y < x then x else y) K k ls st g
  else match st with
    | .inl y :: .inl x :: st => if y = 0 then none else if am_cat st ≤ 8 then K (k + 1) ls (vi (am_fd x y) :: st) g else none
    | _ => none
/-- the receiver is of the method's own class -/
def am_rcv (a : Nat) (as : List mv) : Bool := match as with
  | .inr (.inr (kd, _)) :: _ => Nat.beq (af kd).1 (am_head a).1
  | _ => false
def am_do (K : Nat → ml → List mv → mg → Option mr) (C : Nat → List mv → mg → Option mr) (o : mo) (k : Nat) (ls : ml) (st : List mv) (g : mg) : Option mr :=
  match o with
  | (i, a, b, c, z) => match i with
    | .iconst _ => K (k + 1) ls (z :: st) g
    | .bipush _ => K (k + 1) ls (z :: st) g
    | .sipush _ => K (k + 1) ls (z :: st) g
    | .lconst _ => K (k + 1) ls (z :: st) g
    | .ldc _ => K (k + 1) ls (z :: st) g
    | .ldc_w _ => K (k + 1) ls (z :: st) g
    | .ldc2_w _ => K (k + 1) ls (z :: st) g
    | .iload _ => match am_ld ls a with | some (.inl v) => K (k + 1) ls (.inl v :: st) g | _ => none
    | .iload_n _ => match am_ld ls a with | some (.inl v) => K (k + 1) ls (.inl v :: st) g | _ => none
    | .lload _ => match am_ld ls a with | some (.inr (.inl v)) => K (k + 1) ls (.inr (.inl v) :: st) g | _ => none
    | .lload_n _ => match am_ld ls a with | some (.inr (.inl v)) => K (k + 1) ls (.inr (.inl v) :: st) g | _ => none
    | .aload _ => match am_ld ls a with | some (.inr (.inr v)) => K (k + 1) ls (.inr (.inr v) :: st) g | _ => none
    | .aload_n _ => match am_ld ls a with | some (.inr (.inr v)) => K (k + 1) ls (.inr (.inr v) :: st) g | _ => none
    | .istore _ => match st with | .inl v :: st => K (k + 1) (am_s1 ls a (.inl v)) st g | _ => none
    | .istore_n _ => match st with | .inl v :: st => K (k + 1) (am_s1 ls a (.inl v)) st g | _ => none
    | .astore _ => match st with | .inr (.inr v) :: st => K (k + 1) (am_s1 ls a (.inr (.inr v))) st g | _ => none
    | .astore_n _ => match st with | .inr (.inr v) :: st => K (k + 1) (am_s1 ls a (.inr (.inr v))) st g | _ => none
    | .lstore _ => match st with | .inr (.inl v) :: st => K (k + 1) (am_s2 ls a (.inr (.inl v))) st g | _ => none
    | .lstore_n _ => match st with | .inr (.inl v) :: st => K (k + 1) (am_s2 ls a (.inr (.inl v))) st g | _ => none
    | .iinc _ _ => match am_ld ls a, z with | some (.inl v), .inl n => K (k + 1) (am_s1 ls a (.inl (v + n))) st g | _, _ => none
    | .iadd => match st with | .inl y :: .inl x :: st => K (k + 1) ls (.inl (x + y) :: st) g | _ => none
    | .isub => match st with | .inl y :: .inl x :: st => K (k + 1) ls (.inl (x - y) :: st) g | _ => none
    | .imul => match st with | .inl y :: .inl x :: st => K (k + 1) ls (.inl (x * y) :: st) g | _ => none
    | .idiv => match st with | .inl y :: .inl x :: st => if y = 0 then none else K (k + 1) ls (.inl (x / y) :: st) g | _ => none
    | .irem => match st with | .inl y :: .inl x :: st => if y = 0 then none else K (k + 1) ls (.inl (x - x / y * y) :: st) g | _ => none
    | .iand => match st with | .inl y :: .inl x :: st => K (k + 1) ls (.inl (x &&& y) :: st) g | _ => none
    | .ior => match st with | .inl y :: .inl x :: st => K (k + 1) ls (.inl (x ||| y) :: st) g | _ => none
    | .ixor => match st with | .inl y :: .inl x :: st => K (k + 1) ls (.inl (x ^^^ y) :: st) g | _ => none
    | .ishl => match st with | .inl y :: .inl x :: st => K (k + 1) ls (.inl (x <<< (y &&& 31)) :: st) g | _ => none
    | .ishr => match st with | .inl y :: .inl x :: st => K (k + 1) ls (.inl (x >>> (y &&& 31)) :: st) g | _ => none
    | .iushr => match st with | .inl y :: .inl x :: st => K (k + 1) ls (.inl ((x.toUInt32 >>> (y.toUInt32 &&& Int32.toUInt32 31)).toInt32) :: st) g | _ => none
    | .ladd => match st with | .inr (.inl y) :: .inr (.inl x) :: st => K (k + 1) ls (.inr (.inl (x + y)) :: st) g | _ => none
    | .lsub => match st with | .inr (.inl y) :: .inr (.inl x) :: st => K (k + 1) ls (.inr (.inl (x - y)) :: st) g | _ => none
    | .lmul => match st with | .inr (.inl y) :: .inr (.inl x) :: st => K (k + 1) ls (.inr (.inl (x * y)) :: st) g | _ => none
    | .land => match st with | .inr (.inl y) :: .inr (.inl x) :: st => K (k + 1) ls (.inr (.inl (x &&& y)) :: st) g | _ => none
    | .ldiv => match st with | .inr (.inl y) :: .inr (.inl x) :: st => if y = 0 then none else K (k + 1) ls (.inr (.inl (x / y)) :: st) g | _ => none
    | .lrem => match st with | .inr (.inl y) :: .inr (.inl x) :: st => if y = 0 then none else K (k + 1) ls (.inr (.inl (x - x / y * y)) :: st) g | _ => none
    | .i2l => match st with | .inl x :: st => K (k + 1) ls (.inr (.inl x.toInt64) :: st) g | _ => none
    | .l2i => match st with | .inr (.inl x) :: st => K (k + 1) ls (.inl x.toInt32 :: st) g | _ => none
    | .i2b => match st with | .inl x :: st => K (k + 1) ls (.inl x.toInt8.toInt32 :: st) g | _ => none
    | .lcmp => match st with | .inr (.inl y) :: .inr (.inl x) :: st => K (k + 1) ls (.inl (lg_cmp x y) :: st) g | _ => none
    | .dup => match st with
      | .inl v :: st => K (k + 1) ls (.inl v :: .inl v :: st) g
      | .inr (.inr v) :: st => K (k + 1) ls (.inr (.inr v) :: .inr (.inr v) :: st) g
      | _ => none
    | .dup2 => match st with
      | .inl v :: .inr (.inr r) :: st => K (k + 1) ls (.inl v :: .inr (.inr r) :: .inl v :: .inr (.inr r) :: st) g
      | _ => none
    | .pop => match st with | .inl _ :: st => K (k + 1) ls st g | _ => none
    | .ifCond .eq _ => match st with | .inl x :: st => if x = 0 then K a ls st g else K (k + 1) ls st g | _ => none
    | .ifCond .ne _ => match st with | .inl x :: st => if x = 0 then K (k + 1) ls st g else K a ls st g | _ => none
    | .ifCond .lt _ => match st with | .inl x :: st => if x < 0 then K a ls st g else K (k + 1) ls st g | _ => none
    | .ifCond .ge _ => match st with | .inl x :: st => if x < 0 then K (k + 1) ls st g else K a ls st g | _ => none
    | .ifCond .gt _ => match st with | .inl x :: st => if 0 < x then K a ls st g else K (k + 1) ls st g | _ => none
    | .ifCond .le _ => match st with | .inl x :: st => if 0 < x then K (k + 1) ls st g else K a ls st g | _ => none
    | .if_icmp .eq _ => match st with | .inl y :: .inl x :: st => if x = y then K a ls st g else K (k + 1) ls st g | _ => none
    | .if_icmp .ne _ => match st with | .inl y :: .inl x :: st => if x = y then K (k + 1) ls st g else K a ls st g | _ => none
    | .if_icmp .lt _ => match st with | .inl y :: .inl x :: st => if x < y then K a ls st g else K (k + 1) ls st g | _ => none
    | .if_icmp .ge _ => match st with | .inl y :: .inl x :: st => if x < y then K (k + 1) ls st g else K a ls st g | _ => none
    | .if_icmp .gt _ => match st with | .inl y :: .inl x :: st => if y < x then K a ls st g else K (k + 1) ls st g | _ => none
    | .if_icmp .le _ => match st with | .inl y :: .inl x :: st => if y < x then K (k + 1) ls st g else K a ls st g | _ => none
    | .goto _ => K a ls st g
    | .tableswitch _ _ _ _ => match st with
      | .inl x :: st => match am_nth am_sws a with
        | some (l, d) => am_swf x l d (fun t => K t ls st g)
        | none => none
      | _ => none
    | .lookupswitch _ _ => match st with
      | .inl x :: st => match am_nth am_sws a with
        | some (l, d) => am_swf x l d (fun t => K t ls st g)
        | none => none
      | _ => none
    | .getfield _ => match st with
      | .inr (.inr (kd, i)) :: st => if (af kd).1 = a then
          match c with
          | 1 => K (k + 1) ls (vl (g.2.1 kd b) :: st) g
          | 2 => match ar kd b i g.2.2.1 g.2.2.2 with
            | some r => K (k + 1) ls (.inr (.inr r) :: st) g
            | none => none
          | _ => K (k + 1) ls (vi (g.1 kd i b) :: st) g
        else none
      | _ => none
    | .putfield _ => match c with
      | 0 => match st with
        | .inl v :: .inr (.inr (kd, i)) :: st => if (af kd).1 = a then K (k + 1) ls st (am_ui g.1 kd i b v, g.2) else none
        | _ => none
      | 3 => match st with
        | .inl v :: .inr (.inr (kd, i)) :: st => if (af kd).1 = a then (if v = 0 ∨ v = 1 then K (k + 1) ls st (am_ui g.1 kd i b v, g.2) else none) else none
        | _ => none
      | 1 => match st with
        | .inr (.inl v) :: .inr (.inr (kd, _)) :: st => if (af kd).1 = a then K (k + 1) ls st (g.1, am_ul g.2.1 kd b v, g.2.2) else none
        | _ => none
      | 2 => match st with
        | .inr (.inr (kv, j)) :: .inr (.inr (kd, _)) :: st => if (af kd).1 = a ∧ kv = 4 then
            match art kd b with
            | some (_, 2) => K (k + 1) ls st (g.1, g.2.1, j, g.2.2.2)
            | some (_, 3) => K (k + 1) ls st (g.1, g.2.1, g.2.2.1, j)
            | _ => none
          else none
        | _ => none
      | _ => none
    | .iaload => match st with
      | .inl j :: .inr (.inr (kd, i)) :: st => if (af kd).1 = 20 then (if j < 0 ∨ (af kd).2 ≤ j.toNatClampNeg then none else K (k + 1) ls (vi (g.1 kd i j.toNatClampNeg) :: st) g) else none
      | _ => none
    | .baload => match st with
      | .inl j :: .inr (.inr (kd, i)) :: st => if (af kd).1 = 22 ∨ (af kd).1 = 23 then (if j < 0 ∨ (af kd).2 ≤ j.toNatClampNeg then none else K (k + 1) ls (vi (g.1 kd i j.toNatClampNeg) :: st) g) else none
      | _ => none
    | .caload => match st with
      | .inl j :: .inr (.inr (kd, i)) :: st => if (af kd).1 = 24 then (if j < 0 ∨ (af kd).2 ≤ j.toNatClampNeg then none else K (k + 1) ls (vi (g.1 kd i j.toNatClampNeg) :: st) g) else none
      | _ => none
    | .laload => match st with
      | .inl j :: .inr (.inr (kd, _)) :: st => if (af kd).1 = 21 then (if j < 0 ∨ (af kd).2 ≤ j.toNatClampNeg then none else K (k + 1) ls (vl (g.2.1 kd j.toNatClampNeg) :: st) g) else none
      | _ => none
    | .aaload => match st with
      | .inl j :: .inr (.inr (kd, i)) :: st => if (af kd).1 = 25 ∨ (af kd).1 = 26 then (if j < 0 ∨ (af kd).2 ≤ j.toNatClampNeg then none else
          match ae kd i j.toNatClampNeg with
          | some r => K (k + 1) ls (.inr (.inr r) :: st) g
          | none => none) else none
      | _ => none
    | .iastore => match st with
      | .inl v :: .inl j :: .inr (.inr (kd, i)) :: st => if (af kd).1 = 20 then (if j < 0 ∨ (af kd).2 ≤ j.toNatClampNeg then none else K (k + 1) ls st (am_ui g.1 kd i j.toNatClampNeg v, g.2)) else none
      | _ => none
    | .bastore => match st with
      | .inl v :: .inl j :: .inr (.inr (kd, i)) :: st =>
        if (af kd).1 = 22 then (if j < 0 ∨ (af kd).2 ≤ j.toNatClampNeg then none else K (k + 1) ls st (am_ui g.1 kd i j.toNatClampNeg (vp_nar .byte v), g.2))
        else if (af kd).1 = 23 then (if j < 0 ∨ (af kd).2 ≤ j.toNatClampNeg then none else K (k + 1) ls st (am_ui g.1 kd i j.toNatClampNeg (vp_nar .boolean v), g.2)) else none
      | _ => none
    | .lastore => match st with
      | .inr (.inl v) :: .inl j :: .inr (.inr (kd, _)) :: st => if (af kd).1 = 21 then (if j < 0 ∨ (af kd).2 ≤ j.toNatClampNeg then none else K (k + 1) ls st (g.1, am_ul g.2.1 kd j.toNatClampNeg v, g.2.2)) else none
      | _ => none
    | .arraylength => match st with
      | .inr (.inr (kd, _)) :: st => if 20 ≤ (af kd).1 ∧ (af kd).1 ≤ 26 then K (k + 1) ls (vi (Int32.ofNat (af kd).2) :: st) g else none
      | _ => none
    | .invokestatic _ => if 294 ≤ a ∧ a ≤ 298 then am_math K a k ls st g else am_inv K C a b c k ls st g
    | .invokevirtual _ =>
      if a = 900 then match st with
        | .inr (.inr (kd, i)) :: st => if kd = 200 ∧ am_cat st ≤ 8 then K (k + 1) ls (vi (Int32.ofNat (am_str i).length) :: st) g else none
        | _ => none
      else if a = 901 then match st with
        | .inl j :: .inr (.inr (kd, i)) :: st => if kd = 200 ∧ am_cat st ≤ 8 then (if j < 0 ∨ (am_str i).length ≤ j.toNatClampNeg then none else K (k + 1) ls (vi ((am_str i).getD j.toNatClampNeg 0) :: st) g) else none
        | _ => none
      else if am_rcv a (st.take b).reverse = true then am_inv K C a b c k ls st g else none
    | .ireturn => match st with
      | [.inl v] => if a = 1 then (if v = 0 ∨ v = 1 then some (some (vi v), g) else none) else some (some (vi v), g)
      | _ => none
    | .lreturn => match st with
      | [.inr (.inl v)] => some (some (vl v), g)
      | _ => none
    | .return_ => match st with
      | [] => some (none, g)
      | _ => none
    | _ => none
