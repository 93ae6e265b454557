def xcn (c : Nat) : String := match c with
  | 0 => "HandOverHorse$Stroke"
  | 1 => "HandOverHorse$Red"
  | 2 => "HandOverHorse$Black"
  | 3 => "HandOverHorse$Scratch"
  | 4 => "HandOverHorse$Child"
  | 5 => "HandOverHorse$Soot"
  | 6 => "HandOverHorse$Forged"
  | 7 => "HandOverHorse$Text"
  | 8 => "HandOverHorse$Wall"
  | 9 => "HandOverHorse$Sets"
  | 10 => "HandOverHorse$Spans"
  | 11 => "HandOverHorse"
  | 12 => "HandOverHorseModel"
  | 13 => "HandOverHorseLaw"
  | _ => ""
def xTc (c : Nat) : u_T := match c with
  | 0 => xT0
  | 1 => xT1
  | 2 => xT2
  | 3 => xT3
  | 4 => xT4
  | 5 => xT5
  | 6 => xT6
  | 7 => xT7
  | 8 => xT8
  | 9 => xT9
  | 10 => xT10
  | 11 => xT11
  | _ => xT12
def xflt (oc : Nat) : List (Nat × Nat × Nat × String × Nat × Nat) := match oc with
  | 0 => [(9, 0, 5, "HandOverHorse$Stroke", 138, 0), (9, 1, 5, "HandOverHorse$Stroke", 138, 0), (9, 2, 5, "HandOverHorse$Stroke", 138, 0), (9, 3, 5, "HandOverHorse$Stroke", 138, 0), (9, 4, 5, "HandOverHorse$Stroke", 138, 0), (9, 5, 5, "HandOverHorse$Stroke", 138, 0), (9, 6, 5, "HandOverHorse$Stroke", 138, 0), (15, 0, 0, "HandOverHorse$Stroke", 117, 0), (15, 1, 0, "HandOverHorse$Stroke", 117, 0), (15, 2, 0, "HandOverHorse$Stroke", 117, 0), (15, 3, 0, "HandOverHorse$Stroke", 117, 0), (15, 4, 0, "HandOverHorse$Stroke", 117, 0), (15, 5, 0, "HandOverHorse$Stroke", 117, 0), (15, 6, 0, "HandOverHorse$Stroke", 117, 0), (18, 0, 1, "HandOverHorse$Stroke", 121, 0), (18, 1, 1, "HandOverHorse$Stroke", 121, 0), (18, 2, 1, "HandOverHorse$Stroke", 121, 0), (18, 3, 1, "HandOverHorse$Stroke", 121, 0), (18, 4, 1, "HandOverHorse$Stroke", 121, 0), (18, 5, 1, "HandOverHorse$Stroke", 121, 0), (18, 6, 1, "HandOverHorse$Stroke", 121, 0), (21, 0, 2, "HandOverHorse$Stroke", 132, 0), (21, 1, 2, "HandOverHorse$Stroke", 132, 0), (21, 2, 2, "HandOverHorse$Stroke", 132, 0), (21, 3, 2, "HandOverHorse$Stroke", 132, 0), (21, 4, 2, "HandOverHorse$Stroke", 132, 0), (21, 5, 2, "HandOverHorse$Stroke", 132, 0), (21, 6, 2, "HandOverHorse$Stroke", 132, 0), (24, 0, 3, "HandOverHorse$Stroke", 135, 0), (24, 1, 3, "HandOverHorse$Stroke", 135, 0), (24, 2, 3, "HandOverHorse$Stroke", 135, 0), (24, 3, 3, "HandOverHorse$Stroke", 135, 0), (24, 4, 3, "HandOverHorse$Stroke", 135, 0), (24, 5, 3, "HandOverHorse$Stroke", 135, 0), (24, 6, 3, "HandOverHorse$Stroke", 135, 0), (27, 0, 4, "HandOverHorse$Stroke", 137, 0), (27, 1, 4, "HandOverHorse$Stroke", 137, 0), (27, 2, 4, "HandOverHorse$Stroke", 137, 0), (27, 3, 4, "HandOverHorse$Stroke", 137, 0), (27, 4, 4, "HandOverHorse$Stroke", 137, 0), (27, 5, 4, "HandOverHorse$Stroke", 137, 0), (27, 6, 4, "HandOverHorse$Stroke", 137, 0), (30, 0, 6, "HandOverHorse$Stroke", 139, 0), (30, 1, 6, "HandOverHorse$Stroke", 139, 0), (30, 2, 6, "HandOverHorse$Stroke", 139, 0), (30, 3, 6, "HandOverHorse$Stroke", 139, 0), (30, 4, 6, "HandOverHorse$Stroke", 139, 0), (30, 5, 6, "HandOverHorse$Stroke", 139, 0), (30, 6, 6, "HandOverHorse$Stroke", 139, 0)]
  | 1 => [(15, 0, 1, "HandOverHorse$Red", 122, 123), (15, 1, 1, "HandOverHorse$Red", 122, 123), (15, 2, 1, "HandOverHorse$Red", 122, 123), (15, 3, 1, "HandOverHorse$Red", 122, 123), (15, 4, 1, "HandOverHorse$Red", 122, 123), (15, 5, 1, "HandOverHorse$Red", 122, 123), (15, 6, 1, "HandOverHorse$Red", 122, 123)]
  | 2 => [(15, 0, 6, "HandOverHorse$Black", 142, 143), (15, 1, 6, "HandOverHorse$Black", 142, 143), (15, 2, 6, "HandOverHorse$Black", 142, 143), (15, 3, 6, "HandOverHorse$Black", 142, 143), (15, 4, 6, "HandOverHorse$Black", 142, 143), (15, 5, 6, "HandOverHorse$Black", 142, 143), (15, 6, 6, "HandOverHorse$Black", 142, 143)]
  | 3 => [(15, 0, 1, "HandOverHorse$Scratch", 124, 125), (15, 1, 1, "HandOverHorse$Scratch", 124, 125), (15, 2, 1, "HandOverHorse$Scratch", 124, 125), (15, 3, 1, "HandOverHorse$Scratch", 124, 125), (15, 4, 1, "HandOverHorse$Scratch", 124, 125), (15, 5, 1, "HandOverHorse$Scratch", 124, 125), (15, 6, 1, "HandOverHorse$Scratch", 124, 125)]
  | 4 => [(18, 0, 1, "HandOverHorse$Child", 126, 127), (18, 1, 1, "HandOverHorse$Child", 126, 127), (18, 2, 1, "HandOverHorse$Child", 126, 127), (18, 3, 1, "HandOverHorse$Child", 126, 127), (18, 4, 1, "HandOverHorse$Child", 126, 127), (18, 5, 1, "HandOverHorse$Child", 126, 127), (18, 6, 1, "HandOverHorse$Child", 126, 127)]
  | 5 => [(15, 0, 6, "HandOverHorse$Soot", 140, 141), (15, 1, 6, "HandOverHorse$Soot", 140, 141), (15, 2, 6, "HandOverHorse$Soot", 140, 141), (15, 3, 6, "HandOverHorse$Soot", 140, 141), (15, 4, 6, "HandOverHorse$Soot", 140, 141), (15, 5, 6, "HandOverHorse$Soot", 140, 141), (15, 6, 6, "HandOverHorse$Soot", 140, 141)]
  | 6 => [(26, 0, 1, "HandOverHorse$Forged", 128, 129), (26, 1, 1, "HandOverHorse$Forged", 128, 129), (26, 2, 1, "HandOverHorse$Forged", 128, 129), (26, 3, 1, "HandOverHorse$Forged", 128, 129), (26, 4, 1, "HandOverHorse$Forged", 128, 129), (26, 5, 1, "HandOverHorse$Forged", 128, 129), (26, 6, 1, "HandOverHorse$Forged", 128, 129), (40, 0, 0, "HandOverHorse$Forged", 118, 119), (40, 1, 0, "HandOverHorse$Forged", 118, 119), (40, 2, 0, "HandOverHorse$Forged", 118, 119), (40, 3, 0, "HandOverHorse$Forged", 118, 119), (40, 4, 0, "HandOverHorse$Forged", 118, 119), (40, 5, 0, "HandOverHorse$Forged", 118, 119), (40, 6, 0, "HandOverHorse$Forged", 118, 119)]
  | 7 => [(9, 7, 0, "HandOverHorse$Text", 168, 0), (15, 7, 1, "HandOverHorse$Text", 169, 0), (18, 7, 3, "HandOverHorse$Text", 171, 0), (21, 7, 4, "HandOverHorse$Text", 172, 0), (26, 7, 7, "HandOverHorse$Text", 175, 0), (30, 7, 2, "HandOverHorse$Text", 170, 0), (34, 7, 5, "HandOverHorse$Text", 173, 0), (37, 7, 6, "HandOverHorse$Text", 174, 0)]
  | 8 => [(11, 8, 0, "HandOverHorse$Wall", 195, 0), (18, 8, 2, "HandOverHorse$Wall", 202, 0), (22, 8, 3, "HandOverHorse$Wall", 206, 0), (25, 8, 4, "HandOverHorse$Wall", 210, 0), (28, 8, 6, "HandOverHorse$Wall", 216, 0), (33, 8, 8, "HandOverHorse$Wall", 219, 0), (38, 8, 9, "HandOverHorse$Wall", 220, 0), (42, 8, 10, "HandOverHorse$Wall", 221, 0), (45, 8, 12, "HandOverHorse$Wall", 225, 0), (49, 8, 1, "HandOverHorse$Wall", 200, 0), (64, 8, 5, "HandOverHorse$Wall", 212, 0), (73, 8, 7, "HandOverHorse$Wall", 217, 0), (79, 8, 11, "HandOverHorse$Wall", 223, 0), (121, 0, 0, "HandOverHorse$Stroke", 120, 0), (121, 1, 0, "HandOverHorse$Stroke", 120, 0), (121, 2, 0, "HandOverHorse$Stroke", 120, 0), (121, 3, 0, "HandOverHorse$Stroke", 120, 0), (121, 4, 0, "HandOverHorse$Stroke", 120, 0), (121, 5, 0, "HandOverHorse$Stroke", 120, 0), (121, 6, 0, "HandOverHorse$Stroke", 120, 0), (124, 0, 1, "HandOverHorse$Stroke", 131, 0), (124, 1, 1, "HandOverHorse$Stroke", 131, 0), (124, 2, 1, "HandOverHorse$Stroke", 131, 0), (124, 3, 1, "HandOverHorse$Stroke", 131, 0), (124, 4, 1, "HandOverHorse$Stroke", 131, 0), (124, 5, 1, "HandOverHorse$Stroke", 131, 0), (124, 6, 1, "HandOverHorse$Stroke", 131, 0), (127, 0, 2, "HandOverHorse$Stroke", 133, 0), (127, 1, 2, "HandOverHorse$Stroke", 133, 0), (127, 2, 2, "HandOverHorse$Stroke", 133, 0), (127, 3, 2, "HandOverHorse$Stroke", 133, 0), (127, 4, 2, "HandOverHorse$Stroke", 133, 0), (127, 5, 2, "HandOverHorse$Stroke", 133, 0), (127, 6, 2, "HandOverHorse$Stroke", 133, 0), (130, 0, 3, "HandOverHorse$Stroke", 136, 0), (130, 1, 3, "HandOverHorse$Stroke", 136, 0), (130, 2, 3, "HandOverHorse$Stroke", 136, 0), (130, 3, 3, "HandOverHorse$Stroke", 136, 0), (130, 4, 3, "HandOverHorse$Stroke", 136, 0), (130, 5, 3, "HandOverHorse$Stroke", 136, 0), (130, 6, 3, "HandOverHorse$Stroke", 136, 0), (146, 0, 6, "HandOverHorse$Stroke", 144, 0), (146, 1, 6, "HandOverHorse$Stroke", 144, 0), (146, 2, 6, "HandOverHorse$Stroke", 144, 0), (146, 3, 6, "HandOverHorse$Stroke", 144, 0), (146, 4, 6, "HandOverHorse$Stroke", 144, 0), (146, 5, 6, "HandOverHorse$Stroke", 144, 0), (146, 6, 6, "HandOverHorse$Stroke", 144, 0)]
  | 9 => [(9, 9, 0, "HandOverHorse$Sets", 260, 0), (15, 9, 1, "HandOverHorse$Sets", 262, 0), (18, 9, 2, "HandOverHorse$Sets", 263, 0), (21, 9, 3, "HandOverHorse$Sets", 264, 0), (24, 9, 4, "HandOverHorse$Sets", 265, 0), (27, 9, 5, "HandOverHorse$Sets", 266, 0), (30, 9, 6, "HandOverHorse$Sets", 267, 0), (33, 9, 7, "HandOverHorse$Sets", 268, 0), (37, 8, 1, "HandOverHorse$Wall", 198, 0), (43, 8, 5, "HandOverHorse$Wall", 214, 0), (46, 8, 2, "HandOverHorse$Wall", 203, 0), (49, 8, 3, "HandOverHorse$Wall", 207, 0), (104, 8, 0, "HandOverHorse$Wall", 197, 0)]
  | 10 => [(9, 10, 0, "HandOverHorse$Spans", 293, 0), (15, 10, 1, "HandOverHorse$Spans", 295, 0), (18, 10, 4, "HandOverHorse$Spans", 301, 0), (21, 10, 5, "HandOverHorse$Spans", 302, 0), (24, 10, 6, "HandOverHorse$Spans", 303, 0), (27, 10, 7, "HandOverHorse$Spans", 304, 0), (30, 8, 1, "HandOverHorse$Wall", 199, 0), (51, 8, 5, "HandOverHorse$Wall", 213, 0), (54, 8, 2, "HandOverHorse$Wall", 204, 0), (57, 8, 3, "HandOverHorse$Wall", 208, 0), (66, 10, 2, "HandOverHorse$Spans", 297, 0), (73, 10, 3, "HandOverHorse$Spans", 299, 0)]
  | 11 => [(10, 11, 0, "HandOverHorse", 324, 0), (16, 11, 1, "HandOverHorse", 325, 0), (22, 11, 2, "HandOverHorse", 326, 0), (29, 11, 3, "HandOverHorse", 327, 0), (35, 11, 4, "HandOverHorse", 328, 0), (38, 11, 5, "HandOverHorse", 329, 0), (42, 11, 6, "HandOverHorse", 330, 0), (45, 11, 7, "HandOverHorse", 331, 0), (48, 11, 8, "HandOverHorse", 332, 0), (51, 11, 9, "HandOverHorse", 333, 0), (64, 8, 1, "HandOverHorse$Wall", 201, 0), (75, 8, 0, "HandOverHorse$Wall", 196, 0), (107, 0, 1, "HandOverHorse$Stroke", 130, 0), (107, 1, 1, "HandOverHorse$Stroke", 130, 0), (107, 2, 1, "HandOverHorse$Stroke", 130, 0), (107, 3, 1, "HandOverHorse$Stroke", 130, 0), (107, 4, 1, "HandOverHorse$Stroke", 130, 0), (107, 5, 1, "HandOverHorse$Stroke", 130, 0), (107, 6, 1, "HandOverHorse$Stroke", 130, 0), (117, 8, 5, "HandOverHorse$Wall", 215, 0), (126, 8, 2, "HandOverHorse$Wall", 205, 0), (129, 8, 3, "HandOverHorse$Wall", 209, 0), (132, 8, 4, "HandOverHorse$Wall", 211, 0), (138, 8, 7, "HandOverHorse$Wall", 218, 0), (173, 9, 0, "HandOverHorse$Sets", 261, 0), (183, 10, 0, "HandOverHorse$Spans", 294, 0), (186, 10, 1, "HandOverHorse$Spans", 296, 0), (195, 10, 2, "HandOverHorse$Spans", 298, 0), (198, 10, 3, "HandOverHorse$Spans", 300, 0), (222, 0, 2, "HandOverHorse$Stroke", 134, 0), (222, 1, 2, "HandOverHorse$Stroke", 134, 0), (222, 2, 2, "HandOverHorse$Stroke", 134, 0), (222, 3, 2, "HandOverHorse$Stroke", 134, 0), (222, 4, 2, "HandOverHorse$Stroke", 134, 0), (222, 5, 2, "HandOverHorse$Stroke", 134, 0), (222, 6, 2, "HandOverHorse$Stroke", 134, 0), (244, 8, 12, "HandOverHorse$Wall", 226, 0), (282, 8, 11, "HandOverHorse$Wall", 224, 0), (285, 8, 10, "HandOverHorse$Wall", 222, 0)]
  | 12 => [(7, 12, 0, "HandOverHorseModel", 1286, 0), (13, 12, 1, "HandOverHorseModel", 1287, 0), (16, 12, 3, "HandOverHorseModel", 1289, 0), (19, 12, 10, "HandOverHorseModel", 1296, 0), (22, 12, 11, "HandOverHorseModel", 1297, 0), (25, 12, 12, "HandOverHorseModel", 1298, 0), (28, 12, 13, "HandOverHorseModel", 1299, 0), (31, 12, 14, "HandOverHorseModel", 1300, 0), (34, 12, 15, "HandOverHorseModel", 1301, 0), (37, 12, 16, "HandOverHorseModel", 1302, 0), (40, 12, 17, "HandOverHorseModel", 1303, 0), (43, 12, 18, "HandOverHorseModel", 1304, 0), (47, 12, 19, "HandOverHorseModel", 1305, 0), (50, 12, 20, "HandOverHorseModel", 1306, 0), (53, 12, 23, "HandOverHorseModel", 1309, 0), (56, 12, 24, "HandOverHorseModel", 1310, 0), (59, 12, 25, "HandOverHorseModel", 1311, 0), (62, 12, 26, "HandOverHorseModel", 1312, 0), (70, 12, 5, "HandOverHorseModel", 1291, 0), (74, 12, 6, "HandOverHorseModel", 1292, 0), (77, 12, 7, "HandOverHorseModel", 1293, 0), (80, 12, 4, "HandOverHorseModel", 1290, 0), (87, 12, 9, "HandOverHorseModel", 1295, 0), (110, 12, 8, "HandOverHorseModel", 1294, 0), (275, 12, 21, "HandOverHorseModel", 1307, 0), (278, 12, 22, "HandOverHorseModel", 1308, 0), (313, 12, 2, "HandOverHorseModel", 1288, 0)]
  | 13 => []
  | _ => []
def x0 : Nat := 107
def xtabL : List (Nat × Nat) := [(11, 0), (8, 0), (15, 8), (0, 0), (0, 0), (0, 0), (0, 0), (0, 0), (0, 0), (0, 0), (0, 0), (13, 12), (13, 12), (13, 12), (13, 50), (16, 2), (7, 0), (13, 50), (13, 50), (13, 50), (13, 0), (7, 0), (13, 50), (13, 50), (13, 50), (13, 0), (7, 0), (13, 50), (13, 50), (13, 50), (13, 0), (13, 20), (8, 0), (15, 8), (0, 0), (0, 0), (0, 0), (0, 0), (0, 0), (0, 0), (0, 0), (0, 0), (13, 12), (13, 12), (13, 12), (13, 50), (16, 2), (7, 0), (13, 50), (13, 50), (13, 50), (13, 0), (7, 0), (13, 50), (13, 50), (13, 50), (13, 0), (7, 0), (13, 50), (13, 50), (13, 50), (13, 0), (13, 20), (9, 0), (13, 8), (13, 8), (13, 8), (13, 64), (13, 4), (13, 256), (13, 256), (14, 256), (10, 0), (13, 8), (13, 8), (13, 8), (13, 8), (13, 8), (13, 8), (17, 4), (13, 40), (13, 40), (13, 40), (13, 40), (13, 4), (13, 4), (13, 41), (13, 6), (12, 0), (13, 270), (13, 270), (13, 6), (13, 4), (13, 8), (13, 256), (13, 256), (13, 256), (13, 8), (13, 8), (13, 8), (14, 256), (13, 256), (13, 40), (13, 4), (13, 4), (13, 160), (13, 40)]
def xnth {α : Type} (d : α) : List α → Nat → α
  | [], _ => d
  | a :: _, 0 => a
  | _ :: l, n + 1 => xnth d l n
def xtab (r : Nat) : Nat × Nat := xnth (0, 7) xtabL r
def xptL : List (List (Nat × Nat)) := [[(0, 1), (1, 32), (2, 63), (3, 72), (4, 79), (5, 84), (6, 85), (7, 86), (8, 87)], [(0, 2), (2, 11), (3, 12), (4, 13), (6, 14), (8, 15), (9, 26), (10, 31)], [], [], [], [], [], [], [], [], [], [], [], [], [], [(0, 16), (1, 21)], [(0, 17), (1, 18), (3, 19), (4, 20), (7, 1000002)], [], [], [], [], [(0, 22), (1, 23), (3, 24), (4, 25), (7, 1000002)], [], [], [], [], [(0, 27), (1, 28), (3, 29), (4, 30), (7, 1000002)], [], [], [], [], [], [(0, 33), (2, 42), (3, 43), (4, 44), (6, 45), (8, 46), (9, 57), (10, 62)], [], [], [], [], [], [], [], [], [], [], [], [], [], [(0, 47), (1, 52)], [(0, 48), (1, 49), (3, 50), (4, 51), (7, 1000002)], [], [], [], [], [(0, 53), (1, 54), (3, 55), (4, 56), (7, 1000002)], [], [], [], [], [(0, 58), (1, 59), (3, 60), (4, 61), (7, 1000002)], [], [], [], [], [], [(0, 64), (1, 65), (2, 66), (3, 67), (4, 68), (5, 69), (6, 70), (7, 71)], [], [], [], [], [], [], [], [], [(0, 73), (1, 74), (4, 75), (5, 76), (6, 77), (7, 78)], [], [], [], [], [], [], [(0, 80), (1, 81), (2, 82), (3, 83)], [], [], [], [], [], [], [], [], [(0, 89), (1, 90), (3, 91), (10, 92), (11, 93), (12, 94), (13, 95), (14, 96), (15, 97), (16, 98), (17, 99), (18, 100), (19, 101), (20, 102), (23, 103), (24, 104), (25, 105), (26, 106)], [], [], [], [], [], [], [], [], [], [], [], [], [], [], [], [], [], []]
def xpl0 : List (Nat × Nat) → Nat → Option Nat
  | [], _ => none
  | (k, q) :: l, j => bif Nat.beq k j then some q else xpl0 l j
def xptab (r k : Nat) : Option Nat := xpl0 (xnth [] xptL r) k
theorem xCl_get {c : Nat} (h : c < 13) : xCl[c]? = some (xcn c, xTc c, xN c) := by
  rcases (show c = 0 ∨ c = 1 ∨ c = 2 ∨ c = 3 ∨ c = 4 ∨ c = 5 ∨ c = 6 ∨ c = 7 ∨ c = 8 ∨ c = 9 ∨ c = 10 ∨ c = 11 ∨ c = 12 by omega) with rfl | rfl | rfl | rfl | rfl | rfl | rfl | rfl | rfl | rfl | rfl | rfl | rfl <;> rfl
theorem xi_all {c : Nat} (h : c < 13) : ∀ w ∈ u_ws (xcn c) (xTc c) (xN c), w ∈ xw := by
  rcases (show c = 0 ∨ c = 1 ∨ c = 2 ∨ c = 3 ∨ c = 4 ∨ c = 5 ∨ c = 6 ∨ c = 7 ∨ c = 8 ∨ c = 9 ∨ c = 10 ∨ c = 11 ∨ c = 12 by omega) with rfl | rfl | rfl | rfl | rfl | rfl | rfl | rfl | rfl | rfl | rfl | rfl | rfl
  · exact xi0
  · exact xi1
  · exact xi2
  · exact xi3
  · exact xi4
  · exact xi5
  · exact xi6
  · exact xi7
  · exact xi8
  · exact xi9
  · exact xi10
  · exact xi11
  · exact xi12
theorem xn_all {c : Nat} (h : c < 13) : ∀ a, a < xN c → ∀ b, b < xN c → a ≠ b → (xTc c a).2.1 ≠ (xTc c b).2.1 := by
  rcases (show c = 0 ∨ c = 1 ∨ c = 2 ∨ c = 3 ∨ c = 4 ∨ c = 5 ∨ c = 6 ∨ c = 7 ∨ c = 8 ∨ c = 9 ∨ c = 10 ∨ c = 11 ∨ c = 12 by omega) with rfl | rfl | rfl | rfl | rfl | rfl | rfl | rfl | rfl | rfl | rfl | rfl | rfl
  · exact xn0
  · exact xn1
  · exact xn2
  · exact xn3
  · exact xn4
  · exact xn5
  · exact xn6
  · exact xn7
  · exact xn8
  · exact xn9
  · exact xn10
  · exact xn11
  · exact xn12
theorem xtk_all {c : Nat} (h : c < 13) : ∀ k, k < xN c → parseFieldDescriptor (xTc c k).2.2.1 = some (xty c k) := by
  rcases (show c = 0 ∨ c = 1 ∨ c = 2 ∨ c = 3 ∨ c = 4 ∨ c = 5 ∨ c = 6 ∨ c = 7 ∨ c = 8 ∨ c = 9 ∨ c = 10 ∨ c = 11 ∨ c = 12 by omega) with rfl | rfl | rfl | rfl | rfl | rfl | rfl | rfl | rfl | rfl | rfl | rfl | rfl
  · exact xtk0
  · exact xtk1
  · exact xtk2
  · exact xtk3
  · exact xtk4
  · exact xtk5
  · exact xtk6
  · exact xtk7
  · exact xtk8
  · exact xtk9
  · exact xtk10
  · exact xtk11
  · exact xtk12
def xfkl : List (Nat × Nat × Nat × String × Nat × Nat) → Nat → Nat → Option Nat
  | [], _, _ => none
  | e :: l, idx, c => bif Nat.beq e.1 idx && Nat.beq e.2.1 c then some e.2.2.1 else xfkl l idx c
/-- the field (by its slot) of an object of class c that entry idx of class oc's pool names -/
def xfk (oc idx c : Nat) : Option Nat := xfkl (xflt oc) idx c
def xfOK (oc : Nat) (e : Nat × Nat × Nat × String × Nat × Nat) : Bool :=
  decide (e.2.1 < 13) && (decide (e.2.2.1 < xN e.2.1) && (decide (lw_tbl[e.2.2.2.2.1]? = some (.fieldLink (xcn oc) e.1 e.2.2.2.1 (xTc e.2.1 e.2.2.1).2.1 (xTc e.2.1 e.2.2.1).2.2.1)) &&
    (decide (e.2.2.2.1 = (xTc e.2.1 e.2.2.1).1) || decide (lw_tbl[e.2.2.2.2.2]? = some (.sameField e.2.2.2.1 (xTc e.2.1 e.2.2.1).1 (xTc e.2.1 e.2.2.1).2.1 (xTc e.2.1 e.2.2.1).2.2.1)))))
set_option maxRecDepth 20000 in
theorem xfl_ok : ∀ oc, oc < 14 → (xflt oc).all (xfOK oc) = true := by decide +kernel
theorem xfk_ok {oc idx c k : Nat} (h : xfk oc idx c = some k) : c < 13 ∧ k < xN c ∧ ∃ ref, Cond.fieldLink (xcn oc) idx ref (xTc c k).2.1 (xTc c k).2.2.1 ∈ xw ∧ (ref = (xTc c k).1 ∨ Cond.sameField ref (xTc c k).1 (xTc c k).2.1 (xTc c k).2.2.1 ∈ xw) := by
  have key : ∀ L : List (Nat × Nat × Nat × String × Nat × Nat), xfkl L idx c = some k → ∃ e ∈ L, e.1 = idx ∧ e.2.1 = c ∧ e.2.2.1 = k := by
    intro L
    induction L with
    | nil => intro h; cases h
    | cons e L ih =>
      intro h
      unfold xfkl at h
      by_cases hb : (Nat.beq e.1 idx && Nat.beq e.2.1 c) = true
      · rw [hb] at h
        simp only [Bool.and_eq_true] at hb
        exact ⟨e, List.mem_cons_self, Nat.eq_of_beq_eq_true hb.1, Nat.eq_of_beq_eq_true hb.2, Option.some.inj h⟩
      · rw [(Bool.not_eq_true _).mp hb] at h
        obtain ⟨e', h1, h2⟩ := ih h
        exact ⟨e', List.mem_cons_of_mem _ h1, h2⟩
  have hoc : oc < 14 := by
    rcases Nat.lt_or_ge oc 14 with q | q
    · exact q
    · exfalso
      unfold xfk at h
      have : xflt oc = [] := by
        unfold xflt
        split <;> first | omega | rfl
      rw [this] at h
      cases h
  obtain ⟨e, he, rfl, rfl, rfl⟩ := key _ h
  have h1 := List.all_eq_true.mp (xfl_ok oc hoc) e he
  simp only [xfOK, Bool.and_eq_true, Bool.or_eq_true, decide_eq_true_eq] at h1
  obtain ⟨h2, h3, h4, h5⟩ := h1
  exact ⟨h2, h3, e.2.2.2.1, xw_of (List.mem_of_getElem? h4) rfl, h5.elim Or.inl (fun h => Or.inr (xw_of (List.mem_of_getElem? h) rfl))⟩
/-! cells of the heap -/
def xrow (I : Nat → Nat → Int32) (r : Nat) (f : Nat → Int32) : Nat → Nat → Int32 := fun a => if a = r then f else I a
def xu (I : Nat → Nat → Int32) (r k : Nat) (v : Int32) : Nat → Nat → Int32 := xrow I r (upd (I r) k v)
def xup (P : Nat → Nat → Option Nat) (r k : Nat) (o : Option Nat) : Nat → Nat → Option Nat := fun a => if a = r then va_up (P r) k o else P a
theorem xmu_new {G : xG} {r : Nat} (h : r < 1000000) : xmu G r = G.2.2.1 + r := if_pos h
theorem xL_get {G : xG} {n : Nat} {K : Nat → Nat × Nat} {I : Nat → Nat → Int32} {P : Nat → Nat → Option Nat} {r : Nat} (h : r < n) : (xL G n K I P)[r]? = some (G.2.2.1 + r, xE G K I P r) := by
  unfold xL; simp [h]
theorem xL_inv {G : xG} {n : Nat} {K : Nat → Nat × Nat} {I : Nat → Nat → Int32} {P : Nat → Nat → Option Nat} {r : Nat} {q : Nat × va_E} (h : (xL G n K I P)[r]? = some q) : r < n ∧ q = (G.2.2.1 + r, xE G K I P r) := by
  have hl : r < n := by
    have := (List.getElem?_eq_some_iff.mp h).1
    unfold xL at this; simpa using this
  rw [xL_get hl] at h
  exact ⟨hl, (Option.some.inj h).symm⟩
section RX
variable {G : xG} {n : Nat} {K : Nat → Nat × Nat} {I I' : Nat → Nat → Int32} {P P' : Nat → Nat → Option Nat} {H H1 : Heap} {r : Nat}
theorem xR.at (h : xR G n K I P H) (hr : r < n) : va_at G.1 xCl (G.2.2.1 + r, xE G K I P r) H := h.2.1 r _ (xL_get hr)
theorem xR.lt (h : xR G n K I P H) (hr : r < n) : r < 1000000 := Nat.lt_trans hr h.2.2.2.1
theorem va_P_one {D : va_G} {cl : List vw_C} {q : Nat × va_E} (h : va_at D cl q H) : va_P D cl [q] H := by
  intro k x hx
  have : k < 1 := (List.getElem?_eq_some_iff.mp hx).1
  rw [show k = 0 by omega] at hx
  cases hx
  exact h
theorem xR.S (h : xR G n K I P H) {locs : List Loc} (hl : ∀ q ∈ locs, xA G q.base) : va_S (xA G) G.2.2.2.2 H locs :=
  ⟨by rw [h.2.2.2.2.1, h.1]; omega, fun q _ hq => h.2.2.1 q (Nat.not_le.mp hq), hl⟩
/-- one cell is written -/
theorem xR.set (h : xR G n K I P H) (hr : r < n) (hz : H1.size = H.size) (ho : ∀ q : Nat, q ≠ G.2.2.1 + r → H1[q]? = H[q]?) (he : va_at G.1 xCl (G.2.2.1 + r, xE G K I' P' r) H1) (hE : ∀ q, q ≠ r → xE G K I' P' q = xE G K I P q) (hI : ∀ j, 1000000 ≤ j → I' j = I j) : xR G n K I' P' H1 := by
  refine ⟨hz.trans h.1, fun k q hk => ?_, fun q hq => (ho q (by omega)).trans (h.2.2.1 q hq), h.2.2.2.1, h.2.2.2.2.1, fun j hj => ?_⟩
  · obtain ⟨hl, rfl⟩ := xL_inv hk
    by_cases e : k = r
    · subst e; exact he
    · rw [hE k e]
      exact (h.at hl).kept (ho _ (by show G.2.2.1 + k ≠ G.2.2.1 + r; omega))
  · obtain ⟨h1, h2, h3⟩ := h.2.2.2.2.2 j hj
    refine ⟨h1, h2, ?_⟩
    rw [hI _ (by omega), ho _ (by omega)]
    exact h3
theorem xE_obj {c w : Nat} (hk : K r = (c, w)) (hc : c < 13) : xE G K I P r = .inr (c, (List.range (xN c)).map (xfv G I P c r)) := by
  unfold xE; rw [hk]; simp [hc]
theorem xE_int {c w : Nat} (hk : K r = (c, w)) (h1 : ¬ c < 13) (h2 : c < 15) : xE G K I P r = .inl (G.2.1 c, w, .inl (I r)) := by
  unfold xE; rw [hk]; simp [h1, h2]
theorem xE_ref {c w : Nat} (hk : K r = (c, w)) (h2 : ¬ c < 15) : xE G K I P r = .inl (G.2.1 c, w, .inr (.inr (.inr (.inr (fun j => (P r j).map (xmu G)))))) := by
  unfold xE; rw [hk]; simp [h2, show ¬ c < 13 by omega]
theorem xE_ne {q : Nat} (hI : I' q = I q) (hP : P' q = P q) : xE G K I' P' q = xE G K I P q := by
  have : xfv G I' P' (K q).1 q = xfv G I P (K q).1 q := by
    funext j; unfold xfv; rw [hI, hP]
  unfold xE
  rw [this, hI, hP]
theorem xu_ne {k q : Nat} {v : Int32} (h : q ≠ r) : xu I r k v q = I q := by unfold xu xrow; rw [if_neg h]
theorem xup_ne {k q : Nat} {o : Option Nat} (h : q ≠ r) : xup P r k o q = P q := by unfold xup; rw [if_neg h]
theorem xu_self {k : Nat} {v : Int32} : xu I r k v r = upd (I r) k v := by unfold xu xrow; rw [if_pos rfl]
theorem xup_self {k : Nat} {o : Option Nat} : xup P r k o r = va_up (P r) k o := by unfold xup; rw [if_pos rfl]
end RX
/-! the rules for the heap -/
section AX
variable {G : xG} {X : xC} {Y : MI} {d mc ms n : Nat} {K : Nat → Nat × Nat} {I : Nat → Nat → Int32} {P : Nat → Nat → Option Nat} {cells slots pc nx r : Nat} {lv st : List Value}
/-- a branch on a condition -/
theorem ax_ite {c : Prop} [Decidable c] {a b : Nat} (h1 : c → aW G X Y n K I P cells slots a lv st) (h2 : ¬ c → aW G X Y n K I P cells slots b lv st) : aW G X Y n K I P cells slots (if c then a else b) lv st := by
  by_cases h : c
  · rw [if_pos h]; exact h1 h
  · rw [if_neg h]; exact h2 h
def xis (Y : MI) (pc : Nat) (f : Instr → Bool) : Option Nat := match xlook Y.2.2.2.2.1 pc with
  | some e => bif f e.1 then some e.2.1 else none
  | none => none
theorem xis_some {f : Instr → Bool} (h : xis Y pc f = some nx) : ∃ ins a cs, xlook Y.2.2.2.2.1 pc = some (ins, nx, a, cs) ∧ f ins = true := by
  unfold xis at h
  split at h
  · next e he =>
    obtain ⟨ins, nx', a, cs⟩ := e
    by_cases hf : f ins = true
    · dsimp only at h; rw [hf] at h
      cases h
      exact ⟨ins, a, cs, he, hf⟩
    · dsimp only at h; rw [(Bool.not_eq_true _).mp hf] at h; cases h
  · cases h
def xq_idiv : Instr → Bool | .idiv => true | _ => false
def xq_irem : Instr → Bool | .irem => true | _ => false
def xq_iald : Instr → Bool | .iaload => true | _ => false
def xq_bald : Instr → Bool | .baload => true | _ => false
def xq_aald : Instr → Bool | .aaload => true | _ => false
def xq_iast : Instr → Bool | .iastore => true | _ => false
def xq_bast : Instr → Bool | .bastore => true | _ => false
def xq_aast : Instr → Bool | .aastore => true | _ => false
def xq_alen : Instr → Bool | .arraylength => true | _ => false
def xq_iret : Instr → Bool | .ireturn => true | _ => false
def xq_aret : Instr → Bool | .areturn => true | _ => false
def xq_ret : Instr → Bool | .return_ => true | _ => false
theorem xis_dec {f : Instr → Bool} {ins : Instr} (hY : xpOK Y = true) (h : xis Y pc f = some nx) (hf : ∀ i, f i = true → i = ins) (hl : xlen ins ≠ 0) : decode Y.2.1 pc = .ok (ins, xlen ins) ∧ nx = pc + xlen ins := by
  obtain ⟨i, a, cs, h1, h2⟩ := xis_some h
  have h3 := xdec hY h1
  rw [hf i h2] at h3
  have h4 : nx = pc + xlen ins := h3.2.2.1.resolve_left hl
  refine ⟨?_, h4⟩
  have h5 := h3.1
  rw [h4, Nat.add_sub_cancel_left] at h5
  exact h5
theorem ax_idiv {x y : Int32} (hX : xAmb G X Y d mc ms) (hY : xpOK Y = true) (hs : xis Y pc xq_idiv = some nx) (hy : ¬ y = 0) (kk : aW G X Y n K I P cells slots nx lv (.int (x / y) :: st)) : aW G X Y n K I P cells slots pc lv (.int y :: .int x :: st) := by
  obtain ⟨hd, rfl⟩ := xis_dec (ins := .idiv) hY hs (fun i h => by cases i <;> first | rfl | cases h) (by decide)
  exact fun H locs ls hR hlo hlv => lv_idiv hX.1 hX.2.1 hd hy (kk H locs ls hR hlo hlv)
theorem ax_irem {x y : Int32} (hX : xAmb G X Y d mc ms) (hY : xpOK Y = true) (hs : xis Y pc xq_irem = some nx) (hy : ¬ y = 0) (kk : aW G X Y n K I P cells slots nx lv (.int (x - x / y * y) :: st)) : aW G X Y n K I P cells slots pc lv (.int y :: .int x :: st) := by
  obtain ⟨hd, rfl⟩ := xis_dec (ins := .irem) hY hs (fun i h => by cases i <;> first | rfl | cases h) (by decide)
  exact fun H locs ls hR hlo hlv => lv_irem hX.1 hX.2.1 hd hy (kk H locs ls hR hlo hlv)
/-- int[] -/
theorem ax_iald {w : Nat} {i : Int32} (hX : xAmb G X Y d mc ms) (hY : xpOK Y = true) (hr : r < n) (hk : K r = (13, w)) (hs : xis Y pc xq_iald = some nx) (hi : vp_in i w) (kk : aW G X Y n K I P cells slots nx lv (.int (I r i.toNatClampNeg) :: st)) : aW G X Y n K I P cells slots pc lv (.int i :: .ref r :: st) := by
  obtain ⟨hd, rfl⟩ := xis_dec (ins := .iaload) hY hs (fun i h => by cases i <;> first | rfl | cases h) (by decide)
  intro H locs ls hR hlo hlv
  have ha := hR.at hr
  rw [xE_int hk (by decide) (by decide)] at ha
  have e1 : xv G (.ref r) = .ref (G.2.2.1 + r) := congrArg Value.ref (xmu_new (hR.lt hr))
  show W _ _ _ _ _ _ _ _ _ _ H locs cells slots _ (F0 _ pc ls (.int i :: xv G (.ref r) :: st.map (xv G)))
  rw [e1]
  exact va_iald hX.1 hX.2.1 hX.2.2.2.2.2.1.1 (va_P_one ha) 0 0 rfl rfl hi hd (kk H locs ls hR hlo hlv)
/-- the old int arrays -/
theorem ax_oald {w j : Nat} {i : Int32} (hX : xAmb G X Y d mc ms) (hY : xpOK Y = true) (hj : j < 2) (hk : (K (1000000 + j)).2 = w) (hs : xis Y pc xq_iald = some nx) (hi : vp_in i w) (kk : aW G X Y n K I P cells slots nx lv (.int (I (1000000 + j) i.toNatClampNeg) :: st)) : aW G X Y n K I P cells slots pc lv (.int i :: .ref (1000000 + j) :: st) := by
  obtain ⟨hd, rfl⟩ := xis_dec (ins := .iaload) hY hs (fun i h => by cases i <;> first | rfl | cases h) (by decide)
  intro H locs ls hR hlo hlv
  obtain ⟨h1, h2, cell, g1, g2, g3, g4, g5⟩ := hR.2.2.2.2.2 j hj
  rw [hk] at g3 g4 g5
  obtain ⟨cell', f1, f2⟩ := hX.2.2.2.2.2.1.2.2.2.2.2 j hj
  have e0 := hR.2.2.1 _ h1
  rw [g1, f1] at e0
  cases e0
  have e1 : xv G (.ref (1000000 + j)) = .ref (G.2.2.2.1 j) := by
    show Value.ref (xmu G (1000000 + j)) = _
    unfold xmu
    rw [if_neg (by omega), Nat.add_sub_cancel_left]
  show W _ _ _ _ _ _ _ _ _ _ H locs cells slots _ (F0 _ pc ls (.int i :: xv G (.ref (1000000 + j)) :: st.map (xv G)))
  rw [e1]
  have hlt : i.toNatClampNeg < w := Nat.not_le.mp fun q => hi (Or.inr q)
  refine W.iald (v := .int (I (1000000 + j) i.toNatClampNeg)) hX.1 hX.2.1 g1 f2 g2 ?_ (g5 _ hlt) rfl rfl hd (kk H locs ls hR hlo hlv)
  rintro (q | q)
  · exact hi (Or.inl q)
  · omega
theorem ax_olen {w j : Nat} (hX : xAmb G X Y d mc ms) (hY : xpOK Y = true) (hj : j < 2) (hk : (K (1000000 + j)).2 = w) (hs : xis Y pc xq_alen = some nx) (kk : aW G X Y n K I P cells slots nx lv (.int (nI w) :: st)) : aW G X Y n K I P cells slots pc lv (.ref (1000000 + j) :: st) := by
  obtain ⟨hd, rfl⟩ := xis_dec (ins := .arraylength) hY hs (fun i h => by cases i <;> first | rfl | cases h) (by decide)
  intro H locs ls hR hlo hlv
  obtain ⟨h1, h2, cell, g1, g2, g3, g4, g5⟩ := hR.2.2.2.2.2 j hj
  rw [hk] at g3 g4 g5
  obtain ⟨cell', f1, f2⟩ := hX.2.2.2.2.2.1.2.2.2.2.2 j hj
  have e0 := hR.2.2.1 _ h1
  rw [g1, f1] at e0
  cases e0
  have e1 : xv G (.ref (1000000 + j)) = .ref (G.2.2.2.1 j) := by
    show Value.ref (xmu G (1000000 + j)) = _
    unfold xmu
    rw [if_neg (by omega), Nat.add_sub_cancel_left]
  show W _ _ _ _ _ _ _ _ _ _ H locs cells slots _ (F0 _ pc ls (xv G (.ref (1000000 + j)) :: st.map (xv G)))
  rw [e1]
  exact W.alen (n := nI w) hX.1 hX.2.1 g1 f2 g4 rfl rfl hd (kk H locs ls hR hlo hlv)
theorem ax_bald {w : Nat} {i : Int32} (hX : xAmb G X Y d mc ms) (hY : xpOK Y = true) (hr : r < n) (hk : K r = (14, w)) (hs : xis Y pc xq_bald = some nx) (hi : vp_in i w) (kk : aW G X Y n K I P cells slots nx lv (.int (I r i.toNatClampNeg) :: st)) : aW G X Y n K I P cells slots pc lv (.int i :: .ref r :: st) := by
  obtain ⟨hd, rfl⟩ := xis_dec (ins := .baload) hY hs (fun i h => by cases i <;> first | rfl | cases h) (by decide)
  intro H locs ls hR hlo hlv
  have ha := hR.at hr
  rw [xE_int hk (by decide) (by decide)] at ha
  have e1 : xv G (.ref r) = .ref (G.2.2.1 + r) := congrArg Value.ref (xmu_new (hR.lt hr))
  show W _ _ _ _ _ _ _ _ _ _ H locs cells slots _ (F0 _ pc ls (.int i :: xv G (.ref r) :: st.map (xv G)))
  rw [e1]
  exact va_zald hX.1 hX.2.1 hX.2.2.2.2.2.1.1 (va_P_one ha) 0 1 rfl rfl hi hd (kk H locs ls hR hlo hlv)
theorem ax_alen {c w : Nat} (hX : xAmb G X Y d mc ms) (hY : xpOK Y = true) (hr : r < n) (hk : K r = (c, w)) (hc : c = 13 ∨ c = 15) (hs : xis Y pc xq_alen = some nx) (kk : aW G X Y n K I P cells slots nx lv (.int (nI w) :: st)) : aW G X Y n K I P cells slots pc lv (.ref r :: st) := by
  obtain ⟨hd, rfl⟩ := xis_dec (ins := .arraylength) hY hs (fun i h => by cases i <;> first | rfl | cases h) (by decide)
  intro H locs ls hR hlo hlv
  have ha := hR.at hr
  have e1 : xv G (.ref r) = .ref (G.2.2.1 + r) := congrArg Value.ref (xmu_new (hR.lt hr))
  show W _ _ _ _ _ _ _ _ _ _ H locs cells slots _ (F0 _ pc ls (xv G (.ref r) :: st.map (xv G)))
  rw [e1]
  rcases hc with rfl | rfl
  · rw [xE_int hk (by decide) (by decide)] at ha
    exact va_alen hX.1 hX.2.1 hX.2.2.2.2.2.1.1 (va_P_one ha) 0 0 rfl (ty := .int) rfl rfl hd (kk H locs ls hR hlo hlv)
  · rw [xE_ref hk (by decide)] at ha
    exact va_alen hX.1 hX.2.1 hX.2.2.2.2.2.1.1 (va_P_one ha) 0 2 rfl (ty := .object "HandOverHorse$Stroke") rfl rfl hd (kk H locs ls hR hlo hlv)
theorem xTys_at (G : xG) {c : Nat} (h1 : 15 ≤ c) (h2 : c < 18) : ∃ t, (xTys G)[c - 13]? = some (G.2.1 c, t) ∧ t.isReference = true := by
  rcases (show c = 15 ∨ c = 16 ∨ c = 17 by omega) with rfl | rfl | rfl <;> exact ⟨_, rfl, rfl⟩
/-- an array of references: what stands there is a cell -/
theorem ax_aald {c w q : Nat} {i : Int32} (hX : xAmb G X Y d mc ms) (hY : xpOK Y = true) (hr : r < n) (hk : K r = (c, w)) (hc : 15 ≤ c ∧ c < 18) (hs : xis Y pc xq_aald = some nx) (hi : vp_in i w) (hq : P r i.toNatClampNeg = some q) (kk : aW G X Y n K I P cells slots nx lv (.ref q :: st)) : aW G X Y n K I P cells slots pc lv (.int i :: .ref r :: st) := by
  obtain ⟨hd, rfl⟩ := xis_dec (ins := .aaload) hY hs (fun i h => by cases i <;> first | rfl | cases h) (by decide)
  intro H locs ls hR hlo hlv
  have ha := hR.at hr
  rw [xE_ref hk (by omega)] at ha
  have ha2 : H[G.2.2.1 + r]? = some (arrV (G.2.1 c) w (fun j => va_rf ((P r j).map (xmu G)))) := ha
  have e1 : xv G (.ref r) = .ref (G.2.2.1 + r) := congrArg Value.ref (xmu_new (hR.lt hr))
  show W _ _ _ _ _ _ _ _ _ _ H locs cells slots _ (F0 _ pc ls (.int i :: xv G (.ref r) :: st.map (xv G)))
  rw [e1]
  have hlt : i.toNatClampNeg < w := Nat.not_le.mp fun q => hi (Or.inr q)
  obtain ⟨t, ht, hrf⟩ := xTys_at G hc.1 hc.2
  refine W.aald (v := .ref (xmu G q)) (ty := t) hX.1 hX.2.1 ha2 ((hX.2.2.2.2.2.1.1.2 (c - 13) _ ht).1 w (fun j => va_rf ((P r j).map (xmu G)))) hrf (fun q => by cases q) (by rw [arrV_size]; exact hi) ?_ rfl rfl hd (kk H locs ls hR hlo hlv)
  rw [arrV_read _ _ hlt, hq]
  rfl
theorem ax_iast {w : Nat} {i x : Int32} (hX : xAmb G X Y d mc ms) (hY : xpOK Y = true) (hr : r < n) (hk : K r = (13, w)) (hs : xis Y pc xq_iast = some nx) (hi : vp_in i w) (kk : aW G X Y n K (xu I r i.toNatClampNeg x) P cells slots nx lv st) : aW G X Y n K I P cells slots pc lv (.int x :: .int i :: .ref r :: st) := by
  obtain ⟨hd, rfl⟩ := xis_dec (ins := .iastore) hY hs (fun i h => by cases i <;> first | rfl | cases h) (by decide)
  intro H locs ls hR hlo hlv
  have ha := hR.at hr
  rw [xE_int hk (by decide) (by decide)] at ha
  have ha2 : H[G.2.2.1 + r]? = some (arrV (G.2.1 13) w (fun j => .int (I r j))) := ha
  have e1 : xv G (.ref r) = .ref (G.2.2.1 + r) := congrArg Value.ref (xmu_new (hR.lt hr))
  show W _ _ _ _ _ _ _ _ _ _ H locs cells slots _ (F0 _ pc ls (.int x :: .int i :: xv G (.ref r) :: st.map (xv G)))
  rw [e1]
  refine W.iast hX.1 hX.2.1 ha2 ((hX.2.2.2.2.2.1.1.2 0 _ rfl).1 w (fun j => .int (I r j))) (fun q => by cases q) (by rw [arrV_size]; exact hi) rfl rfl hd fun H1 e z oq => ?_
  refine kk H1 _ ls (hR.set hr z oq ?_ (fun q hq => xE_ne (xu_ne hq) rfl) (fun j hj => xu_ne (by have := hR.lt hr; omega))) (t_lc hlo (by show G.2.2.1 ≤ _; omega)) hlv
  rw [xE_int hk (by decide) (by decide), xu_self]
  show H1[G.2.2.1 + r]? = some (vp_cell _ _)
  rw [e, vp_cell_i, arrV_store]
  congr 2
  funext q
  by_cases hq : q = i.toNatClampNeg
  · subst hq
    simp [updV, upd]
  · simp [updV, upd, hq]
theorem ax_bast {w : Nat} {i x : Int32} (hX : xAmb G X Y d mc ms) (hY : xpOK Y = true) (hr : r < n) (hk : K r = (14, w)) (hs : xis Y pc xq_bast = some nx) (hi : vp_in i w) (kk : aW G X Y n K (xu I r i.toNatClampNeg (vp_nar .boolean x)) P cells slots nx lv st) : aW G X Y n K I P cells slots pc lv (.int x :: .int i :: .ref r :: st) := by
  obtain ⟨hd, rfl⟩ := xis_dec (ins := .bastore) hY hs (fun i h => by cases i <;> first | rfl | cases h) (by decide)
  intro H locs ls hR hlo hlv
  have ha := hR.at hr
  rw [xE_int hk (by decide) (by decide)] at ha
  have ha2 : H[G.2.2.1 + r]? = some (arrV (G.2.1 14) w (fun j => .int (I r j))) := ha
  have e1 : xv G (.ref r) = .ref (G.2.2.1 + r) := congrArg Value.ref (xmu_new (hR.lt hr))
  show W _ _ _ _ _ _ _ _ _ _ H locs cells slots _ (F0 _ pc ls (.int x :: .int i :: xv G (.ref r) :: st.map (xv G)))
  rw [e1]
  refine W.zast hX.1 hX.2.1 ha2 ((hX.2.2.2.2.2.1.1.2 1 _ rfl).1 w (fun j => .int (I r j))) (fun q => by cases q) (by rw [arrV_size]; exact hi) rfl rfl hd fun H1 e z oq => ?_
  refine kk H1 _ ls (hR.set hr z oq ?_ (fun q hq => xE_ne (xu_ne hq) rfl) (fun j hj => xu_ne (by have := hR.lt hr; omega))) (t_lc hlo (by show G.2.2.1 ≤ _; omega)) hlv
  rw [xE_int hk (by decide) (by decide), xu_self]
  show H1[G.2.2.1 + r]? = some (vp_cell _ _)
  rw [e, vp_cell_i, arrV_store]
  congr 2
  funext q
  by_cases hq : q = i.toNatClampNeg
  · subst hq
    simp [updV, upd, vp_nar]
    try rfl
  · simp [updV, upd, hq]
end AX
