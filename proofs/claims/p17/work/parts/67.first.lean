/-! THE FIRST PURE HEAP, and the law from its entry. Printed by wip/gen/p67.py -/
theorem ceE_int {B : Nat} {cA : Nat → ClassId} {n : Nat} {f : Nat → Int32} {g : Nat → Option Nat} : ceE B cA (20, n, [], f, g) = .inl (cA 0, n, .inl f) := rfl
theorem ceE_byte {B : Nat} {cA : Nat → ClassId} {n : Nat} {f : Nat → Int32} {g : Nat → Option Nat} : ceE B cA (21, n, [], f, g) = .inl (cA 1, n, .inl f) := rfl
def lz (l : List Int32) : Nat → Int32 := fun j => l.getD j 0
def hiT : List (Nat → Int32) := [lz [0, 0, 0, 0, 0, 0, 0, 0, 0, 0, 0, 0, 0, 0], lz [0, 0, 0, 0, 0, 0, 0, 0], z0, lz [0, 0, 0, 0, 0, 0, 0, 0], z0, lz [0, 0, 0, 0, 0, 0, 0, 0, 0, 0, 0, 0, 0, 0], lz [16, 5, 0, 0], z0, lz [400, 2, 0, 0], z0, lz [16, 5, 0, 0], z0, lz [16, 5, 0, 0], z0, lz [16, 5, 0, 0], z0, lz [150, 4, 0, 0], z0, lz [9, 1, 0, 0], z0, lz [8, 1, 0, 0], z0, lz [5, 1, 0, 0], z0, lz [8, 2, 0, 0], z0, lz [16, 1, 0, 0], z0, lz [6, 2, 0, 0], z0, lz [12, 2, 0, 0], z0, lz [8, 2, 0, 0], z0, lz [0, 0, 0, 0, 0], z0, z0, lz [0, 0, 0, 0, 0, 0, 0, 0], z0, lz [0, 0, 0, 0, 0, 0, 0, 0, 0, 0, 0, 0, 0, 0], lz [16, 5, 0, 0], z0, lz [400, 2, 0, 0], z0, lz [16, 5, 0, 0], z0, lz [16, 5, 0, 0], z0, lz [16, 5, 0, 0], z0, lz [150, 4, 0, 0], z0, lz [9, 1, 0, 0], z0, lz [8, 1, 0, 0], z0, lz [5, 1, 0, 0], z0, lz [8, 2, 0, 0], z0, lz [16, 1, 0, 0], z0, lz [6, 2, 0, 0], z0, lz [12, 2, 0, 0], z0, lz [8, 2, 0, 0], z0, lz [0, 0, 0, 1], lz [0, 0, 0, 0], lz [0, 0, 0, 0], z0, z0, lz [0, 0, 0, 0, 0, 0, 0, 0], z0, lz [0, 0, 0, 0, 0, 0, 0, 0], z0, lz [0, 0, 0, 0, 0, 0, 0, 0], z0, lz [0, 0, 0, 0, 0, 0, 0, 0], z0, lz [0, 0, 0, 0, 0, 0, 0, 0], z0, lz [0, 0, 0, 0, 0, 0, 0, 0], z0, lz [0, 0, 0, 0, 0, 0], z0, z0, z0, z0, lz [0, 0, 0, (-1), 0, 0, 0, 0, 0, 0], lz [16, 5, 0, 0], z0, lz [400, 2, 0, 0], z0, lz [0, 0], z0, z0, lz [0, 0, 0], z0, z0, z0, lz [0, 0], z0, lz [0, 0, 0, 0, 0, 0, 0, 0, 0, 0, 0, 0, 0, 0, 0, 0, 0, 0, 0, 0, 0, 0, 0, 0, 0, 0, 0, 0, 0, 0, 0, 0, (-1), 0, 0, 0, 0, 0, 0, 0, 0, 0, 0, 0, 0, 0, 0, 0, 0, 0, 0, 0, 0, 0, 0, 0, 0, 0, 0, 0, 0, 0, 0, 0, 0, 0, 0, 0, 0, 0, 0, 0, 0, 0, 0], z0, z0, z0, z0, z0, z0, z0, wz_147, z0, z0, z0, z0, z0, z0, z0, z0, z0, z0, z0, z0, z0, z0, z0, z0, z0, z0, z0, z0, z0, z0, z0, z0, z0, z0, z0, z0, z0, z0, z0, z0, z0, z0, z0, z0]
def hI : PH := fun a => hiT.getD a z0
noncomputable def wyX : List (Nat × CE) := [(0, (0, 14, df_0, z0, zn)), (1, (1, 8, df_1, z0, zn)), (2, (20, 132, [], z0, zn)), (1, (1, 8, [.ref 2, .int 0, .int 0, .int 0, .int 0, .int 0, .int 0, .int 0], z0, zn)), (3, (1, 8, df_1, z0, zn)), (4, (20, 132, [], z0, zn)), (3, (1, 8, [.ref 4, .int 0, .int 0, .int 0, .int 0, .int 0, .int 0, .int 0], z0, zn)), (5, (11, 14, df_11, z0, zn)), (6, (6, 4, df_6, z0, zn)), (6, (6, 4, [.int 16, .int 0, .null, .int 0], z0, zn)), (6, (6, 4, [.int 16, .int 5, .null, .int 0], z0, zn)), (7, (20, 80, [], z0, zn)), (6, (6, 4, [.int 16, .int 5, .ref 7, .int 0], z0, zn)), (6, (6, 4, [.int 16, .int 5, .ref 7, .int 0], z0, zn)), (5, (11, 14, [.ref 6, .null, .null, .null, .null, .null, .null, .null, .null, .null, .null, .null, .null, .null], z0, zn)), (8, (6, 4, df_6, z0, zn)), (8, (6, 4, [.int 400, .int 0, .null, .int 0], z0, zn)), (8, (6, 4, [.int 400, .int 2, .null, .int 0], z0, zn)), (9, (20, 800, [], z0, zn)), (8, (6, 4, [.int 400, .int 2, .ref 9, .int 0], z0, zn)), (8, (6, 4, [.int 400, .int 2, .ref 9, .int 0], z0, zn)), (5, (11, 14, [.ref 6, .ref 8, .null, .null, .null, .null, .null, .null, .null, .null, .null, .null, .null, .null], z0, zn)), (10, (6, 4, df_6, z0, zn)), (10, (6, 4, [.int 16, .int 0, .null, .int 0], z0, zn)), (10, (6, 4, [.int 16, .int 5, .null, .int 0], z0, zn)), (11, (20, 80, [], z0, zn)), (10, (6, 4, [.int 16, .int 5, .ref 11, .int 0], z0, zn)), (10, (6, 4, [.int 16, .int 5, .ref 11, .int 0], z0, zn)), (5, (11, 14, [.ref 6, .ref 8, .ref 10, .null, .null, .null, .null, .null, .null, .null, .null, .null, .null, .null], z0, zn)), (12, (6, 4, df_6, z0, zn)), (12, (6, 4, [.int 16, .int 0, .null, .int 0], z0, zn)), (12, (6, 4, [.int 16, .int 5, .null, .int 0], z0, zn)), (13, (20, 80, [], z0, zn)), (12, (6, 4, [.int 16, .int 5, .ref 13, .int 0], z0, zn)), (12, (6, 4, [.int 16, .int 5, .ref 13, .int 0], z0, zn)), (5, (11, 14, [.ref 6, .ref 8, .ref 10, .ref 12, .null, .null, .null, .null, .null, .null, .null, .null, .null, .null], z0, zn)), (14, (6, 4, df_6, z0, zn)), (14, (6, 4, [.int 16, .int 0, .null, .int 0], z0, zn)), (14, (6, 4, [.int 16, .int 5, .null, .int 0], z0, zn)), (15, (20, 80, [], z0, zn)), (14, (6, 4, [.int 16, .int 5, .ref 15, .int 0], z0, zn)), (14, (6, 4, [.int 16, .int 5, .ref 15, .int 0], z0, zn)), (5, (11, 14, [.ref 6, .ref 8, .ref 10, .ref 12, .ref 14, .null, .null, .null, .null, .null, .null, .null, .null, .null], z0, zn)), (16, (6, 4, df_6, z0, zn)), (16, (6, 4, [.int 150, .int 0, .null, .int 0], z0, zn)), (16, (6, 4, [.int 150, .int 4, .null, .int 0], z0, zn)), (17, (20, 600, [], z0, zn)), (16, (6, 4, [.int 150, .int 4, .ref 17, .int 0], z0, zn)), (16, (6, 4, [.int 150, .int 4, .ref 17, .int 0], z0, zn)), (5, (11, 14, [.ref 6, .ref 8, .ref 10, .ref 12, .ref 14, .ref 16, .null, .null, .null, .null, .null, .null, .null, .null], z0, zn)), (18, (6, 4, df_6, z0, zn)), (18, (6, 4, [.int 9, .int 0, .null, .int 0], z0, zn)), (18, (6, 4, [.int 9, .int 1, .null, .int 0], z0, zn)), (19, (20, 9, [], z0, zn)), (18, (6, 4, [.int 9, .int 1, .ref 19, .int 0], z0, zn)), (18, (6, 4, [.int 9, .int 1, .ref 19, .int 0], z0, zn)), (5, (11, 14, [.ref 6, .ref 8, .ref 10, .ref 12, .ref 14, .ref 16, .ref 18, .null, .null, .null, .null, .null, .null, .null], z0, zn)), (20, (6, 4, df_6, z0, zn)), (20, (6, 4, [.int 8, .int 0, .null, .int 0], z0, zn)), (20, (6, 4, [.int 8, .int 1, .null, .int 0], z0, zn)), (21, (20, 8, [], z0, zn)), (20, (6, 4, [.int 8, .int 1, .ref 21, .int 0], z0, zn)), (20, (6, 4, [.int 8, .int 1, .ref 21, .int 0], z0, zn)), (5, (11, 14, [.ref 6, .ref 8, .ref 10, .ref 12, .ref 14, .ref 16, .ref 18, .ref 20, .null, .null, .null, .null, .null, .null], z0, zn)), (22, (6, 4, df_6, z0, zn)), (22, (6, 4, [.int 5, .int 0, .null, .int 0], z0, zn)), (22, (6, 4, [.int 5, .int 1, .null, .int 0], z0, zn)), (23, (20, 5, [], z0, zn)), (22, (6, 4, [.int 5, .int 1, .ref 23, .int 0], z0, zn)), (22, (6, 4, [.int 5, .int 1, .ref 23, .int 0], z0, zn)), (5, (11, 14, [.ref 6, .ref 8, .ref 10, .ref 12, .ref 14, .ref 16, .ref 18, .ref 20, .ref 22, .null, .null, .null, .null, .null], z0, zn)), (24, (6, 4, df_6, z0, zn)), (24, (6, 4, [.int 8, .int 0, .null, .int 0], z0, zn)), (24, (6, 4, [.int 8, .int 2, .null, .int 0], z0, zn)), (25, (20, 16, [], z0, zn)), (24, (6, 4, [.int 8, .int 2, .ref 25, .int 0], z0, zn)), (24, (6, 4, [.int 8, .int 2, .ref 25, .int 0], z0, zn)), (5, (11, 14, [.ref 6, .ref 8, .ref 10, .ref 12, .ref 14, .ref 16, .ref 18, .ref 20, .ref 22, .ref 24, .null, .null, .null, .null], z0, zn)), (26, (6, 4, df_6, z0, zn)), (26, (6, 4, [.int 16, .int 0, .null, .int 0], z0, zn)), (26, (6, 4, [.int 16, .int 1, .null, .int 0], z0, zn)), (27, (20, 16, [], z0, zn)), (26, (6, 4, [.int 16, .int 1, .ref 27, .int 0], z0, zn)), (26, (6, 4, [.int 16, .int 1, .ref 27, .int 0], z0, zn)), (5, (11, 14, [.ref 6, .ref 8, .ref 10, .ref 12, .ref 14, .ref 16, .ref 18, .ref 20, .ref 22, .ref 24, .ref 26, .null, .null, .null], z0, zn)), (28, (6, 4, df_6, z0, zn)), (28, (6, 4, [.int 6, .int 0, .null, .int 0], z0, zn)), (28, (6, 4, [.int 6, .int 2, .null, .int 0], z0, zn)), (29, (20, 12, [], z0, zn)), (28, (6, 4, [.int 6, .int 2, .ref 29, .int 0], z0, zn)), (28, (6, 4, [.int 6, .int 2, .ref 29, .int 0], z0, zn)), (5, (11, 14, [.ref 6, .ref 8, .ref 10, .ref 12, .ref 14, .ref 16, .ref 18, .ref 20, .ref 22, .ref 24, .ref 26, .ref 28, .null, .null], z0, zn)), (30, (6, 4, df_6, z0, zn)), (30, (6, 4, [.int 12, .int 0, .null, .int 0], z0, zn)), (30, (6, 4, [.int 12, .int 2, .null, .int 0], z0, zn)), (31, (20, 24, [], z0, zn)), (30, (6, 4, [.int 12, .int 2, .ref 31, .int 0], z0, zn)), (30, (6, 4, [.int 12, .int 2, .ref 31, .int 0], z0, zn)), (5, (11, 14, [.ref 6, .ref 8, .ref 10, .ref 12, .ref 14, .ref 16, .ref 18, .ref 20, .ref 22, .ref 24, .ref 26, .ref 28, .ref 30, .null], z0, zn)), (32, (6, 4, df_6, z0, zn)), (32, (6, 4, [.int 8, .int 0, .null, .int 0], z0, zn)), (32, (6, 4, [.int 8, .int 2, .null, .int 0], z0, zn)), (33, (20, 16, [], z0, zn)), (32, (6, 4, [.int 8, .int 2, .ref 33, .int 0], z0, zn)), (32, (6, 4, [.int 8, .int 2, .ref 33, .int 0], z0, zn)), (5, (11, 14, [.ref 6, .ref 8, .ref 10, .ref 12, .ref 14, .ref 16, .ref 18, .ref 20, .ref 22, .ref 24, .ref 26, .ref 28, .ref 30, .ref 32], z0, zn)), (34, (3, 5, df_3, z0, zn)), (35, (20, 12, [], z0, zn)), (34, (3, 5, [.null, .null, .ref 35, .null, .int 0], z0, zn)), (36, (20, 64, [], z0, zn)), (34, (3, 5, [.null, .null, .ref 35, .ref 36, .int 0], z0, zn)), (34, (3, 5, [.ref 6, .null, .ref 35, .ref 36, .int 0], z0, zn)), (34, (3, 5, [.ref 6, .ref 8, .ref 35, .ref 36, .int 0], z0, zn)), (0, (0, 14, [.ref 1, .null, .null, .null, .null, .null, .null, .null, .null, .null, .null, .null, .null, .int 0], z0, zn)), (0, (0, 14, [.ref 1, .null, .ref 3, .null, .null, .null, .null, .null, .null, .null, .null, .null, .null, .int 0], z0, zn)), (0, (0, 14, [.ref 1, .null, .ref 3, .ref 5, .null, .null, .null, .null, .null, .null, .null, .null, .null, .int 0], z0, zn)), (37, (1, 8, df_1, z0, zn)), (38, (20, 132, [], z0, zn)), (37, (1, 8, [.ref 38, .int 0, .int 0, .int 0, .int 0, .int 0, .int 0, .int 0], z0, zn)), (0, (0, 14, [.ref 1, .ref 37, .ref 3, .ref 5, .null, .null, .null, .null, .null, .null, .null, .null, .null, .int 0], z0, zn)), (39, (11, 14, df_11, z0, zn)), (40, (6, 4, df_6, z0, zn)), (40, (6, 4, [.int 16, .int 0, .null, .int 0], z0, zn)), (40, (6, 4, [.int 16, .int 5, .null, .int 0], z0, zn)), (41, (20, 80, [], z0, zn)), (40, (6, 4, [.int 16, .int 5, .ref 41, .int 0], z0, zn)), (40, (6, 4, [.int 16, .int 5, .ref 41, .int 0], z0, zn)), (39, (11, 14, [.ref 40, .null, .null, .null, .null, .null, .null, .null, .null, .null, .null, .null, .null, .null], z0, zn)), (42, (6, 4, df_6, z0, zn)), (42, (6, 4, [.int 400, .int 0, .null, .int 0], z0, zn)), (42, (6, 4, [.int 400, .int 2, .null, .int 0], z0, zn)), (43, (20, 800, [], z0, zn)), (42, (6, 4, [.int 400, .int 2, .ref 43, .int 0], z0, zn)), (42, (6, 4, [.int 400, .int 2, .ref 43, .int 0], z0, zn)), (39, (11, 14, [.ref 40, .ref 42, .null, .null, .null, .null, .null, .null, .null, .null, .null, .null, .null, .null], z0, zn)), (44, (6, 4, df_6, z0, zn)), (44, (6, 4, [.int 16, .int 0, .null, .int 0], z0, zn)), (44, (6, 4, [.int 16, .int 5, .null, .int 0], z0, zn)), (45, (20, 80, [], z0, zn)), (44, (6, 4, [.int 16, .int 5, .ref 45, .int 0], z0, zn)), (44, (6, 4, [.int 16, .int 5, .ref 45, .int 0], z0, zn)), (39, (11, 14, [.ref 40, .ref 42, .ref 44, .null, .null, .null, .null, .null, .null, .null, .null, .null, .null, .null], z0, zn)), (46, (6, 4, df_6, z0, zn)), (46, (6, 4, [.int 16, .int 0, .null, .int 0], z0, zn)), (46, (6, 4, [.int 16, .int 5, .null, .int 0], z0, zn)), (47, (20, 80, [], z0, zn)), (46, (6, 4, [.int 16, .int 5, .ref 47, .int 0], z0, zn)), (46, (6, 4, [.int 16, .int 5, .ref 47, .int 0], z0, zn)), (39, (11, 14, [.ref 40, .ref 42, .ref 44, .ref 46, .null, .null, .null, .null, .null, .null, .null, .null, .null, .null], z0, zn)), (48, (6, 4, df_6, z0, zn)), (48, (6, 4, [.int 16, .int 0, .null, .int 0], z0, zn)), (48, (6, 4, [.int 16, .int 5, .null, .int 0], z0, zn)), (49, (20, 80, [], z0, zn)), (48, (6, 4, [.int 16, .int 5, .ref 49, .int 0], z0, zn)), (48, (6, 4, [.int 16, .int 5, .ref 49, .int 0], z0, zn)), (39, (11, 14, [.ref 40, .ref 42, .ref 44, .ref 46, .ref 48, .null, .null, .null, .null, .null, .null, .null, .null, .null], z0, zn)), (50, (6, 4, df_6, z0, zn)), (50, (6, 4, [.int 150, .int 0, .null, .int 0], z0, zn)), (50, (6, 4, [.int 150, .int 4, .null, .int 0], z0, zn)), (51, (20, 600, [], z0, zn)), (50, (6, 4, [.int 150, .int 4, .ref 51, .int 0], z0, zn)), (50, (6, 4, [.int 150, .int 4, .ref 51, .int 0], z0, zn)), (39, (11, 14, [.ref 40, .ref 42, .ref 44, .ref 46, .ref 48, .ref 50, .null, .null, .null, .null, .null, .null, .null, .null], z0, zn)), (52, (6, 4, df_6, z0, zn)), (52, (6, 4, [.int 9, .int 0, .null, .int 0], z0, zn)), (52, (6, 4, [.int 9, .int 1, .null, .int 0], z0, zn)), (53, (20, 9, [], z0, zn)), (52, (6, 4, [.int 9, .int 1, .ref 53, .int 0], z0, zn)), (52, (6, 4, [.int 9, .int 1, .ref 53, .int 0], z0, zn)), (39, (11, 14, [.ref 40, .ref 42, .ref 44, .ref 46, .ref 48, .ref 50, .ref 52, .null, .null, .null, .null, .null, .null, .null], z0, zn)), (54, (6, 4, df_6, z0, zn)), (54, (6, 4, [.int 8, .int 0, .null, .int 0], z0, zn)), (54, (6, 4, [.int 8, .int 1, .null, .int 0], z0, zn)), (55, (20, 8, [], z0, zn)), (54, (6, 4, [.int 8, .int 1, .ref 55, .int 0], z0, zn)), (54, (6, 4, [.int 8, .int 1, .ref 55, .int 0], z0, zn)), (39, (11, 14, [.ref 40, .ref 42, .ref 44, .ref 46, .ref 48, .ref 50, .ref 52, .ref 54, .null, .null, .null, .null, .null, .null], z0, zn)), (56, (6, 4, df_6, z0, zn)), (56, (6, 4, [.int 5, .int 0, .null, .int 0], z0, zn)), (56, (6, 4, [.int 5, .int 1, .null, .int 0], z0, zn)), (57, (20, 5, [], z0, zn)), (56, (6, 4, [.int 5, .int 1, .ref 57, .int 0], z0, zn)), (56, (6, 4, [.int 5, .int 1, .ref 57, .int 0], z0, zn)), (39, (11, 14, [.ref 40, .ref 42, .ref 44, .ref 46, .ref 48, .ref 50, .ref 52, .ref 54, .ref 56, .null, .null, .null, .null, .null], z0, zn)), (58, (6, 4, df_6, z0, zn)), (58, (6, 4, [.int 8, .int 0, .null, .int 0], z0, zn)), (58, (6, 4, [.int 8, .int 2, .null, .int 0], z0, zn)), (59, (20, 16, [], z0, zn)), (58, (6, 4, [.int 8, .int 2, .ref 59, .int 0], z0, zn)), (58, (6, 4, [.int 8, .int 2, .ref 59, .int 0], z0, zn)), (39, (11, 14, [.ref 40, .ref 42, .ref 44, .ref 46, .ref 48, .ref 50, .ref 52, .ref 54, .ref 56, .ref 58, .null, .null, .null, .null], z0, zn)), (60, (6, 4, df_6, z0, zn)), (60, (6, 4, [.int 16, .int 0, .null, .int 0], z0, zn)), (60, (6, 4, [.int 16, .int 1, .null, .int 0], z0, zn)), (61, (20, 16, [], z0, zn)), (60, (6, 4, [.int 16, .int 1, .ref 61, .int 0], z0, zn)), (60, (6, 4, [.int 16, .int 1, .ref 61, .int 0], z0, zn)), (39, (11, 14, [.ref 40, .ref 42, .ref 44, .ref 46, .ref 48, .ref 50, .ref 52, .ref 54, .ref 56, .ref 58, .ref 60, .null, .null, .null], z0, zn)), (62, (6, 4, df_6, z0, zn)), (62, (6, 4, [.int 6, .int 0, .null, .int 0], z0, zn)), (62, (6, 4, [.int 6, .int 2, .null, .int 0], z0, zn)), (63, (20, 12, [], z0, zn)), (62, (6, 4, [.int 6, .int 2, .ref 63, .int 0], z0, zn)), (62, (6, 4, [.int 6, .int 2, .ref 63, .int 0], z0, zn)), (39, (11, 14, [.ref 40, .ref 42, .ref 44, .ref 46, .ref 48, .ref 50, .ref 52, .ref 54, .ref 56, .ref 58, .ref 60, .ref 62, .null, .null], z0, zn)), (64, (6, 4, df_6, z0, zn)), (64, (6, 4, [.int 12, .int 0, .null, .int 0], z0, zn)), (64, (6, 4, [.int 12, .int 2, .null, .int 0], z0, zn)), (65, (20, 24, [], z0, zn)), (64, (6, 4, [.int 12, .int 2, .ref 65, .int 0], z0, zn)), (64, (6, 4, [.int 12, .int 2, .ref 65, .int 0], z0, zn)), (39, (11, 14, [.ref 40, .ref 42, .ref 44, .ref 46, .ref 48, .ref 50, .ref 52, .ref 54, .ref 56, .ref 58, .ref 60, .ref 62, .ref 64, .null], z0, zn)), (66, (6, 4, df_6, z0, zn)), (66, (6, 4, [.int 8, .int 0, .null, .int 0], z0, zn)), (66, (6, 4, [.int 8, .int 2, .null, .int 0], z0, zn)), (67, (20, 16, [], z0, zn)), (66, (6, 4, [.int 8, .int 2, .ref 67, .int 0], z0, zn)), (66, (6, 4, [.int 8, .int 2, .ref 67, .int 0], z0, zn)), (39, (11, 14, [.ref 40, .ref 42, .ref 44, .ref 46, .ref 48, .ref 50, .ref 52, .ref 54, .ref 56, .ref 58, .ref 60, .ref 62, .ref 64, .ref 66], z0, zn)), (0, (0, 14, [.ref 1, .ref 37, .ref 3, .ref 5, .ref 39, .null, .null, .null, .null, .null, .null, .null, .null, .int 0], z0, zn)), (68, (7, 4, df_7, z0, zn)), (68, (7, 4, [.ref 1, .null, .null, .int 0], z0, zn)), (68, (7, 4, [.ref 1, .ref 5, .null, .int 0], z0, zn)), (68, (7, 4, [.ref 1, .ref 5, .ref 34, .int 0], z0, zn)), (68, (7, 4, [.ref 1, .ref 5, .ref 34, .int 1], z0, zn)), (0, (0, 14, [.ref 1, .ref 37, .ref 3, .ref 5, .ref 39, .ref 68, .null, .null, .null, .null, .null, .null, .null, .int 0], z0, zn)), (69, (7, 4, df_7, z0, zn)), (69, (7, 4, [.ref 3, .null, .null, .int 0], z0, zn)), (69, (7, 4, [.ref 3, .ref 5, .null, .int 0], z0, zn)), (69, (7, 4, [.ref 3, .ref 5, .ref 34, .int 0], z0, zn)), (69, (7, 4, [.ref 3, .ref 5, .ref 34, .int 0], z0, zn)), (0, (0, 14, [.ref 1, .ref 37, .ref 3, .ref 5, .ref 39, .ref 68, .ref 69, .null, .null, .null, .null, .null, .null, .int 0], z0, zn)), (70, (4, 4, df_4, z0, zn)), (71, (22, 6, [], z0, zn)), (70, (4, 4, [.ref 71, .null, .int 0, .int 0], z0, zn)), (72, (20, 6, [], z0, zn)), (70, (4, 4, [.ref 71, .ref 72, .int 0, .int 0], z0, zn)), (73, (1, 8, df_1, z0, zn)), (74, (20, 132, [], z0, zn)), (73, (1, 8, [.ref 74, .int 0, .int 0, .int 0, .int 0, .int 0, .int 0, .int 0], z0, zn)), (71, (22, 6, [], z0, rz_1)), (75, (1, 8, df_1, z0, zn)), (76, (20, 132, [], z0, zn)), (75, (1, 8, [.ref 76, .int 0, .int 0, .int 0, .int 0, .int 0, .int 0, .int 0], z0, zn)), (71, (22, 6, [], z0, rz_2)), (77, (1, 8, df_1, z0, zn)), (78, (20, 132, [], z0, zn)), (77, (1, 8, [.ref 78, .int 0, .int 0, .int 0, .int 0, .int 0, .int 0, .int 0], z0, zn)), (71, (22, 6, [], z0, rz_3)), (79, (1, 8, df_1, z0, zn)), (80, (20, 132, [], z0, zn)), (79, (1, 8, [.ref 80, .int 0, .int 0, .int 0, .int 0, .int 0, .int 0, .int 0], z0, zn)), (71, (22, 6, [], z0, rz_4)), (81, (1, 8, df_1, z0, zn)), (82, (20, 132, [], z0, zn)), (81, (1, 8, [.ref 82, .int 0, .int 0, .int 0, .int 0, .int 0, .int 0, .int 0], z0, zn)), (71, (22, 6, [], z0, rz_5)), (83, (1, 8, df_1, z0, zn)), (84, (20, 132, [], z0, zn)), (83, (1, 8, [.ref 84, .int 0, .int 0, .int 0, .int 0, .int 0, .int 0, .int 0], z0, zn)), (71, (22, 6, [], z0, rz_6)), (0, (0, 14, [.ref 1, .ref 37, .ref 3, .ref 5, .ref 39, .ref 68, .ref 69, .ref 70, .null, .null, .null, .null, .null, .int 0], z0, zn)), (85, (10, 6, df_10, z0, zn)), (86, (21, 400, [], z0, zn)), (85, (10, 6, [.ref 86, .null, .null, .null, .int 0, .int 0], z0, zn)), (87, (20, 401, [], z0, zn)), (85, (10, 6, [.ref 86, .ref 87, .null, .null, .int 0, .int 0], z0, zn)), (88, (20, 401, [], z0, zn)), (85, (10, 6, [.ref 86, .ref 87, .ref 88, .null, .int 0, .int 0], z0, zn)), (89, (20, 401, [], z0, zn)), (85, (10, 6, [.ref 86, .ref 87, .ref 88, .ref 89, .int 0, .int 0], z0, zn)), (0, (0, 14, [.ref 1, .ref 37, .ref 3, .ref 5, .ref 39, .ref 68, .ref 69, .ref 70, .ref 85, .null, .null, .null, .null, .int 0], z0, zn)), (90, (5, 10, df_5, z0, zn)), (91, (6, 4, df_6, z0, zn)), (91, (6, 4, [.int 16, .int 0, .null, .int 0], z0, zn)), (91, (6, 4, [.int 16, .int 5, .null, .int 0], z0, zn)), (92, (20, 80, [], z0, zn)), (91, (6, 4, [.int 16, .int 5, .ref 92, .int 0], z0, zn)), (91, (6, 4, [.int 16, .int 5, .ref 92, .int 0], z0, zn)), (90, (5, 10, [.ref 91, .null, .int 0, .int 0, .null, .int 0, .int 0, .int 0, .int 0, .int 0], z0, zn)), (93, (6, 4, df_6, z0, zn)), (93, (6, 4, [.int 400, .int 0, .null, .int 0], z0, zn)), (93, (6, 4, [.int 400, .int 2, .null, .int 0], z0, zn)), (94, (20, 800, [], z0, zn)), (93, (6, 4, [.int 400, .int 2, .ref 94, .int 0], z0, zn)), (93, (6, 4, [.int 400, .int 2, .ref 94, .int 0], z0, zn)), (90, (5, 10, [.ref 91, .ref 93, .int 0, .int 0, .null, .int 0, .int 0, .int 0, .int 0, .int 0], z0, zn)), (90, (5, 10, [.ref 91, .ref 93, .int 0, .int 0, .null, .int 0, .int 0, .int 0, .int 0, .int 0], z0, zn)), (90, (5, 10, [.ref 91, .ref 93, .int 0, .int (-1), .null, .int 0, .int 0, .int 0, .int 0, .int 0], z0, zn)), (90, (5, 10, [.ref 91, .ref 93, .int 0, .int (-1), .ref 85, .int 0, .int 0, .int 0, .int 0, .int 0], z0, zn)), (0, (0, 14, [.ref 1, .ref 37, .ref 3, .ref 5, .ref 39, .ref 68, .ref 69, .ref 70, .ref 85, .ref 90, .null, .null, .null, .int 0], z0, zn)), (95, (9, 2, df_9, z0, zn)), (96, (20, 12, [], z0, zn)), (95, (9, 2, [.ref 96, .null], z0, zn)), (97, (20, 12, [], z0, zn)), (95, (9, 2, [.ref 96, .ref 97], z0, zn)), (0, (0, 14, [.ref 1, .ref 37, .ref 3, .ref 5, .ref 39, .ref 68, .ref 69, .ref 70, .ref 85, .ref 90, .ref 95, .null, .null, .int 0], z0, zn)), (98, (2, 3, df_2, z0, zn)), (99, (20, 8, [], z0, zn)), (98, (2, 3, [.ref 99, .null, .null], z0, zn)), (100, (20, 17, [], z0, zn)), (98, (2, 3, [.ref 99, .ref 100, .null], z0, zn)), (101, (20, 17, [], z0, zn)), (98, (2, 3, [.ref 99, .ref 100, .ref 101], z0, zn)), (0, (0, 14, [.ref 1, .ref 37, .ref 3, .ref 5, .ref 39, .ref 68, .ref 69, .ref 70, .ref 85, .ref 90, .ref 95, .ref 98, .null, .int 0], z0, zn)), (102, (8, 2, df_8, z0, zn)), (103, (20, 1024, [], z0, zn)), (102, (8, 2, [.ref 103, .int 0], z0, zn)), (0, (0, 14, [.ref 1, .ref 37, .ref 3, .ref 5, .ref 39, .ref 68, .ref 69, .ref 70, .ref 85, .ref 90, .ref 95, .ref 98, .ref 102, .int 0], z0, zn)), (0, (0, 14, [.ref 1, .ref 37, .ref 3, .ref 5, .ref 39, .ref 68, .ref 69, .ref 70, .ref 85, .ref 90, .ref 95, .ref 98, .ref 102, .int 0], z0, zn))]
noncomputable def wyM : List (Nat × CE) := [(104, (12, 75, df_12, z0, zn)), (105, (20, 115, [], z0, zn)), (104, (12, 75, [.int 0, .ref 105, .null, .int 0, .null, .int 0, .int 0, .null, .null, .null, .null, .int 0, .int 0, .int 0, .int 0, .int 0, .null, .null, .null, .null, .null, .null, .null, .null, .int 0, .int 0, .int 0, .null, .int 0, .int 0, .int 0, .int 0, .int 0, .int 0, .null, .int 0, .null, .int 0, .null, .null, .null, .null, .int 0, .null, .null, .int 0, .null, .null, .null, .int 0, .null, .int 0, .null, .null, .int 0, .null, .null, .int 0, .null, .null, .null, .null, .int 0, .null, .null, .null, .int 0, .null, .null, .null, .null, .int 0, .int 0, .int 0, .null], z0, zn)), (106, (20, 690, [], z0, zn)), (104, (12, 75, [.int 0, .ref 105, .ref 106, .int 0, .null, .int 0, .int 0, .null, .null, .null, .null, .int 0, .int 0, .int 0, .int 0, .int 0, .null, .null, .null, .null, .null, .null, .null, .null, .int 0, .int 0, .int 0, .null, .int 0, .int 0, .int 0, .int 0, .int 0, .int 0, .null, .int 0, .null, .int 0, .null, .null, .null, .null, .int 0, .null, .null, .int 0, .null, .null, .null, .int 0, .null, .int 0, .null, .null, .int 0, .null, .null, .int 0, .null, .null, .null, .null, .int 0, .null, .null, .null, .int 0, .null, .null, .null, .null, .int 0, .int 0, .int 0, .null], z0, zn)), (107, (20, 115, [], z0, zn)), (104, (12, 75, [.int 0, .ref 105, .ref 106, .int 0, .ref 107, .int 0, .int 0, .null, .null, .null, .null, .int 0, .int 0, .int 0, .int 0, .int 0, .null, .null, .null, .null, .null, .null, .null, .null, .int 0, .int 0, .int 0, .null, .int 0, .int 0, .int 0, .int 0, .int 0, .int 0, .null, .int 0, .null, .int 0, .null, .null, .null, .null, .int 0, .null, .null, .int 0, .null, .null, .null, .int 0, .null, .int 0, .null, .null, .int 0, .null, .null, .int 0, .null, .null, .null, .null, .int 0, .null, .null, .null, .int 0, .null, .null, .null, .null, .int 0, .int 0, .int 0, .null], z0, zn)), (108, (20, 12, [], z0, zn)), (104, (12, 75, [.int 0, .ref 105, .ref 106, .int 0, .ref 107, .int 0, .int 0, .ref 108, .null, .null, .null, .int 0, .int 0, .int 0, .int 0, .int 0, .null, .null, .null, .null, .null, .null, .null, .null, .int 0, .int 0, .int 0, .null, .int 0, .int 0, .int 0, .int 0, .int 0, .int 0, .null, .int 0, .null, .int 0, .null, .null, .null, .null, .int 0, .null, .null, .int 0, .null, .null, .null, .int 0, .null, .int 0, .null, .null, .int 0, .null, .null, .int 0, .null, .null, .null, .null, .int 0, .null, .null, .null, .int 0, .null, .null, .null, .null, .int 0, .int 0, .int 0, .null], z0, zn)), (109, (20, 12, [], z0, zn)), (104, (12, 75, [.int 0, .ref 105, .ref 106, .int 0, .ref 107, .int 0, .int 0, .ref 108, .ref 109, .null, .null, .int 0, .int 0, .int 0, .int 0, .int 0, .null, .null, .null, .null, .null, .null, .null, .null, .int 0, .int 0, .int 0, .null, .int 0, .int 0, .int 0, .int 0, .int 0, .int 0, .null, .int 0, .null, .int 0, .null, .null, .null, .null, .int 0, .null, .null, .int 0, .null, .null, .null, .int 0, .null, .int 0, .null, .null, .int 0, .null, .null, .int 0, .null, .null, .null, .null, .int 0, .null, .null, .null, .int 0, .null, .null, .null, .null, .int 0, .int 0, .int 0, .null], z0, zn)), (110, (20, 600, [], z0, zn)), (104, (12, 75, [.int 0, .ref 105, .ref 106, .int 0, .ref 107, .int 0, .int 0, .ref 108, .ref 109, .ref 110, .null, .int 0, .int 0, .int 0, .int 0, .int 0, .null, .null, .null, .null, .null, .null, .null, .null, .int 0, .int 0, .int 0, .null, .int 0, .int 0, .int 0, .int 0, .int 0, .int 0, .null, .int 0, .null, .int 0, .null, .null, .null, .null, .int 0, .null, .null, .int 0, .null, .null, .null, .int 0, .null, .int 0, .null, .null, .int 0, .null, .null, .int 0, .null, .null, .null, .null, .int 0, .null, .null, .null, .int 0, .null, .null, .null, .null, .int 0, .int 0, .int 0, .null], z0, zn)), (111, (20, 400, [], z0, zn)), (104, (12, 75, [.int 0, .ref 105, .ref 106, .int 0, .ref 107, .int 0, .int 0, .ref 108, .ref 109, .ref 110, .ref 111, .int 0, .int 0, .int 0, .int 0, .int 0, .null, .null, .null, .null, .null, .null, .null, .null, .int 0, .int 0, .int 0, .null, .int 0, .int 0, .int 0, .int 0, .int 0, .int 0, .null, .int 0, .null, .int 0, .null, .null, .null, .null, .int 0, .null, .null, .int 0, .null, .null, .null, .int 0, .null, .int 0, .null, .null, .int 0, .null, .null, .int 0, .null, .null, .null, .null, .int 0, .null, .null, .null, .int 0, .null, .null, .null, .null, .int 0, .int 0, .int 0, .null], z0, zn)), (112, (20, 141, [], z0, zn)), (112, (20, 141, [], wz_7, zn)), (112, (20, 141, [], wz_8, zn)), (112, (20, 141, [], wz_9, zn)), (112, (20, 141, [], wz_10, zn)), (112, (20, 141, [], wz_11, zn)), (112, (20, 141, [], wz_12, zn)), (112, (20, 141, [], wz_13, zn)), (112, (20, 141, [], wz_14, zn)), (112, (20, 141, [], wz_15, zn)), (112, (20, 141, [], wz_16, zn)), (112, (20, 141, [], wz_17, zn)), (112, (20, 141, [], wz_18, zn)), (112, (20, 141, [], wz_19, zn)), (112, (20, 141, [], wz_20, zn)), (112, (20, 141, [], wz_21, zn)), (112, (20, 141, [], wz_22, zn)), (112, (20, 141, [], wz_23, zn)), (112, (20, 141, [], wz_24, zn)), (112, (20, 141, [], wz_25, zn)), (112, (20, 141, [], wz_26, zn)), (112, (20, 141, [], wz_27, zn)), (112, (20, 141, [], wz_28, zn)), (112, (20, 141, [], wz_29, zn)), (112, (20, 141, [], wz_30, zn)), (112, (20, 141, [], wz_31, zn)), (112, (20, 141, [], wz_32, zn)), (112, (20, 141, [], wz_33, zn)), (112, (20, 141, [], wz_34, zn)), (112, (20, 141, [], wz_35, zn)), (112, (20, 141, [], wz_36, zn)), (112, (20, 141, [], wz_37, zn)), (112, (20, 141, [], wz_38, zn)), (112, (20, 141, [], wz_39, zn)), (112, (20, 141, [], wz_40, zn)), (112, (20, 141, [], wz_41, zn)), (112, (20, 141, [], wz_42, zn)), (112, (20, 141, [], wz_43, zn)), (112, (20, 141, [], wz_44, zn)), (112, (20, 141, [], wz_45, zn)), (112, (20, 141, [], wz_46, zn)), (112, (20, 141, [], wz_47, zn)), (112, (20, 141, [], wz_48, zn)), (112, (20, 141, [], wz_49, zn)), (112, (20, 141, [], wz_50, zn)), (112, (20, 141, [], wz_51, zn)), (112, (20, 141, [], wz_52, zn)), (112, (20, 141, [], wz_53, zn)), (112, (20, 141, [], wz_54, zn)), (112, (20, 141, [], wz_55, zn)), (112, (20, 141, [], wz_56, zn)), (112, (20, 141, [], wz_57, zn)), (112, (20, 141, [], wz_58, zn)), (112, (20, 141, [], wz_59, zn)), (112, (20, 141, [], wz_60, zn)), (112, (20, 141, [], wz_61, zn)), (112, (20, 141, [], wz_62, zn)), (112, (20, 141, [], wz_63, zn)), (112, (20, 141, [], wz_64, zn)), (112, (20, 141, [], wz_65, zn)), (112, (20, 141, [], wz_66, zn)), (112, (20, 141, [], wz_67, zn)), (112, (20, 141, [], wz_68, zn)), (112, (20, 141, [], wz_69, zn)), (112, (20, 141, [], wz_70, zn)), (112, (20, 141, [], wz_71, zn)), (112, (20, 141, [], wz_72, zn)), (112, (20, 141, [], wz_73, zn)), (112, (20, 141, [], wz_74, zn)), (112, (20, 141, [], wz_75, zn)), (112, (20, 141, [], wz_76, zn)), (112, (20, 141, [], wz_77, zn)), (112, (20, 141, [], wz_78, zn)), (112, (20, 141, [], wz_79, zn)), (112, (20, 141, [], wz_80, zn)), (112, (20, 141, [], wz_81, zn)), (112, (20, 141, [], wz_82, zn)), (112, (20, 141, [], wz_83, zn)), (112, (20, 141, [], wz_84, zn)), (112, (20, 141, [], wz_85, zn)), (112, (20, 141, [], wz_86, zn)), (112, (20, 141, [], wz_87, zn)), (112, (20, 141, [], wz_88, zn)), (112, (20, 141, [], wz_89, zn)), (112, (20, 141, [], wz_90, zn)), (112, (20, 141, [], wz_91, zn)), (112, (20, 141, [], wz_92, zn)), (112, (20, 141, [], wz_93, zn)), (112, (20, 141, [], wz_94, zn)), (112, (20, 141, [], wz_95, zn)), (112, (20, 141, [], wz_96, zn)), (112, (20, 141, [], wz_97, zn)), (112, (20, 141, [], wz_98, zn)), (112, (20, 141, [], wz_99, zn)), (112, (20, 141, [], wz_100, zn)), (112, (20, 141, [], wz_101, zn)), (112, (20, 141, [], wz_102, zn)), (112, (20, 141, [], wz_103, zn)), (112, (20, 141, [], wz_104, zn)), (112, (20, 141, [], wz_105, zn)), (112, (20, 141, [], wz_106, zn)), (112, (20, 141, [], wz_107, zn)), (112, (20, 141, [], wz_108, zn)), (112, (20, 141, [], wz_109, zn)), (112, (20, 141, [], wz_110, zn)), (112, (20, 141, [], wz_111, zn)), (112, (20, 141, [], wz_112, zn)), (112, (20, 141, [], wz_113, zn)), (112, (20, 141, [], wz_114, zn)), (112, (20, 141, [], wz_115, zn)), (112, (20, 141, [], wz_116, zn)), (112, (20, 141, [], wz_117, zn)), (112, (20, 141, [], wz_118, zn)), (112, (20, 141, [], wz_119, zn)), (112, (20, 141, [], wz_120, zn)), (112, (20, 141, [], wz_121, zn)), (112, (20, 141, [], wz_122, zn)), (112, (20, 141, [], wz_123, zn)), (112, (20, 141, [], wz_124, zn)), (112, (20, 141, [], wz_125, zn)), (112, (20, 141, [], wz_126, zn)), (112, (20, 141, [], wz_127, zn)), (112, (20, 141, [], wz_128, zn)), (112, (20, 141, [], wz_129, zn)), (112, (20, 141, [], wz_130, zn)), (112, (20, 141, [], wz_131, zn)), (112, (20, 141, [], wz_132, zn)), (112, (20, 141, [], wz_133, zn)), (112, (20, 141, [], wz_134, zn)), (112, (20, 141, [], wz_135, zn)), (112, (20, 141, [], wz_136, zn)), (112, (20, 141, [], wz_137, zn)), (112, (20, 141, [], wz_138, zn)), (112, (20, 141, [], wz_139, zn)), (112, (20, 141, [], wz_140, zn)), (112, (20, 141, [], wz_141, zn)), (112, (20, 141, [], wz_142, zn)), (112, (20, 141, [], wz_143, zn)), (112, (20, 141, [], wz_144, zn)), (112, (20, 141, [], wz_145, zn)), (112, (20, 141, [], wz_146, zn)), (112, (20, 141, [], wz_147, zn)), (104, (12, 75, [.int 0, .ref 105, .ref 106, .int 0, .ref 107, .int 0, .int 0, .ref 108, .ref 109, .ref 110, .ref 111, .int 0, .int 0, .int 0, .int 0, .int 0, .ref 112, .null, .null, .null, .null, .null, .null, .null, .int 0, .int 0, .int 0, .null, .int 0, .int 0, .int 0, .int 0, .int 0, .int 0, .null, .int 0, .null, .int 0, .null, .null, .null, .null, .int 0, .null, .null, .int 0, .null, .null, .null, .int 0, .null, .int 0, .null, .null, .int 0, .null, .null, .int 0, .null, .null, .null, .null, .int 0, .null, .null, .null, .int 0, .null, .null, .null, .null, .int 0, .int 0, .int 0, .null], z0, zn)), (113, (20, 2, [], z0, zn)), (104, (12, 75, [.int 0, .ref 105, .ref 106, .int 0, .ref 107, .int 0, .int 0, .ref 108, .ref 109, .ref 110, .ref 111, .int 0, .int 0, .int 0, .int 0, .int 0, .ref 112, .ref 113, .null, .null, .null, .null, .null, .null, .int 0, .int 0, .int 0, .null, .int 0, .int 0, .int 0, .int 0, .int 0, .int 0, .null, .int 0, .null, .int 0, .null, .null, .null, .null, .int 0, .null, .null, .int 0, .null, .null, .null, .int 0, .null, .int 0, .null, .null, .int 0, .null, .null, .int 0, .null, .null, .null, .null, .int 0, .null, .null, .null, .int 0, .null, .null, .null, .null, .int 0, .int 0, .int 0, .null], z0, zn)), (114, (20, 48, [], z0, zn)), (104, (12, 75, [.int 0, .ref 105, .ref 106, .int 0, .ref 107, .int 0, .int 0, .ref 108, .ref 109, .ref 110, .ref 111, .int 0, .int 0, .int 0, .int 0, .int 0, .ref 112, .ref 113, .ref 114, .null, .null, .null, .null, .null, .int 0, .int 0, .int 0, .null, .int 0, .int 0, .int 0, .int 0, .int 0, .int 0, .null, .int 0, .null, .int 0, .null, .null, .null, .null, .int 0, .null, .null, .int 0, .null, .null, .null, .int 0, .null, .int 0, .null, .null, .int 0, .null, .null, .int 0, .null, .null, .null, .null, .int 0, .null, .null, .null, .int 0, .null, .null, .null, .null, .int 0, .int 0, .int 0, .null], z0, zn)), (115, (20, 48, [], z0, zn)), (104, (12, 75, [.int 0, .ref 105, .ref 106, .int 0, .ref 107, .int 0, .int 0, .ref 108, .ref 109, .ref 110, .ref 111, .int 0, .int 0, .int 0, .int 0, .int 0, .ref 112, .ref 113, .ref 114, .ref 115, .null, .null, .null, .null, .int 0, .int 0, .int 0, .null, .int 0, .int 0, .int 0, .int 0, .int 0, .int 0, .null, .int 0, .null, .int 0, .null, .null, .null, .null, .int 0, .null, .null, .int 0, .null, .null, .null, .int 0, .null, .int 0, .null, .null, .int 0, .null, .null, .int 0, .null, .null, .null, .null, .int 0, .null, .null, .null, .int 0, .null, .null, .null, .null, .int 0, .int 0, .int 0, .null], z0, zn)), (116, (20, 48, [], z0, zn)), (104, (12, 75, [.int 0, .ref 105, .ref 106, .int 0, .ref 107, .int 0, .int 0, .ref 108, .ref 109, .ref 110, .ref 111, .int 0, .int 0, .int 0, .int 0, .int 0, .ref 112, .ref 113, .ref 114, .ref 115, .ref 116, .null, .null, .null, .int 0, .int 0, .int 0, .null, .int 0, .int 0, .int 0, .int 0, .int 0, .int 0, .null, .int 0, .null, .int 0, .null, .null, .null, .null, .int 0, .null, .null, .int 0, .null, .null, .null, .int 0, .null, .int 0, .null, .null, .int 0, .null, .null, .int 0, .null, .null, .null, .null, .int 0, .null, .null, .null, .int 0, .null, .null, .null, .null, .int 0, .int 0, .int 0, .null], z0, zn)), (117, (20, 48, [], z0, zn)), (104, (12, 75, [.int 0, .ref 105, .ref 106, .int 0, .ref 107, .int 0, .int 0, .ref 108, .ref 109, .ref 110, .ref 111, .int 0, .int 0, .int 0, .int 0, .int 0, .ref 112, .ref 113, .ref 114, .ref 115, .ref 116, .ref 117, .null, .null, .int 0, .int 0, .int 0, .null, .int 0, .int 0, .int 0, .int 0, .int 0, .int 0, .null, .int 0, .null, .int 0, .null, .null, .null, .null, .int 0, .null, .null, .int 0, .null, .null, .null, .int 0, .null, .int 0, .null, .null, .int 0, .null, .null, .int 0, .null, .null, .null, .null, .int 0, .null, .null, .null, .int 0, .null, .null, .null, .null, .int 0, .int 0, .int 0, .null], z0, zn)), (118, (20, 1200, [], z0, zn)), (104, (12, 75, [.int 0, .ref 105, .ref 106, .int 0, .ref 107, .int 0, .int 0, .ref 108, .ref 109, .ref 110, .ref 111, .int 0, .int 0, .int 0, .int 0, .int 0, .ref 112, .ref 113, .ref 114, .ref 115, .ref 116, .ref 117, .ref 118, .null, .int 0, .int 0, .int 0, .null, .int 0, .int 0, .int 0, .int 0, .int 0, .int 0, .null, .int 0, .null, .int 0, .null, .null, .null, .null, .int 0, .null, .null, .int 0, .null, .null, .null, .int 0, .null, .int 0, .null, .null, .int 0, .null, .null, .int 0, .null, .null, .null, .null, .int 0, .null, .null, .null, .int 0, .null, .null, .null, .null, .int 0, .int 0, .int 0, .null], z0, zn)), (119, (20, 1200, [], z0, zn)), (104, (12, 75, [.int 0, .ref 105, .ref 106, .int 0, .ref 107, .int 0, .int 0, .ref 108, .ref 109, .ref 110, .ref 111, .int 0, .int 0, .int 0, .int 0, .int 0, .ref 112, .ref 113, .ref 114, .ref 115, .ref 116, .ref 117, .ref 118, .ref 119, .int 0, .int 0, .int 0, .null, .int 0, .int 0, .int 0, .int 0, .int 0, .int 0, .null, .int 0, .null, .int 0, .null, .null, .null, .null, .int 0, .null, .null, .int 0, .null, .null, .null, .int 0, .null, .int 0, .null, .null, .int 0, .null, .null, .int 0, .null, .null, .null, .null, .int 0, .null, .null, .null, .int 0, .null, .null, .null, .null, .int 0, .int 0, .int 0, .null], z0, zn)), (120, (20, 40, [], z0, zn)), (104, (12, 75, [.int 0, .ref 105, .ref 106, .int 0, .ref 107, .int 0, .int 0, .ref 108, .ref 109, .ref 110, .ref 111, .int 0, .int 0, .int 0, .int 0, .int 0, .ref 112, .ref 113, .ref 114, .ref 115, .ref 116, .ref 117, .ref 118, .ref 119, .int 0, .int 0, .int 0, .ref 120, .int 0, .int 0, .int 0, .int 0, .int 0, .int 0, .null, .int 0, .null, .int 0, .null, .null, .null, .null, .int 0, .null, .null, .int 0, .null, .null, .null, .int 0, .null, .int 0, .null, .null, .int 0, .null, .null, .int 0, .null, .null, .null, .null, .int 0, .null, .null, .null, .int 0, .null, .null, .null, .null, .int 0, .int 0, .int 0, .null], z0, zn)), (104, (12, 75, [.int 0, .ref 105, .ref 106, .int 0, .ref 107, .int 0, .int 0, .ref 108, .ref 109, .ref 110, .ref 111, .int 0, .int 0, .int 0, .int 0, .int 0, .ref 112, .ref 113, .ref 114, .ref 115, .ref 116, .ref 117, .ref 118, .ref 119, .int 0, .int 0, .int 0, .ref 120, .int 0, .int 0, .int 0, .int 0, .int (-1), .int 0, .null, .int 0, .null, .int 0, .null, .null, .null, .null, .int 0, .null, .null, .int 0, .null, .null, .null, .int 0, .null, .int 0, .null, .null, .int 0, .null, .null, .int 0, .null, .null, .null, .null, .int 0, .null, .null, .null, .int 0, .null, .null, .null, .null, .int 0, .int 0, .int 0, .null], z0, zn)), (121, (20, 96, [], z0, zn)), (104, (12, 75, [.int 0, .ref 105, .ref 106, .int 0, .ref 107, .int 0, .int 0, .ref 108, .ref 109, .ref 110, .ref 111, .int 0, .int 0, .int 0, .int 0, .int 0, .ref 112, .ref 113, .ref 114, .ref 115, .ref 116, .ref 117, .ref 118, .ref 119, .int 0, .int 0, .int 0, .ref 120, .int 0, .int 0, .int 0, .int 0, .int (-1), .int 0, .ref 121, .int 0, .null, .int 0, .null, .null, .null, .null, .int 0, .null, .null, .int 0, .null, .null, .null, .int 0, .null, .int 0, .null, .null, .int 0, .null, .null, .int 0, .null, .null, .null, .null, .int 0, .null, .null, .null, .int 0, .null, .null, .null, .null, .int 0, .int 0, .int 0, .null], z0, zn)), (122, (20, 160, [], z0, zn)), (104, (12, 75, [.int 0, .ref 105, .ref 106, .int 0, .ref 107, .int 0, .int 0, .ref 108, .ref 109, .ref 110, .ref 111, .int 0, .int 0, .int 0, .int 0, .int 0, .ref 112, .ref 113, .ref 114, .ref 115, .ref 116, .ref 117, .ref 118, .ref 119, .int 0, .int 0, .int 0, .ref 120, .int 0, .int 0, .int 0, .int 0, .int (-1), .int 0, .ref 121, .int 0, .ref 122, .int 0, .null, .null, .null, .null, .int 0, .null, .null, .int 0, .null, .null, .null, .int 0, .null, .int 0, .null, .null, .int 0, .null, .null, .int 0, .null, .null, .null, .null, .int 0, .null, .null, .null, .int 0, .null, .null, .null, .null, .int 0, .int 0, .int 0, .null], z0, zn)), (123, (20, 24, [], z0, zn)), (104, (12, 75, [.int 0, .ref 105, .ref 106, .int 0, .ref 107, .int 0, .int 0, .ref 108, .ref 109, .ref 110, .ref 111, .int 0, .int 0, .int 0, .int 0, .int 0, .ref 112, .ref 113, .ref 114, .ref 115, .ref 116, .ref 117, .ref 118, .ref 119, .int 0, .int 0, .int 0, .ref 120, .int 0, .int 0, .int 0, .int 0, .int (-1), .int 0, .ref 121, .int 0, .ref 122, .int 0, .ref 123, .null, .null, .null, .int 0, .null, .null, .int 0, .null, .null, .null, .int 0, .null, .int 0, .null, .null, .int 0, .null, .null, .int 0, .null, .null, .null, .null, .int 0, .null, .null, .null, .int 0, .null, .null, .null, .null, .int 0, .int 0, .int 0, .null], z0, zn)), (124, (20, 12, [], z0, zn)), (104, (12, 75, [.int 0, .ref 105, .ref 106, .int 0, .ref 107, .int 0, .int 0, .ref 108, .ref 109, .ref 110, .ref 111, .int 0, .int 0, .int 0, .int 0, .int 0, .ref 112, .ref 113, .ref 114, .ref 115, .ref 116, .ref 117, .ref 118, .ref 119, .int 0, .int 0, .int 0, .ref 120, .int 0, .int 0, .int 0, .int 0, .int (-1), .int 0, .ref 121, .int 0, .ref 122, .int 0, .ref 123, .ref 124, .null, .null, .int 0, .null, .null, .int 0, .null, .null, .null, .int 0, .null, .int 0, .null, .null, .int 0, .null, .null, .int 0, .null, .null, .null, .null, .int 0, .null, .null, .null, .int 0, .null, .null, .null, .null, .int 0, .int 0, .int 0, .null], z0, zn)), (125, (20, 420, [], z0, zn)), (104, (12, 75, [.int 0, .ref 105, .ref 106, .int 0, .ref 107, .int 0, .int 0, .ref 108, .ref 109, .ref 110, .ref 111, .int 0, .int 0, .int 0, .int 0, .int 0, .ref 112, .ref 113, .ref 114, .ref 115, .ref 116, .ref 117, .ref 118, .ref 119, .int 0, .int 0, .int 0, .ref 120, .int 0, .int 0, .int 0, .int 0, .int (-1), .int 0, .ref 121, .int 0, .ref 122, .int 0, .ref 123, .ref 124, .ref 125, .null, .int 0, .null, .null, .int 0, .null, .null, .null, .int 0, .null, .int 0, .null, .null, .int 0, .null, .null, .int 0, .null, .null, .null, .null, .int 0, .null, .null, .null, .int 0, .null, .null, .null, .null, .int 0, .int 0, .int 0, .null], z0, zn)), (126, (20, 12, [], z0, zn)), (104, (12, 75, [.int 0, .ref 105, .ref 106, .int 0, .ref 107, .int 0, .int 0, .ref 108, .ref 109, .ref 110, .ref 111, .int 0, .int 0, .int 0, .int 0, .int 0, .ref 112, .ref 113, .ref 114, .ref 115, .ref 116, .ref 117, .ref 118, .ref 119, .int 0, .int 0, .int 0, .ref 120, .int 0, .int 0, .int 0, .int 0, .int (-1), .int 0, .ref 121, .int 0, .ref 122, .int 0, .ref 123, .ref 124, .ref 125, .ref 126, .int 0, .null, .null, .int 0, .null, .null, .null, .int 0, .null, .int 0, .null, .null, .int 0, .null, .null, .int 0, .null, .null, .null, .null, .int 0, .null, .null, .null, .int 0, .null, .null, .null, .null, .int 0, .int 0, .int 0, .null], z0, zn)), (127, (20, 9, [], z0, zn)), (104, (12, 75, [.int 0, .ref 105, .ref 106, .int 0, .ref 107, .int 0, .int 0, .ref 108, .ref 109, .ref 110, .ref 111, .int 0, .int 0, .int 0, .int 0, .int 0, .ref 112, .ref 113, .ref 114, .ref 115, .ref 116, .ref 117, .ref 118, .ref 119, .int 0, .int 0, .int 0, .ref 120, .int 0, .int 0, .int 0, .int 0, .int (-1), .int 0, .ref 121, .int 0, .ref 122, .int 0, .ref 123, .ref 124, .ref 125, .ref 126, .int 0, .ref 127, .null, .int 0, .null, .null, .null, .int 0, .null, .int 0, .null, .null, .int 0, .null, .null, .int 0, .null, .null, .null, .null, .int 0, .null, .null, .null, .int 0, .null, .null, .null, .null, .int 0, .int 0, .int 0, .null], z0, zn)), (128, (20, 100, [], z0, zn)), (104, (12, 75, [.int 0, .ref 105, .ref 106, .int 0, .ref 107, .int 0, .int 0, .ref 108, .ref 109, .ref 110, .ref 111, .int 0, .int 0, .int 0, .int 0, .int 0, .ref 112, .ref 113, .ref 114, .ref 115, .ref 116, .ref 117, .ref 118, .ref 119, .int 0, .int 0, .int 0, .ref 120, .int 0, .int 0, .int 0, .int 0, .int (-1), .int 0, .ref 121, .int 0, .ref 122, .int 0, .ref 123, .ref 124, .ref 125, .ref 126, .int 0, .ref 127, .ref 128, .int 0, .null, .null, .null, .int 0, .null, .int 0, .null, .null, .int 0, .null, .null, .int 0, .null, .null, .null, .null, .int 0, .null, .null, .null, .int 0, .null, .null, .null, .null, .int 0, .int 0, .int 0, .null], z0, zn)), (129, (20, 8, [], z0, zn)), (104, (12, 75, [.int 0, .ref 105, .ref 106, .int 0, .ref 107, .int 0, .int 0, .ref 108, .ref 109, .ref 110, .ref 111, .int 0, .int 0, .int 0, .int 0, .int 0, .ref 112, .ref 113, .ref 114, .ref 115, .ref 116, .ref 117, .ref 118, .ref 119, .int 0, .int 0, .int 0, .ref 120, .int 0, .int 0, .int 0, .int 0, .int (-1), .int 0, .ref 121, .int 0, .ref 122, .int 0, .ref 123, .ref 124, .ref 125, .ref 126, .int 0, .ref 127, .ref 128, .int 0, .ref 129, .null, .null, .int 0, .null, .int 0, .null, .null, .int 0, .null, .null, .int 0, .null, .null, .null, .null, .int 0, .null, .null, .null, .int 0, .null, .null, .null, .null, .int 0, .int 0, .int 0, .null], z0, zn)), (130, (20, 256, [], z0, zn)), (104, (12, 75, [.int 0, .ref 105, .ref 106, .int 0, .ref 107, .int 0, .int 0, .ref 108, .ref 109, .ref 110, .ref 111, .int 0, .int 0, .int 0, .int 0, .int 0, .ref 112, .ref 113, .ref 114, .ref 115, .ref 116, .ref 117, .ref 118, .ref 119, .int 0, .int 0, .int 0, .ref 120, .int 0, .int 0, .int 0, .int 0, .int (-1), .int 0, .ref 121, .int 0, .ref 122, .int 0, .ref 123, .ref 124, .ref 125, .ref 126, .int 0, .ref 127, .ref 128, .int 0, .ref 129, .ref 130, .null, .int 0, .null, .int 0, .null, .null, .int 0, .null, .null, .int 0, .null, .null, .null, .null, .int 0, .null, .null, .null, .int 0, .null, .null, .null, .null, .int 0, .int 0, .int 0, .null], z0, zn)), (131, (20, 8, [], z0, zn)), (104, (12, 75, [.int 0, .ref 105, .ref 106, .int 0, .ref 107, .int 0, .int 0, .ref 108, .ref 109, .ref 110, .ref 111, .int 0, .int 0, .int 0, .int 0, .int 0, .ref 112, .ref 113, .ref 114, .ref 115, .ref 116, .ref 117, .ref 118, .ref 119, .int 0, .int 0, .int 0, .ref 120, .int 0, .int 0, .int 0, .int 0, .int (-1), .int 0, .ref 121, .int 0, .ref 122, .int 0, .ref 123, .ref 124, .ref 125, .ref 126, .int 0, .ref 127, .ref 128, .int 0, .ref 129, .ref 130, .ref 131, .int 0, .null, .int 0, .null, .null, .int 0, .null, .null, .int 0, .null, .null, .null, .null, .int 0, .null, .null, .null, .int 0, .null, .null, .null, .null, .int 0, .int 0, .int 0, .null], z0, zn)), (132, (20, 5, [], z0, zn)), (104, (12, 75, [.int 0, .ref 105, .ref 106, .int 0, .ref 107, .int 0, .int 0, .ref 108, .ref 109, .ref 110, .ref 111, .int 0, .int 0, .int 0, .int 0, .int 0, .ref 112, .ref 113, .ref 114, .ref 115, .ref 116, .ref 117, .ref 118, .ref 119, .int 0, .int 0, .int 0, .ref 120, .int 0, .int 0, .int 0, .int 0, .int (-1), .int 0, .ref 121, .int 0, .ref 122, .int 0, .ref 123, .ref 124, .ref 125, .ref 126, .int 0, .ref 127, .ref 128, .int 0, .ref 129, .ref 130, .ref 131, .int 0, .ref 132, .int 0, .null, .null, .int 0, .null, .null, .int 0, .null, .null, .null, .null, .int 0, .null, .null, .null, .int 0, .null, .null, .null, .null, .int 0, .int 0, .int 0, .null], z0, zn)), (133, (20, 8, [], z0, zn)), (104, (12, 75, [.int 0, .ref 105, .ref 106, .int 0, .ref 107, .int 0, .int 0, .ref 108, .ref 109, .ref 110, .ref 111, .int 0, .int 0, .int 0, .int 0, .int 0, .ref 112, .ref 113, .ref 114, .ref 115, .ref 116, .ref 117, .ref 118, .ref 119, .int 0, .int 0, .int 0, .ref 120, .int 0, .int 0, .int 0, .int 0, .int (-1), .int 0, .ref 121, .int 0, .ref 122, .int 0, .ref 123, .ref 124, .ref 125, .ref 126, .int 0, .ref 127, .ref 128, .int 0, .ref 129, .ref 130, .ref 131, .int 0, .ref 132, .int 0, .ref 133, .null, .int 0, .null, .null, .int 0, .null, .null, .null, .null, .int 0, .null, .null, .null, .int 0, .null, .null, .null, .null, .int 0, .int 0, .int 0, .null], z0, zn)), (134, (20, 8, [], z0, zn)), (104, (12, 75, [.int 0, .ref 105, .ref 106, .int 0, .ref 107, .int 0, .int 0, .ref 108, .ref 109, .ref 110, .ref 111, .int 0, .int 0, .int 0, .int 0, .int 0, .ref 112, .ref 113, .ref 114, .ref 115, .ref 116, .ref 117, .ref 118, .ref 119, .int 0, .int 0, .int 0, .ref 120, .int 0, .int 0, .int 0, .int 0, .int (-1), .int 0, .ref 121, .int 0, .ref 122, .int 0, .ref 123, .ref 124, .ref 125, .ref 126, .int 0, .ref 127, .ref 128, .int 0, .ref 129, .ref 130, .ref 131, .int 0, .ref 132, .int 0, .ref 133, .ref 134, .int 0, .null, .null, .int 0, .null, .null, .null, .null, .int 0, .null, .null, .null, .int 0, .null, .null, .null, .null, .int 0, .int 0, .int 0, .null], z0, zn)), (135, (20, 16, [], z0, zn)), (104, (12, 75, [.int 0, .ref 105, .ref 106, .int 0, .ref 107, .int 0, .int 0, .ref 108, .ref 109, .ref 110, .ref 111, .int 0, .int 0, .int 0, .int 0, .int 0, .ref 112, .ref 113, .ref 114, .ref 115, .ref 116, .ref 117, .ref 118, .ref 119, .int 0, .int 0, .int 0, .ref 120, .int 0, .int 0, .int 0, .int 0, .int (-1), .int 0, .ref 121, .int 0, .ref 122, .int 0, .ref 123, .ref 124, .ref 125, .ref 126, .int 0, .ref 127, .ref 128, .int 0, .ref 129, .ref 130, .ref 131, .int 0, .ref 132, .int 0, .ref 133, .ref 134, .int 0, .ref 135, .null, .int 0, .null, .null, .null, .null, .int 0, .null, .null, .null, .int 0, .null, .null, .null, .null, .int 0, .int 0, .int 0, .null], z0, zn)), (136, (20, 1681, [], z0, zn)), (104, (12, 75, [.int 0, .ref 105, .ref 106, .int 0, .ref 107, .int 0, .int 0, .ref 108, .ref 109, .ref 110, .ref 111, .int 0, .int 0, .int 0, .int 0, .int 0, .ref 112, .ref 113, .ref 114, .ref 115, .ref 116, .ref 117, .ref 118, .ref 119, .int 0, .int 0, .int 0, .ref 120, .int 0, .int 0, .int 0, .int 0, .int (-1), .int 0, .ref 121, .int 0, .ref 122, .int 0, .ref 123, .ref 124, .ref 125, .ref 126, .int 0, .ref 127, .ref 128, .int 0, .ref 129, .ref 130, .ref 131, .int 0, .ref 132, .int 0, .ref 133, .ref 134, .int 0, .ref 135, .ref 136, .int 0, .null, .null, .null, .null, .int 0, .null, .null, .null, .int 0, .null, .null, .null, .null, .int 0, .int 0, .int 0, .null], z0, zn)), (137, (20, 6, [], z0, zn)), (104, (12, 75, [.int 0, .ref 105, .ref 106, .int 0, .ref 107, .int 0, .int 0, .ref 108, .ref 109, .ref 110, .ref 111, .int 0, .int 0, .int 0, .int 0, .int 0, .ref 112, .ref 113, .ref 114, .ref 115, .ref 116, .ref 117, .ref 118, .ref 119, .int 0, .int 0, .int 0, .ref 120, .int 0, .int 0, .int 0, .int 0, .int (-1), .int 0, .ref 121, .int 0, .ref 122, .int 0, .ref 123, .ref 124, .ref 125, .ref 126, .int 0, .ref 127, .ref 128, .int 0, .ref 129, .ref 130, .ref 131, .int 0, .ref 132, .int 0, .ref 133, .ref 134, .int 0, .ref 135, .ref 136, .int 0, .ref 137, .null, .null, .null, .int 0, .null, .null, .null, .int 0, .null, .null, .null, .null, .int 0, .int 0, .int 0, .null], z0, zn)), (138, (20, 6, [], z0, zn)), (104, (12, 75, [.int 0, .ref 105, .ref 106, .int 0, .ref 107, .int 0, .int 0, .ref 108, .ref 109, .ref 110, .ref 111, .int 0, .int 0, .int 0, .int 0, .int 0, .ref 112, .ref 113, .ref 114, .ref 115, .ref 116, .ref 117, .ref 118, .ref 119, .int 0, .int 0, .int 0, .ref 120, .int 0, .int 0, .int 0, .int 0, .int (-1), .int 0, .ref 121, .int 0, .ref 122, .int 0, .ref 123, .ref 124, .ref 125, .ref 126, .int 0, .ref 127, .ref 128, .int 0, .ref 129, .ref 130, .ref 131, .int 0, .ref 132, .int 0, .ref 133, .ref 134, .int 0, .ref 135, .ref 136, .int 0, .ref 137, .ref 138, .null, .null, .int 0, .null, .null, .null, .int 0, .null, .null, .null, .null, .int 0, .int 0, .int 0, .null], z0, zn)), (139, (20, 6, [], z0, zn)), (104, (12, 75, [.int 0, .ref 105, .ref 106, .int 0, .ref 107, .int 0, .int 0, .ref 108, .ref 109, .ref 110, .ref 111, .int 0, .int 0, .int 0, .int 0, .int 0, .ref 112, .ref 113, .ref 114, .ref 115, .ref 116, .ref 117, .ref 118, .ref 119, .int 0, .int 0, .int 0, .ref 120, .int 0, .int 0, .int 0, .int 0, .int (-1), .int 0, .ref 121, .int 0, .ref 122, .int 0, .ref 123, .ref 124, .ref 125, .ref 126, .int 0, .ref 127, .ref 128, .int 0, .ref 129, .ref 130, .ref 131, .int 0, .ref 132, .int 0, .ref 133, .ref 134, .int 0, .ref 135, .ref 136, .int 0, .ref 137, .ref 138, .ref 139, .null, .int 0, .null, .null, .null, .int 0, .null, .null, .null, .null, .int 0, .int 0, .int 0, .null], z0, zn)), (140, (20, 6, [], z0, zn)), (104, (12, 75, [.int 0, .ref 105, .ref 106, .int 0, .ref 107, .int 0, .int 0, .ref 108, .ref 109, .ref 110, .ref 111, .int 0, .int 0, .int 0, .int 0, .int 0, .ref 112, .ref 113, .ref 114, .ref 115, .ref 116, .ref 117, .ref 118, .ref 119, .int 0, .int 0, .int 0, .ref 120, .int 0, .int 0, .int 0, .int 0, .int (-1), .int 0, .ref 121, .int 0, .ref 122, .int 0, .ref 123, .ref 124, .ref 125, .ref 126, .int 0, .ref 127, .ref 128, .int 0, .ref 129, .ref 130, .ref 131, .int 0, .ref 132, .int 0, .ref 133, .ref 134, .int 0, .ref 135, .ref 136, .int 0, .ref 137, .ref 138, .ref 139, .ref 140, .int 0, .null, .null, .null, .int 0, .null, .null, .null, .null, .int 0, .int 0, .int 0, .null], z0, zn)), (141, (20, 12, [], z0, zn)), (104, (12, 75, [.int 0, .ref 105, .ref 106, .int 0, .ref 107, .int 0, .int 0, .ref 108, .ref 109, .ref 110, .ref 111, .int 0, .int 0, .int 0, .int 0, .int 0, .ref 112, .ref 113, .ref 114, .ref 115, .ref 116, .ref 117, .ref 118, .ref 119, .int 0, .int 0, .int 0, .ref 120, .int 0, .int 0, .int 0, .int 0, .int (-1), .int 0, .ref 121, .int 0, .ref 122, .int 0, .ref 123, .ref 124, .ref 125, .ref 126, .int 0, .ref 127, .ref 128, .int 0, .ref 129, .ref 130, .ref 131, .int 0, .ref 132, .int 0, .ref 133, .ref 134, .int 0, .ref 135, .ref 136, .int 0, .ref 137, .ref 138, .ref 139, .ref 140, .int 0, .ref 141, .null, .null, .int 0, .null, .null, .null, .null, .int 0, .int 0, .int 0, .null], z0, zn)), (142, (20, 21, [], z0, zn)), (104, (12, 75, [.int 0, .ref 105, .ref 106, .int 0, .ref 107, .int 0, .int 0, .ref 108, .ref 109, .ref 110, .ref 111, .int 0, .int 0, .int 0, .int 0, .int 0, .ref 112, .ref 113, .ref 114, .ref 115, .ref 116, .ref 117, .ref 118, .ref 119, .int 0, .int 0, .int 0, .ref 120, .int 0, .int 0, .int 0, .int 0, .int (-1), .int 0, .ref 121, .int 0, .ref 122, .int 0, .ref 123, .ref 124, .ref 125, .ref 126, .int 0, .ref 127, .ref 128, .int 0, .ref 129, .ref 130, .ref 131, .int 0, .ref 132, .int 0, .ref 133, .ref 134, .int 0, .ref 135, .ref 136, .int 0, .ref 137, .ref 138, .ref 139, .ref 140, .int 0, .ref 141, .ref 142, .null, .int 0, .null, .null, .null, .null, .int 0, .int 0, .int 0, .null], z0, zn)), (143, (20, 21, [], z0, zn)), (104, (12, 75, [.int 0, .ref 105, .ref 106, .int 0, .ref 107, .int 0, .int 0, .ref 108, .ref 109, .ref 110, .ref 111, .int 0, .int 0, .int 0, .int 0, .int 0, .ref 112, .ref 113, .ref 114, .ref 115, .ref 116, .ref 117, .ref 118, .ref 119, .int 0, .int 0, .int 0, .ref 120, .int 0, .int 0, .int 0, .int 0, .int (-1), .int 0, .ref 121, .int 0, .ref 122, .int 0, .ref 123, .ref 124, .ref 125, .ref 126, .int 0, .ref 127, .ref 128, .int 0, .ref 129, .ref 130, .ref 131, .int 0, .ref 132, .int 0, .ref 133, .ref 134, .int 0, .ref 135, .ref 136, .int 0, .ref 137, .ref 138, .ref 139, .ref 140, .int 0, .ref 141, .ref 142, .ref 143, .int 0, .null, .null, .null, .null, .int 0, .int 0, .int 0, .null], z0, zn)), (144, (20, 8, [], z0, zn)), (104, (12, 75, [.int 0, .ref 105, .ref 106, .int 0, .ref 107, .int 0, .int 0, .ref 108, .ref 109, .ref 110, .ref 111, .int 0, .int 0, .int 0, .int 0, .int 0, .ref 112, .ref 113, .ref 114, .ref 115, .ref 116, .ref 117, .ref 118, .ref 119, .int 0, .int 0, .int 0, .ref 120, .int 0, .int 0, .int 0, .int 0, .int (-1), .int 0, .ref 121, .int 0, .ref 122, .int 0, .ref 123, .ref 124, .ref 125, .ref 126, .int 0, .ref 127, .ref 128, .int 0, .ref 129, .ref 130, .ref 131, .int 0, .ref 132, .int 0, .ref 133, .ref 134, .int 0, .ref 135, .ref 136, .int 0, .ref 137, .ref 138, .ref 139, .ref 140, .int 0, .ref 141, .ref 142, .ref 143, .int 0, .ref 144, .null, .null, .null, .int 0, .int 0, .int 0, .null], z0, zn)), (145, (20, 8, [], z0, zn)), (104, (12, 75, [.int 0, .ref 105, .ref 106, .int 0, .ref 107, .int 0, .int 0, .ref 108, .ref 109, .ref 110, .ref 111, .int 0, .int 0, .int 0, .int 0, .int 0, .ref 112, .ref 113, .ref 114, .ref 115, .ref 116, .ref 117, .ref 118, .ref 119, .int 0, .int 0, .int 0, .ref 120, .int 0, .int 0, .int 0, .int 0, .int (-1), .int 0, .ref 121, .int 0, .ref 122, .int 0, .ref 123, .ref 124, .ref 125, .ref 126, .int 0, .ref 127, .ref 128, .int 0, .ref 129, .ref 130, .ref 131, .int 0, .ref 132, .int 0, .ref 133, .ref 134, .int 0, .ref 135, .ref 136, .int 0, .ref 137, .ref 138, .ref 139, .ref 140, .int 0, .ref 141, .ref 142, .ref 143, .int 0, .ref 144, .ref 145, .null, .null, .int 0, .int 0, .int 0, .null], z0, zn)), (146, (20, 16807, [], z0, zn)), (104, (12, 75, [.int 0, .ref 105, .ref 106, .int 0, .ref 107, .int 0, .int 0, .ref 108, .ref 109, .ref 110, .ref 111, .int 0, .int 0, .int 0, .int 0, .int 0, .ref 112, .ref 113, .ref 114, .ref 115, .ref 116, .ref 117, .ref 118, .ref 119, .int 0, .int 0, .int 0, .ref 120, .int 0, .int 0, .int 0, .int 0, .int (-1), .int 0, .ref 121, .int 0, .ref 122, .int 0, .ref 123, .ref 124, .ref 125, .ref 126, .int 0, .ref 127, .ref 128, .int 0, .ref 129, .ref 130, .ref 131, .int 0, .ref 132, .int 0, .ref 133, .ref 134, .int 0, .ref 135, .ref 136, .int 0, .ref 137, .ref 138, .ref 139, .ref 140, .int 0, .ref 141, .ref 142, .ref 143, .int 0, .ref 144, .ref 145, .ref 146, .null, .int 0, .int 0, .int 0, .null], z0, zn)), (147, (20, 5, [], z0, zn)), (104, (12, 75, [.int 0, .ref 105, .ref 106, .int 0, .ref 107, .int 0, .int 0, .ref 108, .ref 109, .ref 110, .ref 111, .int 0, .int 0, .int 0, .int 0, .int 0, .ref 112, .ref 113, .ref 114, .ref 115, .ref 116, .ref 117, .ref 118, .ref 119, .int 0, .int 0, .int 0, .ref 120, .int 0, .int 0, .int 0, .int 0, .int (-1), .int 0, .ref 121, .int 0, .ref 122, .int 0, .ref 123, .ref 124, .ref 125, .ref 126, .int 0, .ref 127, .ref 128, .int 0, .ref 129, .ref 130, .ref 131, .int 0, .ref 132, .int 0, .ref 133, .ref 134, .int 0, .ref 135, .ref 136, .int 0, .ref 137, .ref 138, .ref 139, .ref 140, .int 0, .ref 141, .ref 142, .ref 143, .int 0, .ref 144, .ref 145, .ref 146, .ref 147, .int 0, .int 0, .int 0, .null], z0, zn)), (148, (20, 2400, [], z0, zn)), (104, (12, 75, [.int 0, .ref 105, .ref 106, .int 0, .ref 107, .int 0, .int 0, .ref 108, .ref 109, .ref 110, .ref 111, .int 0, .int 0, .int 0, .int 0, .int 0, .ref 112, .ref 113, .ref 114, .ref 115, .ref 116, .ref 117, .ref 118, .ref 119, .int 0, .int 0, .int 0, .ref 120, .int 0, .int 0, .int 0, .int 0, .int (-1), .int 0, .ref 121, .int 0, .ref 122, .int 0, .ref 123, .ref 124, .ref 125, .ref 126, .int 0, .ref 127, .ref 128, .int 0, .ref 129, .ref 130, .ref 131, .int 0, .ref 132, .int 0, .ref 133, .ref 134, .int 0, .ref 135, .ref 136, .int 0, .ref 137, .ref 138, .ref 139, .ref 140, .int 0, .ref 141, .ref 142, .ref 143, .int 0, .ref 144, .ref 145, .ref 146, .ref 147, .int 0, .int 0, .int 0, .ref 148], z0, zn))]
theorem wy_miss {k : Nat} : ∀ (l : List (Nat × CE)) (F : CF), (l.all fun q => !(q.1 == k)) = true → wr F l k = F k := by
  intro l
  induction l with
  | nil => intro F _; rfl
  | cons q l ih =>
    intro F h
    rw [List.all_cons, Bool.and_eq_true] at h
    have h1 : ¬ k = q.1 := fun e => by
      have h0 := h.1
      rw [e] at h0
      simp at h0
    show wr (sF F q.1 q.2) l k = F k
    rw [ih _ h.2]
    show (if k = q.1 then q.2 else F k) = F k
    rw [if_neg h1]
theorem wy_at {k : Nat} {v : CE} : ∀ (l : List (Nat × CE)) (i : Nat) (F : CF), l[i]? = some (k, v) → ((l.drop (i + 1)).all fun q => !(q.1 == k)) = true → wr F l k = v := by
  intro l
  induction l with
  | nil => intro i F h; simp at h
  | cons q l ih =>
    intro i F h h2
    cases i with
    | zero =>
      rw [List.getElem?_cons_zero] at h
      cases h
      show wr (sF F k v) l k = v
      rw [wy_miss l _ h2]
      show (if k = k then v else F k) = v
      exact if_pos rfl
    | succ i =>
      rw [List.getElem?_cons_succ] at h
      exact ih i (sF F q.1 q.2) h h2
theorem wyM_ge : (wyM.all fun q => Nat.ble 104 q.1) = true := by decide +kernel
theorem wy_lo {k : Nat} (F : CF) (hk : k < 104) : pf_52 (pf_51 F) k = wr F wyX k := by
  refine wy_miss wyM (pf_51 F) (List.all_eq_true.mpr fun q hq => ?_)
  have h := Nat.le_of_ble_eq_true (List.all_eq_true.mp wyM_ge q hq)
  have h1 : ¬ q.1 = k := by omega
  simp [h1]
noncomputable def wy_ps : List Nat := [309, 3, 2, 6, 5, 105, 13, 11, 20, 18, 27, 25, 34, 32, 41, 39, 48, 46, 55, 53, 62, 60, 69, 67, 76, 74, 83, 81, 90, 88, 97, 95, 104, 102, 112, 107, 109, 118, 117, 218, 126, 124, 133, 131, 140, 138, 147, 145, 154, 152, 161, 159, 168, 166, 175, 173, 182, 180, 189, 187, 196, 194, 203, 201, 210, 208, 217, 215, 224, 230, 236, 260, 235, 239, 238, 243, 242, 247, 246, 251, 250, 255, 254, 259, 258, 270, 263, 265, 267, 269, 289, 278, 276, 285, 283, 295, 292, 294, 303, 298, 300, 302, 307, 306, 230, 1, 3, 5, 7, 9, 11, 13, 156, 158, 160, 162, 164, 166, 168, 170, 172, 175, 177, 179, 181, 183, 185, 187, 189, 191, 193, 195, 197, 199, 201, 203, 205, 207, 209, 211, 213, 215, 217, 219, 221, 223, 225, 227, 229]
theorem wyX_ok : ∀ k, k < 104 → ((wyX.drop (wy_ps.getD k 0 + 1)).all fun q => !(q.1 == k)) = true := by decide +kernel
theorem wyM_ok : ∀ k, k < 45 → ((wyM.drop (wy_ps.getD (104 + k) 0 + 1)).all fun q => !(q.1 == 104 + k)) = true := by decide +kernel
set_option maxRecDepth 200000 in
theorem fc_0 (F : CF) : pf_52 (pf_51 F) 0 = (0, 14, [.ref 1, .ref 37, .ref 3, .ref 5, .ref 39, .ref 68, .ref 69, .ref 70, .ref 85, .ref 90, .ref 95, .ref 98, .ref 102, .int 0], z0, zn) := (wy_lo F (by decide)).trans (wy_at wyX 309 F rfl (wyX_ok 0 (by decide)))
set_option maxRecDepth 200000 in
theorem fc_1 (F : CF) : pf_52 (pf_51 F) 1 = (1, 8, [.ref 2, .int 0, .int 0, .int 0, .int 0, .int 0, .int 0, .int 0], z0, zn) := (wy_lo F (by decide)).trans (wy_at wyX 3 F rfl (wyX_ok 1 (by decide)))
set_option maxRecDepth 200000 in
theorem fc_2 (F : CF) : pf_52 (pf_51 F) 2 = (20, 132, [], z0, zn) := (wy_lo F (by decide)).trans (wy_at wyX 2 F rfl (wyX_ok 2 (by decide)))
set_option maxRecDepth 200000 in
theorem fc_3 (F : CF) : pf_52 (pf_51 F) 3 = (1, 8, [.ref 4, .int 0, .int 0, .int 0, .int 0, .int 0, .int 0, .int 0], z0, zn) := (wy_lo F (by decide)).trans (wy_at wyX 6 F rfl (wyX_ok 3 (by decide)))
set_option maxRecDepth 200000 in
theorem fc_4 (F : CF) : pf_52 (pf_51 F) 4 = (20, 132, [], z0, zn) := (wy_lo F (by decide)).trans (wy_at wyX 5 F rfl (wyX_ok 4 (by decide)))
set_option maxRecDepth 200000 in
theorem fc_5 (F : CF) : pf_52 (pf_51 F) 5 = (11, 14, [.ref 6, .ref 8, .ref 10, .ref 12, .ref 14, .ref 16, .ref 18, .ref 20, .ref 22, .ref 24, .ref 26, .ref 28, .ref 30, .ref 32], z0, zn) := (wy_lo F (by decide)).trans (wy_at wyX 105 F rfl (wyX_ok 5 (by decide)))
set_option maxRecDepth 200000 in
theorem fc_6 (F : CF) : pf_52 (pf_51 F) 6 = (6, 4, [.int 16, .int 5, .ref 7, .int 0], z0, zn) := (wy_lo F (by decide)).trans (wy_at wyX 13 F rfl (wyX_ok 6 (by decide)))
set_option maxRecDepth 200000 in
theorem fc_7 (F : CF) : pf_52 (pf_51 F) 7 = (20, 80, [], z0, zn) := (wy_lo F (by decide)).trans (wy_at wyX 11 F rfl (wyX_ok 7 (by decide)))
set_option maxRecDepth 200000 in
theorem fc_8 (F : CF) : pf_52 (pf_51 F) 8 = (6, 4, [.int 400, .int 2, .ref 9, .int 0], z0, zn) := (wy_lo F (by decide)).trans (wy_at wyX 20 F rfl (wyX_ok 8 (by decide)))
set_option maxRecDepth 200000 in
theorem fc_9 (F : CF) : pf_52 (pf_51 F) 9 = (20, 800, [], z0, zn) := (wy_lo F (by decide)).trans (wy_at wyX 18 F rfl (wyX_ok 9 (by decide)))
set_option maxRecDepth 200000 in
theorem fc_10 (F : CF) : pf_52 (pf_51 F) 10 = (6, 4, [.int 16, .int 5, .ref 11, .int 0], z0, zn) := (wy_lo F (by decide)).trans (wy_at wyX 27 F rfl (wyX_ok 10 (by decide)))
set_option maxRecDepth 200000 in
theorem fc_11 (F : CF) : pf_52 (pf_51 F) 11 = (20, 80, [], z0, zn) := (wy_lo F (by decide)).trans (wy_at wyX 25 F rfl (wyX_ok 11 (by decide)))
set_option maxRecDepth 200000 in
theorem fc_12 (F : CF) : pf_52 (pf_51 F) 12 = (6, 4, [.int 16, .int 5, .ref 13, .int 0], z0, zn) := (wy_lo F (by decide)).trans (wy_at wyX 34 F rfl (wyX_ok 12 (by decide)))
set_option maxRecDepth 200000 in
theorem fc_13 (F : CF) : pf_52 (pf_51 F) 13 = (20, 80, [], z0, zn) := (wy_lo F (by decide)).trans (wy_at wyX 32 F rfl (wyX_ok 13 (by decide)))
set_option maxRecDepth 200000 in
theorem fc_14 (F : CF) : pf_52 (pf_51 F) 14 = (6, 4, [.int 16, .int 5, .ref 15, .int 0], z0, zn) := (wy_lo F (by decide)).trans (wy_at wyX 41 F rfl (wyX_ok 14 (by decide)))
set_option maxRecDepth 200000 in
theorem fc_15 (F : CF) : pf_52 (pf_51 F) 15 = (20, 80, [], z0, zn) := (wy_lo F (by decide)).trans (wy_at wyX 39 F rfl (wyX_ok 15 (by decide)))
set_option maxRecDepth 200000 in
theorem fc_16 (F : CF) : pf_52 (pf_51 F) 16 = (6, 4, [.int 150, .int 4, .ref 17, .int 0], z0, zn) := (wy_lo F (by decide)).trans (wy_at wyX 48 F rfl (wyX_ok 16 (by decide)))
set_option maxRecDepth 200000 in
theorem fc_17 (F : CF) : pf_52 (pf_51 F) 17 = (20, 600, [], z0, zn) := (wy_lo F (by decide)).trans (wy_at wyX 46 F rfl (wyX_ok 17 (by decide)))
set_option maxRecDepth 200000 in
theorem fc_18 (F : CF) : pf_52 (pf_51 F) 18 = (6, 4, [.int 9, .int 1, .ref 19, .int 0], z0, zn) := (wy_lo F (by decide)).trans (wy_at wyX 55 F rfl (wyX_ok 18 (by decide)))
set_option maxRecDepth 200000 in
theorem fc_19 (F : CF) : pf_52 (pf_51 F) 19 = (20, 9, [], z0, zn) := (wy_lo F (by decide)).trans (wy_at wyX 53 F rfl (wyX_ok 19 (by decide)))
set_option maxRecDepth 200000 in
theorem fc_20 (F : CF) : pf_52 (pf_51 F) 20 = (6, 4, [.int 8, .int 1, .ref 21, .int 0], z0, zn) := (wy_lo F (by decide)).trans (wy_at wyX 62 F rfl (wyX_ok 20 (by decide)))
set_option maxRecDepth 200000 in
theorem fc_21 (F : CF) : pf_52 (pf_51 F) 21 = (20, 8, [], z0, zn) := (wy_lo F (by decide)).trans (wy_at wyX 60 F rfl (wyX_ok 21 (by decide)))
set_option maxRecDepth 200000 in
theorem fc_22 (F : CF) : pf_52 (pf_51 F) 22 = (6, 4, [.int 5, .int 1, .ref 23, .int 0], z0, zn) := (wy_lo F (by decide)).trans (wy_at wyX 69 F rfl (wyX_ok 22 (by decide)))
set_option maxRecDepth 200000 in
theorem fc_23 (F : CF) : pf_52 (pf_51 F) 23 = (20, 5, [], z0, zn) := (wy_lo F (by decide)).trans (wy_at wyX 67 F rfl (wyX_ok 23 (by decide)))
set_option maxRecDepth 200000 in
theorem fc_24 (F : CF) : pf_52 (pf_51 F) 24 = (6, 4, [.int 8, .int 2, .ref 25, .int 0], z0, zn) := (wy_lo F (by decide)).trans (wy_at wyX 76 F rfl (wyX_ok 24 (by decide)))
set_option maxRecDepth 200000 in
theorem fc_25 (F : CF) : pf_52 (pf_51 F) 25 = (20, 16, [], z0, zn) := (wy_lo F (by decide)).trans (wy_at wyX 74 F rfl (wyX_ok 25 (by decide)))
set_option maxRecDepth 200000 in
theorem fc_26 (F : CF) : pf_52 (pf_51 F) 26 = (6, 4, [.int 16, .int 1, .ref 27, .int 0], z0, zn) := (wy_lo F (by decide)).trans (wy_at wyX 83 F rfl (wyX_ok 26 (by decide)))
set_option maxRecDepth 200000 in
theorem fc_27 (F : CF) : pf_52 (pf_51 F) 27 = (20, 16, [], z0, zn) := (wy_lo F (by decide)).trans (wy_at wyX 81 F rfl (wyX_ok 27 (by decide)))
set_option maxRecDepth 200000 in
theorem fc_28 (F : CF) : pf_52 (pf_51 F) 28 = (6, 4, [.int 6, .int 2, .ref 29, .int 0], z0, zn) := (wy_lo F (by decide)).trans (wy_at wyX 90 F rfl (wyX_ok 28 (by decide)))
set_option maxRecDepth 200000 in
theorem fc_29 (F : CF) : pf_52 (pf_51 F) 29 = (20, 12, [], z0, zn) := (wy_lo F (by decide)).trans (wy_at wyX 88 F rfl (wyX_ok 29 (by decide)))
set_option maxRecDepth 200000 in
theorem fc_30 (F : CF) : pf_52 (pf_51 F) 30 = (6, 4, [.int 12, .int 2, .ref 31, .int 0], z0, zn) := (wy_lo F (by decide)).trans (wy_at wyX 97 F rfl (wyX_ok 30 (by decide)))
set_option maxRecDepth 200000 in
theorem fc_31 (F : CF) : pf_52 (pf_51 F) 31 = (20, 24, [], z0, zn) := (wy_lo F (by decide)).trans (wy_at wyX 95 F rfl (wyX_ok 31 (by decide)))
set_option maxRecDepth 200000 in
theorem fc_32 (F : CF) : pf_52 (pf_51 F) 32 = (6, 4, [.int 8, .int 2, .ref 33, .int 0], z0, zn) := (wy_lo F (by decide)).trans (wy_at wyX 104 F rfl (wyX_ok 32 (by decide)))
set_option maxRecDepth 200000 in
theorem fc_33 (F : CF) : pf_52 (pf_51 F) 33 = (20, 16, [], z0, zn) := (wy_lo F (by decide)).trans (wy_at wyX 102 F rfl (wyX_ok 33 (by decide)))
set_option maxRecDepth 200000 in
theorem fc_34 (F : CF) : pf_52 (pf_51 F) 34 = (3, 5, [.ref 6, .ref 8, .ref 35, .ref 36, .int 0], z0, zn) := (wy_lo F (by decide)).trans (wy_at wyX 112 F rfl (wyX_ok 34 (by decide)))
set_option maxRecDepth 200000 in
theorem fc_35 (F : CF) : pf_52 (pf_51 F) 35 = (20, 12, [], z0, zn) := (wy_lo F (by decide)).trans (wy_at wyX 107 F rfl (wyX_ok 35 (by decide)))
set_option maxRecDepth 200000 in
theorem fc_36 (F : CF) : pf_52 (pf_51 F) 36 = (20, 64, [], z0, zn) := (wy_lo F (by decide)).trans (wy_at wyX 109 F rfl (wyX_ok 36 (by decide)))
set_option maxRecDepth 200000 in
theorem fc_37 (F : CF) : pf_52 (pf_51 F) 37 = (1, 8, [.ref 38, .int 0, .int 0, .int 0, .int 0, .int 0, .int 0, .int 0], z0, zn) := (wy_lo F (by decide)).trans (wy_at wyX 118 F rfl (wyX_ok 37 (by decide)))
set_option maxRecDepth 200000 in
theorem fc_38 (F : CF) : pf_52 (pf_51 F) 38 = (20, 132, [], z0, zn) := (wy_lo F (by decide)).trans (wy_at wyX 117 F rfl (wyX_ok 38 (by decide)))
set_option maxRecDepth 200000 in
theorem fc_39 (F : CF) : pf_52 (pf_51 F) 39 = (11, 14, [.ref 40, .ref 42, .ref 44, .ref 46, .ref 48, .ref 50, .ref 52, .ref 54, .ref 56, .ref 58, .ref 60, .ref 62, .ref 64, .ref 66], z0, zn) := (wy_lo F (by decide)).trans (wy_at wyX 218 F rfl (wyX_ok 39 (by decide)))
set_option maxRecDepth 200000 in
theorem fc_40 (F : CF) : pf_52 (pf_51 F) 40 = (6, 4, [.int 16, .int 5, .ref 41, .int 0], z0, zn) := (wy_lo F (by decide)).trans (wy_at wyX 126 F rfl (wyX_ok 40 (by decide)))
set_option maxRecDepth 200000 in
theorem fc_41 (F : CF) : pf_52 (pf_51 F) 41 = (20, 80, [], z0, zn) := (wy_lo F (by decide)).trans (wy_at wyX 124 F rfl (wyX_ok 41 (by decide)))
set_option maxRecDepth 200000 in
theorem fc_42 (F : CF) : pf_52 (pf_51 F) 42 = (6, 4, [.int 400, .int 2, .ref 43, .int 0], z0, zn) := (wy_lo F (by decide)).trans (wy_at wyX 133 F rfl (wyX_ok 42 (by decide)))
set_option maxRecDepth 200000 in
theorem fc_43 (F : CF) : pf_52 (pf_51 F) 43 = (20, 800, [], z0, zn) := (wy_lo F (by decide)).trans (wy_at wyX 131 F rfl (wyX_ok 43 (by decide)))
set_option maxRecDepth 200000 in
theorem fc_44 (F : CF) : pf_52 (pf_51 F) 44 = (6, 4, [.int 16, .int 5, .ref 45, .int 0], z0, zn) := (wy_lo F (by decide)).trans (wy_at wyX 140 F rfl (wyX_ok 44 (by decide)))
set_option maxRecDepth 200000 in
theorem fc_45 (F : CF) : pf_52 (pf_51 F) 45 = (20, 80, [], z0, zn) := (wy_lo F (by decide)).trans (wy_at wyX 138 F rfl (wyX_ok 45 (by decide)))
set_option maxRecDepth 200000 in
theorem fc_46 (F : CF) : pf_52 (pf_51 F) 46 = (6, 4, [.int 16, .int 5, .ref 47, .int 0], z0, zn) := (wy_lo F (by decide)).trans (wy_at wyX 147 F rfl (wyX_ok 46 (by decide)))
set_option maxRecDepth 200000 in
theorem fc_47 (F : CF) : pf_52 (pf_51 F) 47 = (20, 80, [], z0, zn) := (wy_lo F (by decide)).trans (wy_at wyX 145 F rfl (wyX_ok 47 (by decide)))
set_option maxRecDepth 200000 in
theorem fc_48 (F : CF) : pf_52 (pf_51 F) 48 = (6, 4, [.int 16, .int 5, .ref 49, .int 0], z0, zn) := (wy_lo F (by decide)).trans (wy_at wyX 154 F rfl (wyX_ok 48 (by decide)))
set_option maxRecDepth 200000 in
theorem fc_49 (F : CF) : pf_52 (pf_51 F) 49 = (20, 80, [], z0, zn) := (wy_lo F (by decide)).trans (wy_at wyX 152 F rfl (wyX_ok 49 (by decide)))
set_option maxRecDepth 200000 in
theorem fc_50 (F : CF) : pf_52 (pf_51 F) 50 = (6, 4, [.int 150, .int 4, .ref 51, .int 0], z0, zn) := (wy_lo F (by decide)).trans (wy_at wyX 161 F rfl (wyX_ok 50 (by decide)))
set_option maxRecDepth 200000 in
theorem fc_51 (F : CF) : pf_52 (pf_51 F) 51 = (20, 600, [], z0, zn) := (wy_lo F (by decide)).trans (wy_at wyX 159 F rfl (wyX_ok 51 (by decide)))
set_option maxRecDepth 200000 in
theorem fc_52 (F : CF) : pf_52 (pf_51 F) 52 = (6, 4, [.int 9, .int 1, .ref 53, .int 0], z0, zn) := (wy_lo F (by decide)).trans (wy_at wyX 168 F rfl (wyX_ok 52 (by decide)))
set_option maxRecDepth 200000 in
theorem fc_53 (F : CF) : pf_52 (pf_51 F) 53 = (20, 9, [], z0, zn) := (wy_lo F (by decide)).trans (wy_at wyX 166 F rfl (wyX_ok 53 (by decide)))
set_option maxRecDepth 200000 in
theorem fc_54 (F : CF) : pf_52 (pf_51 F) 54 = (6, 4, [.int 8, .int 1, .ref 55, .int 0], z0, zn) := (wy_lo F (by decide)).trans (wy_at wyX 175 F rfl (wyX_ok 54 (by decide)))
set_option maxRecDepth 200000 in
theorem fc_55 (F : CF) : pf_52 (pf_51 F) 55 = (20, 8, [], z0, zn) := (wy_lo F (by decide)).trans (wy_at wyX 173 F rfl (wyX_ok 55 (by decide)))
set_option maxRecDepth 200000 in
theorem fc_56 (F : CF) : pf_52 (pf_51 F) 56 = (6, 4, [.int 5, .int 1, .ref 57, .int 0], z0, zn) := (wy_lo F (by decide)).trans (wy_at wyX 182 F rfl (wyX_ok 56 (by decide)))
set_option maxRecDepth 200000 in
theorem fc_57 (F : CF) : pf_52 (pf_51 F) 57 = (20, 5, [], z0, zn) := (wy_lo F (by decide)).trans (wy_at wyX 180 F rfl (wyX_ok 57 (by decide)))
set_option maxRecDepth 200000 in
theorem fc_58 (F : CF) : pf_52 (pf_51 F) 58 = (6, 4, [.int 8, .int 2, .ref 59, .int 0], z0, zn) := (wy_lo F (by decide)).trans (wy_at wyX 189 F rfl (wyX_ok 58 (by decide)))
set_option maxRecDepth 200000 in
theorem fc_59 (F : CF) : pf_52 (pf_51 F) 59 = (20, 16, [], z0, zn) := (wy_lo F (by decide)).trans (wy_at wyX 187 F rfl (wyX_ok 59 (by decide)))
set_option maxRecDepth 200000 in
theorem fc_60 (F : CF) : pf_52 (pf_51 F) 60 = (6, 4, [.int 16, .int 1, .ref 61, .int 0], z0, zn) := (wy_lo F (by decide)).trans (wy_at wyX 196 F rfl (wyX_ok 60 (by decide)))
set_option maxRecDepth 200000 in
theorem fc_61 (F : CF) : pf_52 (pf_51 F) 61 = (20, 16, [], z0, zn) := (wy_lo F (by decide)).trans (wy_at wyX 194 F rfl (wyX_ok 61 (by decide)))
set_option maxRecDepth 200000 in
theorem fc_62 (F : CF) : pf_52 (pf_51 F) 62 = (6, 4, [.int 6, .int 2, .ref 63, .int 0], z0, zn) := (wy_lo F (by decide)).trans (wy_at wyX 203 F rfl (wyX_ok 62 (by decide)))
set_option maxRecDepth 200000 in
theorem fc_63 (F : CF) : pf_52 (pf_51 F) 63 = (20, 12, [], z0, zn) := (wy_lo F (by decide)).trans (wy_at wyX 201 F rfl (wyX_ok 63 (by decide)))
set_option maxRecDepth 200000 in
theorem fc_64 (F : CF) : pf_52 (pf_51 F) 64 = (6, 4, [.int 12, .int 2, .ref 65, .int 0], z0, zn) := (wy_lo F (by decide)).trans (wy_at wyX 210 F rfl (wyX_ok 64 (by decide)))
set_option maxRecDepth 200000 in
theorem fc_65 (F : CF) : pf_52 (pf_51 F) 65 = (20, 24, [], z0, zn) := (wy_lo F (by decide)).trans (wy_at wyX 208 F rfl (wyX_ok 65 (by decide)))
set_option maxRecDepth 200000 in
theorem fc_66 (F : CF) : pf_52 (pf_51 F) 66 = (6, 4, [.int 8, .int 2, .ref 67, .int 0], z0, zn) := (wy_lo F (by decide)).trans (wy_at wyX 217 F rfl (wyX_ok 66 (by decide)))
set_option maxRecDepth 200000 in
theorem fc_67 (F : CF) : pf_52 (pf_51 F) 67 = (20, 16, [], z0, zn) := (wy_lo F (by decide)).trans (wy_at wyX 215 F rfl (wyX_ok 67 (by decide)))
set_option maxRecDepth 200000 in
theorem fc_68 (F : CF) : pf_52 (pf_51 F) 68 = (7, 4, [.ref 1, .ref 5, .ref 34, .int 1], z0, zn) := (wy_lo F (by decide)).trans (wy_at wyX 224 F rfl (wyX_ok 68 (by decide)))
set_option maxRecDepth 200000 in
theorem fc_69 (F : CF) : pf_52 (pf_51 F) 69 = (7, 4, [.ref 3, .ref 5, .ref 34, .int 0], z0, zn) := (wy_lo F (by decide)).trans (wy_at wyX 230 F rfl (wyX_ok 69 (by decide)))
set_option maxRecDepth 200000 in
theorem fc_70 (F : CF) : pf_52 (pf_51 F) 70 = (4, 4, [.ref 71, .ref 72, .int 0, .int 0], z0, zn) := (wy_lo F (by decide)).trans (wy_at wyX 236 F rfl (wyX_ok 70 (by decide)))
set_option maxRecDepth 200000 in
theorem fc_71 (F : CF) : pf_52 (pf_51 F) 71 = (22, 6, [], z0, rz_6) := (wy_lo F (by decide)).trans (wy_at wyX 260 F rfl (wyX_ok 71 (by decide)))
set_option maxRecDepth 200000 in
theorem fc_72 (F : CF) : pf_52 (pf_51 F) 72 = (20, 6, [], z0, zn) := (wy_lo F (by decide)).trans (wy_at wyX 235 F rfl (wyX_ok 72 (by decide)))
set_option maxRecDepth 200000 in
theorem fc_73 (F : CF) : pf_52 (pf_51 F) 73 = (1, 8, [.ref 74, .int 0, .int 0, .int 0, .int 0, .int 0, .int 0, .int 0], z0, zn) := (wy_lo F (by decide)).trans (wy_at wyX 239 F rfl (wyX_ok 73 (by decide)))
set_option maxRecDepth 200000 in
theorem fc_74 (F : CF) : pf_52 (pf_51 F) 74 = (20, 132, [], z0, zn) := (wy_lo F (by decide)).trans (wy_at wyX 238 F rfl (wyX_ok 74 (by decide)))
set_option maxRecDepth 200000 in
theorem fc_75 (F : CF) : pf_52 (pf_51 F) 75 = (1, 8, [.ref 76, .int 0, .int 0, .int 0, .int 0, .int 0, .int 0, .int 0], z0, zn) := (wy_lo F (by decide)).trans (wy_at wyX 243 F rfl (wyX_ok 75 (by decide)))
set_option maxRecDepth 200000 in
theorem fc_76 (F : CF) : pf_52 (pf_51 F) 76 = (20, 132, [], z0, zn) := (wy_lo F (by decide)).trans (wy_at wyX 242 F rfl (wyX_ok 76 (by decide)))
set_option maxRecDepth 200000 in
theorem fc_77 (F : CF) : pf_52 (pf_51 F) 77 = (1, 8, [.ref 78, .int 0, .int 0, .int 0, .int 0, .int 0, .int 0, .int 0], z0, zn) := (wy_lo F (by decide)).trans (wy_at wyX 247 F rfl (wyX_ok 77 (by decide)))
set_option maxRecDepth 200000 in
theorem fc_78 (F : CF) : pf_52 (pf_51 F) 78 = (20, 132, [], z0, zn) := (wy_lo F (by decide)).trans (wy_at wyX 246 F rfl (wyX_ok 78 (by decide)))
set_option maxRecDepth 200000 in
theorem fc_79 (F : CF) : pf_52 (pf_51 F) 79 = (1, 8, [.ref 80, .int 0, .int 0, .int 0, .int 0, .int 0, .int 0, .int 0], z0, zn) := (wy_lo F (by decide)).trans (wy_at wyX 251 F rfl (wyX_ok 79 (by decide)))
set_option maxRecDepth 200000 in
theorem fc_80 (F : CF) : pf_52 (pf_51 F) 80 = (20, 132, [], z0, zn) := (wy_lo F (by decide)).trans (wy_at wyX 250 F rfl (wyX_ok 80 (by decide)))
set_option maxRecDepth 200000 in
theorem fc_81 (F : CF) : pf_52 (pf_51 F) 81 = (1, 8, [.ref 82, .int 0, .int 0, .int 0, .int 0, .int 0, .int 0, .int 0], z0, zn) := (wy_lo F (by decide)).trans (wy_at wyX 255 F rfl (wyX_ok 81 (by decide)))
set_option maxRecDepth 200000 in
theorem fc_82 (F : CF) : pf_52 (pf_51 F) 82 = (20, 132, [], z0, zn) := (wy_lo F (by decide)).trans (wy_at wyX 254 F rfl (wyX_ok 82 (by decide)))
set_option maxRecDepth 200000 in
theorem fc_83 (F : CF) : pf_52 (pf_51 F) 83 = (1, 8, [.ref 84, .int 0, .int 0, .int 0, .int 0, .int 0, .int 0, .int 0], z0, zn) := (wy_lo F (by decide)).trans (wy_at wyX 259 F rfl (wyX_ok 83 (by decide)))
set_option maxRecDepth 200000 in
theorem fc_84 (F : CF) : pf_52 (pf_51 F) 84 = (20, 132, [], z0, zn) := (wy_lo F (by decide)).trans (wy_at wyX 258 F rfl (wyX_ok 84 (by decide)))
set_option maxRecDepth 200000 in
theorem fc_85 (F : CF) : pf_52 (pf_51 F) 85 = (10, 6, [.ref 86, .ref 87, .ref 88, .ref 89, .int 0, .int 0], z0, zn) := (wy_lo F (by decide)).trans (wy_at wyX 270 F rfl (wyX_ok 85 (by decide)))
set_option maxRecDepth 200000 in
theorem fc_86 (F : CF) : pf_52 (pf_51 F) 86 = (21, 400, [], z0, zn) := (wy_lo F (by decide)).trans (wy_at wyX 263 F rfl (wyX_ok 86 (by decide)))
set_option maxRecDepth 200000 in
theorem fc_87 (F : CF) : pf_52 (pf_51 F) 87 = (20, 401, [], z0, zn) := (wy_lo F (by decide)).trans (wy_at wyX 265 F rfl (wyX_ok 87 (by decide)))
set_option maxRecDepth 200000 in
theorem fc_88 (F : CF) : pf_52 (pf_51 F) 88 = (20, 401, [], z0, zn) := (wy_lo F (by decide)).trans (wy_at wyX 267 F rfl (wyX_ok 88 (by decide)))
set_option maxRecDepth 200000 in
theorem fc_89 (F : CF) : pf_52 (pf_51 F) 89 = (20, 401, [], z0, zn) := (wy_lo F (by decide)).trans (wy_at wyX 269 F rfl (wyX_ok 89 (by decide)))
set_option maxRecDepth 200000 in
theorem fc_90 (F : CF) : pf_52 (pf_51 F) 90 = (5, 10, [.ref 91, .ref 93, .int 0, .int (-1), .ref 85, .int 0, .int 0, .int 0, .int 0, .int 0], z0, zn) := (wy_lo F (by decide)).trans (wy_at wyX 289 F rfl (wyX_ok 90 (by decide)))
set_option maxRecDepth 200000 in
theorem fc_91 (F : CF) : pf_52 (pf_51 F) 91 = (6, 4, [.int 16, .int 5, .ref 92, .int 0], z0, zn) := (wy_lo F (by decide)).trans (wy_at wyX 278 F rfl (wyX_ok 91 (by decide)))
set_option maxRecDepth 200000 in
theorem fc_92 (F : CF) : pf_52 (pf_51 F) 92 = (20, 80, [], z0, zn) := (wy_lo F (by decide)).trans (wy_at wyX 276 F rfl (wyX_ok 92 (by decide)))
set_option maxRecDepth 200000 in
theorem fc_93 (F : CF) : pf_52 (pf_51 F) 93 = (6, 4, [.int 400, .int 2, .ref 94, .int 0], z0, zn) := (wy_lo F (by decide)).trans (wy_at wyX 285 F rfl (wyX_ok 93 (by decide)))
set_option maxRecDepth 200000 in
theorem fc_94 (F : CF) : pf_52 (pf_51 F) 94 = (20, 800, [], z0, zn) := (wy_lo F (by decide)).trans (wy_at wyX 283 F rfl (wyX_ok 94 (by decide)))
set_option maxRecDepth 200000 in
theorem fc_95 (F : CF) : pf_52 (pf_51 F) 95 = (9, 2, [.ref 96, .ref 97], z0, zn) := (wy_lo F (by decide)).trans (wy_at wyX 295 F rfl (wyX_ok 95 (by decide)))
set_option maxRecDepth 200000 in
theorem fc_96 (F : CF) : pf_52 (pf_51 F) 96 = (20, 12, [], z0, zn) := (wy_lo F (by decide)).trans (wy_at wyX 292 F rfl (wyX_ok 96 (by decide)))
set_option maxRecDepth 200000 in
theorem fc_97 (F : CF) : pf_52 (pf_51 F) 97 = (20, 12, [], z0, zn) := (wy_lo F (by decide)).trans (wy_at wyX 294 F rfl (wyX_ok 97 (by decide)))
set_option maxRecDepth 200000 in
theorem fc_98 (F : CF) : pf_52 (pf_51 F) 98 = (2, 3, [.ref 99, .ref 100, .ref 101], z0, zn) := (wy_lo F (by decide)).trans (wy_at wyX 303 F rfl (wyX_ok 98 (by decide)))
set_option maxRecDepth 200000 in
theorem fc_99 (F : CF) : pf_52 (pf_51 F) 99 = (20, 8, [], z0, zn) := (wy_lo F (by decide)).trans (wy_at wyX 298 F rfl (wyX_ok 99 (by decide)))
set_option maxRecDepth 200000 in
theorem fc_100 (F : CF) : pf_52 (pf_51 F) 100 = (20, 17, [], z0, zn) := (wy_lo F (by decide)).trans (wy_at wyX 300 F rfl (wyX_ok 100 (by decide)))
set_option maxRecDepth 200000 in
theorem fc_101 (F : CF) : pf_52 (pf_51 F) 101 = (20, 17, [], z0, zn) := (wy_lo F (by decide)).trans (wy_at wyX 302 F rfl (wyX_ok 101 (by decide)))
set_option maxRecDepth 200000 in
theorem fc_102 (F : CF) : pf_52 (pf_51 F) 102 = (8, 2, [.ref 103, .int 0], z0, zn) := (wy_lo F (by decide)).trans (wy_at wyX 307 F rfl (wyX_ok 102 (by decide)))
set_option maxRecDepth 200000 in
theorem fc_103 (F : CF) : pf_52 (pf_51 F) 103 = (20, 1024, [], z0, zn) := (wy_lo F (by decide)).trans (wy_at wyX 306 F rfl (wyX_ok 103 (by decide)))
set_option maxRecDepth 200000 in
theorem fc_104 (F : CF) : pf_52 (pf_51 F) 104 = (12, 75, [.int 0, .ref 105, .ref 106, .int 0, .ref 107, .int 0, .int 0, .ref 108, .ref 109, .ref 110, .ref 111, .int 0, .int 0, .int 0, .int 0, .int 0, .ref 112, .ref 113, .ref 114, .ref 115, .ref 116, .ref 117, .ref 118, .ref 119, .int 0, .int 0, .int 0, .ref 120, .int 0, .int 0, .int 0, .int 0, .int (-1), .int 0, .ref 121, .int 0, .ref 122, .int 0, .ref 123, .ref 124, .ref 125, .ref 126, .int 0, .ref 127, .ref 128, .int 0, .ref 129, .ref 130, .ref 131, .int 0, .ref 132, .int 0, .ref 133, .ref 134, .int 0, .ref 135, .ref 136, .int 0, .ref 137, .ref 138, .ref 139, .ref 140, .int 0, .ref 141, .ref 142, .ref 143, .int 0, .ref 144, .ref 145, .ref 146, .ref 147, .int 0, .int 0, .int 0, .ref 148], z0, zn) := wy_at wyM 230 (pf_51 F) rfl (wyM_ok 0 (by decide))
set_option maxRecDepth 200000 in
theorem fc_105 (F : CF) : pf_52 (pf_51 F) 105 = (20, 115, [], z0, zn) := wy_at wyM 1 (pf_51 F) rfl (wyM_ok 1 (by decide))
set_option maxRecDepth 200000 in
theorem fc_106 (F : CF) : pf_52 (pf_51 F) 106 = (20, 690, [], z0, zn) := wy_at wyM 3 (pf_51 F) rfl (wyM_ok 2 (by decide))
set_option maxRecDepth 200000 in
theorem fc_107 (F : CF) : pf_52 (pf_51 F) 107 = (20, 115, [], z0, zn) := wy_at wyM 5 (pf_51 F) rfl (wyM_ok 3 (by decide))
set_option maxRecDepth 200000 in
theorem fc_108 (F : CF) : pf_52 (pf_51 F) 108 = (20, 12, [], z0, zn) := wy_at wyM 7 (pf_51 F) rfl (wyM_ok 4 (by decide))
set_option maxRecDepth 200000 in
theorem fc_109 (F : CF) : pf_52 (pf_51 F) 109 = (20, 12, [], z0, zn) := wy_at wyM 9 (pf_51 F) rfl (wyM_ok 5 (by decide))
set_option maxRecDepth 200000 in
theorem fc_110 (F : CF) : pf_52 (pf_51 F) 110 = (20, 600, [], z0, zn) := wy_at wyM 11 (pf_51 F) rfl (wyM_ok 6 (by decide))
set_option maxRecDepth 200000 in
theorem fc_111 (F : CF) : pf_52 (pf_51 F) 111 = (20, 400, [], z0, zn) := wy_at wyM 13 (pf_51 F) rfl (wyM_ok 7 (by decide))
set_option maxRecDepth 200000 in
theorem fc_112 (F : CF) : pf_52 (pf_51 F) 112 = (20, 141, [], wz_147, zn) := wy_at wyM 156 (pf_51 F) rfl (wyM_ok 8 (by decide))
set_option maxRecDepth 200000 in
theorem fc_113 (F : CF) : pf_52 (pf_51 F) 113 = (20, 2, [], z0, zn) := wy_at wyM 158 (pf_51 F) rfl (wyM_ok 9 (by decide))
set_option maxRecDepth 200000 in
theorem fc_114 (F : CF) : pf_52 (pf_51 F) 114 = (20, 48, [], z0, zn) := wy_at wyM 160 (pf_51 F) rfl (wyM_ok 10 (by decide))
set_option maxRecDepth 200000 in
theorem fc_115 (F : CF) : pf_52 (pf_51 F) 115 = (20, 48, [], z0, zn) := wy_at wyM 162 (pf_51 F) rfl (wyM_ok 11 (by decide))
set_option maxRecDepth 200000 in
theorem fc_116 (F : CF) : pf_52 (pf_51 F) 116 = (20, 48, [], z0, zn) := wy_at wyM 164 (pf_51 F) rfl (wyM_ok 12 (by decide))
set_option maxRecDepth 200000 in
theorem fc_117 (F : CF) : pf_52 (pf_51 F) 117 = (20, 48, [], z0, zn) := wy_at wyM 166 (pf_51 F) rfl (wyM_ok 13 (by decide))
set_option maxRecDepth 200000 in
theorem fc_118 (F : CF) : pf_52 (pf_51 F) 118 = (20, 1200, [], z0, zn) := wy_at wyM 168 (pf_51 F) rfl (wyM_ok 14 (by decide))
set_option maxRecDepth 200000 in
theorem fc_119 (F : CF) : pf_52 (pf_51 F) 119 = (20, 1200, [], z0, zn) := wy_at wyM 170 (pf_51 F) rfl (wyM_ok 15 (by decide))
set_option maxRecDepth 200000 in
theorem fc_120 (F : CF) : pf_52 (pf_51 F) 120 = (20, 40, [], z0, zn) := wy_at wyM 172 (pf_51 F) rfl (wyM_ok 16 (by decide))
set_option maxRecDepth 200000 in
theorem fc_121 (F : CF) : pf_52 (pf_51 F) 121 = (20, 96, [], z0, zn) := wy_at wyM 175 (pf_51 F) rfl (wyM_ok 17 (by decide))
set_option maxRecDepth 200000 in
theorem fc_122 (F : CF) : pf_52 (pf_51 F) 122 = (20, 160, [], z0, zn) := wy_at wyM 177 (pf_51 F) rfl (wyM_ok 18 (by decide))
set_option maxRecDepth 200000 in
theorem fc_123 (F : CF) : pf_52 (pf_51 F) 123 = (20, 24, [], z0, zn) := wy_at wyM 179 (pf_51 F) rfl (wyM_ok 19 (by decide))
set_option maxRecDepth 200000 in
theorem fc_124 (F : CF) : pf_52 (pf_51 F) 124 = (20, 12, [], z0, zn) := wy_at wyM 181 (pf_51 F) rfl (wyM_ok 20 (by decide))
set_option maxRecDepth 200000 in
theorem fc_125 (F : CF) : pf_52 (pf_51 F) 125 = (20, 420, [], z0, zn) := wy_at wyM 183 (pf_51 F) rfl (wyM_ok 21 (by decide))
set_option maxRecDepth 200000 in
theorem fc_126 (F : CF) : pf_52 (pf_51 F) 126 = (20, 12, [], z0, zn) := wy_at wyM 185 (pf_51 F) rfl (wyM_ok 22 (by decide))
set_option maxRecDepth 200000 in
theorem fc_127 (F : CF) : pf_52 (pf_51 F) 127 = (20, 9, [], z0, zn) := wy_at wyM 187 (pf_51 F) rfl (wyM_ok 23 (by decide))
set_option maxRecDepth 200000 in
theorem fc_128 (F : CF) : pf_52 (pf_51 F) 128 = (20, 100, [], z0, zn) := wy_at wyM 189 (pf_51 F) rfl (wyM_ok 24 (by decide))
set_option maxRecDepth 200000 in
theorem fc_129 (F : CF) : pf_52 (pf_51 F) 129 = (20, 8, [], z0, zn) := wy_at wyM 191 (pf_51 F) rfl (wyM_ok 25 (by decide))
set_option maxRecDepth 200000 in
theorem fc_130 (F : CF) : pf_52 (pf_51 F) 130 = (20, 256, [], z0, zn) := wy_at wyM 193 (pf_51 F) rfl (wyM_ok 26 (by decide))
set_option maxRecDepth 200000 in
theorem fc_131 (F : CF) : pf_52 (pf_51 F) 131 = (20, 8, [], z0, zn) := wy_at wyM 195 (pf_51 F) rfl (wyM_ok 27 (by decide))
set_option maxRecDepth 200000 in
theorem fc_132 (F : CF) : pf_52 (pf_51 F) 132 = (20, 5, [], z0, zn) := wy_at wyM 197 (pf_51 F) rfl (wyM_ok 28 (by decide))
set_option maxRecDepth 200000 in
theorem fc_133 (F : CF) : pf_52 (pf_51 F) 133 = (20, 8, [], z0, zn) := wy_at wyM 199 (pf_51 F) rfl (wyM_ok 29 (by decide))
set_option maxRecDepth 200000 in
theorem fc_134 (F : CF) : pf_52 (pf_51 F) 134 = (20, 8, [], z0, zn) := wy_at wyM 201 (pf_51 F) rfl (wyM_ok 30 (by decide))
set_option maxRecDepth 200000 in
theorem fc_135 (F : CF) : pf_52 (pf_51 F) 135 = (20, 16, [], z0, zn) := wy_at wyM 203 (pf_51 F) rfl (wyM_ok 31 (by decide))
set_option maxRecDepth 200000 in
theorem fc_136 (F : CF) : pf_52 (pf_51 F) 136 = (20, 1681, [], z0, zn) := wy_at wyM 205 (pf_51 F) rfl (wyM_ok 32 (by decide))
set_option maxRecDepth 200000 in
theorem fc_137 (F : CF) : pf_52 (pf_51 F) 137 = (20, 6, [], z0, zn) := wy_at wyM 207 (pf_51 F) rfl (wyM_ok 33 (by decide))
set_option maxRecDepth 200000 in
theorem fc_138 (F : CF) : pf_52 (pf_51 F) 138 = (20, 6, [], z0, zn) := wy_at wyM 209 (pf_51 F) rfl (wyM_ok 34 (by decide))
set_option maxRecDepth 200000 in
theorem fc_139 (F : CF) : pf_52 (pf_51 F) 139 = (20, 6, [], z0, zn) := wy_at wyM 211 (pf_51 F) rfl (wyM_ok 35 (by decide))
set_option maxRecDepth 200000 in
theorem fc_140 (F : CF) : pf_52 (pf_51 F) 140 = (20, 6, [], z0, zn) := wy_at wyM 213 (pf_51 F) rfl (wyM_ok 36 (by decide))
set_option maxRecDepth 200000 in
theorem fc_141 (F : CF) : pf_52 (pf_51 F) 141 = (20, 12, [], z0, zn) := wy_at wyM 215 (pf_51 F) rfl (wyM_ok 37 (by decide))
set_option maxRecDepth 200000 in
theorem fc_142 (F : CF) : pf_52 (pf_51 F) 142 = (20, 21, [], z0, zn) := wy_at wyM 217 (pf_51 F) rfl (wyM_ok 38 (by decide))
set_option maxRecDepth 200000 in
theorem fc_143 (F : CF) : pf_52 (pf_51 F) 143 = (20, 21, [], z0, zn) := wy_at wyM 219 (pf_51 F) rfl (wyM_ok 39 (by decide))
set_option maxRecDepth 200000 in
theorem fc_144 (F : CF) : pf_52 (pf_51 F) 144 = (20, 8, [], z0, zn) := wy_at wyM 221 (pf_51 F) rfl (wyM_ok 40 (by decide))
set_option maxRecDepth 200000 in
theorem fc_145 (F : CF) : pf_52 (pf_51 F) 145 = (20, 8, [], z0, zn) := wy_at wyM 223 (pf_51 F) rfl (wyM_ok 41 (by decide))
set_option maxRecDepth 200000 in
theorem fc_146 (F : CF) : pf_52 (pf_51 F) 146 = (20, 16807, [], z0, zn) := wy_at wyM 225 (pf_51 F) rfl (wyM_ok 42 (by decide))
set_option maxRecDepth 200000 in
theorem fc_147 (F : CF) : pf_52 (pf_51 F) 147 = (20, 5, [], z0, zn) := wy_at wyM 227 (pf_51 F) rfl (wyM_ok 43 (by decide))
set_option maxRecDepth 200000 in
theorem fc_148 (F : CF) : pf_52 (pf_51 F) 148 = (20, 2400, [], z0, zn) := wy_at wyM 229 (pf_51 F) rfl (wyM_ok 44 (by decide))
theorem fe_0 (B : Nat) (cA : Nat → ClassId) (F : CF) : ce B cA hI 0 (0, 14) = ceE B cA (pf_52 (pf_51 F) 0) := by rw [fc_0]; rfl
theorem fe_1 (B : Nat) (cA : Nat → ClassId) (F : CF) : ce B cA hI 1 (1, 8) = ceE B cA (pf_52 (pf_51 F) 1) := by rw [fc_1]; rfl
theorem fe_2 (B : Nat) (cA : Nat → ClassId) (F : CF) : ce B cA hI 2 (20, 132) = ceE B cA (pf_52 (pf_51 F) 2) := by rw [fc_2, ce_int, ceE_int]; exact congrArg (fun f => Sum.inl (cA 0, 132, Sum.inl f)) (rfl : hI 2 = z0)
theorem fe_3 (B : Nat) (cA : Nat → ClassId) (F : CF) : ce B cA hI 3 (1, 8) = ceE B cA (pf_52 (pf_51 F) 3) := by rw [fc_3]; rfl
theorem fe_4 (B : Nat) (cA : Nat → ClassId) (F : CF) : ce B cA hI 4 (20, 132) = ceE B cA (pf_52 (pf_51 F) 4) := by rw [fc_4, ce_int, ceE_int]; exact congrArg (fun f => Sum.inl (cA 0, 132, Sum.inl f)) (rfl : hI 4 = z0)
theorem fe_5 (B : Nat) (cA : Nat → ClassId) (F : CF) : ce B cA hI 5 (11, 14) = ceE B cA (pf_52 (pf_51 F) 5) := by rw [fc_5]; rfl
theorem fe_6 (B : Nat) (cA : Nat → ClassId) (F : CF) : ce B cA hI 6 (6, 4) = ceE B cA (pf_52 (pf_51 F) 6) := by rw [fc_6]; rfl
theorem fe_7 (B : Nat) (cA : Nat → ClassId) (F : CF) : ce B cA hI 7 (20, 80) = ceE B cA (pf_52 (pf_51 F) 7) := by rw [fc_7, ce_int, ceE_int]; exact congrArg (fun f => Sum.inl (cA 0, 80, Sum.inl f)) (rfl : hI 7 = z0)
theorem fe_8 (B : Nat) (cA : Nat → ClassId) (F : CF) : ce B cA hI 8 (6, 4) = ceE B cA (pf_52 (pf_51 F) 8) := by rw [fc_8]; rfl
theorem fe_9 (B : Nat) (cA : Nat → ClassId) (F : CF) : ce B cA hI 9 (20, 800) = ceE B cA (pf_52 (pf_51 F) 9) := by rw [fc_9, ce_int, ceE_int]; exact congrArg (fun f => Sum.inl (cA 0, 800, Sum.inl f)) (rfl : hI 9 = z0)
theorem fe_10 (B : Nat) (cA : Nat → ClassId) (F : CF) : ce B cA hI 10 (6, 4) = ceE B cA (pf_52 (pf_51 F) 10) := by rw [fc_10]; rfl
theorem fe_11 (B : Nat) (cA : Nat → ClassId) (F : CF) : ce B cA hI 11 (20, 80) = ceE B cA (pf_52 (pf_51 F) 11) := by rw [fc_11, ce_int, ceE_int]; exact congrArg (fun f => Sum.inl (cA 0, 80, Sum.inl f)) (rfl : hI 11 = z0)
theorem fe_12 (B : Nat) (cA : Nat → ClassId) (F : CF) : ce B cA hI 12 (6, 4) = ceE B cA (pf_52 (pf_51 F) 12) := by rw [fc_12]; rfl
theorem fe_13 (B : Nat) (cA : Nat → ClassId) (F : CF) : ce B cA hI 13 (20, 80) = ceE B cA (pf_52 (pf_51 F) 13) := by rw [fc_13, ce_int, ceE_int]; exact congrArg (fun f => Sum.inl (cA 0, 80, Sum.inl f)) (rfl : hI 13 = z0)
theorem fe_14 (B : Nat) (cA : Nat → ClassId) (F : CF) : ce B cA hI 14 (6, 4) = ceE B cA (pf_52 (pf_51 F) 14) := by rw [fc_14]; rfl
theorem fe_15 (B : Nat) (cA : Nat → ClassId) (F : CF) : ce B cA hI 15 (20, 80) = ceE B cA (pf_52 (pf_51 F) 15) := by rw [fc_15, ce_int, ceE_int]; exact congrArg (fun f => Sum.inl (cA 0, 80, Sum.inl f)) (rfl : hI 15 = z0)
theorem fe_16 (B : Nat) (cA : Nat → ClassId) (F : CF) : ce B cA hI 16 (6, 4) = ceE B cA (pf_52 (pf_51 F) 16) := by rw [fc_16]; rfl
theorem fe_17 (B : Nat) (cA : Nat → ClassId) (F : CF) : ce B cA hI 17 (20, 600) = ceE B cA (pf_52 (pf_51 F) 17) := by rw [fc_17, ce_int, ceE_int]; exact congrArg (fun f => Sum.inl (cA 0, 600, Sum.inl f)) (rfl : hI 17 = z0)
theorem fe_18 (B : Nat) (cA : Nat → ClassId) (F : CF) : ce B cA hI 18 (6, 4) = ceE B cA (pf_52 (pf_51 F) 18) := by rw [fc_18]; rfl
theorem fe_19 (B : Nat) (cA : Nat → ClassId) (F : CF) : ce B cA hI 19 (20, 9) = ceE B cA (pf_52 (pf_51 F) 19) := by rw [fc_19, ce_int, ceE_int]; exact congrArg (fun f => Sum.inl (cA 0, 9, Sum.inl f)) (rfl : hI 19 = z0)
theorem fe_20 (B : Nat) (cA : Nat → ClassId) (F : CF) : ce B cA hI 20 (6, 4) = ceE B cA (pf_52 (pf_51 F) 20) := by rw [fc_20]; rfl
theorem fe_21 (B : Nat) (cA : Nat → ClassId) (F : CF) : ce B cA hI 21 (20, 8) = ceE B cA (pf_52 (pf_51 F) 21) := by rw [fc_21, ce_int, ceE_int]; exact congrArg (fun f => Sum.inl (cA 0, 8, Sum.inl f)) (rfl : hI 21 = z0)
theorem fe_22 (B : Nat) (cA : Nat → ClassId) (F : CF) : ce B cA hI 22 (6, 4) = ceE B cA (pf_52 (pf_51 F) 22) := by rw [fc_22]; rfl
theorem fe_23 (B : Nat) (cA : Nat → ClassId) (F : CF) : ce B cA hI 23 (20, 5) = ceE B cA (pf_52 (pf_51 F) 23) := by rw [fc_23, ce_int, ceE_int]; exact congrArg (fun f => Sum.inl (cA 0, 5, Sum.inl f)) (rfl : hI 23 = z0)
theorem fe_24 (B : Nat) (cA : Nat → ClassId) (F : CF) : ce B cA hI 24 (6, 4) = ceE B cA (pf_52 (pf_51 F) 24) := by rw [fc_24]; rfl
theorem fe_25 (B : Nat) (cA : Nat → ClassId) (F : CF) : ce B cA hI 25 (20, 16) = ceE B cA (pf_52 (pf_51 F) 25) := by rw [fc_25, ce_int, ceE_int]; exact congrArg (fun f => Sum.inl (cA 0, 16, Sum.inl f)) (rfl : hI 25 = z0)
theorem fe_26 (B : Nat) (cA : Nat → ClassId) (F : CF) : ce B cA hI 26 (6, 4) = ceE B cA (pf_52 (pf_51 F) 26) := by rw [fc_26]; rfl
theorem fe_27 (B : Nat) (cA : Nat → ClassId) (F : CF) : ce B cA hI 27 (20, 16) = ceE B cA (pf_52 (pf_51 F) 27) := by rw [fc_27, ce_int, ceE_int]; exact congrArg (fun f => Sum.inl (cA 0, 16, Sum.inl f)) (rfl : hI 27 = z0)
theorem fe_28 (B : Nat) (cA : Nat → ClassId) (F : CF) : ce B cA hI 28 (6, 4) = ceE B cA (pf_52 (pf_51 F) 28) := by rw [fc_28]; rfl
theorem fe_29 (B : Nat) (cA : Nat → ClassId) (F : CF) : ce B cA hI 29 (20, 12) = ceE B cA (pf_52 (pf_51 F) 29) := by rw [fc_29, ce_int, ceE_int]; exact congrArg (fun f => Sum.inl (cA 0, 12, Sum.inl f)) (rfl : hI 29 = z0)
theorem fe_30 (B : Nat) (cA : Nat → ClassId) (F : CF) : ce B cA hI 30 (6, 4) = ceE B cA (pf_52 (pf_51 F) 30) := by rw [fc_30]; rfl
theorem fe_31 (B : Nat) (cA : Nat → ClassId) (F : CF) : ce B cA hI 31 (20, 24) = ceE B cA (pf_52 (pf_51 F) 31) := by rw [fc_31, ce_int, ceE_int]; exact congrArg (fun f => Sum.inl (cA 0, 24, Sum.inl f)) (rfl : hI 31 = z0)
theorem fe_32 (B : Nat) (cA : Nat → ClassId) (F : CF) : ce B cA hI 32 (6, 4) = ceE B cA (pf_52 (pf_51 F) 32) := by rw [fc_32]; rfl
theorem fe_33 (B : Nat) (cA : Nat → ClassId) (F : CF) : ce B cA hI 33 (20, 16) = ceE B cA (pf_52 (pf_51 F) 33) := by rw [fc_33, ce_int, ceE_int]; exact congrArg (fun f => Sum.inl (cA 0, 16, Sum.inl f)) (rfl : hI 33 = z0)
theorem fe_34 (B : Nat) (cA : Nat → ClassId) (F : CF) : ce B cA hI 34 (3, 5) = ceE B cA (pf_52 (pf_51 F) 34) := by rw [fc_34]; rfl
theorem fe_35 (B : Nat) (cA : Nat → ClassId) (F : CF) : ce B cA hI 35 (20, 12) = ceE B cA (pf_52 (pf_51 F) 35) := by rw [fc_35, ce_int, ceE_int]; exact congrArg (fun f => Sum.inl (cA 0, 12, Sum.inl f)) (rfl : hI 35 = z0)
theorem fe_36 (B : Nat) (cA : Nat → ClassId) (F : CF) : ce B cA hI 36 (20, 64) = ceE B cA (pf_52 (pf_51 F) 36) := by rw [fc_36, ce_int, ceE_int]; exact congrArg (fun f => Sum.inl (cA 0, 64, Sum.inl f)) (rfl : hI 36 = z0)
theorem fe_37 (B : Nat) (cA : Nat → ClassId) (F : CF) : ce B cA hI 37 (1, 8) = ceE B cA (pf_52 (pf_51 F) 37) := by rw [fc_37]; rfl
theorem fe_38 (B : Nat) (cA : Nat → ClassId) (F : CF) : ce B cA hI 38 (20, 132) = ceE B cA (pf_52 (pf_51 F) 38) := by rw [fc_38, ce_int, ceE_int]; exact congrArg (fun f => Sum.inl (cA 0, 132, Sum.inl f)) (rfl : hI 38 = z0)
theorem fe_39 (B : Nat) (cA : Nat → ClassId) (F : CF) : ce B cA hI 39 (11, 14) = ceE B cA (pf_52 (pf_51 F) 39) := by rw [fc_39]; rfl
theorem fe_40 (B : Nat) (cA : Nat → ClassId) (F : CF) : ce B cA hI 40 (6, 4) = ceE B cA (pf_52 (pf_51 F) 40) := by rw [fc_40]; rfl
theorem fe_41 (B : Nat) (cA : Nat → ClassId) (F : CF) : ce B cA hI 41 (20, 80) = ceE B cA (pf_52 (pf_51 F) 41) := by rw [fc_41, ce_int, ceE_int]; exact congrArg (fun f => Sum.inl (cA 0, 80, Sum.inl f)) (rfl : hI 41 = z0)
theorem fe_42 (B : Nat) (cA : Nat → ClassId) (F : CF) : ce B cA hI 42 (6, 4) = ceE B cA (pf_52 (pf_51 F) 42) := by rw [fc_42]; rfl
theorem fe_43 (B : Nat) (cA : Nat → ClassId) (F : CF) : ce B cA hI 43 (20, 800) = ceE B cA (pf_52 (pf_51 F) 43) := by rw [fc_43, ce_int, ceE_int]; exact congrArg (fun f => Sum.inl (cA 0, 800, Sum.inl f)) (rfl : hI 43 = z0)
theorem fe_44 (B : Nat) (cA : Nat → ClassId) (F : CF) : ce B cA hI 44 (6, 4) = ceE B cA (pf_52 (pf_51 F) 44) := by rw [fc_44]; rfl
theorem fe_45 (B : Nat) (cA : Nat → ClassId) (F : CF) : ce B cA hI 45 (20, 80) = ceE B cA (pf_52 (pf_51 F) 45) := by rw [fc_45, ce_int, ceE_int]; exact congrArg (fun f => Sum.inl (cA 0, 80, Sum.inl f)) (rfl : hI 45 = z0)
theorem fe_46 (B : Nat) (cA : Nat → ClassId) (F : CF) : ce B cA hI 46 (6, 4) = ceE B cA (pf_52 (pf_51 F) 46) := by rw [fc_46]; rfl
theorem fe_47 (B : Nat) (cA : Nat → ClassId) (F : CF) : ce B cA hI 47 (20, 80) = ceE B cA (pf_52 (pf_51 F) 47) := by rw [fc_47, ce_int, ceE_int]; exact congrArg (fun f => Sum.inl (cA 0, 80, Sum.inl f)) (rfl : hI 47 = z0)
theorem fe_48 (B : Nat) (cA : Nat → ClassId) (F : CF) : ce B cA hI 48 (6, 4) = ceE B cA (pf_52 (pf_51 F) 48) := by rw [fc_48]; rfl
theorem fe_49 (B : Nat) (cA : Nat → ClassId) (F : CF) : ce B cA hI 49 (20, 80) = ceE B cA (pf_52 (pf_51 F) 49) := by rw [fc_49, ce_int, ceE_int]; exact congrArg (fun f => Sum.inl (cA 0, 80, Sum.inl f)) (rfl : hI 49 = z0)
theorem fe_50 (B : Nat) (cA : Nat → ClassId) (F : CF) : ce B cA hI 50 (6, 4) = ceE B cA (pf_52 (pf_51 F) 50) := by rw [fc_50]; rfl
theorem fe_51 (B : Nat) (cA : Nat → ClassId) (F : CF) : ce B cA hI 51 (20, 600) = ceE B cA (pf_52 (pf_51 F) 51) := by rw [fc_51, ce_int, ceE_int]; exact congrArg (fun f => Sum.inl (cA 0, 600, Sum.inl f)) (rfl : hI 51 = z0)
theorem fe_52 (B : Nat) (cA : Nat → ClassId) (F : CF) : ce B cA hI 52 (6, 4) = ceE B cA (pf_52 (pf_51 F) 52) := by rw [fc_52]; rfl
theorem fe_53 (B : Nat) (cA : Nat → ClassId) (F : CF) : ce B cA hI 53 (20, 9) = ceE B cA (pf_52 (pf_51 F) 53) := by rw [fc_53, ce_int, ceE_int]; exact congrArg (fun f => Sum.inl (cA 0, 9, Sum.inl f)) (rfl : hI 53 = z0)
theorem fe_54 (B : Nat) (cA : Nat → ClassId) (F : CF) : ce B cA hI 54 (6, 4) = ceE B cA (pf_52 (pf_51 F) 54) := by rw [fc_54]; rfl
theorem fe_55 (B : Nat) (cA : Nat → ClassId) (F : CF) : ce B cA hI 55 (20, 8) = ceE B cA (pf_52 (pf_51 F) 55) := by rw [fc_55, ce_int, ceE_int]; exact congrArg (fun f => Sum.inl (cA 0, 8, Sum.inl f)) (rfl : hI 55 = z0)
theorem fe_56 (B : Nat) (cA : Nat → ClassId) (F : CF) : ce B cA hI 56 (6, 4) = ceE B cA (pf_52 (pf_51 F) 56) := by rw [fc_56]; rfl
theorem fe_57 (B : Nat) (cA : Nat → ClassId) (F : CF) : ce B cA hI 57 (20, 5) = ceE B cA (pf_52 (pf_51 F) 57) := by rw [fc_57, ce_int, ceE_int]; exact congrArg (fun f => Sum.inl (cA 0, 5, Sum.inl f)) (rfl : hI 57 = z0)
theorem fe_58 (B : Nat) (cA : Nat → ClassId) (F : CF) : ce B cA hI 58 (6, 4) = ceE B cA (pf_52 (pf_51 F) 58) := by rw [fc_58]; rfl
theorem fe_59 (B : Nat) (cA : Nat → ClassId) (F : CF) : ce B cA hI 59 (20, 16) = ceE B cA (pf_52 (pf_51 F) 59) := by rw [fc_59, ce_int, ceE_int]; exact congrArg (fun f => Sum.inl (cA 0, 16, Sum.inl f)) (rfl : hI 59 = z0)
theorem fe_60 (B : Nat) (cA : Nat → ClassId) (F : CF) : ce B cA hI 60 (6, 4) = ceE B cA (pf_52 (pf_51 F) 60) := by rw [fc_60]; rfl
theorem fe_61 (B : Nat) (cA : Nat → ClassId) (F : CF) : ce B cA hI 61 (20, 16) = ceE B cA (pf_52 (pf_51 F) 61) := by rw [fc_61, ce_int, ceE_int]; exact congrArg (fun f => Sum.inl (cA 0, 16, Sum.inl f)) (rfl : hI 61 = z0)
theorem fe_62 (B : Nat) (cA : Nat → ClassId) (F : CF) : ce B cA hI 62 (6, 4) = ceE B cA (pf_52 (pf_51 F) 62) := by rw [fc_62]; rfl
theorem fe_63 (B : Nat) (cA : Nat → ClassId) (F : CF) : ce B cA hI 63 (20, 12) = ceE B cA (pf_52 (pf_51 F) 63) := by rw [fc_63, ce_int, ceE_int]; exact congrArg (fun f => Sum.inl (cA 0, 12, Sum.inl f)) (rfl : hI 63 = z0)
theorem fe_64 (B : Nat) (cA : Nat → ClassId) (F : CF) : ce B cA hI 64 (6, 4) = ceE B cA (pf_52 (pf_51 F) 64) := by rw [fc_64]; rfl
theorem fe_65 (B : Nat) (cA : Nat → ClassId) (F : CF) : ce B cA hI 65 (20, 24) = ceE B cA (pf_52 (pf_51 F) 65) := by rw [fc_65, ce_int, ceE_int]; exact congrArg (fun f => Sum.inl (cA 0, 24, Sum.inl f)) (rfl : hI 65 = z0)
theorem fe_66 (B : Nat) (cA : Nat → ClassId) (F : CF) : ce B cA hI 66 (6, 4) = ceE B cA (pf_52 (pf_51 F) 66) := by rw [fc_66]; rfl
theorem fe_67 (B : Nat) (cA : Nat → ClassId) (F : CF) : ce B cA hI 67 (20, 16) = ceE B cA (pf_52 (pf_51 F) 67) := by rw [fc_67, ce_int, ceE_int]; exact congrArg (fun f => Sum.inl (cA 0, 16, Sum.inl f)) (rfl : hI 67 = z0)
theorem fe_68 (B : Nat) (cA : Nat → ClassId) (F : CF) : ce B cA hI 68 (7, 4) = ceE B cA (pf_52 (pf_51 F) 68) := by rw [fc_68]; rfl
theorem fe_69 (B : Nat) (cA : Nat → ClassId) (F : CF) : ce B cA hI 69 (7, 4) = ceE B cA (pf_52 (pf_51 F) 69) := by rw [fc_69]; rfl
theorem fe_70 (B : Nat) (cA : Nat → ClassId) (F : CF) : ce B cA hI 70 (4, 4) = ceE B cA (pf_52 (pf_51 F) 70) := by rw [fc_70]; rfl
theorem fe_71 (B : Nat) (cA : Nat → ClassId) (F : CF) : ce B cA hI 71 (22, 6) = ceE B cA (pf_52 (pf_51 F) 71) := by
  rw [fc_71]
  show Sum.inl (cA 2, 6, Sum.inr (Sum.inr (Sum.inr (Sum.inr (fun j => (rf 71 j).map (B + ·)))))) = Sum.inl (cA 2, 6, Sum.inr (Sum.inr (Sum.inr (Sum.inr (fun j => (rz_6 j).map (B + ·))))))
  have e : ∀ j, rf 71 j = rz_6 j := by
    intro j
    match j with
    | 0 => rfl
    | 1 => rfl
    | 2 => rfl
    | 3 => rfl
    | 4 => rfl
    | 5 => rfl
    | j + 6 => simp [rf, rfT, rz_6, rz_5, rz_4, rz_3, rz_2, rz_1, va_up, zn]
  simp only [e]
theorem fe_72 (B : Nat) (cA : Nat → ClassId) (F : CF) : ce B cA hI 72 (20, 6) = ceE B cA (pf_52 (pf_51 F) 72) := by rw [fc_72, ce_int, ceE_int]; exact congrArg (fun f => Sum.inl (cA 0, 6, Sum.inl f)) (rfl : hI 72 = z0)
theorem fe_73 (B : Nat) (cA : Nat → ClassId) (F : CF) : ce B cA hI 73 (1, 8) = ceE B cA (pf_52 (pf_51 F) 73) := by rw [fc_73]; rfl
theorem fe_74 (B : Nat) (cA : Nat → ClassId) (F : CF) : ce B cA hI 74 (20, 132) = ceE B cA (pf_52 (pf_51 F) 74) := by rw [fc_74, ce_int, ceE_int]; exact congrArg (fun f => Sum.inl (cA 0, 132, Sum.inl f)) (rfl : hI 74 = z0)
theorem fe_75 (B : Nat) (cA : Nat → ClassId) (F : CF) : ce B cA hI 75 (1, 8) = ceE B cA (pf_52 (pf_51 F) 75) := by rw [fc_75]; rfl
theorem fe_76 (B : Nat) (cA : Nat → ClassId) (F : CF) : ce B cA hI 76 (20, 132) = ceE B cA (pf_52 (pf_51 F) 76) := by rw [fc_76, ce_int, ceE_int]; exact congrArg (fun f => Sum.inl (cA 0, 132, Sum.inl f)) (rfl : hI 76 = z0)
theorem fe_77 (B : Nat) (cA : Nat → ClassId) (F : CF) : ce B cA hI 77 (1, 8) = ceE B cA (pf_52 (pf_51 F) 77) := by rw [fc_77]; rfl
theorem fe_78 (B : Nat) (cA : Nat → ClassId) (F : CF) : ce B cA hI 78 (20, 132) = ceE B cA (pf_52 (pf_51 F) 78) := by rw [fc_78, ce_int, ceE_int]; exact congrArg (fun f => Sum.inl (cA 0, 132, Sum.inl f)) (rfl : hI 78 = z0)
theorem fe_79 (B : Nat) (cA : Nat → ClassId) (F : CF) : ce B cA hI 79 (1, 8) = ceE B cA (pf_52 (pf_51 F) 79) := by rw [fc_79]; rfl
theorem fe_80 (B : Nat) (cA : Nat → ClassId) (F : CF) : ce B cA hI 80 (20, 132) = ceE B cA (pf_52 (pf_51 F) 80) := by rw [fc_80, ce_int, ceE_int]; exact congrArg (fun f => Sum.inl (cA 0, 132, Sum.inl f)) (rfl : hI 80 = z0)
theorem fe_81 (B : Nat) (cA : Nat → ClassId) (F : CF) : ce B cA hI 81 (1, 8) = ceE B cA (pf_52 (pf_51 F) 81) := by rw [fc_81]; rfl
theorem fe_82 (B : Nat) (cA : Nat → ClassId) (F : CF) : ce B cA hI 82 (20, 132) = ceE B cA (pf_52 (pf_51 F) 82) := by rw [fc_82, ce_int, ceE_int]; exact congrArg (fun f => Sum.inl (cA 0, 132, Sum.inl f)) (rfl : hI 82 = z0)
theorem fe_83 (B : Nat) (cA : Nat → ClassId) (F : CF) : ce B cA hI 83 (1, 8) = ceE B cA (pf_52 (pf_51 F) 83) := by rw [fc_83]; rfl
theorem fe_84 (B : Nat) (cA : Nat → ClassId) (F : CF) : ce B cA hI 84 (20, 132) = ceE B cA (pf_52 (pf_51 F) 84) := by rw [fc_84, ce_int, ceE_int]; exact congrArg (fun f => Sum.inl (cA 0, 132, Sum.inl f)) (rfl : hI 84 = z0)
theorem fe_85 (B : Nat) (cA : Nat → ClassId) (F : CF) : ce B cA hI 85 (10, 6) = ceE B cA (pf_52 (pf_51 F) 85) := by rw [fc_85]; rfl
theorem fe_86 (B : Nat) (cA : Nat → ClassId) (F : CF) : ce B cA hI 86 (21, 400) = ceE B cA (pf_52 (pf_51 F) 86) := by rw [fc_86, ce_byte, ceE_byte]; exact congrArg (fun f => Sum.inl (cA 1, 400, Sum.inl f)) (rfl : hI 86 = z0)
theorem fe_87 (B : Nat) (cA : Nat → ClassId) (F : CF) : ce B cA hI 87 (20, 401) = ceE B cA (pf_52 (pf_51 F) 87) := by rw [fc_87, ce_int, ceE_int]; exact congrArg (fun f => Sum.inl (cA 0, 401, Sum.inl f)) (rfl : hI 87 = z0)
theorem fe_88 (B : Nat) (cA : Nat → ClassId) (F : CF) : ce B cA hI 88 (20, 401) = ceE B cA (pf_52 (pf_51 F) 88) := by rw [fc_88, ce_int, ceE_int]; exact congrArg (fun f => Sum.inl (cA 0, 401, Sum.inl f)) (rfl : hI 88 = z0)
theorem fe_89 (B : Nat) (cA : Nat → ClassId) (F : CF) : ce B cA hI 89 (20, 401) = ceE B cA (pf_52 (pf_51 F) 89) := by rw [fc_89, ce_int, ceE_int]; exact congrArg (fun f => Sum.inl (cA 0, 401, Sum.inl f)) (rfl : hI 89 = z0)
theorem fe_90 (B : Nat) (cA : Nat → ClassId) (F : CF) : ce B cA hI 90 (5, 10) = ceE B cA (pf_52 (pf_51 F) 90) := by rw [fc_90]; rfl
theorem fe_91 (B : Nat) (cA : Nat → ClassId) (F : CF) : ce B cA hI 91 (6, 4) = ceE B cA (pf_52 (pf_51 F) 91) := by rw [fc_91]; rfl
theorem fe_92 (B : Nat) (cA : Nat → ClassId) (F : CF) : ce B cA hI 92 (20, 80) = ceE B cA (pf_52 (pf_51 F) 92) := by rw [fc_92, ce_int, ceE_int]; exact congrArg (fun f => Sum.inl (cA 0, 80, Sum.inl f)) (rfl : hI 92 = z0)
theorem fe_93 (B : Nat) (cA : Nat → ClassId) (F : CF) : ce B cA hI 93 (6, 4) = ceE B cA (pf_52 (pf_51 F) 93) := by rw [fc_93]; rfl
theorem fe_94 (B : Nat) (cA : Nat → ClassId) (F : CF) : ce B cA hI 94 (20, 800) = ceE B cA (pf_52 (pf_51 F) 94) := by rw [fc_94, ce_int, ceE_int]; exact congrArg (fun f => Sum.inl (cA 0, 800, Sum.inl f)) (rfl : hI 94 = z0)
theorem fe_95 (B : Nat) (cA : Nat → ClassId) (F : CF) : ce B cA hI 95 (9, 2) = ceE B cA (pf_52 (pf_51 F) 95) := by rw [fc_95]; rfl
theorem fe_96 (B : Nat) (cA : Nat → ClassId) (F : CF) : ce B cA hI 96 (20, 12) = ceE B cA (pf_52 (pf_51 F) 96) := by rw [fc_96, ce_int, ceE_int]; exact congrArg (fun f => Sum.inl (cA 0, 12, Sum.inl f)) (rfl : hI 96 = z0)
theorem fe_97 (B : Nat) (cA : Nat → ClassId) (F : CF) : ce B cA hI 97 (20, 12) = ceE B cA (pf_52 (pf_51 F) 97) := by rw [fc_97, ce_int, ceE_int]; exact congrArg (fun f => Sum.inl (cA 0, 12, Sum.inl f)) (rfl : hI 97 = z0)
theorem fe_98 (B : Nat) (cA : Nat → ClassId) (F : CF) : ce B cA hI 98 (2, 3) = ceE B cA (pf_52 (pf_51 F) 98) := by rw [fc_98]; rfl
theorem fe_99 (B : Nat) (cA : Nat → ClassId) (F : CF) : ce B cA hI 99 (20, 8) = ceE B cA (pf_52 (pf_51 F) 99) := by rw [fc_99, ce_int, ceE_int]; exact congrArg (fun f => Sum.inl (cA 0, 8, Sum.inl f)) (rfl : hI 99 = z0)
theorem fe_100 (B : Nat) (cA : Nat → ClassId) (F : CF) : ce B cA hI 100 (20, 17) = ceE B cA (pf_52 (pf_51 F) 100) := by rw [fc_100, ce_int, ceE_int]; exact congrArg (fun f => Sum.inl (cA 0, 17, Sum.inl f)) (rfl : hI 100 = z0)
theorem fe_101 (B : Nat) (cA : Nat → ClassId) (F : CF) : ce B cA hI 101 (20, 17) = ceE B cA (pf_52 (pf_51 F) 101) := by rw [fc_101, ce_int, ceE_int]; exact congrArg (fun f => Sum.inl (cA 0, 17, Sum.inl f)) (rfl : hI 101 = z0)
theorem fe_102 (B : Nat) (cA : Nat → ClassId) (F : CF) : ce B cA hI 102 (8, 2) = ceE B cA (pf_52 (pf_51 F) 102) := by rw [fc_102]; rfl
theorem fe_103 (B : Nat) (cA : Nat → ClassId) (F : CF) : ce B cA hI 103 (20, 1024) = ceE B cA (pf_52 (pf_51 F) 103) := by rw [fc_103, ce_int, ceE_int]; exact congrArg (fun f => Sum.inl (cA 0, 1024, Sum.inl f)) (rfl : hI 103 = z0)
theorem fe_104 (B : Nat) (cA : Nat → ClassId) (F : CF) : ce B cA hI 104 (12, 75) = ceE B cA (pf_52 (pf_51 F) 104) := by rw [fc_104]; rfl
theorem fe_105 (B : Nat) (cA : Nat → ClassId) (F : CF) : ce B cA hI 105 (20, 115) = ceE B cA (pf_52 (pf_51 F) 105) := by rw [fc_105, ce_int, ceE_int]; exact congrArg (fun f => Sum.inl (cA 0, 115, Sum.inl f)) (rfl : hI 105 = z0)
theorem fe_106 (B : Nat) (cA : Nat → ClassId) (F : CF) : ce B cA hI 106 (20, 690) = ceE B cA (pf_52 (pf_51 F) 106) := by rw [fc_106, ce_int, ceE_int]; exact congrArg (fun f => Sum.inl (cA 0, 690, Sum.inl f)) (rfl : hI 106 = z0)
theorem fe_107 (B : Nat) (cA : Nat → ClassId) (F : CF) : ce B cA hI 107 (20, 115) = ceE B cA (pf_52 (pf_51 F) 107) := by rw [fc_107, ce_int, ceE_int]; exact congrArg (fun f => Sum.inl (cA 0, 115, Sum.inl f)) (rfl : hI 107 = z0)
theorem fe_108 (B : Nat) (cA : Nat → ClassId) (F : CF) : ce B cA hI 108 (20, 12) = ceE B cA (pf_52 (pf_51 F) 108) := by rw [fc_108, ce_int, ceE_int]; exact congrArg (fun f => Sum.inl (cA 0, 12, Sum.inl f)) (rfl : hI 108 = z0)
theorem fe_109 (B : Nat) (cA : Nat → ClassId) (F : CF) : ce B cA hI 109 (20, 12) = ceE B cA (pf_52 (pf_51 F) 109) := by rw [fc_109, ce_int, ceE_int]; exact congrArg (fun f => Sum.inl (cA 0, 12, Sum.inl f)) (rfl : hI 109 = z0)
theorem fe_110 (B : Nat) (cA : Nat → ClassId) (F : CF) : ce B cA hI 110 (20, 600) = ceE B cA (pf_52 (pf_51 F) 110) := by rw [fc_110, ce_int, ceE_int]; exact congrArg (fun f => Sum.inl (cA 0, 600, Sum.inl f)) (rfl : hI 110 = z0)
theorem fe_111 (B : Nat) (cA : Nat → ClassId) (F : CF) : ce B cA hI 111 (20, 400) = ceE B cA (pf_52 (pf_51 F) 111) := by rw [fc_111, ce_int, ceE_int]; exact congrArg (fun f => Sum.inl (cA 0, 400, Sum.inl f)) (rfl : hI 111 = z0)
theorem fe_112 (B : Nat) (cA : Nat → ClassId) (F : CF) : ce B cA hI 112 (20, 141) = ceE B cA (pf_52 (pf_51 F) 112) := by rw [fc_112, ce_int, ceE_int]; exact congrArg (fun f => Sum.inl (cA 0, 141, Sum.inl f)) (rfl : hI 112 = wz_147)
theorem fe_113 (B : Nat) (cA : Nat → ClassId) (F : CF) : ce B cA hI 113 (20, 2) = ceE B cA (pf_52 (pf_51 F) 113) := by rw [fc_113, ce_int, ceE_int]; exact congrArg (fun f => Sum.inl (cA 0, 2, Sum.inl f)) (rfl : hI 113 = z0)
theorem fe_114 (B : Nat) (cA : Nat → ClassId) (F : CF) : ce B cA hI 114 (20, 48) = ceE B cA (pf_52 (pf_51 F) 114) := by rw [fc_114, ce_int, ceE_int]; exact congrArg (fun f => Sum.inl (cA 0, 48, Sum.inl f)) (rfl : hI 114 = z0)
theorem fe_115 (B : Nat) (cA : Nat → ClassId) (F : CF) : ce B cA hI 115 (20, 48) = ceE B cA (pf_52 (pf_51 F) 115) := by rw [fc_115, ce_int, ceE_int]; exact congrArg (fun f => Sum.inl (cA 0, 48, Sum.inl f)) (rfl : hI 115 = z0)
theorem fe_116 (B : Nat) (cA : Nat → ClassId) (F : CF) : ce B cA hI 116 (20, 48) = ceE B cA (pf_52 (pf_51 F) 116) := by rw [fc_116, ce_int, ceE_int]; exact congrArg (fun f => Sum.inl (cA 0, 48, Sum.inl f)) (rfl : hI 116 = z0)
theorem fe_117 (B : Nat) (cA : Nat → ClassId) (F : CF) : ce B cA hI 117 (20, 48) = ceE B cA (pf_52 (pf_51 F) 117) := by rw [fc_117, ce_int, ceE_int]; exact congrArg (fun f => Sum.inl (cA 0, 48, Sum.inl f)) (rfl : hI 117 = z0)
theorem fe_118 (B : Nat) (cA : Nat → ClassId) (F : CF) : ce B cA hI 118 (20, 1200) = ceE B cA (pf_52 (pf_51 F) 118) := by rw [fc_118, ce_int, ceE_int]; exact congrArg (fun f => Sum.inl (cA 0, 1200, Sum.inl f)) (rfl : hI 118 = z0)
theorem fe_119 (B : Nat) (cA : Nat → ClassId) (F : CF) : ce B cA hI 119 (20, 1200) = ceE B cA (pf_52 (pf_51 F) 119) := by rw [fc_119, ce_int, ceE_int]; exact congrArg (fun f => Sum.inl (cA 0, 1200, Sum.inl f)) (rfl : hI 119 = z0)
theorem fe_120 (B : Nat) (cA : Nat → ClassId) (F : CF) : ce B cA hI 120 (20, 40) = ceE B cA (pf_52 (pf_51 F) 120) := by rw [fc_120, ce_int, ceE_int]; exact congrArg (fun f => Sum.inl (cA 0, 40, Sum.inl f)) (rfl : hI 120 = z0)
theorem fe_121 (B : Nat) (cA : Nat → ClassId) (F : CF) : ce B cA hI 121 (20, 96) = ceE B cA (pf_52 (pf_51 F) 121) := by rw [fc_121, ce_int, ceE_int]; exact congrArg (fun f => Sum.inl (cA 0, 96, Sum.inl f)) (rfl : hI 121 = z0)
theorem fe_122 (B : Nat) (cA : Nat → ClassId) (F : CF) : ce B cA hI 122 (20, 160) = ceE B cA (pf_52 (pf_51 F) 122) := by rw [fc_122, ce_int, ceE_int]; exact congrArg (fun f => Sum.inl (cA 0, 160, Sum.inl f)) (rfl : hI 122 = z0)
theorem fe_123 (B : Nat) (cA : Nat → ClassId) (F : CF) : ce B cA hI 123 (20, 24) = ceE B cA (pf_52 (pf_51 F) 123) := by rw [fc_123, ce_int, ceE_int]; exact congrArg (fun f => Sum.inl (cA 0, 24, Sum.inl f)) (rfl : hI 123 = z0)
theorem fe_124 (B : Nat) (cA : Nat → ClassId) (F : CF) : ce B cA hI 124 (20, 12) = ceE B cA (pf_52 (pf_51 F) 124) := by rw [fc_124, ce_int, ceE_int]; exact congrArg (fun f => Sum.inl (cA 0, 12, Sum.inl f)) (rfl : hI 124 = z0)
theorem fe_125 (B : Nat) (cA : Nat → ClassId) (F : CF) : ce B cA hI 125 (20, 420) = ceE B cA (pf_52 (pf_51 F) 125) := by rw [fc_125, ce_int, ceE_int]; exact congrArg (fun f => Sum.inl (cA 0, 420, Sum.inl f)) (rfl : hI 125 = z0)
theorem fe_126 (B : Nat) (cA : Nat → ClassId) (F : CF) : ce B cA hI 126 (20, 12) = ceE B cA (pf_52 (pf_51 F) 126) := by rw [fc_126, ce_int, ceE_int]; exact congrArg (fun f => Sum.inl (cA 0, 12, Sum.inl f)) (rfl : hI 126 = z0)
theorem fe_127 (B : Nat) (cA : Nat → ClassId) (F : CF) : ce B cA hI 127 (20, 9) = ceE B cA (pf_52 (pf_51 F) 127) := by rw [fc_127, ce_int, ceE_int]; exact congrArg (fun f => Sum.inl (cA 0, 9, Sum.inl f)) (rfl : hI 127 = z0)
theorem fe_128 (B : Nat) (cA : Nat → ClassId) (F : CF) : ce B cA hI 128 (20, 100) = ceE B cA (pf_52 (pf_51 F) 128) := by rw [fc_128, ce_int, ceE_int]; exact congrArg (fun f => Sum.inl (cA 0, 100, Sum.inl f)) (rfl : hI 128 = z0)
theorem fe_129 (B : Nat) (cA : Nat → ClassId) (F : CF) : ce B cA hI 129 (20, 8) = ceE B cA (pf_52 (pf_51 F) 129) := by rw [fc_129, ce_int, ceE_int]; exact congrArg (fun f => Sum.inl (cA 0, 8, Sum.inl f)) (rfl : hI 129 = z0)
theorem fe_130 (B : Nat) (cA : Nat → ClassId) (F : CF) : ce B cA hI 130 (20, 256) = ceE B cA (pf_52 (pf_51 F) 130) := by rw [fc_130, ce_int, ceE_int]; exact congrArg (fun f => Sum.inl (cA 0, 256, Sum.inl f)) (rfl : hI 130 = z0)
theorem fe_131 (B : Nat) (cA : Nat → ClassId) (F : CF) : ce B cA hI 131 (20, 8) = ceE B cA (pf_52 (pf_51 F) 131) := by rw [fc_131, ce_int, ceE_int]; exact congrArg (fun f => Sum.inl (cA 0, 8, Sum.inl f)) (rfl : hI 131 = z0)
theorem fe_132 (B : Nat) (cA : Nat → ClassId) (F : CF) : ce B cA hI 132 (20, 5) = ceE B cA (pf_52 (pf_51 F) 132) := by rw [fc_132, ce_int, ceE_int]; exact congrArg (fun f => Sum.inl (cA 0, 5, Sum.inl f)) (rfl : hI 132 = z0)
theorem fe_133 (B : Nat) (cA : Nat → ClassId) (F : CF) : ce B cA hI 133 (20, 8) = ceE B cA (pf_52 (pf_51 F) 133) := by rw [fc_133, ce_int, ceE_int]; exact congrArg (fun f => Sum.inl (cA 0, 8, Sum.inl f)) (rfl : hI 133 = z0)
theorem fe_134 (B : Nat) (cA : Nat → ClassId) (F : CF) : ce B cA hI 134 (20, 8) = ceE B cA (pf_52 (pf_51 F) 134) := by rw [fc_134, ce_int, ceE_int]; exact congrArg (fun f => Sum.inl (cA 0, 8, Sum.inl f)) (rfl : hI 134 = z0)
theorem fe_135 (B : Nat) (cA : Nat → ClassId) (F : CF) : ce B cA hI 135 (20, 16) = ceE B cA (pf_52 (pf_51 F) 135) := by rw [fc_135, ce_int, ceE_int]; exact congrArg (fun f => Sum.inl (cA 0, 16, Sum.inl f)) (rfl : hI 135 = z0)
theorem fe_136 (B : Nat) (cA : Nat → ClassId) (F : CF) : ce B cA hI 136 (20, 1681) = ceE B cA (pf_52 (pf_51 F) 136) := by rw [fc_136, ce_int, ceE_int]; exact congrArg (fun f => Sum.inl (cA 0, 1681, Sum.inl f)) (rfl : hI 136 = z0)
theorem fe_137 (B : Nat) (cA : Nat → ClassId) (F : CF) : ce B cA hI 137 (20, 6) = ceE B cA (pf_52 (pf_51 F) 137) := by rw [fc_137, ce_int, ceE_int]; exact congrArg (fun f => Sum.inl (cA 0, 6, Sum.inl f)) (rfl : hI 137 = z0)
theorem fe_138 (B : Nat) (cA : Nat → ClassId) (F : CF) : ce B cA hI 138 (20, 6) = ceE B cA (pf_52 (pf_51 F) 138) := by rw [fc_138, ce_int, ceE_int]; exact congrArg (fun f => Sum.inl (cA 0, 6, Sum.inl f)) (rfl : hI 138 = z0)
theorem fe_139 (B : Nat) (cA : Nat → ClassId) (F : CF) : ce B cA hI 139 (20, 6) = ceE B cA (pf_52 (pf_51 F) 139) := by rw [fc_139, ce_int, ceE_int]; exact congrArg (fun f => Sum.inl (cA 0, 6, Sum.inl f)) (rfl : hI 139 = z0)
theorem fe_140 (B : Nat) (cA : Nat → ClassId) (F : CF) : ce B cA hI 140 (20, 6) = ceE B cA (pf_52 (pf_51 F) 140) := by rw [fc_140, ce_int, ceE_int]; exact congrArg (fun f => Sum.inl (cA 0, 6, Sum.inl f)) (rfl : hI 140 = z0)
theorem fe_141 (B : Nat) (cA : Nat → ClassId) (F : CF) : ce B cA hI 141 (20, 12) = ceE B cA (pf_52 (pf_51 F) 141) := by rw [fc_141, ce_int, ceE_int]; exact congrArg (fun f => Sum.inl (cA 0, 12, Sum.inl f)) (rfl : hI 141 = z0)
theorem fe_142 (B : Nat) (cA : Nat → ClassId) (F : CF) : ce B cA hI 142 (20, 21) = ceE B cA (pf_52 (pf_51 F) 142) := by rw [fc_142, ce_int, ceE_int]; exact congrArg (fun f => Sum.inl (cA 0, 21, Sum.inl f)) (rfl : hI 142 = z0)
theorem fe_143 (B : Nat) (cA : Nat → ClassId) (F : CF) : ce B cA hI 143 (20, 21) = ceE B cA (pf_52 (pf_51 F) 143) := by rw [fc_143, ce_int, ceE_int]; exact congrArg (fun f => Sum.inl (cA 0, 21, Sum.inl f)) (rfl : hI 143 = z0)
theorem fe_144 (B : Nat) (cA : Nat → ClassId) (F : CF) : ce B cA hI 144 (20, 8) = ceE B cA (pf_52 (pf_51 F) 144) := by rw [fc_144, ce_int, ceE_int]; exact congrArg (fun f => Sum.inl (cA 0, 8, Sum.inl f)) (rfl : hI 144 = z0)
theorem fe_145 (B : Nat) (cA : Nat → ClassId) (F : CF) : ce B cA hI 145 (20, 8) = ceE B cA (pf_52 (pf_51 F) 145) := by rw [fc_145, ce_int, ceE_int]; exact congrArg (fun f => Sum.inl (cA 0, 8, Sum.inl f)) (rfl : hI 145 = z0)
theorem fe_146 (B : Nat) (cA : Nat → ClassId) (F : CF) : ce B cA hI 146 (20, 16807) = ceE B cA (pf_52 (pf_51 F) 146) := by rw [fc_146, ce_int, ceE_int]; exact congrArg (fun f => Sum.inl (cA 0, 16807, Sum.inl f)) (rfl : hI 146 = z0)
theorem fe_147 (B : Nat) (cA : Nat → ClassId) (F : CF) : ce B cA hI 147 (20, 5) = ceE B cA (pf_52 (pf_51 F) 147) := by rw [fc_147, ce_int, ceE_int]; exact congrArg (fun f => Sum.inl (cA 0, 5, Sum.inl f)) (rfl : hI 147 = z0)
theorem fe_148 (B : Nat) (cA : Nat → ClassId) (F : CF) : ce B cA hI 148 (20, 2400) = ceE B cA (pf_52 (pf_51 F) 148) := by rw [fc_148, ce_int, ceE_int]; exact congrArg (fun f => Sum.inl (cA 0, 2400, Sum.inl f)) (rfl : hI 148 = z0)
theorem fe_all (B : Nat) (cA : Nat → ClassId) (F : CF) : ∀ (a : Nat) (t : Nat × Nat), shL[a]? = some t → ce B cA hI a t = ceE B cA (pf_52 (pf_51 F) a) := by
  intro a t h
  match a, h with
  | 0, h => cases h; exact fe_0 B cA F
  | 1, h => cases h; exact fe_1 B cA F
  | 2, h => cases h; exact fe_2 B cA F
  | 3, h => cases h; exact fe_3 B cA F
  | 4, h => cases h; exact fe_4 B cA F
  | 5, h => cases h; exact fe_5 B cA F
  | 6, h => cases h; exact fe_6 B cA F
  | 7, h => cases h; exact fe_7 B cA F
  | 8, h => cases h; exact fe_8 B cA F
  | 9, h => cases h; exact fe_9 B cA F
  | 10, h => cases h; exact fe_10 B cA F
  | 11, h => cases h; exact fe_11 B cA F
  | 12, h => cases h; exact fe_12 B cA F
  | 13, h => cases h; exact fe_13 B cA F
  | 14, h => cases h; exact fe_14 B cA F
  | 15, h => cases h; exact fe_15 B cA F
  | 16, h => cases h; exact fe_16 B cA F
  | 17, h => cases h; exact fe_17 B cA F
  | 18, h => cases h; exact fe_18 B cA F
  | 19, h => cases h; exact fe_19 B cA F
  | 20, h => cases h; exact fe_20 B cA F
  | 21, h => cases h; exact fe_21 B cA F
  | 22, h => cases h; exact fe_22 B cA F
  | 23, h => cases h; exact fe_23 B cA F
  | 24, h => cases h; exact fe_24 B cA F
  | 25, h => cases h; exact fe_25 B cA F
  | 26, h => cases h; exact fe_26 B cA F
  | 27, h => cases h; exact fe_27 B cA F
  | 28, h => cases h; exact fe_28 B cA F
  | 29, h => cases h; exact fe_29 B cA F
  | 30, h => cases h; exact fe_30 B cA F
  | 31, h => cases h; exact fe_31 B cA F
  | 32, h => cases h; exact fe_32 B cA F
  | 33, h => cases h; exact fe_33 B cA F
  | 34, h => cases h; exact fe_34 B cA F
  | 35, h => cases h; exact fe_35 B cA F
  | 36, h => cases h; exact fe_36 B cA F
  | 37, h => cases h; exact fe_37 B cA F
  | 38, h => cases h; exact fe_38 B cA F
  | 39, h => cases h; exact fe_39 B cA F
  | 40, h => cases h; exact fe_40 B cA F
  | 41, h => cases h; exact fe_41 B cA F
  | 42, h => cases h; exact fe_42 B cA F
  | 43, h => cases h; exact fe_43 B cA F
  | 44, h => cases h; exact fe_44 B cA F
  | 45, h => cases h; exact fe_45 B cA F
  | 46, h => cases h; exact fe_46 B cA F
  | 47, h => cases h; exact fe_47 B cA F
  | 48, h => cases h; exact fe_48 B cA F
  | 49, h => cases h; exact fe_49 B cA F
  | 50, h => cases h; exact fe_50 B cA F
  | 51, h => cases h; exact fe_51 B cA F
  | 52, h => cases h; exact fe_52 B cA F
  | 53, h => cases h; exact fe_53 B cA F
  | 54, h => cases h; exact fe_54 B cA F
  | 55, h => cases h; exact fe_55 B cA F
  | 56, h => cases h; exact fe_56 B cA F
  | 57, h => cases h; exact fe_57 B cA F
  | 58, h => cases h; exact fe_58 B cA F
  | 59, h => cases h; exact fe_59 B cA F
  | 60, h => cases h; exact fe_60 B cA F
  | 61, h => cases h; exact fe_61 B cA F
  | 62, h => cases h; exact fe_62 B cA F
  | 63, h => cases h; exact fe_63 B cA F
  | 64, h => cases h; exact fe_64 B cA F
  | 65, h => cases h; exact fe_65 B cA F
  | 66, h => cases h; exact fe_66 B cA F
  | 67, h => cases h; exact fe_67 B cA F
  | 68, h => cases h; exact fe_68 B cA F
  | 69, h => cases h; exact fe_69 B cA F
  | 70, h => cases h; exact fe_70 B cA F
  | 71, h => cases h; exact fe_71 B cA F
  | 72, h => cases h; exact fe_72 B cA F
  | 73, h => cases h; exact fe_73 B cA F
  | 74, h => cases h; exact fe_74 B cA F
  | 75, h => cases h; exact fe_75 B cA F
  | 76, h => cases h; exact fe_76 B cA F
  | 77, h => cases h; exact fe_77 B cA F
  | 78, h => cases h; exact fe_78 B cA F
  | 79, h => cases h; exact fe_79 B cA F
  | 80, h => cases h; exact fe_80 B cA F
  | 81, h => cases h; exact fe_81 B cA F
  | 82, h => cases h; exact fe_82 B cA F
  | 83, h => cases h; exact fe_83 B cA F
  | 84, h => cases h; exact fe_84 B cA F
  | 85, h => cases h; exact fe_85 B cA F
  | 86, h => cases h; exact fe_86 B cA F
  | 87, h => cases h; exact fe_87 B cA F
  | 88, h => cases h; exact fe_88 B cA F
  | 89, h => cases h; exact fe_89 B cA F
  | 90, h => cases h; exact fe_90 B cA F
  | 91, h => cases h; exact fe_91 B cA F
  | 92, h => cases h; exact fe_92 B cA F
  | 93, h => cases h; exact fe_93 B cA F
  | 94, h => cases h; exact fe_94 B cA F
  | 95, h => cases h; exact fe_95 B cA F
  | 96, h => cases h; exact fe_96 B cA F
  | 97, h => cases h; exact fe_97 B cA F
  | 98, h => cases h; exact fe_98 B cA F
  | 99, h => cases h; exact fe_99 B cA F
  | 100, h => cases h; exact fe_100 B cA F
  | 101, h => cases h; exact fe_101 B cA F
  | 102, h => cases h; exact fe_102 B cA F
  | 103, h => cases h; exact fe_103 B cA F
  | 104, h => cases h; exact fe_104 B cA F
  | 105, h => cases h; exact fe_105 B cA F
  | 106, h => cases h; exact fe_106 B cA F
  | 107, h => cases h; exact fe_107 B cA F
  | 108, h => cases h; exact fe_108 B cA F
  | 109, h => cases h; exact fe_109 B cA F
  | 110, h => cases h; exact fe_110 B cA F
  | 111, h => cases h; exact fe_111 B cA F
  | 112, h => cases h; exact fe_112 B cA F
  | 113, h => cases h; exact fe_113 B cA F
  | 114, h => cases h; exact fe_114 B cA F
  | 115, h => cases h; exact fe_115 B cA F
  | 116, h => cases h; exact fe_116 B cA F
  | 117, h => cases h; exact fe_117 B cA F
  | 118, h => cases h; exact fe_118 B cA F
  | 119, h => cases h; exact fe_119 B cA F
  | 120, h => cases h; exact fe_120 B cA F
  | 121, h => cases h; exact fe_121 B cA F
  | 122, h => cases h; exact fe_122 B cA F
  | 123, h => cases h; exact fe_123 B cA F
  | 124, h => cases h; exact fe_124 B cA F
  | 125, h => cases h; exact fe_125 B cA F
  | 126, h => cases h; exact fe_126 B cA F
  | 127, h => cases h; exact fe_127 B cA F
  | 128, h => cases h; exact fe_128 B cA F
  | 129, h => cases h; exact fe_129 B cA F
  | 130, h => cases h; exact fe_130 B cA F
  | 131, h => cases h; exact fe_131 B cA F
  | 132, h => cases h; exact fe_132 B cA F
  | 133, h => cases h; exact fe_133 B cA F
  | 134, h => cases h; exact fe_134 B cA F
  | 135, h => cases h; exact fe_135 B cA F
  | 136, h => cases h; exact fe_136 B cA F
  | 137, h => cases h; exact fe_137 B cA F
  | 138, h => cases h; exact fe_138 B cA F
  | 139, h => cases h; exact fe_139 B cA F
  | 140, h => cases h; exact fe_140 B cA F
  | 141, h => cases h; exact fe_141 B cA F
  | 142, h => cases h; exact fe_142 B cA F
  | 143, h => cases h; exact fe_143 B cA F
  | 144, h => cases h; exact fe_144 B cA F
  | 145, h => cases h; exact fe_145 B cA F
  | 146, h => cases h; exact fe_146 B cA F
  | 147, h => cases h; exact fe_147 B cA F
  | 148, h => cases h; exact fe_148 B cA F
  | a + 149, h => simp [shL] at h
theorem HR_first {G : GG} {F : CF} {H : Heap} (h : HC G 149 (pf_52 (pf_51 F)) H) : HR G hI H := by
  have e : wd (gB G) (gA G) hI = wn (gB G) (gA G) 149 (pf_52 (pf_51 F)) := by
    apply List.ext_getElem?
    intro i
    by_cases hi : i < 149
    · have hs : ∃ t, shL[i]? = some t := ⟨shL[i]'(show i < shL.length from hi), List.getElem?_eq_getElem _⟩
      obtain ⟨t, ht⟩ := hs
      rw [wd_at ht, wn_at hi, fe_all _ _ F i t ht]
    · have hl : (wd (gB G) (gA G) hI).length = 149 := by unfold wd; rw [List.length_mapIdx]; rfl
      rw [List.getElem?_eq_none (by rw [hl]; omega), List.getElem?_eq_none (by simp [wn]; omega)]
  unfold HR
  rw [e]
  exact h.2
