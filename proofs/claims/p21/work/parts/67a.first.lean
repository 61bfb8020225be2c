/-! THE FIRST PURE HEAP, and the law from its entry. Printed by wip/gen/p67.py -/
theorem ceE_int {B : Nat} {cA : Nat → ClassId} {n : Nat} {f : Nat → Int32} {g : Nat → Option Nat} : ceE B cA (20, n, [], f, g) = .inl (cA 0, n, .inl f) := rfl
theorem ceE_byte {B : Nat} {cA : Nat → ClassId} {n : Nat} {f : Nat → Int32} {g : Nat → Option Nat} : ceE B cA (21, n, [], f, g) = .inl (cA 1, n, .inl f) := rfl
def lz (l : List Int32) : Nat → Int32 := fun j => l.getD j 0
def hiT : List (Nat → Int32) := [lz [0, 0, 0, 0, 0, 0, 0, 0, 0, 0, 0, 0, 0, 0], lz [0, 0, 0, 0, 0, 0, 0, 0], z0, lz [0, 0, 0, 0, 0, 0, 0, 0], z0, lz [0, 0, 0, 0, 0, 0, 0, 0, 0, 0, 0, 0, 0, 0], lz [16, 5, 0, 0], z0, lz [400, 2, 0, 0], z0, lz [16, 5, 0, 0], z0, lz [16, 5, 0, 0], z0, lz [16, 5, 0, 0], z0, lz [150, 4, 0, 0], z0, lz [9, 1, 0, 0], z0, lz [8, 1, 0, 0], z0, lz [5, 1, 0, 0], z0, lz [8, 2, 0, 0], z0, lz [16, 1, 0, 0], z0, lz [6, 2, 0, 0], z0, lz [12, 2, 0, 0], z0, lz [8, 2, 0, 0], z0, lz [0, 0, 0, 0, 0], z0, z0, lz [0, 0, 0, 0, 0, 0, 0, 0], z0, lz [0, 0, 0, 0, 0, 0, 0, 0, 0, 0, 0, 0, 0, 0], lz [16, 5, 0, 0], z0, lz [400, 2, 0, 0], z0, lz [16, 5, 0, 0], z0, lz [16, 5, 0, 0], z0, lz [16, 5, 0, 0], z0, lz [150, 4, 0, 0], z0, lz [9, 1, 0, 0], z0, lz [8, 1, 0, 0], z0, lz [5, 1, 0, 0], z0, lz [8, 2, 0, 0], z0, lz [16, 1, 0, 0], z0, lz [6, 2, 0, 0], z0, lz [12, 2, 0, 0], z0, lz [8, 2, 0, 0], z0, lz [0, 0, 0, 1], lz [0, 0, 0, 0], lz [0, 0, 0, 0], z0, z0, lz [0, 0, 0, 0, 0, 0, 0, 0], z0, lz [0, 0, 0, 0, 0, 0, 0, 0], z0, lz [0, 0, 0, 0, 0, 0, 0, 0], z0, lz [0, 0, 0, 0, 0, 0, 0, 0], z0, lz [0, 0, 0, 0, 0, 0, 0, 0], z0, lz [0, 0, 0, 0, 0, 0, 0, 0], z0, lz [0, 0, 0, 0, 0, 0], z0, z0, z0, z0, lz [0, 0, 0, (-1), 0, 0, 0, 0, 0, 0], lz [16, 5, 0, 0], z0, lz [400, 2, 0, 0], z0, lz [0, 0], z0, z0, lz [0, 0, 0], z0, z0, z0, lz [0, 0], z0, lz [0, 0, 0, 0, 0, 0, 0, 0, 0, 0, 0, 0, 0, 0, 0, 0, 0, 0, 0, 0, 0, 0, 0, 0, 0, 0, 0, 0, 0, 0, 0, 0, (-1), 0, 0, 0, 0, 0, 0, 0, 0, 0, 0, 0, 0, 0, 0, 0, 0, 0, 0, 0, 0, 0, 0, 0, 0, 0, 0, 0, 0, 0, 0, 0, 0, 0, 0, 0, 0, 0, 0, 0, 0, 0, 0], z0, z0, z0, z0, z0, z0, z0, wz_147, z0, z0, z0, z0, z0, z0, z0, z0, z0, z0, z0, z0, z0, z0, z0, z0, z0, z0, z0, z0, z0, z0, z0, z0, z0, z0, z0, z0, z0, z0, z0, z0, z0, z0, z0, z0]
def hI : PH := fun a => hiT.getD a z0
set_option maxRecDepth 200000 in
theorem fc_0 (F : CF) : pf_52 (pf_51 F) 0 = (0, 14, [.ref 1, .ref 37, .ref 3, .ref 5, .ref 39, .ref 68, .ref 69, .ref 70, .ref 85, .ref 90, .ref 95, .ref 98, .ref 102, .int 0], z0, zn) := rfl
set_option maxRecDepth 200000 in
theorem fc_1 (F : CF) : pf_52 (pf_51 F) 1 = (1, 8, [.ref 2, .int 0, .int 0, .int 0, .int 0, .int 0, .int 0, .int 0], z0, zn) := rfl
set_option maxRecDepth 200000 in
theorem fc_2 (F : CF) : pf_52 (pf_51 F) 2 = (20, 132, [], z0, zn) := rfl
set_option maxRecDepth 200000 in
theorem fc_3 (F : CF) : pf_52 (pf_51 F) 3 = (1, 8, [.ref 4, .int 0, .int 0, .int 0, .int 0, .int 0, .int 0, .int 0], z0, zn) := rfl
set_option maxRecDepth 200000 in
theorem fc_4 (F : CF) : pf_52 (pf_51 F) 4 = (20, 132, [], z0, zn) := rfl
set_option maxRecDepth 200000 in
theorem fc_5 (F : CF) : pf_52 (pf_51 F) 5 = (11, 14, [.ref 6, .ref 8, .ref 10, .ref 12, .ref 14, .ref 16, .ref 18, .ref 20, .ref 22, .ref 24, .ref 26, .ref 28, .ref 30, .ref 32], z0, zn) := rfl
set_option maxRecDepth 200000 in
theorem fc_6 (F : CF) : pf_52 (pf_51 F) 6 = (6, 4, [.int 16, .int 5, .ref 7, .int 0], z0, zn) := rfl
set_option maxRecDepth 200000 in
theorem fc_7 (F : CF) : pf_52 (pf_51 F) 7 = (20, 80, [], z0, zn) := rfl
set_option maxRecDepth 200000 in
theorem fc_8 (F : CF) : pf_52 (pf_51 F) 8 = (6, 4, [.int 400, .int 2, .ref 9, .int 0], z0, zn) := rfl
set_option maxRecDepth 200000 in
theorem fc_9 (F : CF) : pf_52 (pf_51 F) 9 = (20, 800, [], z0, zn) := rfl
set_option maxRecDepth 200000 in
theorem fc_10 (F : CF) : pf_52 (pf_51 F) 10 = (6, 4, [.int 16, .int 5, .ref 11, .int 0], z0, zn) := rfl
set_option maxRecDepth 200000 in
theorem fc_11 (F : CF) : pf_52 (pf_51 F) 11 = (20, 80, [], z0, zn) := rfl
set_option maxRecDepth 200000 in
theorem fc_12 (F : CF) : pf_52 (pf_51 F) 12 = (6, 4, [.int 16, .int 5, .ref 13, .int 0], z0, zn) := rfl
set_option maxRecDepth 200000 in
theorem fc_13 (F : CF) : pf_52 (pf_51 F) 13 = (20, 80, [], z0, zn) := rfl
set_option maxRecDepth 200000 in
theorem fc_14 (F : CF) : pf_52 (pf_51 F) 14 = (6, 4, [.int 16, .int 5, .ref 15, .int 0], z0, zn) := rfl
set_option maxRecDepth 200000 in
theorem fc_15 (F : CF) : pf_52 (pf_51 F) 15 = (20, 80, [], z0, zn) := rfl
set_option maxRecDepth 200000 in
theorem fc_16 (F : CF) : pf_52 (pf_51 F) 16 = (6, 4, [.int 150, .int 4, .ref 17, .int 0], z0, zn) := rfl
set_option maxRecDepth 200000 in
theorem fc_17 (F : CF) : pf_52 (pf_51 F) 17 = (20, 600, [], z0, zn) := rfl
set_option maxRecDepth 200000 in
theorem fc_18 (F : CF) : pf_52 (pf_51 F) 18 = (6, 4, [.int 9, .int 1, .ref 19, .int 0], z0, zn) := rfl
set_option maxRecDepth 200000 in
theorem fc_19 (F : CF) : pf_52 (pf_51 F) 19 = (20, 9, [], z0, zn) := rfl
set_option maxRecDepth 200000 in
theorem fc_20 (F : CF) : pf_52 (pf_51 F) 20 = (6, 4, [.int 8, .int 1, .ref 21, .int 0], z0, zn) := rfl
set_option maxRecDepth 200000 in
theorem fc_21 (F : CF) : pf_52 (pf_51 F) 21 = (20, 8, [], z0, zn) := rfl
set_option maxRecDepth 200000 in
theorem fc_22 (F : CF) : pf_52 (pf_51 F) 22 = (6, 4, [.int 5, .int 1, .ref 23, .int 0], z0, zn) := rfl
set_option maxRecDepth 200000 in
theorem fc_23 (F : CF) : pf_52 (pf_51 F) 23 = (20, 5, [], z0, zn) := rfl
set_option maxRecDepth 200000 in
theorem fc_24 (F : CF) : pf_52 (pf_51 F) 24 = (6, 4, [.int 8, .int 2, .ref 25, .int 0], z0, zn) := rfl
set_option maxRecDepth 200000 in
theorem fc_25 (F : CF) : pf_52 (pf_51 F) 25 = (20, 16, [], z0, zn) := rfl
set_option maxRecDepth 200000 in
theorem fc_26 (F : CF) : pf_52 (pf_51 F) 26 = (6, 4, [.int 16, .int 1, .ref 27, .int 0], z0, zn) := rfl
set_option maxRecDepth 200000 in
theorem fc_27 (F : CF) : pf_52 (pf_51 F) 27 = (20, 16, [], z0, zn) := rfl
set_option maxRecDepth 200000 in
theorem fc_28 (F : CF) : pf_52 (pf_51 F) 28 = (6, 4, [.int 6, .int 2, .ref 29, .int 0], z0, zn) := rfl
set_option maxRecDepth 200000 in
theorem fc_29 (F : CF) : pf_52 (pf_51 F) 29 = (20, 12, [], z0, zn) := rfl
set_option maxRecDepth 200000 in
theorem fc_30 (F : CF) : pf_52 (pf_51 F) 30 = (6, 4, [.int 12, .int 2, .ref 31, .int 0], z0, zn) := rfl
set_option maxRecDepth 200000 in
theorem fc_31 (F : CF) : pf_52 (pf_51 F) 31 = (20, 24, [], z0, zn) := rfl
set_option maxRecDepth 200000 in
theorem fc_32 (F : CF) : pf_52 (pf_51 F) 32 = (6, 4, [.int 8, .int 2, .ref 33, .int 0], z0, zn) := rfl
set_option maxRecDepth 200000 in
theorem fc_33 (F : CF) : pf_52 (pf_51 F) 33 = (20, 16, [], z0, zn) := rfl
set_option maxRecDepth 200000 in
theorem fc_34 (F : CF) : pf_52 (pf_51 F) 34 = (3, 5, [.ref 6, .ref 8, .ref 35, .ref 36, .int 0], z0, zn) := rfl
set_option maxRecDepth 200000 in
theorem fc_35 (F : CF) : pf_52 (pf_51 F) 35 = (20, 12, [], z0, zn) := rfl
set_option maxRecDepth 200000 in
theorem fc_36 (F : CF) : pf_52 (pf_51 F) 36 = (20, 64, [], z0, zn) := rfl
set_option maxRecDepth 200000 in
theorem fc_37 (F : CF) : pf_52 (pf_51 F) 37 = (1, 8, [.ref 38, .int 0, .int 0, .int 0, .int 0, .int 0, .int 0, .int 0], z0, zn) := rfl
set_option maxRecDepth 200000 in
theorem fc_38 (F : CF) : pf_52 (pf_51 F) 38 = (20, 132, [], z0, zn) := rfl
set_option maxRecDepth 200000 in
theorem fc_39 (F : CF) : pf_52 (pf_51 F) 39 = (11, 14, [.ref 40, .ref 42, .ref 44, .ref 46, .ref 48, .ref 50, .ref 52, .ref 54, .ref 56, .ref 58, .ref 60, .ref 62, .ref 64, .ref 66], z0, zn) := rfl
set_option maxRecDepth 200000 in
theorem fc_40 (F : CF) : pf_52 (pf_51 F) 40 = (6, 4, [.int 16, .int 5, .ref 41, .int 0], z0, zn) := rfl
set_option maxRecDepth 200000 in
theorem fc_41 (F : CF) : pf_52 (pf_51 F) 41 = (20, 80, [], z0, zn) := rfl
set_option maxRecDepth 200000 in
theorem fc_42 (F : CF) : pf_52 (pf_51 F) 42 = (6, 4, [.int 400, .int 2, .ref 43, .int 0], z0, zn) := rfl
set_option maxRecDepth 200000 in
theorem fc_43 (F : CF) : pf_52 (pf_51 F) 43 = (20, 800, [], z0, zn) := rfl
set_option maxRecDepth 200000 in
theorem fc_44 (F : CF) : pf_52 (pf_51 F) 44 = (6, 4, [.int 16, .int 5, .ref 45, .int 0], z0, zn) := rfl
set_option maxRecDepth 200000 in
theorem fc_45 (F : CF) : pf_52 (pf_51 F) 45 = (20, 80, [], z0, zn) := rfl
set_option maxRecDepth 200000 in
theorem fc_46 (F : CF) : pf_52 (pf_51 F) 46 = (6, 4, [.int 16, .int 5, .ref 47, .int 0], z0, zn) := rfl
set_option maxRecDepth 200000 in
theorem fc_47 (F : CF) : pf_52 (pf_51 F) 47 = (20, 80, [], z0, zn) := rfl
set_option maxRecDepth 200000 in
theorem fc_48 (F : CF) : pf_52 (pf_51 F) 48 = (6, 4, [.int 16, .int 5, .ref 49, .int 0], z0, zn) := rfl
set_option maxRecDepth 200000 in
theorem fc_49 (F : CF) : pf_52 (pf_51 F) 49 = (20, 80, [], z0, zn) := rfl
set_option maxRecDepth 200000 in
theorem fc_50 (F : CF) : pf_52 (pf_51 F) 50 = (6, 4, [.int 150, .int 4, .ref 51, .int 0], z0, zn) := rfl
set_option maxRecDepth 200000 in
theorem fc_51 (F : CF) : pf_52 (pf_51 F) 51 = (20, 600, [], z0, zn) := rfl
set_option maxRecDepth 200000 in
theorem fc_52 (F : CF) : pf_52 (pf_51 F) 52 = (6, 4, [.int 9, .int 1, .ref 53, .int 0], z0, zn) := rfl
set_option maxRecDepth 200000 in
theorem fc_53 (F : CF) : pf_52 (pf_51 F) 53 = (20, 9, [], z0, zn) := rfl
set_option maxRecDepth 200000 in
theorem fc_54 (F : CF) : pf_52 (pf_51 F) 54 = (6, 4, [.int 8, .int 1, .ref 55, .int 0], z0, zn) := rfl
set_option maxRecDepth 200000 in
theorem fc_55 (F : CF) : pf_52 (pf_51 F) 55 = (20, 8, [], z0, zn) := rfl
set_option maxRecDepth 200000 in
theorem fc_56 (F : CF) : pf_52 (pf_51 F) 56 = (6, 4, [.int 5, .int 1, .ref 57, .int 0], z0, zn) := rfl
set_option maxRecDepth 200000 in
theorem fc_57 (F : CF) : pf_52 (pf_51 F) 57 = (20, 5, [], z0, zn) := rfl
set_option maxRecDepth 200000 in
theorem fc_58 (F : CF) : pf_52 (pf_51 F) 58 = (6, 4, [.int 8, .int 2, .ref 59, .int 0], z0, zn) := rfl
set_option maxRecDepth 200000 in
theorem fc_59 (F : CF) : pf_52 (pf_51 F) 59 = (20, 16, [], z0, zn) := rfl
set_option maxRecDepth 200000 in
theorem fc_60 (F : CF) : pf_52 (pf_51 F) 60 = (6, 4, [.int 16, .int 1, .ref 61, .int 0], z0, zn) := rfl
set_option maxRecDepth 200000 in
theorem fc_61 (F : CF) : pf_52 (pf_51 F) 61 = (20, 16, [], z0, zn) := rfl
set_option maxRecDepth 200000 in
theorem fc_62 (F : CF) : pf_52 (pf_51 F) 62 = (6, 4, [.int 6, .int 2, .ref 63, .int 0], z0, zn) := rfl
set_option maxRecDepth 200000 in
theorem fc_63 (F : CF) : pf_52 (pf_51 F) 63 = (20, 12, [], z0, zn) := rfl
set_option maxRecDepth 200000 in
theorem fc_64 (F : CF) : pf_52 (pf_51 F) 64 = (6, 4, [.int 12, .int 2, .ref 65, .int 0], z0, zn) := rfl
set_option maxRecDepth 200000 in
theorem fc_65 (F : CF) : pf_52 (pf_51 F) 65 = (20, 24, [], z0, zn) := rfl
set_option maxRecDepth 200000 in
theorem fc_66 (F : CF) : pf_52 (pf_51 F) 66 = (6, 4, [.int 8, .int 2, .ref 67, .int 0], z0, zn) := rfl
set_option maxRecDepth 200000 in
theorem fc_67 (F : CF) : pf_52 (pf_51 F) 67 = (20, 16, [], z0, zn) := rfl
set_option maxRecDepth 200000 in
theorem fc_68 (F : CF) : pf_52 (pf_51 F) 68 = (7, 4, [.ref 1, .ref 5, .ref 34, .int 1], z0, zn) := rfl
set_option maxRecDepth 200000 in
theorem fc_69 (F : CF) : pf_52 (pf_51 F) 69 = (7, 4, [.ref 3, .ref 5, .ref 34, .int 0], z0, zn) := rfl
set_option maxRecDepth 200000 in
theorem fc_70 (F : CF) : pf_52 (pf_51 F) 70 = (4, 4, [.ref 71, .ref 72, .int 0, .int 0], z0, zn) := rfl
set_option maxRecDepth 200000 in
theorem fc_71 (F : CF) : pf_52 (pf_51 F) 71 = (22, 6, [], z0, rz_6) := rfl
set_option maxRecDepth 200000 in
theorem fc_72 (F : CF) : pf_52 (pf_51 F) 72 = (20, 6, [], z0, zn) := rfl
set_option maxRecDepth 200000 in
theorem fc_73 (F : CF) : pf_52 (pf_51 F) 73 = (1, 8, [.ref 74, .int 0, .int 0, .int 0, .int 0, .int 0, .int 0, .int 0], z0, zn) := rfl
set_option maxRecDepth 200000 in
theorem fc_74 (F : CF) : pf_52 (pf_51 F) 74 = (20, 132, [], z0, zn) := rfl
set_option maxRecDepth 200000 in
theorem fc_75 (F : CF) : pf_52 (pf_51 F) 75 = (1, 8, [.ref 76, .int 0, .int 0, .int 0, .int 0, .int 0, .int 0, .int 0], z0, zn) := rfl
set_option maxRecDepth 200000 in
theorem fc_76 (F : CF) : pf_52 (pf_51 F) 76 = (20, 132, [], z0, zn) := rfl
set_option maxRecDepth 200000 in
theorem fc_77 (F : CF) : pf_52 (pf_51 F) 77 = (1, 8, [.ref 78, .int 0, .int 0, .int 0, .int 0, .int 0, .int 0, .int 0], z0, zn) := rfl
set_option maxRecDepth 200000 in
theorem fc_78 (F : CF) : pf_52 (pf_51 F) 78 = (20, 132, [], z0, zn) := rfl
set_option maxRecDepth 200000 in
theorem fc_79 (F : CF) : pf_52 (pf_51 F) 79 = (1, 8, [.ref 80, .int 0, .int 0, .int 0, .int 0, .int 0, .int 0, .int 0], z0, zn) := rfl
set_option maxRecDepth 200000 in
theorem fc_80 (F : CF) : pf_52 (pf_51 F) 80 = (20, 132, [], z0, zn) := rfl
set_option maxRecDepth 200000 in
theorem fc_81 (F : CF) : pf_52 (pf_51 F) 81 = (1, 8, [.ref 82, .int 0, .int 0, .int 0, .int 0, .int 0, .int 0, .int 0], z0, zn) := rfl
set_option maxRecDepth 200000 in
theorem fc_82 (F : CF) : pf_52 (pf_51 F) 82 = (20, 132, [], z0, zn) := rfl
set_option maxRecDepth 200000 in
theorem fc_83 (F : CF) : pf_52 (pf_51 F) 83 = (1, 8, [.ref 84, .int 0, .int 0, .int 0, .int 0, .int 0, .int 0, .int 0], z0, zn) := rfl
set_option maxRecDepth 200000 in
theorem fc_84 (F : CF) : pf_52 (pf_51 F) 84 = (20, 132, [], z0, zn) := rfl
set_option maxRecDepth 200000 in
theorem fc_85 (F : CF) : pf_52 (pf_51 F) 85 = (10, 6, [.ref 86, .ref 87, .ref 88, .ref 89, .int 0, .int 0], z0, zn) := rfl
set_option maxRecDepth 200000 in
theorem fc_86 (F : CF) : pf_52 (pf_51 F) 86 = (21, 400, [], z0, zn) := rfl
set_option maxRecDepth 200000 in
theorem fc_87 (F : CF) : pf_52 (pf_51 F) 87 = (20, 401, [], z0, zn) := rfl
set_option maxRecDepth 200000 in
theorem fc_88 (F : CF) : pf_52 (pf_51 F) 88 = (20, 401, [], z0, zn) := rfl
set_option maxRecDepth 200000 in
theorem fc_89 (F : CF) : pf_52 (pf_51 F) 89 = (20, 401, [], z0, zn) := rfl
set_option maxRecDepth 200000 in
theorem fc_90 (F : CF) : pf_52 (pf_51 F) 90 = (5, 10, [.ref 91, .ref 93, .int 0, .int (-1), .ref 85, .int 0, .int 0, .int 0, .int 0, .int 0], z0, zn) := rfl
set_option maxRecDepth 200000 in
theorem fc_91 (F : CF) : pf_52 (pf_51 F) 91 = (6, 4, [.int 16, .int 5, .ref 92, .int 0], z0, zn) := rfl
set_option maxRecDepth 200000 in
theorem fc_92 (F : CF) : pf_52 (pf_51 F) 92 = (20, 80, [], z0, zn) := rfl
set_option maxRecDepth 200000 in
theorem fc_93 (F : CF) : pf_52 (pf_51 F) 93 = (6, 4, [.int 400, .int 2, .ref 94, .int 0], z0, zn) := rfl
set_option maxRecDepth 200000 in
theorem fc_94 (F : CF) : pf_52 (pf_51 F) 94 = (20, 800, [], z0, zn) := rfl
set_option maxRecDepth 200000 in
theorem fc_95 (F : CF) : pf_52 (pf_51 F) 95 = (9, 2, [.ref 96, .ref 97], z0, zn) := rfl
set_option maxRecDepth 200000 in
theorem fc_96 (F : CF) : pf_52 (pf_51 F) 96 = (20, 12, [], z0, zn) := rfl
set_option maxRecDepth 200000 in
theorem fc_97 (F : CF) : pf_52 (pf_51 F) 97 = (20, 12, [], z0, zn) := rfl
set_option maxRecDepth 200000 in
theorem fc_98 (F : CF) : pf_52 (pf_51 F) 98 = (2, 3, [.ref 99, .ref 100, .ref 101], z0, zn) := rfl
set_option maxRecDepth 200000 in
theorem fc_99 (F : CF) : pf_52 (pf_51 F) 99 = (20, 8, [], z0, zn) := rfl
set_option maxRecDepth 200000 in
theorem fc_100 (F : CF) : pf_52 (pf_51 F) 100 = (20, 17, [], z0, zn) := rfl
set_option maxRecDepth 200000 in
theorem fc_101 (F : CF) : pf_52 (pf_51 F) 101 = (20, 17, [], z0, zn) := rfl
set_option maxRecDepth 200000 in
theorem fc_102 (F : CF) : pf_52 (pf_51 F) 102 = (8, 2, [.ref 103, .int 0], z0, zn) := rfl
set_option maxRecDepth 200000 in
theorem fc_103 (F : CF) : pf_52 (pf_51 F) 103 = (20, 1024, [], z0, zn) := rfl
set_option maxRecDepth 200000 in
theorem fc_104 (F : CF) : pf_52 (pf_51 F) 104 = (12, 75, [.int 0, .ref 105, .ref 106, .int 0, .ref 107, .int 0, .int 0, .ref 108, .ref 109, .ref 110, .ref 111, .int 0, .int 0, .int 0, .int 0, .int 0, .ref 112, .ref 113, .ref 114, .ref 115, .ref 116, .ref 117, .ref 118, .ref 119, .int 0, .int 0, .int 0, .ref 120, .int 0, .int 0, .int 0, .int 0, .int (-1), .int 0, .ref 121, .int 0, .ref 122, .int 0, .ref 123, .ref 124, .ref 125, .ref 126, .int 0, .ref 127, .ref 128, .int 0, .ref 129, .ref 130, .ref 131, .int 0, .ref 132, .int 0, .ref 133, .ref 134, .int 0, .ref 135, .ref 136, .int 0, .ref 137, .ref 138, .ref 139, .ref 140, .int 0, .ref 141, .ref 142, .ref 143, .int 0, .ref 144, .ref 145, .ref 146, .ref 147, .int 0, .int 0, .int 0, .ref 148], z0, zn) := rfl
set_option maxRecDepth 200000 in
theorem fc_105 (F : CF) : pf_52 (pf_51 F) 105 = (20, 115, [], z0, zn) := rfl
set_option maxRecDepth 200000 in
theorem fc_106 (F : CF) : pf_52 (pf_51 F) 106 = (20, 690, [], z0, zn) := rfl
set_option maxRecDepth 200000 in
theorem fc_107 (F : CF) : pf_52 (pf_51 F) 107 = (20, 115, [], z0, zn) := rfl
set_option maxRecDepth 200000 in
theorem fc_108 (F : CF) : pf_52 (pf_51 F) 108 = (20, 12, [], z0, zn) := rfl
set_option maxRecDepth 200000 in
theorem fc_109 (F : CF) : pf_52 (pf_51 F) 109 = (20, 12, [], z0, zn) := rfl
set_option maxRecDepth 200000 in
theorem fc_110 (F : CF) : pf_52 (pf_51 F) 110 = (20, 600, [], z0, zn) := rfl
set_option maxRecDepth 200000 in
theorem fc_111 (F : CF) : pf_52 (pf_51 F) 111 = (20, 400, [], z0, zn) := rfl
set_option maxRecDepth 200000 in
theorem fc_112 (F : CF) : pf_52 (pf_51 F) 112 = (20, 141, [], wz_147, zn) := rfl
set_option maxRecDepth 200000 in
theorem fc_113 (F : CF) : pf_52 (pf_51 F) 113 = (20, 2, [], z0, zn) := rfl
set_option maxRecDepth 200000 in
theorem fc_114 (F : CF) : pf_52 (pf_51 F) 114 = (20, 48, [], z0, zn) := rfl
set_option maxRecDepth 200000 in
theorem fc_115 (F : CF) : pf_52 (pf_51 F) 115 = (20, 48, [], z0, zn) := rfl
set_option maxRecDepth 200000 in
theorem fc_116 (F : CF) : pf_52 (pf_51 F) 116 = (20, 48, [], z0, zn) := rfl
set_option maxRecDepth 200000 in
theorem fc_117 (F : CF) : pf_52 (pf_51 F) 117 = (20, 48, [], z0, zn) := rfl
set_option maxRecDepth 200000 in
theorem fc_118 (F : CF) : pf_52 (pf_51 F) 118 = (20, 1200, [], z0, zn) := rfl
set_option maxRecDepth 200000 in
theorem fc_119 (F : CF) : pf_52 (pf_51 F) 119 = (20, 1200, [], z0, zn) := rfl
set_option maxRecDepth 200000 in
theorem fc_120 (F : CF) : pf_52 (pf_51 F) 120 = (20, 40, [], z0, zn) := rfl
set_option maxRecDepth 200000 in
theorem fc_121 (F : CF) : pf_52 (pf_51 F) 121 = (20, 96, [], z0, zn) := rfl
set_option maxRecDepth 200000 in
theorem fc_122 (F : CF) : pf_52 (pf_51 F) 122 = (20, 160, [], z0, zn) := rfl
set_option maxRecDepth 200000 in
theorem fc_123 (F : CF) : pf_52 (pf_51 F) 123 = (20, 24, [], z0, zn) := rfl
set_option maxRecDepth 200000 in
theorem fc_124 (F : CF) : pf_52 (pf_51 F) 124 = (20, 12, [], z0, zn) := rfl
set_option maxRecDepth 200000 in
theorem fc_125 (F : CF) : pf_52 (pf_51 F) 125 = (20, 420, [], z0, zn) := rfl
set_option maxRecDepth 200000 in
theorem fc_126 (F : CF) : pf_52 (pf_51 F) 126 = (20, 12, [], z0, zn) := rfl
set_option maxRecDepth 200000 in
theorem fc_127 (F : CF) : pf_52 (pf_51 F) 127 = (20, 9, [], z0, zn) := rfl
set_option maxRecDepth 200000 in
theorem fc_128 (F : CF) : pf_52 (pf_51 F) 128 = (20, 100, [], z0, zn) := rfl
set_option maxRecDepth 200000 in
theorem fc_129 (F : CF) : pf_52 (pf_51 F) 129 = (20, 8, [], z0, zn) := rfl
set_option maxRecDepth 200000 in
theorem fc_130 (F : CF) : pf_52 (pf_51 F) 130 = (20, 256, [], z0, zn) := rfl
set_option maxRecDepth 200000 in
theorem fc_131 (F : CF) : pf_52 (pf_51 F) 131 = (20, 8, [], z0, zn) := rfl
set_option maxRecDepth 200000 in
theorem fc_132 (F : CF) : pf_52 (pf_51 F) 132 = (20, 5, [], z0, zn) := rfl
set_option maxRecDepth 200000 in
theorem fc_133 (F : CF) : pf_52 (pf_51 F) 133 = (20, 8, [], z0, zn) := rfl
set_option maxRecDepth 200000 in
theorem fc_134 (F : CF) : pf_52 (pf_51 F) 134 = (20, 8, [], z0, zn) := rfl
set_option maxRecDepth 200000 in
theorem fc_135 (F : CF) : pf_52 (pf_51 F) 135 = (20, 16, [], z0, zn) := rfl
set_option maxRecDepth 200000 in
theorem fc_136 (F : CF) : pf_52 (pf_51 F) 136 = (20, 1681, [], z0, zn) := rfl
set_option maxRecDepth 200000 in
theorem fc_137 (F : CF) : pf_52 (pf_51 F) 137 = (20, 6, [], z0, zn) := rfl
set_option maxRecDepth 200000 in
theorem fc_138 (F : CF) : pf_52 (pf_51 F) 138 = (20, 6, [], z0, zn) := rfl
set_option maxRecDepth 200000 in
theorem fc_139 (F : CF) : pf_52 (pf_51 F) 139 = (20, 6, [], z0, zn) := rfl
set_option maxRecDepth 200000 in
theorem fc_140 (F : CF) : pf_52 (pf_51 F) 140 = (20, 6, [], z0, zn) := rfl
set_option maxRecDepth 200000 in
theorem fc_141 (F : CF) : pf_52 (pf_51 F) 141 = (20, 12, [], z0, zn) := rfl
set_option maxRecDepth 200000 in
theorem fc_142 (F : CF) : pf_52 (pf_51 F) 142 = (20, 21, [], z0, zn) := rfl
set_option maxRecDepth 200000 in
theorem fc_143 (F : CF) : pf_52 (pf_51 F) 143 = (20, 21, [], z0, zn) := rfl
set_option maxRecDepth 200000 in
theorem fc_144 (F : CF) : pf_52 (pf_51 F) 144 = (20, 8, [], z0, zn) := rfl
set_option maxRecDepth 200000 in
theorem fc_145 (F : CF) : pf_52 (pf_51 F) 145 = (20, 8, [], z0, zn) := rfl
set_option maxRecDepth 200000 in
theorem fc_146 (F : CF) : pf_52 (pf_51 F) 146 = (20, 16807, [], z0, zn) := rfl
set_option maxRecDepth 200000 in
theorem fc_147 (F : CF) : pf_52 (pf_51 F) 147 = (20, 5, [], z0, zn) := rfl
set_option maxRecDepth 200000 in
theorem fc_148 (F : CF) : pf_52 (pf_51 F) 148 = (20, 2400, [], z0, zn) := rfl
