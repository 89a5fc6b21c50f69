/-! support of the block equations -/
def zK0 : Nat → Int32 := fun j => ([0, 0, 0, 0, 0, 1, 2, 0, 1, 0] : List Int32).getD j 0
def zK1 : Nat → Int32 := fun j => ([99, 15, 9, 9, 9, 60, 16, 9, 60, 12] : List Int32).getD j 0
def zK2 : Nat → Int32 := fun j => ([0, 1, 2, 2, 2, 3, 3, 4, 4, 4] : List Int32).getD j 0
def zK3 : Nat → Int32 := fun j => ([-1, 0, 0, 2, 1, 3, 0, 6] : List Int32).getD j 0
def zK4 : Nat → Int32 := fun j => ([1, 10, 11, 2, 20, 10, 11, 2, 1, 30, 11, 2, 1, 41, 40, 2, 20, 10, 11, 50, 1, 41, 60, 61, 70, 10, 11, 2, 81, 80, 11, 2] : List Int32).getD j 0
def zK8 : Nat → Int32 := fun j => ([103, 104, 116, 101, 100, 105] : List Int32).getD j 0
def zK9 : Nat → Int32 := fun j => ([124, 38, 60, 61, 62, 43, 45, 42, 47, 37] : List Int32).getD j 0
def zpfok (c k : Nat) : Bool := decide (c < 13) && decide (k < znum c) && !(zfin c k) && decide (ztyX c k = .int)
def zmx (x y : Int32) : Int32 := if x < y then y else x
def zmn (x y : Int32) : Int32 := if y < x then y else x
def zab (x : Int32) : Int32 := if 0 ≤ x then x else 0 - x
theorem zl_0 : 0 < zN := by decide
theorem zh_0 : zshp 0 = .inl (11, [some 1, some 3, some 7, some 13, some 17, some 24, some 28, some 41, some 45, some 63]) := by decide +kernel
theorem zl_1 : 1 < zN := by decide
theorem zh_1 : zshp 1 = .inl (5, [some 2, none, none, none]) := by decide +kernel
theorem zl_2 : 2 < zN := by decide
theorem zh_2 : zshp 2 = .inr (0, 80, []) := by decide +kernel
theorem zl_3 : 3 < zN := by decide
theorem zh_3 : zshp 3 = .inl (6, [some 4, some 5, some 6, none, none]) := by decide +kernel
theorem zl_4 : 4 < zN := by decide
theorem zh_4 : zshp 4 = .inr (0, 121, []) := by decide +kernel
theorem zl_5 : 5 < zN := by decide
theorem zh_5 : zshp 5 = .inr (0, 121, []) := by decide +kernel
theorem zl_6 : 6 < zN := by decide
theorem zh_6 : zshp 6 = .inr (0, 121, []) := by decide +kernel
theorem zl_7 : 7 < zN := by decide
theorem zh_7 : zshp 7 = .inl (9, [some 8, some 9, none, none]) := by decide +kernel
theorem zl_8 : 8 < zN := by decide
theorem zh_8 : zshp 8 = .inr (0, 120, []) := by decide +kernel
theorem zl_9 : 9 < zN := by decide
theorem zh_9 : zshp 9 = .inl (6, [some 10, some 11, some 12, none, none]) := by decide +kernel
theorem zl_10 : 10 < zN := by decide
theorem zh_10 : zshp 10 = .inr (0, 121, []) := by decide +kernel
theorem zl_11 : 11 < zN := by decide
theorem zh_11 : zshp 11 = .inr (0, 121, []) := by decide +kernel
theorem zl_12 : 12 < zN := by decide
theorem zh_12 : zshp 12 = .inr (0, 121, []) := by decide +kernel
theorem zl_13 : 13 < zN := by decide
theorem zh_13 : zshp 13 = .inl (0, [some 1, some 3, some 14, some 15, some 16, none, none]) := by decide +kernel
theorem zl_14 : 14 < zN := by decide
theorem zh_14 : zshp 14 = .inr (0, 6, []) := by decide +kernel
theorem zl_15 : 15 < zN := by decide
theorem zh_15 : zshp 15 = .inr (0, 128, []) := by decide +kernel
theorem zl_16 : 16 < zN := by decide
theorem zh_16 : zshp 16 = .inr (0, 128, []) := by decide +kernel
theorem zl_17 : 17 < zN := by decide
theorem zh_17 : zshp 17 = .inl (4, [some 18, some 20, some 21, some 23, none]) := by decide +kernel
theorem zl_18 : 18 < zN := by decide
theorem zh_18 : zshp 18 = .inl (2, [some 19]) := by decide +kernel
theorem zl_19 : 19 < zN := by decide
theorem zh_19 : zshp 19 = .inr (0, 16, []) := by decide +kernel
theorem zl_20 : 20 < zN := by decide
theorem zh_20 : zshp 20 = .inr (0, 5, []) := by decide +kernel
theorem zl_21 : 21 < zN := by decide
theorem zh_21 : zshp 21 = .inl (2, [some 22]) := by decide +kernel
theorem zl_22 : 22 < zN := by decide
theorem zh_22 : zshp 22 = .inr (0, 16, []) := by decide +kernel
theorem zl_23 : 23 < zN := by decide
theorem zh_23 : zshp 23 = .inr (0, 5, []) := by decide +kernel
theorem zl_24 : 24 < zN := by decide
theorem zh_24 : zshp 24 = .inl (3, [some 25, some 26, some 27, none, none]) := by decide +kernel
theorem zl_25 : 25 < zN := by decide
theorem zh_25 : zshp 25 = .inr (0, 40, []) := by decide +kernel
theorem zl_26 : 26 < zN := by decide
theorem zh_26 : zshp 26 = .inr (0, 40, []) := by decide +kernel
theorem zl_27 : 27 < zN := by decide
theorem zh_27 : zshp 27 = .inr (0, 40, []) := by decide +kernel
theorem zl_28 : 28 < zN := by decide
theorem zh_28 : zshp 28 = .inr (4, 6, [29, 31, 33, 35, 37, 39]) := by decide +kernel
theorem zl_29 : 29 < zN := by decide
theorem zh_29 : zshp 29 = .inl (8, [some 30, none, none, none, none]) := by decide +kernel
theorem zl_30 : 30 < zN := by decide
theorem zh_30 : zshp 30 = .inr (1, 60, []) := by decide +kernel
theorem zl_31 : 31 < zN := by decide
theorem zh_31 : zshp 31 = .inl (8, [some 32, none, none, none, none]) := by decide +kernel
theorem zl_32 : 32 < zN := by decide
theorem zh_32 : zshp 32 = .inr (1, 60, []) := by decide +kernel
theorem zl_33 : 33 < zN := by decide
theorem zh_33 : zshp 33 = .inl (8, [some 34, none, none, none, none]) := by decide +kernel
theorem zl_34 : 34 < zN := by decide
theorem zh_34 : zshp 34 = .inr (1, 60, []) := by decide +kernel
theorem zl_35 : 35 < zN := by decide
theorem zh_35 : zshp 35 = .inl (8, [some 36, none, none, none, none]) := by decide +kernel
theorem zl_36 : 36 < zN := by decide
theorem zh_36 : zshp 36 = .inr (1, 60, []) := by decide +kernel
theorem zl_37 : 37 < zN := by decide
theorem zh_37 : zshp 37 = .inl (8, [some 38, none, none, none, none]) := by decide +kernel
theorem zl_38 : 38 < zN := by decide
theorem zh_38 : zshp 38 = .inr (1, 60, []) := by decide +kernel
theorem zl_39 : 39 < zN := by decide
theorem zh_39 : zshp 39 = .inl (8, [some 40, none, none, none, none]) := by decide +kernel
theorem zl_40 : 40 < zN := by decide
theorem zh_40 : zshp 40 = .inr (1, 60, []) := by decide +kernel
theorem zl_41 : 41 < zN := by decide
theorem zh_41 : zshp 41 = .inl (10, [some 1, some 13, some 18, some 42, none, none, some 43]) := by decide +kernel
theorem zl_42 : 42 < zN := by decide
theorem zh_42 : zshp 42 = .inr (0, 20, []) := by decide +kernel
theorem zl_43 : 43 < zN := by decide
theorem zh_43 : zshp 43 = .inl (2, [some 44]) := by decide +kernel
theorem zl_44 : 44 < zN := by decide
theorem zh_44 : zshp 44 = .inr (0, 16, []) := by decide +kernel
theorem zl_45 : 45 < zN := by decide
theorem zh_45 : zshp 45 = .inl (7, [some 1, some 13, some 18, some 46, some 47, some 48]) := by decide +kernel
theorem zl_46 : 46 < zN := by decide
theorem zh_46 : zshp 46 = .inr (5, 7, [49, 51, 53, 55, 57, 59, 61]) := by decide +kernel
theorem zl_47 : 47 < zN := by decide
theorem zh_47 : zshp 47 = .inr (0, 6, []) := by decide +kernel
theorem zl_48 : 48 < zN := by decide
theorem zh_48 : zshp 48 = .inr (0, 6, []) := by decide +kernel
theorem zl_49 : 49 < zN := by decide
theorem zh_49 : zshp 49 = .inl (2, [some 50]) := by decide +kernel
theorem zl_50 : 50 < zN := by decide
theorem zh_50 : zshp 50 = .inr (0, 16, []) := by decide +kernel
theorem zl_51 : 51 < zN := by decide
theorem zh_51 : zshp 51 = .inl (2, [some 52]) := by decide +kernel
theorem zl_52 : 52 < zN := by decide
theorem zh_52 : zshp 52 = .inr (0, 16, []) := by decide +kernel
theorem zl_53 : 53 < zN := by decide
theorem zh_53 : zshp 53 = .inl (2, [some 54]) := by decide +kernel
theorem zl_54 : 54 < zN := by decide
theorem zh_54 : zshp 54 = .inr (0, 16, []) := by decide +kernel
theorem zl_55 : 55 < zN := by decide
theorem zh_55 : zshp 55 = .inl (2, [some 56]) := by decide +kernel
theorem zl_56 : 56 < zN := by decide
theorem zh_56 : zshp 56 = .inr (0, 16, []) := by decide +kernel
theorem zl_57 : 57 < zN := by decide
theorem zh_57 : zshp 57 = .inl (2, [some 58]) := by decide +kernel
theorem zl_58 : 58 < zN := by decide
theorem zh_58 : zshp 58 = .inr (0, 16, []) := by decide +kernel
theorem zl_59 : 59 < zN := by decide
theorem zh_59 : zshp 59 = .inl (2, [some 60]) := by decide +kernel
theorem zl_60 : 60 < zN := by decide
theorem zh_60 : zshp 60 = .inr (0, 16, []) := by decide +kernel
theorem zl_61 : 61 < zN := by decide
theorem zh_61 : zshp 61 = .inl (2, [some 62]) := by decide +kernel
theorem zl_62 : 62 < zN := by decide
theorem zh_62 : zshp 62 = .inr (0, 16, []) := by decide +kernel
theorem zl_63 : 63 < zN := by decide
theorem zh_63 : zshp 63 = .inl (1, [some 64, some 65, none, none, none, none]) := by decide +kernel
theorem zl_64 : 64 < zN := by decide
theorem zh_64 : zshp 64 = .inr (0, 50, []) := by decide +kernel
theorem zl_65 : 65 < zN := by decide
theorem zh_65 : zshp 65 = .inr (0, 24, []) := by decide +kernel
theorem zl_66 : 66 < zN := by decide
theorem zh_66 : zshp 66 = .inl (12, [none, none, some 67, some 68, some 69, some 70, none, some 71, some 72, none, none, none, none, none, none, some 73, some 74, some 75, some 76, some 77, none, none, none, none, none, some 78, some 79, some 80, some 81, some 82, some 83, some 84, none, some 85, some 86, some 87, none, none, some 88, none, some 89, none, none, none, none, some 90, none, some 91, some 92, none, some 93, none, some 94, some 95, some 96, some 97, some 98]) := by decide +kernel
theorem zl_67 : 67 < zN := by decide
theorem zh_67 : zshp 67 = .inr (0, 6, []) := by decide +kernel
theorem zl_68 : 68 < zN := by decide
theorem zh_68 : zshp 68 = .inr (0, 6, []) := by decide +kernel
theorem zl_69 : 69 < zN := by decide
theorem zh_69 : zshp 69 = .inr (0, 6, []) := by decide +kernel
theorem zl_70 : 70 < zN := by decide
theorem zh_70 : zshp 70 = .inr (0, 6, []) := by decide +kernel
theorem zl_71 : 71 < zN := by decide
theorem zh_71 : zshp 71 = .inr (0, 8, []) := by decide +kernel
theorem zl_72 : 72 < zN := by decide
theorem zh_72 : zshp 72 = .inr (0, 8, []) := by decide +kernel
theorem zl_73 : 73 < zN := by decide
theorem zh_73 : zshp 73 = .inr (0, 40, []) := by decide +kernel
theorem zl_74 : 74 < zN := by decide
theorem zh_74 : zshp 74 = .inr (0, 40, []) := by decide +kernel
theorem zl_75 : 75 < zN := by decide
theorem zh_75 : zshp 75 = .inr (0, 40, []) := by decide +kernel
theorem zl_76 : 76 < zN := by decide
theorem zh_76 : zshp 76 = .inr (0, 40, []) := by decide +kernel
theorem zl_77 : 77 < zN := by decide
theorem zh_77 : zshp 77 = .inr (2, 120, []) := by decide +kernel
theorem zl_78 : 78 < zN := by decide
theorem zh_78 : zshp 78 = .inr (2, 260, []) := by decide +kernel
theorem zl_79 : 79 < zN := by decide
theorem zh_79 : zshp 79 = .inr (0, 260, []) := by decide +kernel
theorem zl_80 : 80 < zN := by decide
theorem zh_80 : zshp 80 = .inr (0, 2, []) := by decide +kernel
theorem zl_81 : 81 < zN := by decide
theorem zh_81 : zshp 81 = .inr (3, 122, []) := by decide +kernel
theorem zl_82 : 82 < zN := by decide
theorem zh_82 : zshp 82 = .inr (3, 122, []) := by decide +kernel
theorem zl_83 : 83 < zN := by decide
theorem zh_83 : zshp 83 = .inr (0, 6, []) := by decide +kernel
theorem zl_84 : 84 < zN := by decide
theorem zh_84 : zshp 84 = .inr (0, 130, []) := by decide +kernel
theorem zl_85 : 85 < zN := by decide
theorem zh_85 : zshp 85 = .inr (0, 16, []) := by decide +kernel
theorem zl_86 : 86 < zN := by decide
theorem zh_86 : zshp 86 = .inr (0, 16, []) := by decide +kernel
theorem zl_87 : 87 < zN := by decide
theorem zh_87 : zshp 87 = .inr (0, 16, []) := by decide +kernel
theorem zl_88 : 88 < zN := by decide
theorem zh_88 : zshp 88 = .inr (0, 21, []) := by decide +kernel
theorem zl_89 : 89 < zN := by decide
theorem zh_89 : zshp 89 = .inr (0, 8, []) := by decide +kernel
theorem zl_90 : 90 < zN := by decide
theorem zh_90 : zshp 90 = .inr (0, 5, []) := by decide +kernel
theorem zl_91 : 91 < zN := by decide
theorem zh_91 : zshp 91 = .inr (0, 16, []) := by decide +kernel
theorem zl_92 : 92 < zN := by decide
theorem zh_92 : zshp 92 = .inr (0, 5, []) := by decide +kernel
theorem zl_93 : 93 < zN := by decide
theorem zh_93 : zshp 93 = .inr (0, 50, []) := by decide +kernel
theorem zl_94 : 94 < zN := by decide
theorem zh_94 : zshp 94 = .inr (0, 24, []) := by decide +kernel
theorem zl_95 : 95 < zN := by decide
theorem zh_95 : zshp 95 = .inr (0, 6, []) := by decide +kernel
theorem zl_96 : 96 < zN := by decide
theorem zh_96 : zshp 96 = .inr (0, 6, []) := by decide +kernel
theorem zl_97 : 97 < zN := by decide
theorem zh_97 : zshp 97 = .inr (1, 360, []) := by decide +kernel
theorem zl_98 : 98 < zN := by decide
theorem zh_98 : zshp 98 = .inr (1, 60, []) := by decide +kernel
theorem zB_18 : zisB 18 = true := by decide +kernel
theorem zB_21 : zisB 21 = true := by decide +kernel
theorem zB_43 : zisB 43 = true := by decide +kernel
theorem zS_29 : zisS 29 = true := by decide +kernel
theorem zS_31 : zisS 31 = true := by decide +kernel
theorem zS_33 : zisS 33 = true := by decide +kernel
theorem zS_35 : zisS 35 = true := by decide +kernel
theorem zS_37 : zisS 37 = true := by decide +kernel
theorem zS_39 : zisS 39 = true := by decide +kernel
theorem zF_0_9 : zfind zfldT 0 9 = some (0, 2) := by decide +kernel
theorem zF_0_15 : zfind zfldT 0 15 = some (0, 3) := by decide +kernel
theorem zF_0_18 : zfind zfldT 0 18 = some (0, 4) := by decide +kernel
theorem zF_0_21 : zfind zfldT 0 21 = some (0, 5) := by decide +kernel
theorem zF_0_25 : zfind zfldT 0 25 = some (0, 6) := by decide +kernel
theorem zF_0_28 : zfind zfldT 0 28 = some (0, 0) := by decide +kernel
theorem zF_0_32 : zfind zfldT 0 32 = some (0, 1) := by decide +kernel
theorem zF_0_42 : zfind zfldT 0 42 = some (5, 3) := by decide +kernel
theorem zF_0_66 : zfind zfldT 0 66 = some (2, 0) := by decide +kernel
theorem zF_0_69 : zfind zfldT 0 69 = some (6, 4) := by decide +kernel
theorem zF_0_75 : zfind zfldT 0 75 = some (5, 1) := by decide +kernel
theorem zF_0_94 : zfind zfldT 0 94 = some (6, 3) := by decide +kernel
theorem zF_1_9 : zfind zfldT 1 9 = some (1, 0) := by decide +kernel
theorem zF_1_13 : zfind zfldT 1 13 = some (1, 1) := by decide +kernel
theorem zF_1_16 : zfind zfldT 1 16 = some (1, 2) := by decide +kernel
theorem zF_1_23 : zfind zfldT 1 23 = some (1, 4) := by decide +kernel
theorem zF_1_26 : zfind zfldT 1 26 = some (1, 5) := by decide +kernel
theorem zF_1_36 : zfind zfldT 1 36 = some (1, 3) := by decide +kernel
theorem zF_2_9 : zfind zfldT 2 9 = some (2, 0) := by decide +kernel
theorem zF_3_9 : zfind zfldT 3 9 = some (3, 0) := by decide +kernel
theorem zF_3_13 : zfind zfldT 3 13 = some (3, 1) := by decide +kernel
theorem zF_3_16 : zfind zfldT 3 16 = some (3, 2) := by decide +kernel
theorem zF_3_19 : zfind zfldT 3 19 = some (3, 3) := by decide +kernel
theorem zF_3_26 : zfind zfldT 3 26 = some (3, 4) := by decide +kernel
theorem zF_4_12 : zfind zfldT 4 12 = some (4, 0) := by decide +kernel
theorem zF_4_18 : zfind zfldT 4 18 = some (4, 1) := by decide +kernel
theorem zF_4_22 : zfind zfldT 4 22 = some (4, 2) := by decide +kernel
theorem zF_4_25 : zfind zfldT 4 25 = some (4, 3) := by decide +kernel
theorem zF_4_42 : zfind zfldT 4 42 = some (2, 0) := by decide +kernel
theorem zF_4_55 : zfind zfldT 4 55 = some (4, 4) := by decide +kernel
theorem zF_5_11 : zfind zfldT 5 11 = some (5, 0) := by decide +kernel
theorem zF_5_21 : zfind zfldT 5 21 = some (5, 1) := by decide +kernel
theorem zF_5_25 : zfind zfldT 5 25 = some (5, 2) := by decide +kernel
theorem zF_5_28 : zfind zfldT 5 28 = some (5, 3) := by decide +kernel
theorem zF_5_31 : zfind zfldT 5 31 = some (8, 4) := by decide +kernel
theorem zF_5_36 : zfind zfldT 5 36 = some (8, 0) := by decide +kernel
theorem zF_6_11 : zfind zfldT 6 11 = some (6, 0) := by decide +kernel
theorem zF_6_15 : zfind zfldT 6 15 = some (6, 1) := by decide +kernel
theorem zF_6_18 : zfind zfldT 6 18 = some (6, 2) := by decide +kernel
theorem zF_6_21 : zfind zfldT 6 21 = some (6, 3) := by decide +kernel
theorem zF_6_25 : zfind zfldT 6 25 = some (6, 4) := by decide +kernel
theorem zF_7_11 : zfind zfldT 7 11 = some (7, 3) := by decide +kernel
theorem zF_7_17 : zfind zfldT 7 17 = some (7, 4) := by decide +kernel
theorem zF_7_21 : zfind zfldT 7 21 = some (7, 5) := by decide +kernel
theorem zF_7_24 : zfind zfldT 7 24 = some (7, 0) := by decide +kernel
theorem zF_7_28 : zfind zfldT 7 28 = some (7, 1) := by decide +kernel
theorem zF_7_32 : zfind zfldT 7 32 = some (7, 2) := by decide +kernel
theorem zF_7_37 : zfind zfldT 7 37 = some (5, 2) := by decide +kernel
theorem zF_8_11 : zfind zfldT 8 11 = some (8, 0) := by decide +kernel
theorem zF_8_15 : zfind zfldT 8 15 = some (8, 1) := by decide +kernel
theorem zF_8_19 : zfind zfldT 8 19 = some (8, 2) := by decide +kernel
theorem zF_8_22 : zfind zfldT 8 22 = some (8, 3) := by decide +kernel
theorem zF_8_25 : zfind zfldT 8 25 = some (8, 4) := by decide +kernel
theorem zF_8_44 : zfind zfldT 8 44 = some (2, 0) := by decide +kernel
theorem zF_9_9 : zfind zfldT 9 9 = some (9, 0) := by decide +kernel
theorem zF_9_18 : zfind zfldT 9 18 = some (9, 1) := by decide +kernel
theorem zF_9_22 : zfind zfldT 9 22 = some (9, 2) := by decide +kernel
theorem zF_9_26 : zfind zfldT 9 26 = some (9, 3) := by decide +kernel
theorem zF_9_44 : zfind zfldT 9 44 = some (6, 3) := by decide +kernel
theorem zF_10_9 : zfind zfldT 10 9 = some (10, 3) := by decide +kernel
theorem zF_10_18 : zfind zfldT 10 18 = some (10, 6) := by decide +kernel
theorem zF_10_22 : zfind zfldT 10 22 = some (10, 0) := by decide +kernel
theorem zF_10_26 : zfind zfldT 10 26 = some (10, 1) := by decide +kernel
theorem zF_10_30 : zfind zfldT 10 30 = some (10, 2) := by decide +kernel
theorem zF_10_33 : zfind zfldT 10 33 = some (8, 4) := by decide +kernel
theorem zF_10_45 : zfind zfldT 10 45 = some (10, 4) := by decide +kernel
theorem zF_10_48 : zfind zfldT 10 48 = some (8, 0) := by decide +kernel
theorem zF_10_56 : zfind zfldT 10 56 = some (5, 2) := by decide +kernel
theorem zF_10_65 : zfind zfldT 10 65 = some (10, 5) := by decide +kernel
theorem zF_10_89 : zfind zfldT 10 89 = some (2, 0) := by decide +kernel
theorem zF_10_96 : zfind zfldT 10 96 = some (5, 1) := by decide +kernel
theorem zF_10_106 : zfind zfldT 10 106 = some (5, 0) := by decide +kernel
theorem zF_11_10 : zfind zfldT 11 10 = some (11, 0) := by decide +kernel
theorem zF_11_19 : zfind zfldT 11 19 = some (11, 1) := by decide +kernel
theorem zF_11_26 : zfind zfldT 11 26 = some (11, 2) := by decide +kernel
theorem zF_11_35 : zfind zfldT 11 35 = some (11, 3) := by decide +kernel
theorem zF_11_42 : zfind zfldT 11 42 = some (11, 4) := by decide +kernel
theorem zF_11_49 : zfind zfldT 11 49 = some (11, 5) := by decide +kernel
theorem zF_11_55 : zfind zfldT 11 55 = some (11, 6) := by decide +kernel
theorem zF_11_62 : zfind zfldT 11 62 = some (4, 0) := by decide +kernel
theorem zF_11_69 : zfind zfldT 11 69 = some (11, 7) := by decide +kernel
theorem zF_11_76 : zfind zfldT 11 76 = some (11, 8) := by decide +kernel
theorem zF_11_83 : zfind zfldT 11 83 = some (11, 9) := by decide +kernel
theorem zF_11_91 : zfind zfldT 11 91 = some (5, 1) := by decide +kernel
theorem zF_11_107 : zfind zfldT 11 107 = some (5, 2) := by decide +kernel
theorem zF_11_116 : zfind zfldT 11 116 = some (5, 0) := by decide +kernel
theorem zF_11_128 : zfind zfldT 11 128 = some (2, 0) := by decide +kernel
theorem zF_11_133 : zfind zfldT 11 133 = some (9, 2) := by decide +kernel
theorem zF_11_144 : zfind zfldT 11 144 = some (9, 1) := by decide +kernel
theorem zF_11_174 : zfind zfldT 11 174 = some (10, 6) := by decide +kernel
theorem zF_11_194 : zfind zfldT 11 194 = some (7, 5) := by decide +kernel
theorem zF_11_243 : zfind zfldT 11 243 = some (4, 1) := by decide +kernel
theorem zF_11_259 : zfind zfldT 11 259 = some (4, 4) := by decide +kernel
theorem zF_11_266 : zfind zfldT 11 266 = some (3, 3) := by decide +kernel
theorem zF_11_273 : zfind zfldT 11 273 = some (3, 4) := by decide +kernel
theorem zF_11_279 : zfind zfldT 11 279 = some (1, 2) := by decide +kernel
theorem zF_11_283 : zfind zfldT 11 283 = some (1, 3) := by decide +kernel
theorem zF_11_297 : zfind zfldT 11 297 = some (1, 1) := by decide +kernel
theorem zF_11_319 : zfind zfldT 11 319 = some (8, 0) := by decide +kernel
theorem zF_11_335 : zfind zfldT 11 335 = some (8, 1) := by decide +kernel
theorem zF_11_338 : zfind zfldT 11 338 = some (1, 0) := by decide +kernel
theorem zF_11_341 : zfind zfldT 11 341 = some (8, 2) := by decide +kernel
theorem zF_11_347 : zfind zfldT 11 347 = some (8, 3) := by decide +kernel
theorem zF_12_7 : zfind zfldT 12 7 = some (12, 2) := by decide +kernel
theorem zF_12_13 : zfind zfldT 12 13 = some (12, 3) := by decide +kernel
theorem zF_12_16 : zfind zfldT 12 16 = some (12, 4) := by decide +kernel
theorem zF_12_19 : zfind zfldT 12 19 = some (12, 5) := by decide +kernel
theorem zF_12_22 : zfind zfldT 12 22 = some (12, 7) := by decide +kernel
theorem zF_12_25 : zfind zfldT 12 25 = some (12, 8) := by decide +kernel
theorem zF_12_28 : zfind zfldT 12 28 = some (12, 9) := by decide +kernel
theorem zF_12_32 : zfind zfldT 12 32 = some (12, 10) := by decide +kernel
theorem zF_12_35 : zfind zfldT 12 35 = some (12, 11) := by decide +kernel
theorem zF_12_38 : zfind zfldT 12 38 = some (12, 15) := by decide +kernel
theorem zF_12_41 : zfind zfldT 12 41 = some (12, 16) := by decide +kernel
theorem zF_12_44 : zfind zfldT 12 44 = some (12, 17) := by decide +kernel
theorem zF_12_47 : zfind zfldT 12 47 = some (12, 18) := by decide +kernel
theorem zF_12_50 : zfind zfldT 12 50 = some (12, 19) := by decide +kernel
theorem zF_12_54 : zfind zfldT 12 54 = some (12, 25) := by decide +kernel
theorem zF_12_57 : zfind zfldT 12 57 = some (12, 26) := by decide +kernel
theorem zF_12_60 : zfind zfldT 12 60 = some (12, 27) := by decide +kernel
theorem zF_12_63 : zfind zfldT 12 63 = some (12, 28) := by decide +kernel
theorem zF_12_67 : zfind zfldT 12 67 = some (12, 29) := by decide +kernel
theorem zF_12_70 : zfind zfldT 12 70 = some (12, 30) := by decide +kernel
theorem zF_12_73 : zfind zfldT 12 73 = some (12, 31) := by decide +kernel
theorem zF_12_76 : zfind zfldT 12 76 = some (12, 33) := by decide +kernel
theorem zF_12_79 : zfind zfldT 12 79 = some (12, 34) := by decide +kernel
theorem zF_12_82 : zfind zfldT 12 82 = some (12, 35) := by decide +kernel
theorem zF_12_85 : zfind zfldT 12 85 = some (12, 36) := by decide +kernel
theorem zF_12_88 : zfind zfldT 12 88 = some (12, 38) := by decide +kernel
theorem zF_12_91 : zfind zfldT 12 91 = some (12, 40) := by decide +kernel
theorem zF_12_94 : zfind zfldT 12 94 = some (12, 45) := by decide +kernel
theorem zF_12_97 : zfind zfldT 12 97 = some (12, 47) := by decide +kernel
theorem zF_12_100 : zfind zfldT 12 100 = some (12, 48) := by decide +kernel
theorem zF_12_103 : zfind zfldT 12 103 = some (12, 50) := by decide +kernel
theorem zF_12_106 : zfind zfldT 12 106 = some (12, 52) := by decide +kernel
theorem zF_12_109 : zfind zfldT 12 109 = some (12, 53) := by decide +kernel
theorem zF_12_112 : zfind zfldT 12 112 = some (12, 54) := by decide +kernel
theorem zF_12_115 : zfind zfldT 12 115 = some (12, 55) := by decide +kernel
theorem zF_12_119 : zfind zfldT 12 119 = some (12, 56) := by decide +kernel
theorem zF_12_125 : zfind zfldT 12 125 = some (12, 1) := by decide +kernel
theorem zF_12_132 : zfind zfldT 12 132 = some (12, 6) := by decide +kernel
theorem zF_12_145 : zfind zfldT 12 145 = some (12, 12) := by decide +kernel
theorem zF_12_152 : zfind zfldT 12 152 = some (12, 14) := by decide +kernel
theorem zF_12_155 : zfind zfldT 12 155 = some (12, 13) := by decide +kernel
theorem zF_12_178 : zfind zfldT 12 178 = some (12, 20) := by decide +kernel
theorem zF_12_181 : zfind zfldT 12 181 = some (12, 21) := by decide +kernel
theorem zF_12_184 : zfind zfldT 12 184 = some (12, 22) := by decide +kernel
theorem zF_12_187 : zfind zfldT 12 187 = some (12, 24) := by decide +kernel
theorem zF_12_190 : zfind zfldT 12 190 = some (12, 23) := by decide +kernel
theorem zF_12_245 : zfind zfldT 12 245 = some (12, 32) := by decide +kernel
theorem zF_12_263 : zfind zfldT 12 263 = some (12, 37) := by decide +kernel
theorem zF_12_279 : zfind zfldT 12 279 = some (12, 39) := by decide +kernel
theorem zF_12_321 : zfind zfldT 12 321 = some (12, 41) := by decide +kernel
theorem zF_12_324 : zfind zfldT 12 324 = some (12, 42) := by decide +kernel
theorem zF_12_330 : zfind zfldT 12 330 = some (12, 43) := by decide +kernel
theorem zF_12_333 : zfind zfldT 12 333 = some (12, 44) := by decide +kernel
theorem zF_12_361 : zfind zfldT 12 361 = some (12, 46) := by decide +kernel
theorem zF_12_364 : zfind zfldT 12 364 = some (12, 49) := by decide +kernel
theorem zF_12_367 : zfind zfldT 12 367 = some (12, 51) := by decide +kernel
theorem zF_21_9 : zfind zfldT 21 9 = some (100, 0) := by decide +kernel
theorem zF_21_15 : zfind zfldT 21 15 = some (100, 1) := by decide +kernel
theorem zK_9_60 : zfind zcstT 9 60 = some (.ref 1007) := by decide +kernel
theorem zK_9_76 : zfind zcstT 9 76 = some (.ref 1006) := by decide +kernel
theorem zK_10_134 : zfind zcstT 10 134 = some (.int 1103515245) := by decide +kernel
theorem zK_11_157 : zfind zcstT 11 157 = some (.int (-2000000000)) := by decide +kernel
theorem zK_11_317 : zfind zcstT 11 317 = some (.long (-9223372036854775808)) := by decide +kernel
theorem zK_12_143 : zfind zcstT 12 143 = some (.long 2) := by decide +kernel
theorem zK_12_262 : zfind zcstT 12 262 = some (.int (-2000000000)) := by decide +kernel
theorem zK_12_357 : zfind zcstT 12 357 = some (.int 1103515245) := by decide +kernel
theorem zK_12_417 : zfind zcstT 12 417 = some (.long (-9223372036854775808)) := by decide +kernel
theorem zK_13_177 : zfind zcstT 13 177 = some (.long 4294967295) := by decide +kernel
theorem zG_1_20 : zfind zgsT 1 20 = some 3 := by decide +kernel
theorem zG_1_33 : zfind zgsT 1 33 = some 4 := by decide +kernel
theorem zG_5_15 : zfind zgsT 5 15 = some 0 := by decide +kernel
theorem zG_5_18 : zfind zgsT 5 18 = some 1 := by decide +kernel
theorem zG_9_67 : zfind zgsT 9 67 = some 2 := by decide +kernel
theorem zG_10_117 : zfind zgsT 10 117 = some 8 := by decide +kernel
theorem zG_21_38 : zfind zgsT 21 38 = some 9 := by decide +kernel
theorem zSP_0_82 : zfind zspT 0 82 = some 3 := by decide +kernel
theorem zSP_0_87 : zfind zspT 0 87 = some 2 := by decide +kernel
theorem zSP_0_90 : zfind zspT 0 90 = some 4 := by decide +kernel
theorem zSP_2_15 : zfind zspT 2 15 = some 1 := by decide +kernel
theorem zSP_2_31 : zfind zspT 2 31 = some 2 := by decide +kernel
theorem zSP_2_37 : zfind zspT 2 37 = some 3 := by decide +kernel
theorem zSP_3_29 : zfind zspT 3 29 = some 1 := by decide +kernel
theorem zSP_4_49 : zfind zspT 4 49 = some 1 := by decide +kernel
theorem zSP_6_33 : zfind zspT 6 33 = some 1 := by decide +kernel
theorem zSP_7_93 : zfind zspT 7 93 = some 1 := by decide +kernel
theorem zSP_8_38 : zfind zspT 8 38 = some 3 := by decide +kernel
theorem zSP_10_39 : zfind zspT 10 39 = some 3 := by decide +kernel
theorem zSP_11_292 : zfind zspT 11 292 = some 3 := by decide +kernel
theorem zSP_11_329 : zfind zspT 11 329 = some 1 := by decide +kernel
theorem zSP_11_353 : zfind zspT 11 353 = some 2 := by decide +kernel
theorem zSP_22_38 : zfind zspT 22 38 = some 3 := by decide +kernel
theorem zSP_22_92 : zfind zspT 22 92 = some 2 := by decide +kernel
theorem zSN_0_36 : zfind zspT 0 36 = none := by decide +kernel
theorem zSN_5_40 : zfind zspT 5 40 = none := by decide +kernel
theorem zSN_7_78 : zfind zspT 7 78 = none := by decide +kernel
theorem zSN_8_28 : zfind zspT 8 28 = none := by decide +kernel
theorem zSN_9_70 : zfind zspT 9 70 = none := by decide +kernel
theorem zSN_11_87 : zfind zspT 11 87 = none := by decide +kernel
theorem zSN_11_200 : zfind zspT 11 200 = none := by decide +kernel
theorem zSN_11_250 : zfind zspT 11 250 = none := by decide +kernel
theorem zSN_11_300 : zfind zspT 11 300 = none := by decide +kernel
theorem zSN_11_344 : zfind zspT 11 344 = none := by decide +kernel
theorem zSN_11_350 : zfind zspT 11 350 = none := by decide +kernel
theorem zSN_12_128 : zfind zspT 12 128 = none := by decide +kernel
theorem zSN_12_139 : zfind zspT 12 139 = none := by decide +kernel
theorem zSN_12_172 : zfind zspT 12 172 = none := by decide +kernel
theorem zSN_12_204 : zfind zspT 12 204 = none := by decide +kernel
theorem zSN_12_236 : zfind zspT 12 236 = none := by decide +kernel
theorem zSN_12_249 : zfind zspT 12 249 = none := by decide +kernel
theorem zSN_12_309 : zfind zspT 12 309 = none := by decide +kernel
theorem zSN_12_348 : zfind zspT 12 348 = none := by decide +kernel
theorem zSN_12_376 : zfind zspT 12 376 = none := by decide +kernel
theorem zSN_21_637 : zfind zspT 21 637 = none := by decide +kernel
theorem zSN_22_88 : zfind zspT 22 88 = none := by decide +kernel
theorem zSN_22_95 : zfind zspT 22 95 = none := by decide +kernel
theorem zC_0_100 : zfind (zcallT 0) 0 100 = some (0, 1, MX6_value) := by rfl
theorem zC_0_36 : zfind (zcallT 0) 0 36 = some (1, 2, MJ7_fill_53178) := by rfl
theorem zC_0_45 : zfind (zcallT 0) 0 45 = some (0, 0, MX0_forget) := by rfl
theorem zC_0_48 : zfind (zcallT 0) 0 48 = some (0, 2, MX5_get) := by rfl
theorem zC_0_52 : zfind (zcallT 0) 0 52 = some (0, 2, MX2_thaw) := by rfl
theorem zC_0_58 : zfind (zcallT 0) 0 58 = some (0, 2, MX0_clap) := by rfl
theorem zC_0_62 : zfind (zcallT 0) 0 62 = some (0, 0, MX5_planks) := by rfl
theorem zC_0_78 : zfind (zcallT 0) 0 78 = some (0, 5, MX0_given) := by rfl
theorem zC_0_97 : zfind (zcallT 0) 0 97 = some (0, 0, MX0_givenWithoutText) := by rfl
theorem zC_1_29 : zfind (zcallT 1) 1 29 = some (0, 4, MX1_called) := by rfl
theorem zC_1_39 : zfind (zcallT 1) 1 39 = some (0, 3, MX1_run) := by rfl
theorem zC_10_103 : zfind (zcallT 10) 10 103 = some (0, 2, MX5_placeOf) := by rfl
theorem zC_10_109 : zfind (zcallT 10) 10 109 = some (0, 0, MX5_planks) := by rfl
theorem zC_10_113 : zfind (zcallT 10) 10 113 = some (0, 2, MX5_change) := by rfl
theorem zC_10_120 : zfind (zcallT 10) 10 120 = some (0, 2, MX8_firstUnlike) := by rfl
theorem zC_10_124 : zfind (zcallT 10) 10 124 = some (0, 1, MX10_firstUnlike) := by rfl
theorem zC_10_127 : zfind (zcallT 10) 10 127 = some (0, 2, MX10_makes) := by rfl
theorem zC_10_131 : zfind (zcallT 10) 10 131 = some (0, 2, MX5_get) := by rfl
theorem zC_10_135 : zfind (zcallT 10) 10 135 = some (0, 2, MX2_thaw) := by rfl
theorem zC_10_52 : zfind (zcallT 10) 10 52 = some (0, 1, MX10_isTurn) := by rfl
theorem zC_10_61 : zfind (zcallT 10) 10 61 = some (0, 1, MX2_become) := by rfl
theorem zC_10_68 : zfind (zcallT 10) 10 68 = some (0, 0, MX10_begin) := by rfl
theorem zC_10_71 : zfind (zcallT 10) 10 71 = some (0, 2, MX0_step) := by rfl
theorem zC_10_77 : zfind (zcallT 10) 10 77 = some (0, 2, MX2_carries) := by rfl
theorem zC_10_81 : zfind (zcallT 10) 10 81 = some (0, 1, MX10_carriedWithout) := by rfl
theorem zC_10_85 : zfind (zcallT 10) 10 85 = some (0, 1, MX2_thinnest) := by rfl
theorem zC_10_92 : zfind (zcallT 10) 10 92 = some (0, 3, MX2_fallsOn) := by rfl
theorem zC_10_99 : zfind (zcallT 10) 10 99 = some (0, 1, MX0_leaveOut) := by rfl
theorem zC_11_103 : zfind (zcallT 11) 11 103 = some (0, 3, MX5_addRowsFrom) := by rfl
theorem zC_11_110 : zfind (zcallT 11) 11 110 = some (0, 2, MX5_addTurn) := by rfl
theorem zC_11_113 : zfind (zcallT 11) 11 113 = some (0, 2, MX5_placeOf) := by rfl
theorem zC_11_120 : zfind (zcallT 11) 11 120 = some (0, 3, MX3_note) := by rfl
theorem zC_11_124 : zfind (zcallT 11) 11 124 = some (0, 2, MX5_change) := by rfl
theorem zC_11_136 : zfind (zcallT 11) 11 136 = some (0, 1, MX9_add) := by rfl
theorem zC_11_140 : zfind (zcallT 11) 11 140 = some (0, 0, MX9_fault) := by rfl
theorem zC_11_147 : zfind (zcallT 11) 11 147 = some (0, 1, MX6_become) := by rfl
theorem zC_11_151 : zfind (zcallT 11) 11 151 = some (0, 0, MX0_forget) := by rfl
theorem zC_11_154 : zfind (zcallT 11) 11 154 = some (0, 0, MX5_planks) := by rfl
theorem zC_11_158 : zfind (zcallT 11) 11 158 = some (0, 5, MX0_given) := by rfl
theorem zC_11_162 : zfind (zcallT 11) 11 162 = some (0, 1, MX11_readProgramme) := by rfl
theorem zC_11_165 : zfind (zcallT 11) 11 165 = some (0, 1, MX10_behind) := by rfl
theorem zC_11_168 : zfind (zcallT 11) 11 168 = some (0, 2, MX11_readProgrammeFor) := by rfl
theorem zC_11_171 : zfind (zcallT 11) 11 171 = some (0, 1, MX10_carriedWithout) := by rfl
theorem zC_11_177 : zfind (zcallT 11) 11 177 = some (0, 3, MX2_fallsOn) := by rfl
theorem zC_11_181 : zfind (zcallT 11) 11 181 = some (0, 2, MX2_carries) := by rfl
theorem zC_11_185 : zfind (zcallT 11) 11 185 = some (0, 3, MX2_longestWait) := by rfl
theorem zC_11_188 : zfind (zcallT 11) 11 188 = some (0, 2, MX10_bytesUntil) := by rfl
theorem zC_11_191 : zfind (zcallT 11) 11 191 = some (0, 0, MX7_bestOrder) := by rfl
theorem zC_11_197 : zfind (zcallT 11) 11 197 = some (0, 1, MX7_fewestFor) := by rfl
theorem zC_11_200 : zfind (zcallT 11) 11 200 = some (1, 1, MX11_isHalf) := by rfl
theorem zC_11_204 : zfind (zcallT 11) 11 204 = some (0, 1, MX10_bestSpared) := by rfl
theorem zC_11_207 : zfind (zcallT 11) 11 207 = some (0, 0, MX10_harmfulRows) := by rfl
theorem zC_11_210 : zfind (zcallT 11) 11 210 = some (0, 2, MX10_bestSeat) := by rfl
theorem zC_11_213 : zfind (zcallT 11) 11 213 = some (0, 0, MX10_moreByEncore) := by rfl
theorem zC_11_216 : zfind (zcallT 11) 11 216 = some (0, 2, MX10_fewestHands) := by rfl
theorem zC_11_219 : zfind (zcallT 11) 11 219 = some (0, 1, MX11_readProgrammeAndSeen) := by rfl
theorem zC_11_222 : zfind (zcallT 11) 11 222 = some (0, 1, MX10_firstUnlike) := by rfl
theorem zC_11_226 : zfind (zcallT 11) 11 226 = some (0, 2, MX10_turnsThatMake) := by rfl
theorem zC_11_230 : zfind (zcallT 11) 11 230 = some (0, 3, MX10_goodsThatMake) := by rfl
theorem zC_11_233 : zfind (zcallT 11) 11 233 = some (0, 2, MX7_ordersThatMake) := by rfl
theorem zC_11_236 : zfind (zcallT 11) 11 236 = some (0, 1, MX10_leastWarm) := by rfl
theorem zC_11_239 : zfind (zcallT 11) 11 239 = some (0, 4, MX10_drawnEvenings) := by rfl
theorem zC_11_246 : zfind (zcallT 11) 11 246 = some (0, 2, MX0_step) := by rfl
theorem zC_11_250 : zfind (zcallT 11) 11 250 = some (1, 1, MX11_isWeightAndPace) := by rfl
theorem zC_11_253 : zfind (zcallT 11) 11 253 = some (0, 3, MX4_someoneCrosses) := by rfl
theorem zC_11_256 : zfind (zcallT 11) 11 256 = some (0, 0, MX4_keepImage) := by rfl
theorem zC_11_263 : zfind (zcallT 11) 11 263 = some (0, 0, MX4_layBack) := by rfl
theorem zC_11_269 : zfind (zcallT 11) 11 269 = some (0, 1, MX3_takeBack) := by rfl
theorem zC_11_276 : zfind (zcallT 11) 11 276 = some (0, 1, MX3_doAgain) := by rfl
theorem zC_11_282 : zfind (zcallT 11) 11 282 = some (0, 1, MX1_add) := by rfl
theorem zC_11_286 : zfind (zcallT 11) 11 286 = some (0, 1, MX1_has) := by rfl
theorem zC_11_289 : zfind (zcallT 11) 11 289 = some (0, 3, MX1_perform) := by rfl
theorem zC_11_300 : zfind (zcallT 11) 11 300 = some (1, 1, MX11_isShelf) := by rfl
theorem zC_11_303 : zfind (zcallT 11) 11 303 = some (0, 1, MX8_hold) := by rfl
theorem zC_11_307 : zfind (zcallT 11) 11 307 = some (0, 2, MX8_holdRow) := by rfl
theorem zC_11_310 : zfind (zcallT 11) 11 310 = some (0, 2, MX11_refusalOfPlace) := by rfl
theorem zC_11_313 : zfind (zcallT 11) 11 313 = some (0, 2, MX8_set) := by rfl
theorem zC_11_323 : zfind (zcallT 11) 11 323 = some (0, 2, MX11_refusalOfTwo) := by rfl
theorem zC_11_326 : zfind (zcallT 11) 11 326 = some (0, 2, MX8_hasPlaces) := by rfl
theorem zC_11_344 : zfind (zcallT 11) 11 344 = some (1, 2, MX1_isUnder) := by rfl
theorem zC_11_350 : zfind (zcallT 11) 11 350 = some (1, 2, MX11_firstNamed) := by rfl
theorem zC_11_356 : zfind (zcallT 11) 11 356 = some (0, 1, MX10_read) := by rfl
theorem zC_11_87 : zfind (zcallT 11) 11 87 = some (1, 2, MX5_fits) := by rfl
theorem zC_11_95 : zfind (zcallT 11) 11 95 = some (0, 3, MX5_addRow) := by rfl
theorem zC_11_99 : zfind (zcallT 11) 11 99 = some (0, 2, MX11_refusal) := by rfl
theorem zC_12_128 : zfind (zcallT 12) 12 128 = some (1, 3, MX12_in) := by rfl
theorem zC_12_135 : zfind (zcallT 12) 12 135 = some (0, 3, MX12_addRow) := by rfl
theorem zC_12_139 : zfind (zcallT 12) 12 139 = some (1, 1, MX12_isShelf) := by rfl
theorem zC_12_148 : zfind (zcallT 12) 12 148 = some (0, 2, MX12_valueAt) := by rfl
theorem zC_12_158 : zfind (zcallT 12) 12 158 = some (0, 3, MX12_lays) := by rfl
theorem zC_12_162 : zfind (zcallT 12) 12 162 = some (0, 1, MX12_isRow) := by rfl
theorem zC_12_165 : zfind (zcallT 12) 12 165 = some (0, 1, MX12_isTurn) := by rfl
theorem zC_12_168 : zfind (zcallT 12) 12 168 = some (0, 2, MX12_isOne) := by rfl
theorem zC_12_172 : zfind (zcallT 12) 12 172 = some (1, 2, MX12_mayBe) := by rfl
theorem zC_12_175 : zfind (zcallT 12) 12 175 = some (0, 3, MX12_changes) := by rfl
theorem zC_12_193 : zfind (zcallT 12) 12 193 = some (0, 0, MX12_wrong) := by rfl
theorem zC_12_196 : zfind (zcallT 12) 12 196 = some (0, 0, MX12_look) := by rfl
theorem zC_12_200 : zfind (zcallT 12) 12 200 = some (0, 2, MX12_addStep) := by rfl
theorem zC_12_204 : zfind (zcallT 12) 12 204 = some (1, 1, MX12_nameOf) := by rfl
theorem zC_12_208 : zfind (zcallT 12) 12 208 = some (0, 0, MX12_opens) := by rfl
theorem zC_12_212 : zfind (zcallT 12) 12 212 = some (0, 0, MX12_operand) := by rfl
theorem zC_12_215 : zfind (zcallT 12) 12 215 = some (0, 0, MX12_either) := by rfl
theorem zC_12_218 : zfind (zcallT 12) 12 218 = some (0, 0, MX12_figure) := by rfl
theorem zC_12_221 : zfind (zcallT 12) 12 221 = some (0, 0, MX12_product) := by rfl
theorem zC_12_224 : zfind (zcallT 12) 12 224 = some (0, 0, MX12_sum) := by rfl
theorem zC_12_227 : zfind (zcallT 12) 12 227 = some (0, 0, MX12_compared) := by rfl
theorem zC_12_230 : zfind (zcallT 12) 12 230 = some (0, 0, MX12_both) := by rfl
theorem zC_12_233 : zfind (zcallT 12) 12 233 = some (0, 0, MX12_line) := by rfl
theorem zC_12_236 : zfind (zcallT 12) 12 236 = some (1, 3, MX12_twoOf) := by rfl
theorem zC_12_239 : zfind (zcallT 12) 12 239 = some (0, 3, MX12_worked) := by rfl
theorem zC_12_242 : zfind (zcallT 12) 12 242 = some (0, 1, MX12_readText) := by rfl
theorem zC_12_249 : zfind (zcallT 12) 12 249 = some (1, 2, MX12_apart) := by rfl
theorem zC_12_252 : zfind (zcallT 12) 12 252 = some (0, 1, MX12_givesText) := by rfl
theorem zC_12_255 : zfind (zcallT 12) 12 255 = some (0, 1, MX12_isPlank) := by rfl
theorem zC_12_258 : zfind (zcallT 12) 12 258 = some (0, 4, MX12_givesBy) := by rfl
theorem zC_12_266 : zfind (zcallT 12) 12 266 = some (0, 2, MX12_thawed) := by rfl
theorem zC_12_269 : zfind (zcallT 12) 12 269 = some (0, 1, MX12_thaw) := by rfl
theorem zC_12_273 : zfind (zcallT 12) 12 273 = some (0, 1, MX12_clap) := by rfl
theorem zC_12_276 : zfind (zcallT 12) 12 276 = some (0, 1, MX12_goTurn) := by rfl
theorem zC_12_282 : zfind (zcallT 12) 12 282 = some (0, 2, MX12_at) := by rfl
theorem zC_12_285 : zfind (zcallT 12) 12 285 = some (0, 0, MX12_beginIce) := by rfl
theorem zC_12_288 : zfind (zcallT 12) 12 288 = some (0, 1, MX12_goByte) := by rfl
theorem zC_12_291 : zfind (zcallT 12) 12 291 = some (0, 2, MX12_goProgramme) := by rfl
theorem zC_12_294 : zfind (zcallT 12) 12 294 = some (0, 2, MX12_rowFault) := by rfl
theorem zC_12_297 : zfind (zcallT 12) 12 297 = some (0, 1, MX12_layProgramme) := by rfl
theorem zC_12_300 : zfind (zcallT 12) 12 300 = some (0, 1, MX12_layOr) := by rfl
theorem zC_12_303 : zfind (zcallT 12) 12 303 = some (0, 0, MX12_goAll) := by rfl
theorem zC_12_306 : zfind (zcallT 12) 12 306 = some (0, 0, MX12_thinnest) := by rfl
theorem zC_12_309 : zfind (zcallT 12) 12 309 = some (1, 1, MX12_areWeight) := by rfl
theorem zC_12_312 : zfind (zcallT 12) 12 312 = some (0, 2, MX12_fallsOn) := by rfl
theorem zC_12_315 : zfind (zcallT 12) 12 315 = some (0, 1, MX12_heaviestAt) := by rfl
theorem zC_12_318 : zfind (zcallT 12) 12 318 = some (0, 3, MX12_holdsBehind) := by rfl
theorem zC_12_327 : zfind (zcallT 12) 12 327 = some (0, 1, MX12_wrongSeen) := by rfl
theorem zC_12_336 : zfind (zcallT 12) 12 336 = some (0, 0, MX12_metOrder) := by rfl
theorem zC_12_339 : zfind (zcallT 12) 12 339 = some (0, 1, MX12_goOrders) := by rfl
theorem zC_12_342 : zfind (zcallT 12) 12 342 = some (0, 1, MX12_findOrders) := by rfl
theorem zC_12_345 : zfind (zcallT 12) 12 345 = some (0, 2, MX12_goesFewest) := by rfl
theorem zC_12_348 : zfind (zcallT 12) 12 348 = some (1, 1, MX12_areShelves) := by rfl
theorem zC_12_351 : zfind (zcallT 12) 12 351 = some (0, 1, MX12_layBoth) := by rfl
theorem zC_12_354 : zfind (zcallT 12) 12 354 = some (0, 2, MX12_isAlone) := by rfl
theorem zC_12_358 : zfind (zcallT 12) 12 358 = some (0, 0, MX12_become) := by rfl
theorem zC_12_370 : zfind (zcallT 12) 12 370 = some (0, 1, MX12_ran) := by rfl
theorem zC_12_373 : zfind (zcallT 12) 12 373 = some (0, 2, MX12_plainBears) := by rfl
theorem zC_12_376 : zfind (zcallT 12) 12 376 = some (1, 2, MX12_isUnder) := by rfl
theorem zC_12_379 : zfind (zcallT 12) 12 379 = some (0, 2, MX12_hissBears) := by rfl
theorem zC_12_382 : zfind (zcallT 12) 12 382 = some (0, 2, MX12_bearing) := by rfl
theorem zC_12_385 : zfind (zcallT 12) 12 385 = some (0, 2, MX12_plainClaps) := by rfl
theorem zC_12_388 : zfind (zcallT 12) 12 388 = some (0, 2, MX12_ovationClaps) := by rfl
theorem zC_12_391 : zfind (zcallT 12) 12 391 = some (0, 2, MX12_thawing) := by rfl
theorem zC_12_394 : zfind (zcallT 12) 12 394 = some (0, 2, MX12_plainThaws) := by rfl
theorem zC_12_397 : zfind (zcallT 12) 12 397 = some (0, 2, MX12_encoreThaws) := by rfl
theorem zC_12_400 : zfind (zcallT 12) 12 400 = some (0, 2, MX12_clapping) := by rfl
theorem zC_12_403 : zfind (zcallT 12) 12 403 = some (0, 2, MX12_plainTells) := by rfl
theorem zC_12_406 : zfind (zcallT 12) 12 406 = some (0, 1, MX12_isBody) := by rfl
theorem zC_12_409 : zfind (zcallT 12) 12 409 = some (0, 2, MX12_telling) := by rfl
theorem zC_12_412 : zfind (zcallT 12) 12 412 = some (0, 2, MX12_whyNoPlace) := by rfl
theorem zC_13_100 : zfind (zcallT 13) 13 100 = some (0, 1, MX12_judge) := by rfl
theorem zC_13_101 : zfind (zcallT 13) 13 101 = some (0, 2, MX11_which) := by rfl
theorem zC_13_104 : zfind (zcallT 13) 13 104 = some (0, 2, MX12_which) := by rfl
theorem zC_13_105 : zfind (zcallT 13) 13 105 = some (0, 3, MX11_good) := by rfl
theorem zC_13_108 : zfind (zcallT 13) 13 108 = some (0, 3, MX12_good) := by rfl
theorem zC_13_109 : zfind (zcallT 13) 13 109 = some (0, 2, MX11_orders) := by rfl
theorem zC_13_112 : zfind (zcallT 13) 13 112 = some (0, 2, MX12_orders) := by rfl
theorem zC_13_113 : zfind (zcallT 13) 13 113 = some (0, 1, MX11_warm) := by rfl
theorem zC_13_116 : zfind (zcallT 13) 13 116 = some (0, 1, MX12_warm) := by rfl
theorem zC_13_117 : zfind (zcallT 13) 13 117 = some (0, 3, MX11_drawn) := by rfl
theorem zC_13_120 : zfind (zcallT 13) 13 120 = some (0, 3, MX12_drawn) := by rfl
theorem zC_13_121 : zfind (zcallT 13) 13 121 = some (0, 1, MX11_play) := by rfl
theorem zC_13_124 : zfind (zcallT 13) 13 124 = some (0, 1, MX12_play) := by rfl
theorem zC_13_125 : zfind (zcallT 13) 13 125 = some (0, 0, MX11_interval) := by rfl
theorem zC_13_128 : zfind (zcallT 13) 13 128 = some (0, 0, MX12_interval) := by rfl
theorem zC_13_129 : zfind (zcallT 13) 13 129 = some (0, 1, MX11_goes) := by rfl
theorem zC_13_13 : zfind (zcallT 13) 13 13 = some (0, 2, MX11_hands) := by rfl
theorem zC_13_132 : zfind (zcallT 13) 13 132 = some (0, 1, MX12_goes) := by rfl
theorem zC_13_133 : zfind (zcallT 13) 13 133 = some (0, 1, MX11_salt) := by rfl
theorem zC_13_136 : zfind (zcallT 13) 13 136 = some (0, 1, MX12_salt) := by rfl
theorem zC_13_137 : zfind (zcallT 13) 13 137 = some (0, 1, MX11_led) := by rfl
theorem zC_13_140 : zfind (zcallT 13) 13 140 = some (0, 1, MX12_led) := by rfl
theorem zC_13_141 : zfind (zcallT 13) 13 141 = some (0, 0, MX11_image) := by rfl
theorem zC_13_144 : zfind (zcallT 13) 13 144 = some (0, 0, MX12_image) := by rfl
theorem zC_13_145 : zfind (zcallT 13) 13 145 = some (0, 0, MX11_back) := by rfl
theorem zC_13_148 : zfind (zcallT 13) 13 148 = some (0, 0, MX12_back) := by rfl
theorem zC_13_149 : zfind (zcallT 13) 13 149 = some (0, 0, MX11_undo) := by rfl
theorem zC_13_152 : zfind (zcallT 13) 13 152 = some (0, 0, MX12_undo) := by rfl
theorem zC_13_153 : zfind (zcallT 13) 13 153 = some (0, 0, MX11_redo) := by rfl
theorem zC_13_156 : zfind (zcallT 13) 13 156 = some (0, 0, MX12_redo) := by rfl
theorem zC_13_157 : zfind (zcallT 13) 13 157 = some (0, 1, MX11_body) := by rfl
theorem zC_13_160 : zfind (zcallT 13) 13 160 = some (0, 1, MX12_body) := by rfl
theorem zC_13_161 : zfind (zcallT 13) 13 161 = some (0, 3, MX11_act) := by rfl
theorem zC_13_164 : zfind (zcallT 13) 13 164 = some (0, 3, MX12_act) := by rfl
theorem zC_13_165 : zfind (zcallT 13) 13 165 = some (0, 1, MX11_trace) := by rfl
theorem zC_13_168 : zfind (zcallT 13) 13 168 = some (0, 1, MX12_trace) := by rfl
theorem zC_13_169 : zfind (zcallT 13) 13 169 = some (0, 2, MX11_keep) := by rfl
theorem zC_13_17 : zfind (zcallT 13) 13 17 = some (0, 2, MX12_hands) := by rfl
theorem zC_13_172 : zfind (zcallT 13) 13 172 = some (0, 2, MX12_keep) := by rfl
theorem zC_13_173 : zfind (zcallT 13) 13 173 = some (0, 3, MX11_row) := by rfl
theorem zC_13_176 : zfind (zcallT 13) 13 176 = some (0, 3, MX12_row) := by rfl
theorem zC_13_179 : zfind (zcallT 13) 13 179 = some (0, 3, MX11_put) := by rfl
theorem zC_13_18 : zfind (zcallT 13) 13 18 = some (0, 3, MX11_rows) := by rfl
theorem zC_13_183 : zfind (zcallT 13) 13 183 = some (0, 3, MX12_put) := by rfl
theorem zC_13_184 : zfind (zcallT 13) 13 184 = some (0, 2, MX11_element) := by rfl
theorem zC_13_188 : zfind (zcallT 13) 13 188 = some (0, 2, MX12_element) := by rfl
theorem zC_13_189 : zfind (zcallT 13) 13 189 = some (0, 5, MX11_shift) := by rfl
theorem zC_13_193 : zfind (zcallT 13) 13 193 = some (0, 5, MX12_shift) := by rfl
theorem zC_13_194 : zfind (zcallT 13) 13 194 = some (0, 2, MX11_taken) := by rfl
theorem zC_13_197 : zfind (zcallT 13) 13 197 = some (0, 2, MX12_taken) := by rfl
theorem zC_13_198 : zfind (zcallT 13) 13 198 = some (0, 1, MX11_count) := by rfl
theorem zC_13_201 : zfind (zcallT 13) 13 201 = some (0, 1, MX12_count) := by rfl
theorem zC_13_22 : zfind (zcallT 13) 13 22 = some (0, 3, MX12_rows) := by rfl
theorem zC_13_23 : zfind (zcallT 13) 13 23 = some (0, 2, MX11_turn) := by rfl
theorem zC_13_26 : zfind (zcallT 13) 13 26 = some (0, 2, MX12_turn) := by rfl
theorem zC_13_27 : zfind (zcallT 13) 13 27 = some (0, 3, MX11_mend) := by rfl
theorem zC_13_30 : zfind (zcallT 13) 13 30 = some (0, 3, MX12_mend) := by rfl
theorem zC_13_31 : zfind (zcallT 13) 13 31 = some (0, 2, MX11_of) := by rfl
theorem zC_13_34 : zfind (zcallT 13) 13 34 = some (0, 2, MX12_of) := by rfl
theorem zC_13_35 : zfind (zcallT 13) 13 35 = some (0, 1, MX11_feed) := by rfl
theorem zC_13_39 : zfind (zcallT 13) 13 39 = some (0, 1, MX12_feed) := by rfl
theorem zC_13_40 : zfind (zcallT 13) 13 40 = some (0, 0, MX11_law) := by rfl
theorem zC_13_44 : zfind (zcallT 13) 13 44 = some (0, 0, MX12_law) := by rfl
theorem zC_13_45 : zfind (zcallT 13) 13 45 = some (0, 2, MX11_gives) := by rfl
theorem zC_13_48 : zfind (zcallT 13) 13 48 = some (0, 2, MX12_gives) := by rfl
theorem zC_13_49 : zfind (zcallT 13) 13 49 = some (0, 2, MX11_ice) := by rfl
theorem zC_13_52 : zfind (zcallT 13) 13 52 = some (0, 2, MX12_ice) := by rfl
theorem zC_13_53 : zfind (zcallT 13) 13 53 = some (0, 2, MX11_cross) := by rfl
theorem zC_13_56 : zfind (zcallT 13) 13 56 = some (0, 2, MX12_cross) := by rfl
theorem zC_13_57 : zfind (zcallT 13) 13 57 = some (0, 2, MX11_heaviest) := by rfl
theorem zC_13_60 : zfind (zcallT 13) 13 60 = some (0, 2, MX12_heaviest) := by rfl
theorem zC_13_61 : zfind (zcallT 13) 13 61 = some (0, 2, MX11_waits) := by rfl
theorem zC_13_64 : zfind (zcallT 13) 13 64 = some (0, 2, MX12_waits) := by rfl
theorem zC_13_65 : zfind (zcallT 13) 13 65 = some (0, 2, MX11_first) := by rfl
theorem zC_13_68 : zfind (zcallT 13) 13 68 = some (0, 2, MX12_first) := by rfl
theorem zC_13_69 : zfind (zcallT 13) 13 69 = some (0, 1, MX11_order) := by rfl
theorem zC_13_72 : zfind (zcallT 13) 13 72 = some (0, 1, MX12_order) := by rfl
theorem zC_13_73 : zfind (zcallT 13) 13 73 = some (0, 2, MX11_fewest) := by rfl
theorem zC_13_76 : zfind (zcallT 13) 13 76 = some (0, 2, MX12_fewest) := by rfl
theorem zC_13_77 : zfind (zcallT 13) 13 77 = some (0, 2, MX11_spare) := by rfl
theorem zC_13_80 : zfind (zcallT 13) 13 80 = some (0, 2, MX12_spare) := by rfl
theorem zC_13_81 : zfind (zcallT 13) 13 81 = some (0, 1, MX11_harm) := by rfl
theorem zC_13_84 : zfind (zcallT 13) 13 84 = some (0, 1, MX12_harm) := by rfl
theorem zC_13_85 : zfind (zcallT 13) 13 85 = some (0, 3, MX11_seat) := by rfl
theorem zC_13_88 : zfind (zcallT 13) 13 88 = some (0, 3, MX12_seat) := by rfl
theorem zC_13_89 : zfind (zcallT 13) 13 89 = some (0, 1, MX11_encore) := by rfl
theorem zC_13_92 : zfind (zcallT 13) 13 92 = some (0, 1, MX12_encore) := by rfl
theorem zC_13_93 : zfind (zcallT 13) 13 93 = some (0, 2, MX11_claque) := by rfl
theorem zC_13_96 : zfind (zcallT 13) 13 96 = some (0, 2, MX12_claque) := by rfl
theorem zC_13_97 : zfind (zcallT 13) 13 97 = some (0, 1, MX11_judge) := by rfl
theorem zC_2_21 : zfind (zcallT 2) 2 21 = some (0, 1, MX5_thawOf) := by rfl
theorem zC_2_27 : zfind (zcallT 2) 2 27 = some (0, 0, MX5_planks) := by rfl
theorem zC_2_40 : zfind (zcallT 2) 2 40 = some (0, 3, MX2_fallsOn) := by rfl
theorem zC_21_492 : zfind (zcallT 21) 21 492 = some (0, 0, MJ0_isLatin1_aae02) := by rfl
theorem zC_21_505 : zfind (zcallT 21) 21 505 = some (0, 0, MJ0_length_8abf5) := by rfl
theorem zC_21_633 : zfind (zcallT 21) 21 633 = some (0, 2, MJ0_indexOf_7cf53) := by rfl
theorem zC_21_637 : zfind (zcallT 21) 21 637 = some (1, 4, MJ1_indexOf_4cfef) := by rfl
theorem zC_22_88 : zfind (zcallT 22) 22 88 = some (1, 1, MJ1_canEncode_9a6ad) := by rfl
theorem zC_22_95 : zfind (zcallT 22) 22 95 = some (1, 4, MJ1_indexOfChar_4cfef) := by rfl
theorem zC_3_23 : zfind (zcallT 3) 3 23 = some (0, 0, MX3_dropOldest) := by rfl
theorem zC_3_35 : zfind (zcallT 3) 3 35 = some (0, 2, MX5_change) := by rfl
theorem zC_4_28 : zfind (zcallT 4) 4 28 = some (0, 3, MX2_fallsOn) := by rfl
theorem zC_4_32 : zfind (zcallT 4) 4 32 = some (0, 0, MX5_planks) := by rfl
theorem zC_4_38 : zfind (zcallT 4) 4 38 = some (0, 2, MX2_thaw) := by rfl
theorem zC_4_45 : zfind (zcallT 4) 4 45 = some (0, 1, MX2_become) := by rfl
theorem zC_5_40 : zfind (zcallT 5) 5 40 = some (1, 2, MX5_fits) := by rfl
theorem zC_5_44 : zfind (zcallT 5) 5 44 = some (0, 3, MX5_addRow) := by rfl
theorem zC_6_29 : zfind (zcallT 6) 6 29 = some (0, 1, MX6_add) := by rfl
theorem zC_7_43 : zfind (zcallT 7) 7 43 = some (0, 0, MX7_beginOrders) := by rfl
theorem zC_7_47 : zfind (zcallT 7) 7 47 = some (0, 2, MX7_playFrom) := by rfl
theorem zC_7_51 : zfind (zcallT 7) 7 51 = some (0, 2, MX2_carries) := by rfl
theorem zC_7_55 : zfind (zcallT 7) 7 55 = some (0, 0, MX7_choose) := by rfl
theorem zC_7_58 : zfind (zcallT 7) 7 58 = some (0, 1, MX7_nextOrder) := by rfl
theorem zC_7_62 : zfind (zcallT 7) 7 62 = some (0, 0, MX5_planks) := by rfl
theorem zC_7_65 : zfind (zcallT 7) 7 65 = some (0, 2, MX8_firstUnlike) := by rfl
theorem zC_7_71 : zfind (zcallT 7) 7 71 = some (0, 1, MX7_asDigits) := by rfl
theorem zC_7_74 : zfind (zcallT 7) 7 74 = some (0, 1, MX2_become) := by rfl
theorem zC_7_78 : zfind (zcallT 7) 7 78 = some (1, 2, MJ7_fill_53178) := by rfl
theorem zC_7_84 : zfind (zcallT 7) 7 84 = some (0, 1, MX7_nextPick) := by rfl
theorem zC_7_87 : zfind (zcallT 7) 7 87 = some (0, 2, MX0_step) := by rfl
theorem zC_7_99 : zfind (zcallT 7) 7 99 = some (0, 2, MX7_swap) := by rfl
theorem zC_8_28 : zfind (zcallT 8) 8 28 = some (1, 2, MJ7_fill_d0a16) := by rfl
theorem zC_8_34 : zfind (zcallT 8) 8 34 = some (0, 1, MX8_held) := by rfl
theorem zC_9_29 : zfind (zcallT 9) 9 29 = some (0, 0, MX6_clear) := by rfl
theorem zC_9_32 : zfind (zcallT 9) 9 32 = some (0, 0, MX9_readLine) := by rfl
theorem zC_9_36 : zfind (zcallT 9) 9 36 = some (0, 1, MX9_take) := by rfl
theorem zC_9_40 : zfind (zcallT 9) 9 40 = some (0, 2, MX9_readLevel) := by rfl
theorem zC_9_45 : zfind (zcallT 9) 9 45 = some (0, 1, MX6_add) := by rfl
theorem zC_9_49 : zfind (zcallT 9) 9 49 = some (0, 1, MX6_endLine) := by rfl
theorem zC_9_52 : zfind (zcallT 9) 9 52 = some (0, 1, MX9_readOperand) := by rfl
theorem zC_9_56 : zfind (zcallT 9) 9 56 = some (0, 1, MX9_takeJoin) := by rfl
theorem zC_9_62 : zfind (zcallT 9) 9 62 = some (0, 1, MJ0_indexOf_0f7a4) := by rfl
theorem zC_9_70 : zfind (zcallT 9) 9 70 = some (1, 1, MX9_isDigit) := by rfl
theorem zC_9_73 : zfind (zcallT 9) 9 73 = some (0, 0, MX9_readNumber) := by rfl
theorem zC_9_78 : zfind (zcallT 9) 9 78 = some (0, 1, MX9_readOpened) := by rfl
theorem zPF_0_5 : zpfok 0 5 = true := by decide +kernel
theorem zPF_0_6 : zpfok 0 6 = true := by decide +kernel
theorem zPF_1_2 : zpfok 1 2 = true := by decide +kernel
theorem zPF_1_3 : zpfok 1 3 = true := by decide +kernel
theorem zPF_1_4 : zpfok 1 4 = true := by decide +kernel
theorem zPF_1_5 : zpfok 1 5 = true := by decide +kernel
theorem zPF_10_4 : zpfok 10 4 = true := by decide +kernel
theorem zPF_10_5 : zpfok 10 5 = true := by decide +kernel
theorem zPF_12_1 : zpfok 12 1 = true := by decide +kernel
theorem zPF_12_10 : zpfok 12 10 = true := by decide +kernel
theorem zPF_12_11 : zpfok 12 11 = true := by decide +kernel
theorem zPF_12_12 : zpfok 12 12 = true := by decide +kernel
theorem zPF_12_13 : zpfok 12 13 = true := by decide +kernel
theorem zPF_12_14 : zpfok 12 14 = true := by decide +kernel
theorem zPF_12_20 : zpfok 12 20 = true := by decide +kernel
theorem zPF_12_21 : zpfok 12 21 = true := by decide +kernel
theorem zPF_12_22 : zpfok 12 22 = true := by decide +kernel
theorem zPF_12_23 : zpfok 12 23 = true := by decide +kernel
theorem zPF_12_24 : zpfok 12 24 = true := by decide +kernel
theorem zPF_12_36 : zpfok 12 36 = true := by decide +kernel
theorem zPF_12_37 : zpfok 12 37 = true := by decide +kernel
theorem zPF_12_39 : zpfok 12 39 = true := by decide +kernel
theorem zPF_12_41 : zpfok 12 41 = true := by decide +kernel
theorem zPF_12_42 : zpfok 12 42 = true := by decide +kernel
theorem zPF_12_43 : zpfok 12 43 = true := by decide +kernel
theorem zPF_12_44 : zpfok 12 44 = true := by decide +kernel
theorem zPF_12_49 : zpfok 12 49 = true := by decide +kernel
theorem zPF_12_51 : zpfok 12 51 = true := by decide +kernel
theorem zPF_12_6 : zpfok 12 6 = true := by decide +kernel
theorem zPF_12_9 : zpfok 12 9 = true := by decide +kernel
theorem zPF_3_3 : zpfok 3 3 = true := by decide +kernel
theorem zPF_3_4 : zpfok 3 4 = true := by decide +kernel
theorem zPF_5_1 : zpfok 5 1 = true := by decide +kernel
theorem zPF_5_2 : zpfok 5 2 = true := by decide +kernel
theorem zPF_5_3 : zpfok 5 3 = true := by decide +kernel
theorem zPF_6_3 : zpfok 6 3 = true := by decide +kernel
theorem zPF_8_1 : zpfok 8 1 = true := by decide +kernel
theorem zPF_8_2 : zpfok 8 2 = true := by decide +kernel
theorem zPF_8_3 : zpfok 8 3 = true := by decide +kernel
theorem zPF_8_4 : zpfok 8 4 = true := by decide +kernel
theorem zPF_9_2 : zpfok 9 2 = true := by decide +kernel
theorem zPF_9_3 : zpfok 9 3 = true := by decide +kernel
theorem zPZ_12_32 : (decide (12 < 13) && decide (32 < znum 12) && (!(zfin 12 32))) = true := by decide +kernel
theorem zPZ_12_46 : (decide (12 < 13) && decide (46 < znum 12) && (!(zfin 12 46))) = true := by decide +kernel
theorem zPZ_4_4 : (decide (4 < 13) && decide (4 < znum 4) && (!(zfin 4 4))) = true := by decide +kernel
theorem zPZ_6_4 : (decide (6 < 13) && decide (4 < znum 6) && (!(zfin 6 4))) = true := by decide +kernel
theorem zB_at {i : Int32} (h : zin i 7 = true) : zisB (49 + 2 * ix i) = true := zB_all _ (Nat.not_le.mp fun q => (zin_iff.mp h) (Or.inr q))
theorem zS_at {i : Int32} (h : zin i 6 = true) : zisS (29 + 2 * ix i) = true := zS_all _ (Nat.not_le.mp fun q => (zin_iff.mp h) (Or.inr q))
theorem zra28 : ∀ j, j < 6 → ([29, 31, 33, 35, 37, 39] : List Nat)[j]? = some (29 + 2 * j) := by decide
theorem zra46 : ∀ j, j < 7 → ([49, 51, 53, 55, 57, 59, 61] : List Nat)[j]? = some (49 + 2 * j) := by decide
theorem z_recv {σ : zS} {k c : Nat} {fs : List (Option Nat)} (hk : k < zN) (hs : zshp k = .inl (c, fs)) : zrecv (zen σ) c k = true := by
  unfold zrecv
  rw [if_pos (zN_lt hk), zen_at σ hk]
  unfold zcell zmk
  rw [hs]
  exact decide_eq_true rfl
theorem z_rfiE {σ : zS} {k c j : Nat} {fs : List (Option Nat)} {x : Int32} (hk : k < zN) (hs : zshp k = .inl (c, fs)) (hc : c ≠ 100) (hj : fs[j]? = some none) (e : gi σ k j = x) : zrf (zen σ) c j k = some (.int x) := by subst e; exact z_rfi hk hs hc hj
theorem z_ia1 {X : zX} {σ : zS} {k n : Nat} {rs : List Nat} (hk : k < zN) (hs : zshp k = .inr (1, n, rs)) : zia X (zen σ) 0 k = none := by
  unfold zia
  have e : zcell σ k = .inl (1, n, .inr (.inl (σ.2 k))) := by unfold zcell; rw [hs]; rfl
  rw [if_pos (zN_lt hk), zen_at σ hk, e]
theorem ztrue_and {A B : Prop} (h : A) : (A ∧ B) = B := propext ⟨fun q => q.2, fun q => ⟨h, q⟩⟩
theorem zassoc {A B C : Prop} : (A ∧ (B ∧ C)) = ((A ∧ B) ∧ C) := propext ⟨fun q => ⟨⟨q.1, q.2.1⟩, q.2.2⟩, fun q => ⟨q.1.1, q.1.2, q.2⟩⟩
theorem zdpos {A B C : Prop} (e : A = (B ∧ C)) (h : B) : A = C := e.trans (ztrue_and h)
theorem zif_intro {c : Prop} [Decidable c] {A : Prop} : A = (if c then A else A) := by split <;> rfl
theorem zsite {c : Prop} [Decidable c] {A B1 B2 : Prop} (h1 : c → A = B1) (h2 : ¬ c → A = B2) : A = (if c then B1 else B2) := by
  by_cases h : c
  · rw [if_pos h]; exact h1 h
  · rw [if_neg h]; exact h2 h
def zne (x : Int32) (ks : List Int32) : Prop := match ks with
  | [] => True
  | k :: r => ¬ x = k ∧ zne x r
theorem zne_not {x : Int32} : ∀ {ks : List Int32}, zne x ks → x ∉ ks := by
  intro ks
  induction ks with
  | nil => intro _ h; cases h
  | cons k r ih =>
    intro h hm
    rcases List.mem_cons.mp hm with e | e
    · exact h.1 e
    · exact ih h.2 e
theorem zsw_at {pc pc' : Nat} {df lo hi : Int} {offs : List Int} {x k : Int32} (hx : x = k) (e : zswp pc df lo hi offs k = pc') : zswp pc df lo hi offs x = pc' := by subst hx; exact e
theorem zlw_at {pc pc' : Nat} {df : Int} {ps : List (Int × Int)} {x k : Int32} (hx : x = k) (e : zlwp pc df ps k = pc') : zlwp pc df ps x = pc' := by subst hx; exact e
theorem zsw_df {pc pc' : Nat} {df lo hi : Int} {offs : List Int} {x : Int32} (ks : List Int32) (e : ((pc : Int) + df).toNat = pc') (chk : (List.range offs.length).all (fun i => decide (offs.getD i df = df) || ks.contains (Int32.ofInt (lo + (i : Nat)))) = true) (hs : zne x ks) : zswp pc df lo hi offs x = pc' := by
  unfold zswp
  by_cases hc : x.toInt < lo ∨ hi < x.toInt
  · rw [if_pos hc]; exact e
  · rw [if_neg hc]
    by_cases hl : (x.toInt - lo).toNat < offs.length
    · have h1 := List.all_eq_true.mp chk _ (List.mem_range.mpr hl)
      rw [Bool.or_eq_true, decide_eq_true_eq] at h1
      rcases h1 with h1 | h1
      · rw [h1]; exact e
      · exfalso
        have e2 : lo + ((x.toInt - lo).toNat : Int) = x.toInt := by omega
        rw [e2, Int32.ofInt_toInt] at h1
        exact zne_not hs (List.contains_iff_mem.mp h1)
    · rw [List.getD_eq_getElem?_getD, List.getElem?_eq_none (by omega)]
      exact e
theorem zlsw_ok {pc : Nat} {df : Int} {ps : List (Int × Int)} {x : Int} (h : (ps.all fun q => decide (0 ≤ (pc : Int) + q.2)) = true) (hd : 0 ≤ (pc : Int) + df) : 0 ≤ (pc : Int) + Op.lookupswitch.offset ps df x := by
  induction ps with
  | nil => exact hd
  | cons q r ih =>
    obtain ⟨a, o⟩ := q
    rw [List.all_cons, Bool.and_eq_true] at h
    rw [Op.lookupswitch.offset_cons]
    split
    · exact of_decide_eq_true h.1
    · exact ih h.2
theorem zlw_df {pc pc' : Nat} {df : Int} {ps : List (Int × Int)} {x : Int32} (ks : List Int32) (e : ((pc : Int) + df).toNat = pc') (chk : ps.all (fun q => ks.contains (Int32.ofInt q.1)) = true) (hs : zne x ks) : zlwp pc df ps x = pc' := by
  unfold zlwp
  have : Op.lookupswitch.offset ps df x.toInt = df := by
    clear e
    induction ps with
    | nil => rfl
    | cons q r ih =>
      obtain ⟨a, o⟩ := q
      rw [List.all_cons, Bool.and_eq_true] at chk
      rw [Op.lookupswitch.offset_cons, if_neg, ih chk.2]
      intro ha
      have h1 := chk.1
      rw [ha, Int32.ofInt_toInt] at h1
      exact zne_not hs (List.contains_iff_mem.mp h1)
  rw [this]; exact e
section ZIT
variable {A B p1 p2 : Prop} {Q : Option Value → zH → Prop} {x1 x2 x : Int32} {y1 y2 y : Int64} {s1 s2 s : zS}
theorem zit_aux {c : Prop} [Decidable c] {R R1 R2 : Prop} (e1 : c → R = R1) (e2 : ¬ c → R = R2) (h1 : c → A = R1) (h2 : ¬ c → B = R2) : (if c then A else B) = R := by
  by_cases h : c
  · rw [if_pos h, h1 h, e1 h]
  · rw [if_neg h, h2 h, e2 h]
theorem zitn {c : Prop} [Decidable c] (h1 : c → A = Q none (zen s)) (h2 : ¬ c → B = Q none (zen s)) : (if c then A else B) = Q none (zen s) := zit_aux (fun _ => rfl) (fun _ => rfl) h1 h2
theorem zitns {c : Prop} [Decidable c] (h1 : c → A = Q none (zen s1)) (h2 : ¬ c → B = Q none (zen s2)) : (if c then A else B) = Q none (zen (if c then s1 else s2)) := zit_aux (fun h => by rw [if_pos h]) (fun h => by rw [if_neg h]) h1 h2
theorem ziti {c : Prop} [Decidable c] (h1 : c → A = Q (some (.int x1)) (zen s)) (h2 : ¬ c → B = Q (some (.int x2)) (zen s)) : (if c then A else B) = Q (some (.int (if c then x1 else x2))) (zen s) := zit_aux (fun h => by rw [if_pos h]) (fun h => by rw [if_neg h]) h1 h2
theorem zitis {c : Prop} [Decidable c] (h1 : c → A = Q (some (.int x1)) (zen s1)) (h2 : ¬ c → B = Q (some (.int x2)) (zen s2)) : (if c then A else B) = Q (some (.int (if c then x1 else x2))) (zen (if c then s1 else s2)) := zit_aux (fun h => by rw [if_pos h, if_pos h]) (fun h => by rw [if_neg h, if_neg h]) h1 h2
theorem zitik {c : Prop} [Decidable c] (h1 : c → A = Q (some (.int x)) (zen s)) (h2 : ¬ c → B = Q (some (.int x)) (zen s)) : (if c then A else B) = Q (some (.int x)) (zen s) := zit_aux (fun _ => rfl) (fun _ => rfl) h1 h2
theorem zitiks {c : Prop} [Decidable c] (h1 : c → A = Q (some (.int x)) (zen s1)) (h2 : ¬ c → B = Q (some (.int x)) (zen s2)) : (if c then A else B) = Q (some (.int x)) (zen (if c then s1 else s2)) := zit_aux (fun h => by rw [if_pos h]) (fun h => by rw [if_neg h]) h1 h2
theorem zitj {c : Prop} [Decidable c] (h1 : c → A = Q (some (.long y1)) (zen s)) (h2 : ¬ c → B = Q (some (.long y2)) (zen s)) : (if c then A else B) = Q (some (.long (if c then y1 else y2))) (zen s) := zit_aux (fun h => by rw [if_pos h]) (fun h => by rw [if_neg h]) h1 h2
theorem zitjs {c : Prop} [Decidable c] (h1 : c → A = Q (some (.long y1)) (zen s1)) (h2 : ¬ c → B = Q (some (.long y2)) (zen s2)) : (if c then A else B) = Q (some (.long (if c then y1 else y2))) (zen (if c then s1 else s2)) := zit_aux (fun h => by rw [if_pos h, if_pos h]) (fun h => by rw [if_neg h, if_neg h]) h1 h2
theorem zitpn {c : Prop} [Decidable c] (h1 : c → A = (p1 ∧ Q none (zen s))) (h2 : ¬ c → B = (p2 ∧ Q none (zen s))) : (if c then A else B) = ((if c then p1 else p2) ∧ Q none (zen s)) := zit_aux (fun h => by rw [if_pos h]) (fun h => by rw [if_neg h]) h1 h2
theorem zitpns {c : Prop} [Decidable c] (h1 : c → A = (p1 ∧ Q none (zen s1))) (h2 : ¬ c → B = (p2 ∧ Q none (zen s2))) : (if c then A else B) = ((if c then p1 else p2) ∧ Q none (zen (if c then s1 else s2))) := zit_aux (fun h => by rw [if_pos h, if_pos h]) (fun h => by rw [if_neg h, if_neg h]) h1 h2
theorem zitpi {c : Prop} [Decidable c] (h1 : c → A = (p1 ∧ Q (some (.int x1)) (zen s))) (h2 : ¬ c → B = (p2 ∧ Q (some (.int x2)) (zen s))) : (if c then A else B) = ((if c then p1 else p2) ∧ Q (some (.int (if c then x1 else x2))) (zen s)) := zit_aux (fun h => by rw [if_pos h, if_pos h]) (fun h => by rw [if_neg h, if_neg h]) h1 h2
theorem zitpis {c : Prop} [Decidable c] (h1 : c → A = (p1 ∧ Q (some (.int x1)) (zen s1))) (h2 : ¬ c → B = (p2 ∧ Q (some (.int x2)) (zen s2))) : (if c then A else B) = ((if c then p1 else p2) ∧ Q (some (.int (if c then x1 else x2))) (zen (if c then s1 else s2))) := zit_aux (fun h => by rw [if_pos h, if_pos h, if_pos h]) (fun h => by rw [if_neg h, if_neg h, if_neg h]) h1 h2
theorem zitpik {c : Prop} [Decidable c] (h1 : c → A = (p1 ∧ Q (some (.int x)) (zen s))) (h2 : ¬ c → B = (p2 ∧ Q (some (.int x)) (zen s))) : (if c then A else B) = ((if c then p1 else p2) ∧ Q (some (.int x)) (zen s)) := zit_aux (fun h => by rw [if_pos h]) (fun h => by rw [if_neg h]) h1 h2
theorem zitpiks {c : Prop} [Decidable c] (h1 : c → A = (p1 ∧ Q (some (.int x)) (zen s1))) (h2 : ¬ c → B = (p2 ∧ Q (some (.int x)) (zen s2))) : (if c then A else B) = ((if c then p1 else p2) ∧ Q (some (.int x)) (zen (if c then s1 else s2))) := zit_aux (fun h => by rw [if_pos h, if_pos h]) (fun h => by rw [if_neg h, if_neg h]) h1 h2
theorem zitpj {c : Prop} [Decidable c] (h1 : c → A = (p1 ∧ Q (some (.long y1)) (zen s))) (h2 : ¬ c → B = (p2 ∧ Q (some (.long y2)) (zen s))) : (if c then A else B) = ((if c then p1 else p2) ∧ Q (some (.long (if c then y1 else y2))) (zen s)) := zit_aux (fun h => by rw [if_pos h, if_pos h]) (fun h => by rw [if_neg h, if_neg h]) h1 h2
theorem zitpjs {c : Prop} [Decidable c] (h1 : c → A = (p1 ∧ Q (some (.long y1)) (zen s1))) (h2 : ¬ c → B = (p2 ∧ Q (some (.long y2)) (zen s2))) : (if c then A else B) = ((if c then p1 else p2) ∧ Q (some (.long (if c then y1 else y2))) (zen (if c then s1 else s2))) := zit_aux (fun h => by rw [if_pos h, if_pos h, if_pos h]) (fun h => by rw [if_neg h, if_neg h, if_neg h]) h1 h2
end ZIT
section ZQ2
variable {X : zX} {d : Nat} {m m' : zM} {pc pc' : Nat} {ls st l0 rest : List Value} {h h2 : zH} {Q : Option Value → zH → Prop} {A p : Prop}
theorem zpc_eq (e : pc = pc') : zwp X d m pc ls st h Q = zwp X d m pc' ls st h Q := by subst e; rfl
theorem q_sumI {x : Int32} (e1 : A = (0 < d ∧ zwp X (d - 1) m' 0 l0 [] h (fun v h' => zwp X d m pc' ls (zpsh v rest) h' Q))) (hd : 0 < d) (e2 : zwp X (d - 1) m' 0 l0 [] h (fun v h' => zwp X d m pc' ls (zpsh v rest) h' Q) = zwp X d m pc' ls (.int x :: rest) h2 Q) : A = zwp X d m pc' ls (.int x :: rest) h2 Q := (zdpos e1 hd).trans e2
theorem q_sumJ {x : Int64} (e1 : A = (0 < d ∧ zwp X (d - 1) m' 0 l0 [] h (fun v h' => zwp X d m pc' ls (zpsh v rest) h' Q))) (hd : 0 < d) (e2 : zwp X (d - 1) m' 0 l0 [] h (fun v h' => zwp X d m pc' ls (zpsh v rest) h' Q) = zwp X d m pc' ls (.long x :: rest) h2 Q) : A = zwp X d m pc' ls (.long x :: rest) h2 Q := (zdpos e1 hd).trans e2
theorem q_sumN (e1 : A = (0 < d ∧ zwp X (d - 1) m' 0 l0 [] h (fun v h' => zwp X d m pc' ls (zpsh v rest) h' Q))) (hd : 0 < d) (e2 : zwp X (d - 1) m' 0 l0 [] h (fun v h' => zwp X d m pc' ls (zpsh v rest) h' Q) = zwp X d m pc' ls rest h2 Q) : A = zwp X d m pc' ls rest h2 Q := (zdpos e1 hd).trans e2
theorem q_sumIP {x : Int32} (e1 : A = (0 < d ∧ zwp X (d - 1) m' 0 l0 [] h (fun v h' => zwp X d m pc' ls (zpsh v rest) h' Q))) (hd : 0 < d) (e2 : zwp X (d - 1) m' 0 l0 [] h (fun v h' => zwp X d m pc' ls (zpsh v rest) h' Q) = (p ∧ zwp X d m pc' ls (.int x :: rest) h2 Q)) : A = (p ∧ zwp X d m pc' ls (.int x :: rest) h2 Q) := (zdpos e1 hd).trans e2
theorem q_sumJP {x : Int64} (e1 : A = (0 < d ∧ zwp X (d - 1) m' 0 l0 [] h (fun v h' => zwp X d m pc' ls (zpsh v rest) h' Q))) (hd : 0 < d) (e2 : zwp X (d - 1) m' 0 l0 [] h (fun v h' => zwp X d m pc' ls (zpsh v rest) h' Q) = (p ∧ zwp X d m pc' ls (.long x :: rest) h2 Q)) : A = (p ∧ zwp X d m pc' ls (.long x :: rest) h2 Q) := (zdpos e1 hd).trans e2
theorem q_sumNP (e1 : A = (0 < d ∧ zwp X (d - 1) m' 0 l0 [] h (fun v h' => zwp X d m pc' ls (zpsh v rest) h' Q))) (hd : 0 < d) (e2 : zwp X (d - 1) m' 0 l0 [] h (fun v h' => zwp X d m pc' ls (zpsh v rest) h' Q) = (p ∧ zwp X d m pc' ls rest h2 Q)) : A = (p ∧ zwp X d m pc' ls rest h2 Q) := (zdpos e1 hd).trans e2
theorem qe_iaload {i x : Int32} {a n : Nat} {f : Nat → Int32} (hd : decode m.2.2.1 pc = .ok (.iaload, 1)) (ha : zia X h 0 a = some (n, f)) (e : f (ix i) = x) : zwp X d m pc ls (.int i :: .ref a :: st) h Q = (zin i n = true ∧ zwp X d m (pc + 1) ls (.int x :: st) h Q) := by subst e; exact q_iaload hd ha
theorem qe_baload {i x : Int32} {a n : Nat} {f : Nat → Int32} (hd : decode m.2.2.1 pc = .ok (.baload, 1)) (ha : zia X h 2 a = some (n, f)) (e : f (ix i) = x) : zwp X d m pc ls (.int i :: .ref a :: st) h Q = (zin i n = true ∧ zwp X d m (pc + 1) ls (.int x :: st) h Q) := by subst e; exact q_baload hd ha
theorem qe_saload {i x : Int32} {a n : Nat} {f : Nat → Int32} (hd : decode m.2.2.1 pc = .ok (.saload, 1)) (ha : zia X h 3 a = some (n, f)) (e : f (ix i) = x) : zwp X d m pc ls (.int i :: .ref a :: st) h Q = (zin i n = true ∧ zwp X d m (pc + 1) ls (.int x :: st) h Q) := by subst e; exact q_saload hd ha
theorem qe_laload {i : Int32} {x : Int64} {a n : Nat} {f : Nat → Int64} (hd : decode m.2.2.1 pc = .ok (.laload, 1)) (ha : zla h a = some (n, f)) (e : f (ix i) = x) : zwp X d m pc ls (.int i :: .ref a :: st) h Q = (zin i n = true ∧ zwp X d m (pc + 1) ls (.long x :: st) h Q) := by subst e; exact q_laload hd ha
theorem q_pf {idx c k a : Nat} {x : Int32} {h' : zH} (hd : decode m.2.2.1 pc = .ok (.putfield idx, 3)) (hf : zfind zfldT m.1 idx = some (c, k)) (hc : zpfok c k = true) (hv : zpf h c k a (.int x) = some h') : zwp X d m pc ls (.int x :: .ref a :: st) h Q = zwp X d m (pc + 3) ls st h' Q := by
  unfold zpfok at hc
  simp only [Bool.and_eq_true, decide_eq_true_eq] at hc
  refine q_putf hd hf ?_ hc.2 hv
  simp [hc.1.1.1, hc.1.1.2, hc.1.2]
theorem q_pz {idx c k a : Nat} {x : Int32} {h' : zH} (hd : decode m.2.2.1 pc = .ok (.putfield idx, 3)) (hf : zfind zfldT m.1 idx = some (c, k)) (hc : (decide (c < 13) && decide (k < znum c) && (!(zfin c k))) = true) (ht : ztyX c k = .boolean) (hv : zpf h c k a (.int x) = some h') : zwp X d m pc ls (.int x :: .ref a :: st) h Q = (zfits .boolean (.int x) = true ∧ zwp X d m (pc + 3) ls st h' Q) := by
  refine q_putz hd hf ?_ ht hv
  simp only [Bool.and_eq_true, decide_eq_true_eq] at hc
  simp [hc.1.1, hc.1.2, hc.2]
theorem q_zmx {idx : Nat} {x y : Int32} (hd : decode m.2.2.1 pc = .ok (.invokestatic idx, 3)) (hp : zfind zspT m.1 idx = some 2) (hk : zcat st ≤ 8) : zwp X d m pc ls (.int y :: .int x :: st) h Q = zwp X d m (pc + 3) ls (.int (zmx x y) :: st) h Q := q_max hd hp hk
theorem q_zmn {idx : Nat} {x y : Int32} (hd : decode m.2.2.1 pc = .ok (.invokestatic idx, 3)) (hp : zfind zspT m.1 idx = some 3) (hk : zcat st ≤ 8) : zwp X d m pc ls (.int y :: .int x :: st) h Q = zwp X d m (pc + 3) ls (.int (zmn x y) :: st) h Q := q_min hd hp hk
theorem q_zab {idx : Nat} {x : Int32} (hd : decode m.2.2.1 pc = .ok (.invokestatic idx, 3)) (hp : zfind zspT m.1 idx = some 4) (hk : zcat st ≤ 8) : zwp X d m pc ls (.int x :: st) h Q = zwp X d m (pc + 3) ls (.int (zab x) :: st) h Q := q_abs hd hp hk
theorem q_zretK {x : Int32} (hd : decode m.2.2.1 pc = .ok (.ireturn, 1)) (hr : m.2.2.2.2 = some .boolean) (hx : x = 0 ∨ x = 1) : zwp X d m pc ls [.int x] h Q = Q (some (.int x)) h := by
  rw [q_zret hd hr]
  refine ztrue_and ?_
  rcases hx with rfl | rfl <;> decide
end ZQ2
