theorem sh_0 : shIs 0 10 [3, 10, 52, 54, 62, 96, 99, 103] := rfl
theorem iu_0 (u : Bool) (h : u = true) : inU u 0 = true := by subst h; rfl
theorem sh_1 : shIs 1 8 [0, 0, 0, 0, 0, 0, 1, 1, 1, 4, 5, 6, 7, 8, 9] := rfl
theorem iu_1 (u : Bool) : inU u 1 = true := by cases u <;> rfl
theorem sh_2 : shIs 2 12 [36] := rfl
theorem iu_2 (u : Bool) : inU u 2 = true := by cases u <;> rfl
theorem sh_3 : shIs 3 12 [36] := rfl
theorem iu_3 (u : Bool) : inU u 3 = true := by cases u <;> rfl
theorem sh_4 : shIs 4 13 [36] := rfl
theorem iu_4 (u : Bool) : inU u 4 = true := by cases u <;> rfl
theorem sh_5 : shIs 5 13 [60] := rfl
theorem iu_5 (u : Bool) : inU u 5 = true := by cases u <;> rfl
theorem sh_6 : shIs 6 13 [60] := rfl
theorem iu_6 (u : Bool) : inU u 6 = true := by cases u <;> rfl
theorem sh_7 : shIs 7 13 [60] := rfl
theorem iu_7 (u : Bool) : inU u 7 = true := by cases u <;> rfl
theorem sh_8 : shIs 8 2 [0, 11] := rfl
theorem iu_8 (u : Bool) (h : u = true) : inU u 8 = true := by subst h; rfl
theorem sh_9 : shIs 9 15 [10, 14, 18, 22, 26, 30, 34, 38, 42, 46] := rfl
theorem iu_9 (u : Bool) (h : u = true) : inU u 9 = true := by subst h; rfl
theorem sh_10 : shIs 10 0 [0, 0, 0, 0, 0, 0, 0, 0, 13] := rfl
theorem iu_10 (u : Bool) (h : u = true) : inU u 10 = true := by subst h; rfl
theorem sh_11 : shIs 11 9 [0, 0, 14, 15] := rfl
theorem iu_11 (u : Bool) (h : u = true) : inU u 11 = true := by subst h; rfl
theorem sh_12 : shIs 12 12 [31] := rfl
theorem iu_12 (u : Bool) (h : u = true) : inU u 12 = true := by subst h; rfl
theorem sh_13 : shIs 13 12 [30] := rfl
theorem iu_13 (u : Bool) (h : u = true) : inU u 13 = true := by subst h; rfl
theorem sh_14 : shIs 14 0 [0, 0, 0, 0, 0, 0, 0, 0, 17] := rfl
theorem iu_14 (u : Bool) (h : u = true) : inU u 14 = true := by subst h; rfl
theorem sh_15 : shIs 15 9 [0, 0, 18, 19] := rfl
theorem iu_15 (u : Bool) (h : u = true) : inU u 15 = true := by subst h; rfl
theorem sh_16 : shIs 16 12 [31] := rfl
theorem iu_16 (u : Bool) (h : u = true) : inU u 16 = true := by subst h; rfl
theorem sh_17 : shIs 17 12 [30] := rfl
theorem iu_17 (u : Bool) (h : u = true) : inU u 17 = true := by subst h; rfl
theorem sh_18 : shIs 18 0 [0, 0, 0, 0, 0, 0, 0, 0, 21] := rfl
theorem iu_18 (u : Bool) (h : u = true) : inU u 18 = true := by subst h; rfl
theorem sh_19 : shIs 19 9 [0, 0, 22, 23] := rfl
theorem iu_19 (u : Bool) (h : u = true) : inU u 19 = true := by subst h; rfl
theorem sh_20 : shIs 20 12 [31] := rfl
theorem iu_20 (u : Bool) (h : u = true) : inU u 20 = true := by subst h; rfl
theorem sh_21 : shIs 21 12 [30] := rfl
theorem iu_21 (u : Bool) (h : u = true) : inU u 21 = true := by subst h; rfl
theorem sh_22 : shIs 22 0 [0, 0, 0, 0, 0, 0, 0, 0, 25] := rfl
theorem iu_22 (u : Bool) (h : u = true) : inU u 22 = true := by subst h; rfl
theorem sh_23 : shIs 23 9 [0, 0, 26, 27] := rfl
theorem iu_23 (u : Bool) (h : u = true) : inU u 23 = true := by subst h; rfl
theorem sh_24 : shIs 24 12 [31] := rfl
theorem iu_24 (u : Bool) (h : u = true) : inU u 24 = true := by subst h; rfl
theorem sh_25 : shIs 25 12 [30] := rfl
theorem iu_25 (u : Bool) (h : u = true) : inU u 25 = true := by subst h; rfl
theorem sh_26 : shIs 26 0 [0, 0, 0, 0, 0, 0, 0, 0, 29] := rfl
theorem iu_26 (u : Bool) (h : u = true) : inU u 26 = true := by subst h; rfl
theorem sh_27 : shIs 27 9 [0, 0, 30, 31] := rfl
theorem iu_27 (u : Bool) (h : u = true) : inU u 27 = true := by subst h; rfl
theorem sh_28 : shIs 28 12 [31] := rfl
theorem iu_28 (u : Bool) (h : u = true) : inU u 28 = true := by subst h; rfl
theorem sh_29 : shIs 29 12 [30] := rfl
theorem iu_29 (u : Bool) (h : u = true) : inU u 29 = true := by subst h; rfl
theorem sh_30 : shIs 30 0 [0, 0, 0, 0, 0, 0, 0, 0, 33] := rfl
theorem iu_30 (u : Bool) (h : u = true) : inU u 30 = true := by subst h; rfl
theorem sh_31 : shIs 31 9 [0, 0, 34, 35] := rfl
theorem iu_31 (u : Bool) (h : u = true) : inU u 31 = true := by subst h; rfl
theorem sh_32 : shIs 32 12 [31] := rfl
theorem iu_32 (u : Bool) (h : u = true) : inU u 32 = true := by subst h; rfl
theorem sh_33 : shIs 33 12 [30] := rfl
theorem iu_33 (u : Bool) (h : u = true) : inU u 33 = true := by subst h; rfl
theorem sh_34 : shIs 34 0 [0, 0, 0, 0, 0, 0, 0, 0, 37] := rfl
theorem iu_34 (u : Bool) (h : u = true) : inU u 34 = true := by subst h; rfl
theorem sh_35 : shIs 35 9 [0, 0, 38, 39] := rfl
theorem iu_35 (u : Bool) (h : u = true) : inU u 35 = true := by subst h; rfl
theorem sh_36 : shIs 36 12 [31] := rfl
theorem iu_36 (u : Bool) (h : u = true) : inU u 36 = true := by subst h; rfl
theorem sh_37 : shIs 37 12 [30] := rfl
theorem iu_37 (u : Bool) (h : u = true) : inU u 37 = true := by subst h; rfl
theorem sh_38 : shIs 38 0 [0, 0, 0, 0, 0, 0, 0, 0, 41] := rfl
theorem iu_38 (u : Bool) (h : u = true) : inU u 38 = true := by subst h; rfl
theorem sh_39 : shIs 39 9 [0, 0, 42, 43] := rfl
theorem iu_39 (u : Bool) (h : u = true) : inU u 39 = true := by subst h; rfl
theorem sh_40 : shIs 40 12 [31] := rfl
theorem iu_40 (u : Bool) (h : u = true) : inU u 40 = true := by subst h; rfl
theorem sh_41 : shIs 41 12 [30] := rfl
theorem iu_41 (u : Bool) (h : u = true) : inU u 41 = true := by subst h; rfl
theorem sh_42 : shIs 42 0 [0, 0, 0, 0, 0, 0, 0, 0, 45] := rfl
theorem iu_42 (u : Bool) (h : u = true) : inU u 42 = true := by subst h; rfl
theorem sh_43 : shIs 43 9 [0, 0, 46, 47] := rfl
theorem iu_43 (u : Bool) (h : u = true) : inU u 43 = true := by subst h; rfl
theorem sh_44 : shIs 44 12 [31] := rfl
theorem iu_44 (u : Bool) (h : u = true) : inU u 44 = true := by subst h; rfl
theorem sh_45 : shIs 45 12 [30] := rfl
theorem iu_45 (u : Bool) (h : u = true) : inU u 45 = true := by subst h; rfl
theorem sh_46 : shIs 46 0 [0, 0, 0, 0, 0, 0, 0, 0, 49] := rfl
theorem iu_46 (u : Bool) (h : u = true) : inU u 46 = true := by subst h; rfl
theorem sh_47 : shIs 47 9 [0, 0, 50, 51] := rfl
theorem iu_47 (u : Bool) (h : u = true) : inU u 47 = true := by subst h; rfl
theorem sh_48 : shIs 48 12 [31] := rfl
theorem iu_48 (u : Bool) (h : u = true) : inU u 48 = true := by subst h; rfl
theorem sh_49 : shIs 49 12 [30] := rfl
theorem iu_49 (u : Bool) (h : u = true) : inU u 49 = true := by subst h; rfl
theorem sh_50 : shIs 50 5 [3, 10, 53] := rfl
theorem iu_50 (u : Bool) (h : u = true) : inU u 50 = true := by subst h; rfl
theorem sh_51 : shIs 51 12 [36] := rfl
theorem iu_51 (u : Bool) (h : u = true) : inU u 51 = true := by subst h; rfl
theorem sh_52 : shIs 52 6 [3, 10, 55, 56, 61, 0, 0] := rfl
theorem iu_52 (u : Bool) (h : u = true) : inU u 52 = true := by subst h; rfl
theorem sh_53 : shIs 53 13 [60] := rfl
theorem iu_53 (u : Bool) (h : u = true) : inU u 53 = true := by subst h; rfl
theorem sh_54 : shIs 54 17 [55, 56, 57, 58] := rfl
theorem iu_54 (u : Bool) (h : u = true) : inU u 54 = true := by subst h; rfl
theorem sh_55 : shIs 55 13 [60] := rfl
theorem iu_55 (u : Bool) (h : u = true) : inU u 55 = true := by subst h; rfl
theorem sh_56 : shIs 56 13 [60] := rfl
theorem iu_56 (u : Bool) (h : u = true) : inU u 56 = true := by subst h; rfl
theorem sh_57 : shIs 57 13 [60] := rfl
theorem iu_57 (u : Bool) (h : u = true) : inU u 57 = true := by subst h; rfl
theorem sh_58 : shIs 58 13 [60] := rfl
theorem iu_58 (u : Bool) (h : u = true) : inU u 58 = true := by subst h; rfl
theorem sh_59 : shIs 59 13 [60] := rfl
theorem iu_59 (u : Bool) (h : u = true) : inU u 59 = true := by subst h; rfl
theorem sh_60 : shIs 60 3 [3, 54, 52, 63, 64, 0, 0, 0] := rfl
theorem iu_60 (u : Bool) (h : u = true) : inU u 60 = true := by subst h; rfl
theorem sh_61 : shIs 61 12 [36] := rfl
theorem iu_61 (u : Bool) (h : u = true) : inU u 61 = true := by subst h; rfl
theorem sh_62 : shIs 62 16 [63, 64, 65, 66, 67, 68, 69, 70, 71, 72, 73, 74, 75, 76, 77, 78, 79, 80, 81, 82, 83, 84, 85, 86, 87, 88, 89, 90, 91, 92, 93] := rfl
theorem iu_62 (u : Bool) (h : u = true) : inU u 62 = true := by subst h; rfl
theorem sh_63 : shIs 63 12 [36] := rfl
theorem iu_63 (u : Bool) (h : u = true) : inU u 63 = true := by subst h; rfl
theorem sh_64 : shIs 64 12 [36] := rfl
theorem iu_64 (u : Bool) (h : u = true) : inU u 64 = true := by subst h; rfl
theorem sh_65 : shIs 65 12 [36] := rfl
theorem iu_65 (u : Bool) (h : u = true) : inU u 65 = true := by subst h; rfl
theorem sh_66 : shIs 66 12 [36] := rfl
theorem iu_66 (u : Bool) (h : u = true) : inU u 66 = true := by subst h; rfl
theorem sh_67 : shIs 67 12 [36] := rfl
theorem iu_67 (u : Bool) (h : u = true) : inU u 67 = true := by subst h; rfl
theorem sh_68 : shIs 68 12 [36] := rfl
theorem iu_68 (u : Bool) (h : u = true) : inU u 68 = true := by subst h; rfl
theorem sh_69 : shIs 69 12 [36] := rfl
theorem iu_69 (u : Bool) (h : u = true) : inU u 69 = true := by subst h; rfl
theorem sh_70 : shIs 70 12 [36] := rfl
theorem iu_70 (u : Bool) (h : u = true) : inU u 70 = true := by subst h; rfl
theorem sh_71 : shIs 71 12 [36] := rfl
theorem iu_71 (u : Bool) (h : u = true) : inU u 71 = true := by subst h; rfl
theorem sh_72 : shIs 72 12 [36] := rfl
theorem iu_72 (u : Bool) (h : u = true) : inU u 72 = true := by subst h; rfl
theorem sh_73 : shIs 73 12 [36] := rfl
theorem iu_73 (u : Bool) (h : u = true) : inU u 73 = true := by subst h; rfl
theorem sh_74 : shIs 74 12 [36] := rfl
theorem iu_74 (u : Bool) (h : u = true) : inU u 74 = true := by subst h; rfl
theorem sh_75 : shIs 75 12 [36] := rfl
theorem iu_75 (u : Bool) (h : u = true) : inU u 75 = true := by subst h; rfl
theorem sh_76 : shIs 76 12 [36] := rfl
theorem iu_76 (u : Bool) (h : u = true) : inU u 76 = true := by subst h; rfl
theorem sh_77 : shIs 77 12 [36] := rfl
theorem iu_77 (u : Bool) (h : u = true) : inU u 77 = true := by subst h; rfl
theorem sh_78 : shIs 78 12 [36] := rfl
theorem iu_78 (u : Bool) (h : u = true) : inU u 78 = true := by subst h; rfl
theorem sh_79 : shIs 79 12 [36] := rfl
theorem iu_79 (u : Bool) (h : u = true) : inU u 79 = true := by subst h; rfl
theorem sh_80 : shIs 80 12 [36] := rfl
theorem iu_80 (u : Bool) (h : u = true) : inU u 80 = true := by subst h; rfl
theorem sh_81 : shIs 81 12 [36] := rfl
theorem iu_81 (u : Bool) (h : u = true) : inU u 81 = true := by subst h; rfl
theorem sh_82 : shIs 82 12 [36] := rfl
theorem iu_82 (u : Bool) (h : u = true) : inU u 82 = true := by subst h; rfl
theorem sh_83 : shIs 83 12 [36] := rfl
theorem iu_83 (u : Bool) (h : u = true) : inU u 83 = true := by subst h; rfl
theorem sh_84 : shIs 84 12 [36] := rfl
theorem iu_84 (u : Bool) (h : u = true) : inU u 84 = true := by subst h; rfl
theorem sh_85 : shIs 85 12 [36] := rfl
theorem iu_85 (u : Bool) (h : u = true) : inU u 85 = true := by subst h; rfl
theorem sh_86 : shIs 86 12 [36] := rfl
theorem iu_86 (u : Bool) (h : u = true) : inU u 86 = true := by subst h; rfl
theorem sh_87 : shIs 87 12 [36] := rfl
theorem iu_87 (u : Bool) (h : u = true) : inU u 87 = true := by subst h; rfl
theorem sh_88 : shIs 88 12 [36] := rfl
theorem iu_88 (u : Bool) (h : u = true) : inU u 88 = true := by subst h; rfl
theorem sh_89 : shIs 89 12 [36] := rfl
theorem iu_89 (u : Bool) (h : u = true) : inU u 89 = true := by subst h; rfl
theorem sh_90 : shIs 90 12 [36] := rfl
theorem iu_90 (u : Bool) (h : u = true) : inU u 90 = true := by subst h; rfl
theorem sh_91 : shIs 91 12 [36] := rfl
theorem iu_91 (u : Bool) (h : u = true) : inU u 91 = true := by subst h; rfl
theorem sh_92 : shIs 92 12 [36] := rfl
theorem iu_92 (u : Bool) (h : u = true) : inU u 92 = true := by subst h; rfl
theorem sh_93 : shIs 93 12 [36] := rfl
theorem iu_93 (u : Bool) (h : u = true) : inU u 93 = true := by subst h; rfl
theorem sh_94 : shIs 94 1 [10, 54, 0, 97, 98] := rfl
theorem iu_94 (u : Bool) (h : u = true) : inU u 94 = true := by subst h; rfl
theorem sh_95 : shIs 95 12 [10] := rfl
theorem iu_95 (u : Bool) (h : u = true) : inU u 95 = true := by subst h; rfl
theorem sh_96 : shIs 96 12 [10] := rfl
theorem iu_96 (u : Bool) (h : u = true) : inU u 96 = true := by subst h; rfl
theorem sh_97 : shIs 97 4 [10, 54, 0, 0, 100, 101, 102] := rfl
theorem iu_97 (u : Bool) (h : u = true) : inU u 97 = true := by subst h; rfl
theorem sh_98 : shIs 98 12 [5] := rfl
theorem iu_98 (u : Bool) (h : u = true) : inU u 98 = true := by subst h; rfl
theorem sh_99 : shIs 99 12 [5] := rfl
theorem iu_99 (u : Bool) (h : u = true) : inU u 99 = true := by subst h; rfl
theorem sh_100 : shIs 100 12 [10] := rfl
theorem iu_100 (u : Bool) (h : u = true) : inU u 100 = true := by subst h; rfl
theorem sh_101 : shIs 101 7 [3, 10, 0, 0, 0, 0, 104] := rfl
theorem iu_101 (u : Bool) (h : u = true) : inU u 101 = true := by subst h; rfl
theorem sh_102 : shIs 102 13 [60] := rfl
theorem iu_102 (u : Bool) (h : u = true) : inU u 102 = true := by subst h; rfl
theorem sh_103 : shIs 103 11 [0, 0, 0, 0, 0, 0, 106, 107, 108, 0, 109, 110, 111, 112, 113, 114, 115, 116, 117, 0, 0, 118, 119, 120, 121, 122, 0, 0, 0, 0, 123, 124] := rfl
theorem iu_103 (u : Bool) (h : u = true) : inU u 103 = true := by subst h; rfl
theorem sh_104 : shIs 104 14 [2160] := rfl
theorem iu_104 (u : Bool) (h : u = true) : inU u 104 = true := by subst h; rfl
theorem sh_105 : shIs 105 14 [2340] := rfl
theorem iu_105 (u : Bool) (h : u = true) : inU u 105 = true := by subst h; rfl
theorem sh_106 : shIs 106 12 [36] := rfl
theorem iu_106 (u : Bool) (h : u = true) : inU u 106 = true := by subst h; rfl
theorem sh_107 : shIs 107 12 [80] := rfl
theorem iu_107 (u : Bool) (h : u = true) : inU u 107 = true := by subst h; rfl
theorem sh_108 : shIs 108 12 [10] := rfl
theorem iu_108 (u : Bool) (h : u = true) : inU u 108 = true := by subst h; rfl
theorem sh_109 : shIs 109 12 [10] := rfl
theorem iu_109 (u : Bool) (h : u = true) : inU u 109 = true := by subst h; rfl
theorem sh_110 : shIs 110 14 [10] := rfl
theorem iu_110 (u : Bool) (h : u = true) : inU u 110 = true := by subst h; rfl
theorem sh_111 : shIs 111 12 [600] := rfl
theorem iu_111 (u : Bool) (h : u = true) : inU u 111 = true := by subst h; rfl
theorem sh_112 : shIs 112 12 [2160] := rfl
theorem iu_112 (u : Bool) (h : u = true) : inU u 112 = true := by subst h; rfl
theorem sh_113 : shIs 113 12 [10800] := rfl
theorem iu_113 (u : Bool) (h : u = true) : inU u 113 = true := by subst h; rfl
theorem sh_114 : shIs 114 14 [2160] := rfl
theorem iu_114 (u : Bool) (h : u = true) : inU u 114 = true := by subst h; rfl
theorem sh_115 : shIs 115 12 [2160] := rfl
theorem iu_115 (u : Bool) (h : u = true) : inU u 115 = true := by subst h; rfl
theorem sh_116 : shIs 116 12 [60] := rfl
theorem iu_116 (u : Bool) (h : u = true) : inU u 116 = true := by subst h; rfl
theorem sh_117 : shIs 117 12 [2160] := rfl
theorem iu_117 (u : Bool) (h : u = true) : inU u 117 = true := by subst h; rfl
theorem sh_118 : shIs 118 12 [36] := rfl
theorem iu_118 (u : Bool) (h : u = true) : inU u 118 = true := by subst h; rfl
theorem sh_119 : shIs 119 12 [5] := rfl
theorem iu_119 (u : Bool) (h : u = true) : inU u 119 = true := by subst h; rfl
theorem sh_120 : shIs 120 12 [5] := rfl
theorem iu_120 (u : Bool) (h : u = true) : inU u 120 = true := by subst h; rfl
theorem sh_121 : shIs 121 14 [36] := rfl
theorem iu_121 (u : Bool) (h : u = true) : inU u 121 = true := by subst h; rfl
theorem sh_122 : shIs 122 14 [36] := rfl
theorem iu_122 (u : Bool) (h : u = true) : inU u 122 = true := by subst h; rfl
theorem shA {n : Nat} (h : n < 10) : shIs (oA n) 0 [0, 0, 0, 0, 0, 0, 0, 0, oW n + 2] := by
  have h1 : ∀ n, n < 10 → shp.getD (oA n) (0, []) = (0, [0, 0, 0, 0, 0, 0, 0, 0, oW n + 2]) := by decide +kernel
  exact h1 n h
theorem ishA {n : Nat} (h : n < 10) : inU true (oA n) = true := by
  have h1 : ∀ n, n < 10 → inU true (oA n) = true := by decide +kernel
  exact h1 n h
theorem shW {n : Nat} (h : n < 10) : shIs (oW n) 9 [0, 0, oC n + 2, oT n + 2] := by
  have h1 : ∀ n, n < 10 → shp.getD (oW n) (0, []) = (9, [0, 0, oC n + 2, oT n + 2]) := by decide +kernel
  exact h1 n h
theorem ishW {n : Nat} (h : n < 10) : inU true (oW n) = true := by
  have h1 : ∀ n, n < 10 → inU true (oW n) = true := by decide +kernel
  exact h1 n h
theorem shC {n : Nat} (h : n < 10) : shIs (oC n) 12 [31] := by
  have h1 : ∀ n, n < 10 → shp.getD (oC n) (0, []) = (12, [31]) := by decide +kernel
  exact h1 n h
theorem ishC {n : Nat} (h : n < 10) : inU true (oC n) = true := by
  have h1 : ∀ n, n < 10 → inU true (oC n) = true := by decide +kernel
  exact h1 n h
theorem shT {n : Nat} (h : n < 10) : shIs (oT n) 12 [30] := by
  have h1 : ∀ n, n < 10 → shp.getD (oT n) (0, []) = (12, [30]) := by decide +kernel
  exact h1 n h
theorem ishT {n : Nat} (h : n < 10) : inU true (oT n) = true := by
  have h1 : ∀ n, n < 10 → inU true (oT n) = true := by decide +kernel
  exact h1 n h
theorem shB {n : Nat} (h : n < 4) : shIs (oB n) 13 [60] := by
  have h1 : ∀ n, n < 4 → shp.getD (oB n) (0, []) = (13, [60]) := by decide +kernel
  exact h1 n h
theorem ishB {n : Nat} (h : n < 4) : inU true (oB n) = true := by
  have h1 : ∀ n, n < 4 → inU true (oB n) = true := by decide +kernel
  exact h1 n h
theorem shK {n : Nat} (h : n < 31) : shIs (oK n) 12 [36] := by
  have h1 : ∀ n, n < 31 → shp.getD (oK n) (0, []) = (12, [36]) := by decide +kernel
  exact h1 n h
theorem ishK {n : Nat} (h : n < 31) : inU true (oK n) = true := by
  have h1 : ∀ n, n < 31 → inU true (oK n) = true := by decide +kernel
  exact h1 n h
theorem rf_9 : ∀ j, j < 10 → [10, 14, 18, 22, 26, 30, 34, 38, 42, 46][j]? = some (oA j) := by decide +kernel
theorem rf_54 : ∀ j, j < 4 → [55, 56, 57, 58][j]? = some (oB j) := by decide +kernel
theorem rf_62 : ∀ j, j < 31 → [63, 64, 65, 66, 67, 68, 69, 70, 71, 72, 73, 74, 75, 76, 77, 78, 79, 80, 81, 82, 83, 84, 85, 86, 87, 88, 89, 90, 91, 92, 93][j]? = some (oK j) := by decide +kernel
set_option maxRecDepth 20000 in
theorem uw_0 : ∀ w ∈ u_ws RX0 TX0 9, w ∈ tb := by decide +kernel
set_option maxRecDepth 20000 in
theorem uw_1 : ∀ w ∈ u_ws RX1 TX1 5, w ∈ tb := by decide +kernel
set_option maxRecDepth 20000 in
theorem uw_2 : ∀ w ∈ u_ws RX2 TX2 2, w ∈ tb := by decide +kernel
set_option maxRecDepth 20000 in
theorem uw_3 : ∀ w ∈ u_ws RX3 TX3 8, w ∈ tb := by decide +kernel
set_option maxRecDepth 20000 in
theorem uw_4 : ∀ w ∈ u_ws RX4 TX4 7, w ∈ tb := by decide +kernel
set_option maxRecDepth 20000 in
theorem uw_5 : ∀ w ∈ u_ws RX5 TX5 3, w ∈ tb := by decide +kernel
set_option maxRecDepth 20000 in
theorem uw_6 : ∀ w ∈ u_ws RX6 TX6 7, w ∈ tb := by decide +kernel
set_option maxRecDepth 20000 in
theorem uw_7 : ∀ w ∈ u_ws RX7 TX7 7, w ∈ tb := by decide +kernel
set_option maxRecDepth 20000 in
theorem uw_8 : ∀ w ∈ u_ws RX8 TX8 15, w ∈ tb := by decide +kernel
set_option maxRecDepth 20000 in
theorem uw_9 : ∀ w ∈ u_ws RX9 TX9 4, w ∈ tb := by decide +kernel
set_option maxRecDepth 20000 in
theorem uw_10 : ∀ w ∈ u_ws RX10 TX10 8, w ∈ tb := by decide +kernel
set_option maxRecDepth 20000 in
theorem uw_11 : ∀ w ∈ u_ws RX11 TX11 32, w ∈ tb := by decide +kernel
theorem fl_RX10_10 : FL RX10 10 10 0 := ⟨RX10, TX10, 8, rfl, by decide, tb_in (List.mem_of_getElem? (i := 471) (by decide +kernel)) rfl, uw_10⟩
theorem fl_RX10_19 : FL RX10 19 10 1 := ⟨RX10, TX10, 8, rfl, by decide, tb_in (List.mem_of_getElem? (i := 472) (by decide +kernel)) rfl, uw_10⟩
theorem fl_RX10_28 : FL RX10 28 10 2 := ⟨RX10, TX10, 8, rfl, by decide, tb_in (List.mem_of_getElem? (i := 473) (by decide +kernel)) rfl, uw_10⟩
theorem fl_RX10_35 : FL RX10 35 10 3 := ⟨RX10, TX10, 8, rfl, by decide, tb_in (List.mem_of_getElem? (i := 474) (by decide +kernel)) rfl, uw_10⟩
theorem fl_RX10_44 : FL RX10 44 10 4 := ⟨RX10, TX10, 8, rfl, by decide, tb_in (List.mem_of_getElem? (i := 475) (by decide +kernel)) rfl, uw_10⟩
theorem fl_RX10_53 : FL RX10 53 10 5 := ⟨RX10, TX10, 8, rfl, by decide, tb_in (List.mem_of_getElem? (i := 476) (by decide +kernel)) rfl, uw_10⟩
theorem fl_RX10_60 : FL RX10 60 10 6 := ⟨RX10, TX10, 8, rfl, by decide, tb_in (List.mem_of_getElem? (i := 477) (by decide +kernel)) rfl, uw_10⟩
theorem fl_RX10_67 : FL RX10 67 10 7 := ⟨RX10, TX10, 8, rfl, by decide, tb_in (List.mem_of_getElem? (i := 478) (by decide +kernel)) rfl, uw_10⟩
theorem fl_RX10_80 : FL RX10 80 2 0 := ⟨RX2, TX2, 2, rfl, by decide, tb_in (List.mem_of_getElem? (i := 293) (by decide +kernel)) rfl, uw_2⟩
theorem fp_RX10_80 : FP RX10 80 2 0 .int := ⟨RX2, TX2, 2, tyX2, rfl, by decide, tb_in (List.mem_of_getElem? (i := 293) (by decide +kernel)) rfl, uw_2, tyX2_ok, nmX2, rfl, by decide +kernel⟩
theorem fl_RX10_87 : FL RX10 87 7 2 := ⟨RX7, TX7, 7, rfl, by decide, tb_in (List.mem_of_getElem? (i := 450) (by decide +kernel)) rfl, uw_7⟩
theorem fp_RX10_87 : FP RX10 87 7 2 .boolean := ⟨RX7, TX7, 7, tyX7, rfl, by decide, tb_in (List.mem_of_getElem? (i := 450) (by decide +kernel)) rfl, uw_7, tyX7_ok, nmX7, rfl, by decide +kernel⟩
theorem fl_RX10_91 : FL RX10 91 8 1 := ⟨RX8, TX8, 15, rfl, by decide, tb_in (List.mem_of_getElem? (i := 131) (by decide +kernel)) rfl, uw_8⟩
theorem fp_RX10_91 : FP RX10 91 8 1 .int := ⟨RX8, TX8, 15, tyX8, rfl, by decide, tb_in (List.mem_of_getElem? (i := 131) (by decide +kernel)) rfl, uw_8, tyX8_ok, nmX8, rfl, by decide +kernel⟩
theorem fl_RX10_94 : FL RX10 94 8 4 := ⟨RX8, TX8, 15, rfl, by decide, tb_in (List.mem_of_getElem? (i := 137) (by decide +kernel)) rfl, uw_8⟩
theorem fp_RX10_94 : FP RX10 94 8 4 .int := ⟨RX8, TX8, 15, tyX8, rfl, by decide, tb_in (List.mem_of_getElem? (i := 137) (by decide +kernel)) rfl, uw_8, tyX8_ok, nmX8, rfl, by decide +kernel⟩
theorem fl_RX10_105 : FL RX10 105 8 5 := ⟨RX8, TX8, 15, rfl, by decide, tb_in (List.mem_of_getElem? (i := 139) (by decide +kernel)) rfl, uw_8⟩
theorem fp_RX10_105 : FP RX10 105 8 5 .int := ⟨RX8, TX8, 15, tyX8, rfl, by decide, tb_in (List.mem_of_getElem? (i := 139) (by decide +kernel)) rfl, uw_8, tyX8_ok, nmX8, rfl, by decide +kernel⟩
theorem fl_RX10_125 : FL RX10 125 8 14 := ⟨RX8, TX8, 15, rfl, by decide, tb_in (List.mem_of_getElem? (i := 156) (by decide +kernel)) rfl, uw_8⟩
theorem fl_RX10_170 : FL RX10 170 2 1 := ⟨RX2, TX2, 2, rfl, by decide, tb_in (List.mem_of_getElem? (i := 303) (by decide +kernel)) rfl, uw_2⟩
theorem fl_RX10_174 : FL RX10 174 0 0 := ⟨RX0, TX0, 9, rfl, by decide, tb_in (List.mem_of_getElem? (i := 232) (by decide +kernel)) rfl, uw_0⟩
theorem fp_RX10_174 : FP RX10 174 0 0 .int := ⟨RX0, TX0, 9, tyX0, rfl, by decide, tb_in (List.mem_of_getElem? (i := 232) (by decide +kernel)) rfl, uw_0, tyX0_ok, nmX0, rfl, by decide +kernel⟩
theorem fl_RX10_177 : FL RX10 177 0 1 := ⟨RX0, TX0, 9, rfl, by decide, tb_in (List.mem_of_getElem? (i := 236) (by decide +kernel)) rfl, uw_0⟩
theorem fp_RX10_177 : FP RX10 177 0 1 .int := ⟨RX0, TX0, 9, tyX0, rfl, by decide, tb_in (List.mem_of_getElem? (i := 236) (by decide +kernel)) rfl, uw_0, tyX0_ok, nmX0, rfl, by decide +kernel⟩
theorem fl_RX10_180 : FL RX10 180 0 2 := ⟨RX0, TX0, 9, rfl, by decide, tb_in (List.mem_of_getElem? (i := 242) (by decide +kernel)) rfl, uw_0⟩
theorem fp_RX10_180 : FP RX10 180 0 2 .int := ⟨RX0, TX0, 9, tyX0, rfl, by decide, tb_in (List.mem_of_getElem? (i := 242) (by decide +kernel)) rfl, uw_0, tyX0_ok, nmX0, rfl, by decide +kernel⟩
theorem fl_RX10_183 : FL RX10 183 0 3 := ⟨RX0, TX0, 9, rfl, by decide, tb_in (List.mem_of_getElem? (i := 246) (by decide +kernel)) rfl, uw_0⟩
theorem fp_RX10_183 : FP RX10 183 0 3 .int := ⟨RX0, TX0, 9, tyX0, rfl, by decide, tb_in (List.mem_of_getElem? (i := 246) (by decide +kernel)) rfl, uw_0, tyX0_ok, nmX0, rfl, by decide +kernel⟩
theorem fl_RX10_186 : FL RX10 186 0 4 := ⟨RX0, TX0, 9, rfl, by decide, tb_in (List.mem_of_getElem? (i := 249) (by decide +kernel)) rfl, uw_0⟩
theorem fp_RX10_186 : FP RX10 186 0 4 .int := ⟨RX0, TX0, 9, tyX0, rfl, by decide, tb_in (List.mem_of_getElem? (i := 249) (by decide +kernel)) rfl, uw_0, tyX0_ok, nmX0, rfl, by decide +kernel⟩
theorem fl_RX10_189 : FL RX10 189 0 5 := ⟨RX0, TX0, 9, rfl, by decide, tb_in (List.mem_of_getElem? (i := 253) (by decide +kernel)) rfl, uw_0⟩
theorem fp_RX10_189 : FP RX10 189 0 5 .int := ⟨RX0, TX0, 9, tyX0, rfl, by decide, tb_in (List.mem_of_getElem? (i := 253) (by decide +kernel)) rfl, uw_0, tyX0_ok, nmX0, rfl, by decide +kernel⟩
theorem fl_RX10_192 : FL RX10 192 0 6 := ⟨RX0, TX0, 9, rfl, by decide, tb_in (List.mem_of_getElem? (i := 257) (by decide +kernel)) rfl, uw_0⟩
theorem fp_RX10_192 : FP RX10 192 0 6 .int := ⟨RX0, TX0, 9, tyX0, rfl, by decide, tb_in (List.mem_of_getElem? (i := 257) (by decide +kernel)) rfl, uw_0, tyX0_ok, nmX0, rfl, by decide +kernel⟩
theorem fl_RX10_195 : FL RX10 195 0 7 := ⟨RX0, TX0, 9, rfl, by decide, tb_in (List.mem_of_getElem? (i := 264) (by decide +kernel)) rfl, uw_0⟩
theorem fp_RX10_195 : FP RX10 195 0 7 .boolean := ⟨RX0, TX0, 9, tyX0, rfl, by decide, tb_in (List.mem_of_getElem? (i := 264) (by decide +kernel)) rfl, uw_0, tyX0_ok, nmX0, rfl, by decide +kernel⟩
theorem fl_RX10_212 : FL RX10 212 0 8 := ⟨RX0, TX0, 9, rfl, by decide, tb_in (List.mem_of_getElem? (i := 272) (by decide +kernel)) rfl, uw_0⟩
theorem fl_RX10_232 : FL RX10 232 9 1 := ⟨RX9, TX9, 4, rfl, by decide, tb_in (List.mem_of_getElem? (i := 218) (by decide +kernel)) rfl, uw_9⟩
theorem fp_RX10_232 : FP RX10 232 9 1 .int := ⟨RX9, TX9, 4, tyX9, rfl, by decide, tb_in (List.mem_of_getElem? (i := 218) (by decide +kernel)) rfl, uw_9, tyX9_ok, nmX9, rfl, by decide +kernel⟩
theorem fl_RX10_245 : FL RX10 245 1 2 := ⟨RX1, TX1, 5, rfl, by decide, tb_in (List.mem_of_getElem? (i := 398) (by decide +kernel)) rfl, uw_1⟩
theorem fp_RX10_245 : FP RX10 245 1 2 .int := ⟨RX1, TX1, 5, tyX1, rfl, by decide, tb_in (List.mem_of_getElem? (i := 398) (by decide +kernel)) rfl, uw_1, tyX1_ok, nmX1, rfl, by decide +kernel⟩
theorem fl_RX10_256 : FL RX10 256 4 3 := ⟨RX4, TX4, 7, rfl, by decide, tb_in (List.mem_of_getElem? (i := 422) (by decide +kernel)) rfl, uw_4⟩
theorem fp_RX10_256 : FP RX10 256 4 3 .int := ⟨RX4, TX4, 7, tyX4, rfl, by decide, tb_in (List.mem_of_getElem? (i := 422) (by decide +kernel)) rfl, uw_4, tyX4_ok, nmX4, rfl, by decide +kernel⟩
theorem fl_RX10_270 : FL RX10 270 7 6 := ⟨RX7, TX7, 7, rfl, by decide, tb_in (List.mem_of_getElem? (i := 455) (by decide +kernel)) rfl, uw_7⟩
theorem fl_RX0_10 : FL RX0 10 0 8 := ⟨RX0, TX0, 9, rfl, by decide, tb_in (List.mem_of_getElem? (i := 265) (by decide +kernel)) rfl, uw_0⟩
theorem fl_RX0_16 : FL RX0 16 0 0 := ⟨RX0, TX0, 9, rfl, by decide, tb_in (List.mem_of_getElem? (i := 230) (by decide +kernel)) rfl, uw_0⟩
theorem fp_RX0_16 : FP RX0 16 0 0 .int := ⟨RX0, TX0, 9, tyX0, rfl, by decide, tb_in (List.mem_of_getElem? (i := 230) (by decide +kernel)) rfl, uw_0, tyX0_ok, nmX0, rfl, by decide +kernel⟩
theorem fl_RX0_20 : FL RX0 20 0 1 := ⟨RX0, TX0, 9, rfl, by decide, tb_in (List.mem_of_getElem? (i := 234) (by decide +kernel)) rfl, uw_0⟩
theorem fp_RX0_20 : FP RX0 20 0 1 .int := ⟨RX0, TX0, 9, tyX0, rfl, by decide, tb_in (List.mem_of_getElem? (i := 234) (by decide +kernel)) rfl, uw_0, tyX0_ok, nmX0, rfl, by decide +kernel⟩
theorem fl_RX0_23 : FL RX0 23 0 7 := ⟨RX0, TX0, 9, rfl, by decide, tb_in (List.mem_of_getElem? (i := 258) (by decide +kernel)) rfl, uw_0⟩
theorem fp_RX0_23 : FP RX0 23 0 7 .boolean := ⟨RX0, TX0, 9, tyX0, rfl, by decide, tb_in (List.mem_of_getElem? (i := 258) (by decide +kernel)) rfl, uw_0, tyX0_ok, nmX0, rfl, by decide +kernel⟩
theorem fl_RX0_27 : FL RX0 27 0 2 := ⟨RX0, TX0, 9, rfl, by decide, tb_in (List.mem_of_getElem? (i := 239) (by decide +kernel)) rfl, uw_0⟩
theorem fp_RX0_27 : FP RX0 27 0 2 .int := ⟨RX0, TX0, 9, tyX0, rfl, by decide, tb_in (List.mem_of_getElem? (i := 239) (by decide +kernel)) rfl, uw_0, tyX0_ok, nmX0, rfl, by decide +kernel⟩
theorem fl_RX0_30 : FL RX0 30 0 3 := ⟨RX0, TX0, 9, rfl, by decide, tb_in (List.mem_of_getElem? (i := 243) (by decide +kernel)) rfl, uw_0⟩
theorem fp_RX0_30 : FP RX0 30 0 3 .int := ⟨RX0, TX0, 9, tyX0, rfl, by decide, tb_in (List.mem_of_getElem? (i := 243) (by decide +kernel)) rfl, uw_0, tyX0_ok, nmX0, rfl, by decide +kernel⟩
theorem fl_RX0_33 : FL RX0 33 0 4 := ⟨RX0, TX0, 9, rfl, by decide, tb_in (List.mem_of_getElem? (i := 247) (by decide +kernel)) rfl, uw_0⟩
theorem fp_RX0_33 : FP RX0 33 0 4 .int := ⟨RX0, TX0, 9, tyX0, rfl, by decide, tb_in (List.mem_of_getElem? (i := 247) (by decide +kernel)) rfl, uw_0, tyX0_ok, nmX0, rfl, by decide +kernel⟩
theorem fl_RX0_36 : FL RX0 36 0 5 := ⟨RX0, TX0, 9, rfl, by decide, tb_in (List.mem_of_getElem? (i := 251) (by decide +kernel)) rfl, uw_0⟩
theorem fp_RX0_36 : FP RX0 36 0 5 .int := ⟨RX0, TX0, 9, tyX0, rfl, by decide, tb_in (List.mem_of_getElem? (i := 251) (by decide +kernel)) rfl, uw_0, tyX0_ok, nmX0, rfl, by decide +kernel⟩
theorem fl_RX0_39 : FL RX0 39 0 6 := ⟨RX0, TX0, 9, rfl, by decide, tb_in (List.mem_of_getElem? (i := 255) (by decide +kernel)) rfl, uw_0⟩
theorem fp_RX0_39 : FP RX0 39 0 6 .int := ⟨RX0, TX0, 9, tyX0, rfl, by decide, tb_in (List.mem_of_getElem? (i := 255) (by decide +kernel)) rfl, uw_0, tyX0_ok, nmX0, rfl, by decide +kernel⟩
theorem fl_RX1_9 : FL RX1 9 1 3 := ⟨RX1, TX1, 5, rfl, by decide, tb_in (List.mem_of_getElem? (i := 399) (by decide +kernel)) rfl, uw_1⟩
theorem fl_RX1_15 : FL RX1 15 1 4 := ⟨RX1, TX1, 5, rfl, by decide, tb_in (List.mem_of_getElem? (i := 400) (by decide +kernel)) rfl, uw_1⟩
theorem fl_RX1_18 : FL RX1 18 1 0 := ⟨RX1, TX1, 5, rfl, by decide, tb_in (List.mem_of_getElem? (i := 395) (by decide +kernel)) rfl, uw_1⟩
theorem fl_RX1_22 : FL RX1 22 1 1 := ⟨RX1, TX1, 5, rfl, by decide, tb_in (List.mem_of_getElem? (i := 396) (by decide +kernel)) rfl, uw_1⟩
theorem fl_RX1_26 : FL RX1 26 1 2 := ⟨RX1, TX1, 5, rfl, by decide, tb_in (List.mem_of_getElem? (i := 397) (by decide +kernel)) rfl, uw_1⟩
theorem fp_RX1_26 : FP RX1 26 1 2 .int := ⟨RX1, TX1, 5, tyX1, rfl, by decide, tb_in (List.mem_of_getElem? (i := 397) (by decide +kernel)) rfl, uw_1, tyX1_ok, nmX1, rfl, by decide +kernel⟩
theorem fl_RX2_11 : FL RX2 11 2 1 := ⟨RX2, TX2, 2, rfl, by decide, tb_in (List.mem_of_getElem? (i := 298) (by decide +kernel)) rfl, uw_2⟩
theorem fl_RX2_18 : FL RX2 18 2 0 := ⟨RX2, TX2, 2, rfl, by decide, tb_in (List.mem_of_getElem? (i := 292) (by decide +kernel)) rfl, uw_2⟩
theorem fp_RX2_18 : FP RX2 18 2 0 .int := ⟨RX2, TX2, 2, tyX2, rfl, by decide, tb_in (List.mem_of_getElem? (i := 292) (by decide +kernel)) rfl, uw_2, tyX2_ok, nmX2, rfl, by decide +kernel⟩
theorem fl_RX2_28 : FL RX2 28 0 7 := ⟨RX0, TX0, 9, rfl, by decide, tb_in (List.mem_of_getElem? (i := 261) (by decide +kernel)) rfl, uw_0⟩
theorem fp_RX2_28 : FP RX2 28 0 7 .boolean := ⟨RX0, TX0, 9, tyX0, rfl, by decide, tb_in (List.mem_of_getElem? (i := 261) (by decide +kernel)) rfl, uw_0, tyX0_ok, nmX0, rfl, by decide +kernel⟩
theorem fl_RX2_42 : FL RX2 42 0 8 := ⟨RX0, TX0, 9, rfl, by decide, tb_in (List.mem_of_getElem? (i := 269) (by decide +kernel)) rfl, uw_0⟩
theorem fl_RX3_9 : FL RX3 9 3 3 := ⟨RX3, TX3, 8, rfl, by decide, tb_in (List.mem_of_getElem? (i := 367) (by decide +kernel)) rfl, uw_3⟩
theorem fl_RX3_17 : FL RX3 17 3 4 := ⟨RX3, TX3, 8, rfl, by decide, tb_in (List.mem_of_getElem? (i := 368) (by decide +kernel)) rfl, uw_3⟩
theorem fl_RX3_20 : FL RX3 20 3 0 := ⟨RX3, TX3, 8, rfl, by decide, tb_in (List.mem_of_getElem? (i := 364) (by decide +kernel)) rfl, uw_3⟩
theorem fl_RX3_24 : FL RX3 24 3 1 := ⟨RX3, TX3, 8, rfl, by decide, tb_in (List.mem_of_getElem? (i := 365) (by decide +kernel)) rfl, uw_3⟩
theorem fl_RX3_28 : FL RX3 28 3 2 := ⟨RX3, TX3, 8, rfl, by decide, tb_in (List.mem_of_getElem? (i := 366) (by decide +kernel)) rfl, uw_3⟩
theorem fl_RX3_32 : FL RX3 32 3 5 := ⟨RX3, TX3, 8, rfl, by decide, tb_in (List.mem_of_getElem? (i := 369) (by decide +kernel)) rfl, uw_3⟩
theorem fp_RX3_32 : FP RX3 32 3 5 .int := ⟨RX3, TX3, 8, tyX3, rfl, by decide, tb_in (List.mem_of_getElem? (i := 369) (by decide +kernel)) rfl, uw_3, tyX3_ok, nmX3, rfl, by decide +kernel⟩
theorem fl_RX3_36 : FL RX3 36 0 6 := ⟨RX0, TX0, 9, rfl, by decide, tb_in (List.mem_of_getElem? (i := 254) (by decide +kernel)) rfl, uw_0⟩
theorem fp_RX3_36 : FP RX3 36 0 6 .int := ⟨RX0, TX0, 9, tyX0, rfl, by decide, tb_in (List.mem_of_getElem? (i := 254) (by decide +kernel)) rfl, uw_0, tyX0_ok, nmX0, rfl, by decide +kernel⟩
theorem fl_RX3_47 : FL RX3 47 8 1 := ⟨RX8, TX8, 15, rfl, by decide, tb_in (List.mem_of_getElem? (i := 132) (by decide +kernel)) rfl, uw_8⟩
theorem fp_RX3_47 : FP RX3 47 8 1 .int := ⟨RX8, TX8, 15, tyX8, rfl, by decide, tb_in (List.mem_of_getElem? (i := 132) (by decide +kernel)) rfl, uw_8, tyX8_ok, nmX8, rfl, by decide +kernel⟩
theorem fl_RX3_59 : FL RX3 59 0 2 := ⟨RX0, TX0, 9, rfl, by decide, tb_in (List.mem_of_getElem? (i := 240) (by decide +kernel)) rfl, uw_0⟩
theorem fp_RX3_59 : FP RX3 59 0 2 .int := ⟨RX0, TX0, 9, tyX0, rfl, by decide, tb_in (List.mem_of_getElem? (i := 240) (by decide +kernel)) rfl, uw_0, tyX0_ok, nmX0, rfl, by decide +kernel⟩
theorem fl_RX3_62 : FL RX3 62 0 3 := ⟨RX0, TX0, 9, rfl, by decide, tb_in (List.mem_of_getElem? (i := 245) (by decide +kernel)) rfl, uw_0⟩
theorem fp_RX3_62 : FP RX3 62 0 3 .int := ⟨RX0, TX0, 9, tyX0, rfl, by decide, tb_in (List.mem_of_getElem? (i := 245) (by decide +kernel)) rfl, uw_0, tyX0_ok, nmX0, rfl, by decide +kernel⟩
theorem fl_RX3_72 : FL RX3 72 0 1 := ⟨RX0, TX0, 9, rfl, by decide, tb_in (List.mem_of_getElem? (i := 235) (by decide +kernel)) rfl, uw_0⟩
theorem fp_RX3_72 : FP RX3 72 0 1 .int := ⟨RX0, TX0, 9, tyX0, rfl, by decide, tb_in (List.mem_of_getElem? (i := 235) (by decide +kernel)) rfl, uw_0, tyX0_ok, nmX0, rfl, by decide +kernel⟩
theorem fl_RX3_79 : FL RX3 79 0 4 := ⟨RX0, TX0, 9, rfl, by decide, tb_in (List.mem_of_getElem? (i := 248) (by decide +kernel)) rfl, uw_0⟩
theorem fp_RX3_79 : FP RX3 79 0 4 .int := ⟨RX0, TX0, 9, tyX0, rfl, by decide, tb_in (List.mem_of_getElem? (i := 248) (by decide +kernel)) rfl, uw_0, tyX0_ok, nmX0, rfl, by decide +kernel⟩
theorem fl_RX3_92 : FL RX3 92 0 0 := ⟨RX0, TX0, 9, rfl, by decide, tb_in (List.mem_of_getElem? (i := 231) (by decide +kernel)) rfl, uw_0⟩
theorem fp_RX3_92 : FP RX3 92 0 0 .int := ⟨RX0, TX0, 9, tyX0, rfl, by decide, tb_in (List.mem_of_getElem? (i := 231) (by decide +kernel)) rfl, uw_0, tyX0_ok, nmX0, rfl, by decide +kernel⟩
theorem fl_RX3_95 : FL RX3 95 3 6 := ⟨RX3, TX3, 8, rfl, by decide, tb_in (List.mem_of_getElem? (i := 370) (by decide +kernel)) rfl, uw_3⟩
theorem fp_RX3_95 : FP RX3 95 3 6 .int := ⟨RX3, TX3, 8, tyX3, rfl, by decide, tb_in (List.mem_of_getElem? (i := 370) (by decide +kernel)) rfl, uw_3, tyX3_ok, nmX3, rfl, by decide +kernel⟩
theorem fl_RX3_98 : FL RX3 98 3 7 := ⟨RX3, TX3, 8, rfl, by decide, tb_in (List.mem_of_getElem? (i := 371) (by decide +kernel)) rfl, uw_3⟩
theorem fp_RX3_98 : FP RX3 98 3 7 .int := ⟨RX3, TX3, 8, tyX3, rfl, by decide, tb_in (List.mem_of_getElem? (i := 371) (by decide +kernel)) rfl, uw_3, tyX3_ok, nmX3, rfl, by decide +kernel⟩
theorem fl_RX3_101 : FL RX3 101 6 2 := ⟨RX6, TX6, 7, rfl, by decide, tb_in (List.mem_of_getElem? (i := 336) (by decide +kernel)) rfl, uw_6⟩
theorem fl_RX3_119 : FL RX3 119 0 8 := ⟨RX0, TX0, 9, rfl, by decide, tb_in (List.mem_of_getElem? (i := 271) (by decide +kernel)) rfl, uw_0⟩
theorem fl_RX4_9 : FL RX4 9 4 4 := ⟨RX4, TX4, 7, rfl, by decide, tb_in (List.mem_of_getElem? (i := 423) (by decide +kernel)) rfl, uw_4⟩
theorem fl_RX4_15 : FL RX4 15 4 5 := ⟨RX4, TX4, 7, rfl, by decide, tb_in (List.mem_of_getElem? (i := 424) (by decide +kernel)) rfl, uw_4⟩
theorem fl_RX4_18 : FL RX4 18 4 6 := ⟨RX4, TX4, 7, rfl, by decide, tb_in (List.mem_of_getElem? (i := 425) (by decide +kernel)) rfl, uw_4⟩
theorem fl_RX4_21 : FL RX4 21 4 0 := ⟨RX4, TX4, 7, rfl, by decide, tb_in (List.mem_of_getElem? (i := 418) (by decide +kernel)) rfl, uw_4⟩
theorem fl_RX4_25 : FL RX4 25 4 1 := ⟨RX4, TX4, 7, rfl, by decide, tb_in (List.mem_of_getElem? (i := 419) (by decide +kernel)) rfl, uw_4⟩
theorem fl_RX4_29 : FL RX4 29 4 2 := ⟨RX4, TX4, 7, rfl, by decide, tb_in (List.mem_of_getElem? (i := 420) (by decide +kernel)) rfl, uw_4⟩
theorem fp_RX4_29 : FP RX4 29 4 2 .int := ⟨RX4, TX4, 7, tyX4, rfl, by decide, tb_in (List.mem_of_getElem? (i := 420) (by decide +kernel)) rfl, uw_4, tyX4_ok, nmX4, rfl, by decide +kernel⟩
theorem fl_RX4_41 : FL RX4 41 4 3 := ⟨RX4, TX4, 7, rfl, by decide, tb_in (List.mem_of_getElem? (i := 421) (by decide +kernel)) rfl, uw_4⟩
theorem fp_RX4_41 : FP RX4 41 4 3 .int := ⟨RX4, TX4, 7, tyX4, rfl, by decide, tb_in (List.mem_of_getElem? (i := 421) (by decide +kernel)) rfl, uw_4, tyX4_ok, nmX4, rfl, by decide +kernel⟩
theorem fl_RX4_44 : FL RX4 44 2 0 := ⟨RX2, TX2, 2, rfl, by decide, tb_in (List.mem_of_getElem? (i := 294) (by decide +kernel)) rfl, uw_2⟩
theorem fp_RX4_44 : FP RX4 44 2 0 .int := ⟨RX2, TX2, 2, tyX2, rfl, by decide, tb_in (List.mem_of_getElem? (i := 294) (by decide +kernel)) rfl, uw_2, tyX2_ok, nmX2, rfl, by decide +kernel⟩
theorem fl_RX4_54 : FL RX4 54 2 1 := ⟨RX2, TX2, 2, rfl, by decide, tb_in (List.mem_of_getElem? (i := 299) (by decide +kernel)) rfl, uw_2⟩
theorem fl_RX4_58 : FL RX4 58 0 7 := ⟨RX0, TX0, 9, rfl, by decide, tb_in (List.mem_of_getElem? (i := 259) (by decide +kernel)) rfl, uw_0⟩
theorem fp_RX4_58 : FP RX4 58 0 7 .boolean := ⟨RX0, TX0, 9, tyX0, rfl, by decide, tb_in (List.mem_of_getElem? (i := 259) (by decide +kernel)) rfl, uw_0, tyX0_ok, nmX0, rfl, by decide +kernel⟩
theorem fl_RX4_82 : FL RX4 82 0 5 := ⟨RX0, TX0, 9, rfl, by decide, tb_in (List.mem_of_getElem? (i := 252) (by decide +kernel)) rfl, uw_0⟩
theorem fp_RX4_82 : FP RX4 82 0 5 .int := ⟨RX0, TX0, 9, tyX0, rfl, by decide, tb_in (List.mem_of_getElem? (i := 252) (by decide +kernel)) rfl, uw_0, tyX0_ok, nmX0, rfl, by decide +kernel⟩
theorem fl_RX4_85 : FL RX4 85 0 8 := ⟨RX0, TX0, 9, rfl, by decide, tb_in (List.mem_of_getElem? (i := 270) (by decide +kernel)) rfl, uw_0⟩
theorem fl_RX4_89 : FL RX4 89 9 1 := ⟨RX9, TX9, 4, rfl, by decide, tb_in (List.mem_of_getElem? (i := 217) (by decide +kernel)) rfl, uw_9⟩
theorem fp_RX4_89 : FP RX4 89 9 1 .int := ⟨RX9, TX9, 4, tyX9, rfl, by decide, tb_in (List.mem_of_getElem? (i := 217) (by decide +kernel)) rfl, uw_9, tyX9_ok, nmX9, rfl, by decide +kernel⟩
theorem fl_RX4_94 : FL RX4 94 0 2 := ⟨RX0, TX0, 9, rfl, by decide, tb_in (List.mem_of_getElem? (i := 241) (by decide +kernel)) rfl, uw_0⟩
theorem fp_RX4_94 : FP RX4 94 0 2 .int := ⟨RX0, TX0, 9, tyX0, rfl, by decide, tb_in (List.mem_of_getElem? (i := 241) (by decide +kernel)) rfl, uw_0, tyX0_ok, nmX0, rfl, by decide +kernel⟩
theorem fl_RX5_9 : FL RX5 9 5 2 := ⟨RX5, TX5, 3, rfl, by decide, tb_in (List.mem_of_getElem? (i := 317) (by decide +kernel)) rfl, uw_5⟩
theorem fl_RX5_15 : FL RX5 15 5 0 := ⟨RX5, TX5, 3, rfl, by decide, tb_in (List.mem_of_getElem? (i := 315) (by decide +kernel)) rfl, uw_5⟩
theorem fl_RX5_19 : FL RX5 19 5 1 := ⟨RX5, TX5, 3, rfl, by decide, tb_in (List.mem_of_getElem? (i := 316) (by decide +kernel)) rfl, uw_5⟩
theorem fl_RX5_29 : FL RX5 29 8 9 := ⟨RX8, TX8, 15, rfl, by decide, tb_in (List.mem_of_getElem? (i := 146) (by decide +kernel)) rfl, uw_8⟩
theorem fl_RX5_32 : FL RX5 32 8 10 := ⟨RX8, TX8, 15, rfl, by decide, tb_in (List.mem_of_getElem? (i := 148) (by decide +kernel)) rfl, uw_8⟩
theorem fl_RX5_35 : FL RX5 35 8 1 := ⟨RX8, TX8, 15, rfl, by decide, tb_in (List.mem_of_getElem? (i := 133) (by decide +kernel)) rfl, uw_8⟩
theorem fp_RX5_35 : FP RX5 35 8 1 .int := ⟨RX8, TX8, 15, tyX8, rfl, by decide, tb_in (List.mem_of_getElem? (i := 133) (by decide +kernel)) rfl, uw_8, tyX8_ok, nmX8, rfl, by decide +kernel⟩
theorem fl_RX5_42 : FL RX5 42 2 0 := ⟨RX2, TX2, 2, rfl, by decide, tb_in (List.mem_of_getElem? (i := 296) (by decide +kernel)) rfl, uw_2⟩
theorem fp_RX5_42 : FP RX5 42 2 0 .int := ⟨RX2, TX2, 2, tyX2, rfl, by decide, tb_in (List.mem_of_getElem? (i := 296) (by decide +kernel)) rfl, uw_2, tyX2_ok, nmX2, rfl, by decide +kernel⟩
theorem fl_RX5_47 : FL RX5 47 2 1 := ⟨RX2, TX2, 2, rfl, by decide, tb_in (List.mem_of_getElem? (i := 302) (by decide +kernel)) rfl, uw_2⟩
theorem fl_RX5_51 : FL RX5 51 0 7 := ⟨RX0, TX0, 9, rfl, by decide, tb_in (List.mem_of_getElem? (i := 263) (by decide +kernel)) rfl, uw_0⟩
theorem fp_RX5_51 : FP RX5 51 0 7 .boolean := ⟨RX0, TX0, 9, tyX0, rfl, by decide, tb_in (List.mem_of_getElem? (i := 263) (by decide +kernel)) rfl, uw_0, tyX0_ok, nmX0, rfl, by decide +kernel⟩
theorem fl_RX5_57 : FL RX5 57 0 8 := ⟨RX0, TX0, 9, rfl, by decide, tb_in (List.mem_of_getElem? (i := 268) (by decide +kernel)) rfl, uw_0⟩
theorem fl_RX5_65 : FL RX5 65 0 6 := ⟨RX0, TX0, 9, rfl, by decide, tb_in (List.mem_of_getElem? (i := 256) (by decide +kernel)) rfl, uw_0⟩
theorem fp_RX5_65 : FP RX5 65 0 6 .int := ⟨RX0, TX0, 9, tyX0, rfl, by decide, tb_in (List.mem_of_getElem? (i := 256) (by decide +kernel)) rfl, uw_0, tyX0_ok, nmX0, rfl, by decide +kernel⟩
theorem fl_RX5_68 : FL RX5 68 9 0 := ⟨RX9, TX9, 4, rfl, by decide, tb_in (List.mem_of_getElem? (i := 212) (by decide +kernel)) rfl, uw_9⟩
theorem fp_RX5_68 : FP RX5 68 9 0 .int := ⟨RX9, TX9, 4, tyX9, rfl, by decide, tb_in (List.mem_of_getElem? (i := 212) (by decide +kernel)) rfl, uw_9, tyX9_ok, nmX9, rfl, by decide +kernel⟩
theorem fl_RX5_73 : FL RX5 73 9 1 := ⟨RX9, TX9, 4, rfl, by decide, tb_in (List.mem_of_getElem? (i := 216) (by decide +kernel)) rfl, uw_9⟩
theorem fp_RX5_73 : FP RX5 73 9 1 .int := ⟨RX9, TX9, 4, tyX9, rfl, by decide, tb_in (List.mem_of_getElem? (i := 216) (by decide +kernel)) rfl, uw_9, tyX9_ok, nmX9, rfl, by decide +kernel⟩
theorem fl_RX6_9 : FL RX6 9 6 2 := ⟨RX6, TX6, 7, rfl, by decide, tb_in (List.mem_of_getElem? (i := 335) (by decide +kernel)) rfl, uw_6⟩
theorem fl_RX6_17 : FL RX6 17 6 3 := ⟨RX6, TX6, 7, rfl, by decide, tb_in (List.mem_of_getElem? (i := 337) (by decide +kernel)) rfl, uw_6⟩
theorem fl_RX6_20 : FL RX6 20 6 4 := ⟨RX6, TX6, 7, rfl, by decide, tb_in (List.mem_of_getElem? (i := 338) (by decide +kernel)) rfl, uw_6⟩
theorem fl_RX6_23 : FL RX6 23 6 0 := ⟨RX6, TX6, 7, rfl, by decide, tb_in (List.mem_of_getElem? (i := 333) (by decide +kernel)) rfl, uw_6⟩
theorem fl_RX6_27 : FL RX6 27 6 1 := ⟨RX6, TX6, 7, rfl, by decide, tb_in (List.mem_of_getElem? (i := 334) (by decide +kernel)) rfl, uw_6⟩
theorem fl_RX6_31 : FL RX6 31 9 1 := ⟨RX9, TX9, 4, rfl, by decide, tb_in (List.mem_of_getElem? (i := 214) (by decide +kernel)) rfl, uw_9⟩
theorem fp_RX6_31 : FP RX6 31 9 1 .int := ⟨RX9, TX9, 4, tyX9, rfl, by decide, tb_in (List.mem_of_getElem? (i := 214) (by decide +kernel)) rfl, uw_9, tyX9_ok, nmX9, rfl, by decide +kernel⟩
theorem fl_RX6_43 : FL RX6 43 9 0 := ⟨RX9, TX9, 4, rfl, by decide, tb_in (List.mem_of_getElem? (i := 210) (by decide +kernel)) rfl, uw_9⟩
theorem fp_RX6_43 : FP RX6 43 9 0 .int := ⟨RX9, TX9, 4, tyX9, rfl, by decide, tb_in (List.mem_of_getElem? (i := 210) (by decide +kernel)) rfl, uw_9, tyX9_ok, nmX9, rfl, by decide +kernel⟩
theorem fl_RX6_58 : FL RX6 58 0 2 := ⟨RX0, TX0, 9, rfl, by decide, tb_in (List.mem_of_getElem? (i := 238) (by decide +kernel)) rfl, uw_0⟩
theorem fp_RX6_58 : FP RX6 58 0 2 .int := ⟨RX0, TX0, 9, tyX0, rfl, by decide, tb_in (List.mem_of_getElem? (i := 238) (by decide +kernel)) rfl, uw_0, tyX0_ok, nmX0, rfl, by decide +kernel⟩
theorem fl_RX6_63 : FL RX6 63 0 3 := ⟨RX0, TX0, 9, rfl, by decide, tb_in (List.mem_of_getElem? (i := 244) (by decide +kernel)) rfl, uw_0⟩
theorem fp_RX6_63 : FP RX6 63 0 3 .int := ⟨RX0, TX0, 9, tyX0, rfl, by decide, tb_in (List.mem_of_getElem? (i := 244) (by decide +kernel)) rfl, uw_0, tyX0_ok, nmX0, rfl, by decide +kernel⟩
theorem fl_RX6_66 : FL RX6 66 8 14 := ⟨RX8, TX8, 15, rfl, by decide, tb_in (List.mem_of_getElem? (i := 155) (by decide +kernel)) rfl, uw_8⟩
theorem fl_RX6_69 : FL RX6 69 2 0 := ⟨RX2, TX2, 2, rfl, by decide, tb_in (List.mem_of_getElem? (i := 295) (by decide +kernel)) rfl, uw_2⟩
theorem fp_RX6_69 : FP RX6 69 2 0 .int := ⟨RX2, TX2, 2, tyX2, rfl, by decide, tb_in (List.mem_of_getElem? (i := 295) (by decide +kernel)) rfl, uw_2, tyX2_ok, nmX2, rfl, by decide +kernel⟩
theorem fl_RX6_74 : FL RX6 74 2 1 := ⟨RX2, TX2, 2, rfl, by decide, tb_in (List.mem_of_getElem? (i := 300) (by decide +kernel)) rfl, uw_2⟩
theorem fl_RX6_78 : FL RX6 78 0 7 := ⟨RX0, TX0, 9, rfl, by decide, tb_in (List.mem_of_getElem? (i := 260) (by decide +kernel)) rfl, uw_0⟩
theorem fp_RX6_78 : FP RX6 78 0 7 .boolean := ⟨RX0, TX0, 9, tyX0, rfl, by decide, tb_in (List.mem_of_getElem? (i := 260) (by decide +kernel)) rfl, uw_0, tyX0_ok, nmX0, rfl, by decide +kernel⟩
theorem fl_RX6_86 : FL RX6 86 0 8 := ⟨RX0, TX0, 9, rfl, by decide, tb_in (List.mem_of_getElem? (i := 266) (by decide +kernel)) rfl, uw_0⟩
theorem fl_RX6_98 : FL RX6 98 8 11 := ⟨RX8, TX8, 15, rfl, by decide, tb_in (List.mem_of_getElem? (i := 150) (by decide +kernel)) rfl, uw_8⟩
theorem fl_RX6_109 : FL RX6 109 8 8 := ⟨RX8, TX8, 15, rfl, by decide, tb_in (List.mem_of_getElem? (i := 144) (by decide +kernel)) rfl, uw_8⟩
theorem fp_RX6_109 : FP RX6 109 8 8 .long := ⟨RX8, TX8, 15, tyX8, rfl, by decide, tb_in (List.mem_of_getElem? (i := 144) (by decide +kernel)) rfl, uw_8, tyX8_ok, nmX8, rfl, by decide +kernel⟩
theorem fl_RX6_113 : FL RX6 113 8 0 := ⟨RX8, TX8, 15, rfl, by decide, tb_in (List.mem_of_getElem? (i := 129) (by decide +kernel)) rfl, uw_8⟩
theorem fp_RX6_113 : FP RX6 113 8 0 .int := ⟨RX8, TX8, 15, tyX8, rfl, by decide, tb_in (List.mem_of_getElem? (i := 129) (by decide +kernel)) rfl, uw_8, tyX8_ok, nmX8, rfl, by decide +kernel⟩
theorem fl_RX6_116 : FL RX6 116 8 7 := ⟨RX8, TX8, 15, rfl, by decide, tb_in (List.mem_of_getElem? (i := 142) (by decide +kernel)) rfl, uw_8⟩
theorem fp_RX6_116 : FP RX6 116 8 7 .long := ⟨RX8, TX8, 15, tyX8, rfl, by decide, tb_in (List.mem_of_getElem? (i := 142) (by decide +kernel)) rfl, uw_8, tyX8_ok, nmX8, rfl, by decide +kernel⟩
theorem fl_RX6_135 : FL RX6 135 0 1 := ⟨RX0, TX0, 9, rfl, by decide, tb_in (List.mem_of_getElem? (i := 237) (by decide +kernel)) rfl, uw_0⟩
theorem fp_RX6_135 : FP RX6 135 0 1 .int := ⟨RX0, TX0, 9, tyX0, rfl, by decide, tb_in (List.mem_of_getElem? (i := 237) (by decide +kernel)) rfl, uw_0, tyX0_ok, nmX0, rfl, by decide +kernel⟩
theorem fl_RX6_146 : FL RX6 146 0 0 := ⟨RX0, TX0, 9, rfl, by decide, tb_in (List.mem_of_getElem? (i := 233) (by decide +kernel)) rfl, uw_0⟩
theorem fp_RX6_146 : FP RX6 146 0 0 .int := ⟨RX0, TX0, 9, tyX0, rfl, by decide, tb_in (List.mem_of_getElem? (i := 233) (by decide +kernel)) rfl, uw_0, tyX0_ok, nmX0, rfl, by decide +kernel⟩
theorem fl_RX6_149 : FL RX6 149 0 4 := ⟨RX0, TX0, 9, rfl, by decide, tb_in (List.mem_of_getElem? (i := 250) (by decide +kernel)) rfl, uw_0⟩
theorem fp_RX6_149 : FP RX6 149 0 4 .int := ⟨RX0, TX0, 9, tyX0, rfl, by decide, tb_in (List.mem_of_getElem? (i := 250) (by decide +kernel)) rfl, uw_0, tyX0_ok, nmX0, rfl, by decide +kernel⟩
theorem fl_RX6_155 : FL RX6 155 6 5 := ⟨RX6, TX6, 7, rfl, by decide, tb_in (List.mem_of_getElem? (i := 339) (by decide +kernel)) rfl, uw_6⟩
theorem fp_RX6_155 : FP RX6 155 6 5 .int := ⟨RX6, TX6, 7, tyX6, rfl, by decide, tb_in (List.mem_of_getElem? (i := 339) (by decide +kernel)) rfl, uw_6, tyX6_ok, nmX6, rfl, by decide +kernel⟩
theorem fl_RX6_156 : FL RX6 156 6 6 := ⟨RX6, TX6, 7, rfl, by decide, tb_in (List.mem_of_getElem? (i := 340) (by decide +kernel)) rfl, uw_6⟩
theorem fp_RX6_156 : FP RX6 156 6 6 .int := ⟨RX6, TX6, 7, tyX6, rfl, by decide, tb_in (List.mem_of_getElem? (i := 340) (by decide +kernel)) rfl, uw_6, tyX6_ok, nmX6, rfl, by decide +kernel⟩
theorem fl_RX7_9 : FL RX7 9 7 6 := ⟨RX7, TX7, 7, rfl, by decide, tb_in (List.mem_of_getElem? (i := 454) (by decide +kernel)) rfl, uw_7⟩
theorem fl_RX7_15 : FL RX7 15 7 0 := ⟨RX7, TX7, 7, rfl, by decide, tb_in (List.mem_of_getElem? (i := 447) (by decide +kernel)) rfl, uw_7⟩
theorem fl_RX7_19 : FL RX7 19 7 1 := ⟨RX7, TX7, 7, rfl, by decide, tb_in (List.mem_of_getElem? (i := 448) (by decide +kernel)) rfl, uw_7⟩
theorem fl_RX7_23 : FL RX7 23 7 2 := ⟨RX7, TX7, 7, rfl, by decide, tb_in (List.mem_of_getElem? (i := 449) (by decide +kernel)) rfl, uw_7⟩
theorem fp_RX7_23 : FP RX7 23 7 2 .boolean := ⟨RX7, TX7, 7, tyX7, rfl, by decide, tb_in (List.mem_of_getElem? (i := 449) (by decide +kernel)) rfl, uw_7, tyX7_ok, nmX7, rfl, by decide +kernel⟩
theorem fl_RX7_27 : FL RX7 27 7 3 := ⟨RX7, TX7, 7, rfl, by decide, tb_in (List.mem_of_getElem? (i := 451) (by decide +kernel)) rfl, uw_7⟩
theorem fp_RX7_27 : FP RX7 27 7 3 .int := ⟨RX7, TX7, 7, tyX7, rfl, by decide, tb_in (List.mem_of_getElem? (i := 451) (by decide +kernel)) rfl, uw_7, tyX7_ok, nmX7, rfl, by decide +kernel⟩
theorem fl_RX7_31 : FL RX7 31 7 4 := ⟨RX7, TX7, 7, rfl, by decide, tb_in (List.mem_of_getElem? (i := 452) (by decide +kernel)) rfl, uw_7⟩
theorem fp_RX7_31 : FP RX7 31 7 4 .int := ⟨RX7, TX7, 7, tyX7, rfl, by decide, tb_in (List.mem_of_getElem? (i := 452) (by decide +kernel)) rfl, uw_7, tyX7_ok, nmX7, rfl, by decide +kernel⟩
theorem fl_RX7_34 : FL RX7 34 7 5 := ⟨RX7, TX7, 7, rfl, by decide, tb_in (List.mem_of_getElem? (i := 453) (by decide +kernel)) rfl, uw_7⟩
theorem fp_RX7_34 : FP RX7 34 7 5 .int := ⟨RX7, TX7, 7, tyX7, rfl, by decide, tb_in (List.mem_of_getElem? (i := 453) (by decide +kernel)) rfl, uw_7, tyX7_ok, nmX7, rfl, by decide +kernel⟩
theorem fl_RX7_47 : FL RX7 47 8 12 := ⟨RX8, TX8, 15, rfl, by decide, tb_in (List.mem_of_getElem? (i := 152) (by decide +kernel)) rfl, uw_8⟩
theorem fl_RX7_52 : FL RX7 52 9 0 := ⟨RX9, TX9, 4, rfl, by decide, tb_in (List.mem_of_getElem? (i := 211) (by decide +kernel)) rfl, uw_9⟩
theorem fp_RX7_52 : FP RX7 52 9 0 .int := ⟨RX9, TX9, 4, tyX9, rfl, by decide, tb_in (List.mem_of_getElem? (i := 211) (by decide +kernel)) rfl, uw_9, tyX9_ok, nmX9, rfl, by decide +kernel⟩
theorem fl_RX7_63 : FL RX7 63 9 1 := ⟨RX9, TX9, 4, rfl, by decide, tb_in (List.mem_of_getElem? (i := 215) (by decide +kernel)) rfl, uw_9⟩
theorem fp_RX7_63 : FP RX7 63 9 1 .int := ⟨RX9, TX9, 4, tyX9, rfl, by decide, tb_in (List.mem_of_getElem? (i := 215) (by decide +kernel)) rfl, uw_9, tyX9_ok, nmX9, rfl, by decide +kernel⟩
theorem fl_RX7_75 : FL RX7 75 2 1 := ⟨RX2, TX2, 2, rfl, by decide, tb_in (List.mem_of_getElem? (i := 301) (by decide +kernel)) rfl, uw_2⟩
theorem fl_RX7_81 : FL RX7 81 0 7 := ⟨RX0, TX0, 9, rfl, by decide, tb_in (List.mem_of_getElem? (i := 262) (by decide +kernel)) rfl, uw_0⟩
theorem fp_RX7_81 : FP RX7 81 0 7 .boolean := ⟨RX0, TX0, 9, tyX0, rfl, by decide, tb_in (List.mem_of_getElem? (i := 262) (by decide +kernel)) rfl, uw_0, tyX0_ok, nmX0, rfl, by decide +kernel⟩
theorem fl_RX7_86 : FL RX7 86 0 8 := ⟨RX0, TX0, 9, rfl, by decide, tb_in (List.mem_of_getElem? (i := 267) (by decide +kernel)) rfl, uw_0⟩
theorem fl_RX7_94 : FL RX7 94 2 0 := ⟨RX2, TX2, 2, rfl, by decide, tb_in (List.mem_of_getElem? (i := 297) (by decide +kernel)) rfl, uw_2⟩
theorem fp_RX7_94 : FP RX7 94 2 0 .int := ⟨RX2, TX2, 2, tyX2, rfl, by decide, tb_in (List.mem_of_getElem? (i := 297) (by decide +kernel)) rfl, uw_2, tyX2_ok, nmX2, rfl, by decide +kernel⟩
theorem fl_RX8_9 : FL RX8 9 8 2 := ⟨RX8, TX8, 15, rfl, by decide, tb_in (List.mem_of_getElem? (i := 134) (by decide +kernel)) rfl, uw_8⟩
theorem fp_RX8_9 : FP RX8 9 8 2 .int := ⟨RX8, TX8, 15, tyX8, rfl, by decide, tb_in (List.mem_of_getElem? (i := 134) (by decide +kernel)) rfl, uw_8, tyX8_ok, nmX8, rfl, by decide +kernel⟩
theorem fl_RX8_15 : FL RX8 15 8 3 := ⟨RX8, TX8, 15, rfl, by decide, tb_in (List.mem_of_getElem? (i := 135) (by decide +kernel)) rfl, uw_8⟩
theorem fp_RX8_15 : FP RX8 15 8 3 .int := ⟨RX8, TX8, 15, tyX8, rfl, by decide, tb_in (List.mem_of_getElem? (i := 135) (by decide +kernel)) rfl, uw_8, tyX8_ok, nmX8, rfl, by decide +kernel⟩
theorem fl_RX8_18 : FL RX8 18 8 9 := ⟨RX8, TX8, 15, rfl, by decide, tb_in (List.mem_of_getElem? (i := 145) (by decide +kernel)) rfl, uw_8⟩
theorem fl_RX8_22 : FL RX8 22 8 10 := ⟨RX8, TX8, 15, rfl, by decide, tb_in (List.mem_of_getElem? (i := 147) (by decide +kernel)) rfl, uw_8⟩
theorem fl_RX8_25 : FL RX8 25 8 11 := ⟨RX8, TX8, 15, rfl, by decide, tb_in (List.mem_of_getElem? (i := 149) (by decide +kernel)) rfl, uw_8⟩
theorem fl_RX8_29 : FL RX8 29 8 12 := ⟨RX8, TX8, 15, rfl, by decide, tb_in (List.mem_of_getElem? (i := 151) (by decide +kernel)) rfl, uw_8⟩
theorem fl_RX8_32 : FL RX8 32 8 13 := ⟨RX8, TX8, 15, rfl, by decide, tb_in (List.mem_of_getElem? (i := 153) (by decide +kernel)) rfl, uw_8⟩
theorem fl_RX8_35 : FL RX8 35 8 14 := ⟨RX8, TX8, 15, rfl, by decide, tb_in (List.mem_of_getElem? (i := 154) (by decide +kernel)) rfl, uw_8⟩
theorem fl_RX8_42 : FL RX8 42 8 0 := ⟨RX8, TX8, 15, rfl, by decide, tb_in (List.mem_of_getElem? (i := 128) (by decide +kernel)) rfl, uw_8⟩
theorem fp_RX8_42 : FP RX8 42 8 0 .int := ⟨RX8, TX8, 15, tyX8, rfl, by decide, tb_in (List.mem_of_getElem? (i := 128) (by decide +kernel)) rfl, uw_8, tyX8_ok, nmX8, rfl, by decide +kernel⟩
theorem fl_RX8_51 : FL RX8 51 8 1 := ⟨RX8, TX8, 15, rfl, by decide, tb_in (List.mem_of_getElem? (i := 130) (by decide +kernel)) rfl, uw_8⟩
theorem fp_RX8_51 : FP RX8 51 8 1 .int := ⟨RX8, TX8, 15, tyX8, rfl, by decide, tb_in (List.mem_of_getElem? (i := 130) (by decide +kernel)) rfl, uw_8, tyX8_ok, nmX8, rfl, by decide +kernel⟩
theorem fl_RX8_54 : FL RX8 54 8 6 := ⟨RX8, TX8, 15, rfl, by decide, tb_in (List.mem_of_getElem? (i := 140) (by decide +kernel)) rfl, uw_8⟩
theorem fp_RX8_54 : FP RX8 54 8 6 .long := ⟨RX8, TX8, 15, tyX8, rfl, by decide, tb_in (List.mem_of_getElem? (i := 140) (by decide +kernel)) rfl, uw_8, tyX8_ok, nmX8, rfl, by decide +kernel⟩
theorem fl_RX8_61 : FL RX8 61 8 4 := ⟨RX8, TX8, 15, rfl, by decide, tb_in (List.mem_of_getElem? (i := 136) (by decide +kernel)) rfl, uw_8⟩
theorem fp_RX8_61 : FP RX8 61 8 4 .int := ⟨RX8, TX8, 15, tyX8, rfl, by decide, tb_in (List.mem_of_getElem? (i := 136) (by decide +kernel)) rfl, uw_8, tyX8_ok, nmX8, rfl, by decide +kernel⟩
theorem fl_RX8_64 : FL RX8 64 8 5 := ⟨RX8, TX8, 15, rfl, by decide, tb_in (List.mem_of_getElem? (i := 138) (by decide +kernel)) rfl, uw_8⟩
theorem fp_RX8_64 : FP RX8 64 8 5 .int := ⟨RX8, TX8, 15, tyX8, rfl, by decide, tb_in (List.mem_of_getElem? (i := 138) (by decide +kernel)) rfl, uw_8, tyX8_ok, nmX8, rfl, by decide +kernel⟩
theorem fl_RX8_73 : FL RX8 73 8 7 := ⟨RX8, TX8, 15, rfl, by decide, tb_in (List.mem_of_getElem? (i := 141) (by decide +kernel)) rfl, uw_8⟩
theorem fp_RX8_73 : FP RX8 73 8 7 .long := ⟨RX8, TX8, 15, tyX8, rfl, by decide, tb_in (List.mem_of_getElem? (i := 141) (by decide +kernel)) rfl, uw_8, tyX8_ok, nmX8, rfl, by decide +kernel⟩
theorem fl_RX8_76 : FL RX8 76 8 8 := ⟨RX8, TX8, 15, rfl, by decide, tb_in (List.mem_of_getElem? (i := 143) (by decide +kernel)) rfl, uw_8⟩
theorem fp_RX8_76 : FP RX8 76 8 8 .long := ⟨RX8, TX8, 15, tyX8, rfl, by decide, tb_in (List.mem_of_getElem? (i := 143) (by decide +kernel)) rfl, uw_8, tyX8_ok, nmX8, rfl, by decide +kernel⟩
theorem fl_RX9_9 : FL RX9 9 9 2 := ⟨RX9, TX9, 4, rfl, by decide, tb_in (List.mem_of_getElem? (i := 219) (by decide +kernel)) rfl, uw_9⟩
theorem fl_RX9_15 : FL RX9 15 9 3 := ⟨RX9, TX9, 4, rfl, by decide, tb_in (List.mem_of_getElem? (i := 220) (by decide +kernel)) rfl, uw_9⟩
theorem fl_RX9_18 : FL RX9 18 9 1 := ⟨RX9, TX9, 4, rfl, by decide, tb_in (List.mem_of_getElem? (i := 213) (by decide +kernel)) rfl, uw_9⟩
theorem fp_RX9_18 : FP RX9 18 9 1 .int := ⟨RX9, TX9, 4, tyX9, rfl, by decide, tb_in (List.mem_of_getElem? (i := 213) (by decide +kernel)) rfl, uw_9, tyX9_ok, nmX9, rfl, by decide +kernel⟩
theorem fl_RX9_22 : FL RX9 22 9 0 := ⟨RX9, TX9, 4, rfl, by decide, tb_in (List.mem_of_getElem? (i := 209) (by decide +kernel)) rfl, uw_9⟩
theorem fp_RX9_22 : FP RX9 22 9 0 .int := ⟨RX9, TX9, 4, tyX9, rfl, by decide, tb_in (List.mem_of_getElem? (i := 209) (by decide +kernel)) rfl, uw_9, tyX9_ok, nmX9, rfl, by decide +kernel⟩
theorem fl_RX11_7 : FL RX11 7 11 2 := ⟨RX11, TX11, 32, rfl, by decide, tb_in (List.mem_of_getElem? (i := 1019) (by decide +kernel)) rfl, uw_11⟩
theorem fp_RX11_7 : FP RX11 7 11 2 .int := ⟨RX11, TX11, 32, tyX11, rfl, by decide, tb_in (List.mem_of_getElem? (i := 1019) (by decide +kernel)) rfl, uw_11, tyX11_ok, nmX11, rfl, by decide +kernel⟩
theorem fl_RX11_13 : FL RX11 13 11 6 := ⟨RX11, TX11, 32, rfl, by decide, tb_in (List.mem_of_getElem? (i := 1023) (by decide +kernel)) rfl, uw_11⟩
theorem fl_RX11_17 : FL RX11 17 11 7 := ⟨RX11, TX11, 32, rfl, by decide, tb_in (List.mem_of_getElem? (i := 1024) (by decide +kernel)) rfl, uw_11⟩
theorem fl_RX11_20 : FL RX11 20 11 8 := ⟨RX11, TX11, 32, rfl, by decide, tb_in (List.mem_of_getElem? (i := 1025) (by decide +kernel)) rfl, uw_11⟩
theorem fl_RX11_24 : FL RX11 24 11 10 := ⟨RX11, TX11, 32, rfl, by decide, tb_in (List.mem_of_getElem? (i := 1027) (by decide +kernel)) rfl, uw_11⟩
theorem fl_RX11_27 : FL RX11 27 11 11 := ⟨RX11, TX11, 32, rfl, by decide, tb_in (List.mem_of_getElem? (i := 1028) (by decide +kernel)) rfl, uw_11⟩
theorem fl_RX11_30 : FL RX11 30 11 12 := ⟨RX11, TX11, 32, rfl, by decide, tb_in (List.mem_of_getElem? (i := 1029) (by decide +kernel)) rfl, uw_11⟩
theorem fl_RX11_33 : FL RX11 33 11 13 := ⟨RX11, TX11, 32, rfl, by decide, tb_in (List.mem_of_getElem? (i := 1030) (by decide +kernel)) rfl, uw_11⟩
theorem fl_RX11_36 : FL RX11 36 11 14 := ⟨RX11, TX11, 32, rfl, by decide, tb_in (List.mem_of_getElem? (i := 1031) (by decide +kernel)) rfl, uw_11⟩
theorem fl_RX11_39 : FL RX11 39 11 15 := ⟨RX11, TX11, 32, rfl, by decide, tb_in (List.mem_of_getElem? (i := 1032) (by decide +kernel)) rfl, uw_11⟩
theorem fl_RX11_42 : FL RX11 42 11 16 := ⟨RX11, TX11, 32, rfl, by decide, tb_in (List.mem_of_getElem? (i := 1033) (by decide +kernel)) rfl, uw_11⟩
theorem fl_RX11_45 : FL RX11 45 11 17 := ⟨RX11, TX11, 32, rfl, by decide, tb_in (List.mem_of_getElem? (i := 1034) (by decide +kernel)) rfl, uw_11⟩
theorem fl_RX11_48 : FL RX11 48 11 18 := ⟨RX11, TX11, 32, rfl, by decide, tb_in (List.mem_of_getElem? (i := 1035) (by decide +kernel)) rfl, uw_11⟩
theorem fl_RX11_51 : FL RX11 51 11 21 := ⟨RX11, TX11, 32, rfl, by decide, tb_in (List.mem_of_getElem? (i := 1038) (by decide +kernel)) rfl, uw_11⟩
theorem fl_RX11_54 : FL RX11 54 11 22 := ⟨RX11, TX11, 32, rfl, by decide, tb_in (List.mem_of_getElem? (i := 1039) (by decide +kernel)) rfl, uw_11⟩
theorem fl_RX11_57 : FL RX11 57 11 23 := ⟨RX11, TX11, 32, rfl, by decide, tb_in (List.mem_of_getElem? (i := 1040) (by decide +kernel)) rfl, uw_11⟩
theorem fl_RX11_60 : FL RX11 60 11 24 := ⟨RX11, TX11, 32, rfl, by decide, tb_in (List.mem_of_getElem? (i := 1041) (by decide +kernel)) rfl, uw_11⟩
theorem fl_RX11_63 : FL RX11 63 11 25 := ⟨RX11, TX11, 32, rfl, by decide, tb_in (List.mem_of_getElem? (i := 1042) (by decide +kernel)) rfl, uw_11⟩
theorem fl_RX11_67 : FL RX11 67 11 27 := ⟨RX11, TX11, 32, rfl, by decide, tb_in (List.mem_of_getElem? (i := 1044) (by decide +kernel)) rfl, uw_11⟩
theorem fp_RX11_67 : FP RX11 67 11 27 .int := ⟨RX11, TX11, 32, tyX11, rfl, by decide, tb_in (List.mem_of_getElem? (i := 1044) (by decide +kernel)) rfl, uw_11, tyX11_ok, nmX11, rfl, by decide +kernel⟩
theorem fl_RX11_70 : FL RX11 70 11 30 := ⟨RX11, TX11, 32, rfl, by decide, tb_in (List.mem_of_getElem? (i := 1047) (by decide +kernel)) rfl, uw_11⟩
theorem fl_RX11_73 : FL RX11 73 11 31 := ⟨RX11, TX11, 32, rfl, by decide, tb_in (List.mem_of_getElem? (i := 1048) (by decide +kernel)) rfl, uw_11⟩
theorem fl_RX11_86 : FL RX11 86 11 0 := ⟨RX11, TX11, 32, rfl, by decide, tb_in (List.mem_of_getElem? (i := 1017) (by decide +kernel)) rfl, uw_11⟩
theorem fp_RX11_86 : FP RX11 86 11 0 .int := ⟨RX11, TX11, 32, tyX11, rfl, by decide, tb_in (List.mem_of_getElem? (i := 1017) (by decide +kernel)) rfl, uw_11, tyX11_ok, nmX11, rfl, by decide +kernel⟩
theorem fl_RX11_89 : FL RX11 89 11 1 := ⟨RX11, TX11, 32, rfl, by decide, tb_in (List.mem_of_getElem? (i := 1018) (by decide +kernel)) rfl, uw_11⟩
theorem fp_RX11_89 : FP RX11 89 11 1 .int := ⟨RX11, TX11, 32, tyX11, rfl, by decide, tb_in (List.mem_of_getElem? (i := 1018) (by decide +kernel)) rfl, uw_11, tyX11_ok, nmX11, rfl, by decide +kernel⟩
theorem fl_RX11_92 : FL RX11 92 11 4 := ⟨RX11, TX11, 32, rfl, by decide, tb_in (List.mem_of_getElem? (i := 1021) (by decide +kernel)) rfl, uw_11⟩
theorem fp_RX11_92 : FP RX11 92 11 4 .int := ⟨RX11, TX11, 32, tyX11, rfl, by decide, tb_in (List.mem_of_getElem? (i := 1021) (by decide +kernel)) rfl, uw_11, tyX11_ok, nmX11, rfl, by decide +kernel⟩
theorem fl_RX11_95 : FL RX11 95 11 5 := ⟨RX11, TX11, 32, rfl, by decide, tb_in (List.mem_of_getElem? (i := 1022) (by decide +kernel)) rfl, uw_11⟩
theorem fp_RX11_95 : FP RX11 95 11 5 .int := ⟨RX11, TX11, 32, tyX11, rfl, by decide, tb_in (List.mem_of_getElem? (i := 1022) (by decide +kernel)) rfl, uw_11, tyX11_ok, nmX11, rfl, by decide +kernel⟩
theorem fl_RX11_98 : FL RX11 98 11 9 := ⟨RX11, TX11, 32, rfl, by decide, tb_in (List.mem_of_getElem? (i := 1026) (by decide +kernel)) rfl, uw_11⟩
theorem fp_RX11_98 : FP RX11 98 11 9 .int := ⟨RX11, TX11, 32, tyX11, rfl, by decide, tb_in (List.mem_of_getElem? (i := 1026) (by decide +kernel)) rfl, uw_11, tyX11_ok, nmX11, rfl, by decide +kernel⟩
theorem fl_RX11_123 : FL RX11 123 11 3 := ⟨RX11, TX11, 32, rfl, by decide, tb_in (List.mem_of_getElem? (i := 1020) (by decide +kernel)) rfl, uw_11⟩
theorem fp_RX11_123 : FP RX11 123 11 3 .int := ⟨RX11, TX11, 32, tyX11, rfl, by decide, tb_in (List.mem_of_getElem? (i := 1020) (by decide +kernel)) rfl, uw_11, tyX11_ok, nmX11, rfl, by decide +kernel⟩
theorem fl_RX11_178 : FL RX11 178 11 19 := ⟨RX11, TX11, 32, rfl, by decide, tb_in (List.mem_of_getElem? (i := 1036) (by decide +kernel)) rfl, uw_11⟩
theorem fp_RX11_178 : FP RX11 178 11 19 .int := ⟨RX11, TX11, 32, tyX11, rfl, by decide, tb_in (List.mem_of_getElem? (i := 1036) (by decide +kernel)) rfl, uw_11, tyX11_ok, nmX11, rfl, by decide +kernel⟩
theorem fl_RX11_181 : FL RX11 181 11 20 := ⟨RX11, TX11, 32, rfl, by decide, tb_in (List.mem_of_getElem? (i := 1037) (by decide +kernel)) rfl, uw_11⟩
theorem fp_RX11_181 : FP RX11 181 11 20 .int := ⟨RX11, TX11, 32, tyX11, rfl, by decide, tb_in (List.mem_of_getElem? (i := 1037) (by decide +kernel)) rfl, uw_11, tyX11_ok, nmX11, rfl, by decide +kernel⟩
theorem fl_RX11_238 : FL RX11 238 11 26 := ⟨RX11, TX11, 32, rfl, by decide, tb_in (List.mem_of_getElem? (i := 1043) (by decide +kernel)) rfl, uw_11⟩
theorem fp_RX11_238 : FP RX11 238 11 26 .int := ⟨RX11, TX11, 32, tyX11, rfl, by decide, tb_in (List.mem_of_getElem? (i := 1043) (by decide +kernel)) rfl, uw_11, tyX11_ok, nmX11, rfl, by decide +kernel⟩
theorem fl_RX11_256 : FL RX11 256 11 28 := ⟨RX11, TX11, 32, rfl, by decide, tb_in (List.mem_of_getElem? (i := 1045) (by decide +kernel)) rfl, uw_11⟩
theorem fp_RX11_256 : FP RX11 256 11 28 .int := ⟨RX11, TX11, 32, tyX11, rfl, by decide, tb_in (List.mem_of_getElem? (i := 1045) (by decide +kernel)) rfl, uw_11, tyX11_ok, nmX11, rfl, by decide +kernel⟩
theorem fl_RX11_259 : FL RX11 259 11 29 := ⟨RX11, TX11, 32, rfl, by decide, tb_in (List.mem_of_getElem? (i := 1046) (by decide +kernel)) rfl, uw_11⟩
theorem fp_RX11_259 : FP RX11 259 11 29 .int := ⟨RX11, TX11, 32, tyX11, rfl, by decide, tb_in (List.mem_of_getElem? (i := 1046) (by decide +kernel)) rfl, uw_11, tyX11_ok, nmX11, rfl, by decide +kernel⟩
theorem ms_J13_bitCount_95d88 : MS yJ13_bitCount_95d88 cJ13_bitCount_95d88 2 (some .int) 1 := ⟨⟨by decide, by decide, by decide +kernel⟩, tb_in (List.mem_of_getElem? (i := 903) (by decide +kernel)) rfl, tb_in (List.mem_of_getElem? (i := 64) (by decide +kernel)) rfl, tb_in (List.mem_of_getElem? (i := 904) (by decide +kernel)) rfl, by decide⟩
theorem ms_J6_bitCount_0f7a4 : MS yJ6_bitCount_0f7a4 cJ6_bitCount_0f7a4 1 (some .int) 1 := ⟨⟨by decide, by decide, by decide +kernel⟩, tb_in (List.mem_of_getElem? (i := 808) (by decide +kernel)) rfl, tb_in (List.mem_of_getElem? (i := 63) (by decide +kernel)) rfl, tb_in (List.mem_of_getElem? (i := 809) (by decide +kernel)) rfl, by decide⟩
theorem ms_J9_abs_0f7a4 : MS yJ9_abs_0f7a4 cJ9_abs_0f7a4 1 (some .int) 1 := ⟨⟨by decide, by decide, by decide +kernel⟩, tb_in (List.mem_of_getElem? (i := 104) (by decide +kernel)) rfl, tb_in (List.mem_of_getElem? (i := 52) (by decide +kernel)) rfl, tb_in (List.mem_of_getElem? (i := 105) (by decide +kernel)) rfl, by decide⟩
theorem ms_J9_max_7cf53 : MS yJ9_max_7cf53 cJ9_max_7cf53 2 (some .int) 2 := ⟨⟨by decide, by decide, by decide +kernel⟩, tb_in (List.mem_of_getElem? (i := 107) (by decide +kernel)) rfl, tb_in (List.mem_of_getElem? (i := 52) (by decide +kernel)) rfl, tb_in (List.mem_of_getElem? (i := 108) (by decide +kernel)) rfl, by decide⟩
theorem ms_J9_min_7cf53 : MS yJ9_min_7cf53 cJ9_min_7cf53 2 (some .int) 2 := ⟨⟨by decide, by decide, by decide +kernel⟩, tb_in (List.mem_of_getElem? (i := 84) (by decide +kernel)) rfl, tb_in (List.mem_of_getElem? (i := 52) (by decide +kernel)) rfl, tb_in (List.mem_of_getElem? (i := 85) (by decide +kernel)) rfl, by decide⟩
theorem mv_X0_between : MV RX0 yX0_between cX0_between 3 none 2 := ⟨⟨rfl, by decide, by decide, by decide +kernel⟩, tb_in (List.mem_of_getElem? (i := 584) (by decide +kernel)) rfl, tb_in (List.mem_of_getElem? (i := 585) (by decide +kernel)) rfl, tb_in (List.mem_of_getElem? (i := 54) (by decide +kernel)) rfl, tb_in (List.mem_of_getElem? (i := 586) (by decide +kernel)) rfl, by decide⟩
theorem mv_X0_like : MV RX0 yX0_like cX0_like 4 none 3 := ⟨⟨rfl, by decide, by decide, by decide +kernel⟩, tb_in (List.mem_of_getElem? (i := 592) (by decide +kernel)) rfl, tb_in (List.mem_of_getElem? (i := 593) (by decide +kernel)) rfl, tb_in (List.mem_of_getElem? (i := 54) (by decide +kernel)) rfl, tb_in (List.mem_of_getElem? (i := 594) (by decide +kernel)) rfl, by decide⟩
theorem mv_X0_within : MV RX0 yX0_within cX0_within 3 none 2 := ⟨⟨rfl, by decide, by decide, by decide +kernel⟩, tb_in (List.mem_of_getElem? (i := 588) (by decide +kernel)) rfl, tb_in (List.mem_of_getElem? (i := 589) (by decide +kernel)) rfl, tb_in (List.mem_of_getElem? (i := 54) (by decide +kernel)) rfl, tb_in (List.mem_of_getElem? (i := 590) (by decide +kernel)) rfl, by decide⟩
theorem mv_X10_about : MV RX10 yX10_about cX10_about 4 (some .int) 2 := ⟨⟨rfl, by decide, by decide, by decide +kernel⟩, tb_in (List.mem_of_getElem? (i := 596) (by decide +kernel)) rfl, tb_in (List.mem_of_getElem? (i := 597) (by decide +kernel)) rfl, tb_in (List.mem_of_getElem? (i := 50) (by decide +kernel)) rfl, tb_in (List.mem_of_getElem? (i := 598) (by decide +kernel)) rfl, by decide⟩
theorem mv_X10_air : MV RX10 yX10_air cX10_air 3 (some .int) 2 := ⟨⟨rfl, by decide, by decide, by decide +kernel⟩, tb_in (List.mem_of_getElem? (i := 497) (by decide +kernel)) rfl, tb_in (List.mem_of_getElem? (i := 498) (by decide +kernel)) rfl, tb_in (List.mem_of_getElem? (i := 50) (by decide +kernel)) rfl, tb_in (List.mem_of_getElem? (i := 499) (by decide +kernel)) rfl, by decide⟩
theorem mv_X10_ask : MV RX10 yX10_ask cX10_ask 9 (some .int) 7 := ⟨⟨rfl, by decide, by decide, by decide +kernel⟩, tb_in (List.mem_of_getElem? (i := 570) (by decide +kernel)) rfl, tb_in (List.mem_of_getElem? (i := 571) (by decide +kernel)) rfl, tb_in (List.mem_of_getElem? (i := 50) (by decide +kernel)) rfl, tb_in (List.mem_of_getElem? (i := 572) (by decide +kernel)) rfl, by decide⟩
theorem mv_X10_atOnce : MV RX10 yX10_atOnce cX10_atOnce 3 (some .int) 1 := ⟨⟨rfl, by decide, by decide, by decide +kernel⟩, tb_in (List.mem_of_getElem? (i := 831) (by decide +kernel)) rfl, tb_in (List.mem_of_getElem? (i := 832) (by decide +kernel)) rfl, tb_in (List.mem_of_getElem? (i := 50) (by decide +kernel)) rfl, tb_in (List.mem_of_getElem? (i := 833) (by decide +kernel)) rfl, by decide⟩
theorem mv_X10_bar : MV RX10 yX10_bar cX10_bar 4 (some .int) 2 := ⟨⟨rfl, by decide, by decide, by decide +kernel⟩, tb_in (List.mem_of_getElem? (i := 822) (by decide +kernel)) rfl, tb_in (List.mem_of_getElem? (i := 823) (by decide +kernel)) rfl, tb_in (List.mem_of_getElem? (i := 50) (by decide +kernel)) rfl, tb_in (List.mem_of_getElem? (i := 824) (by decide +kernel)) rfl, by decide⟩
theorem mv_X10_bars : MV RX10 yX10_bars cX10_bars 3 (some .int) 1 := ⟨⟨rfl, by decide, by decide, by decide +kernel⟩, tb_in (List.mem_of_getElem? (i := 783) (by decide +kernel)) rfl, tb_in (List.mem_of_getElem? (i := 784) (by decide +kernel)) rfl, tb_in (List.mem_of_getElem? (i := 50) (by decide +kernel)) rfl, tb_in (List.mem_of_getElem? (i := 785) (by decide +kernel)) rfl, by decide⟩
theorem mv_X10_could : MV RX10 yX10_could cX10_could 2 (some .int) 1 := ⟨⟨rfl, by decide, by decide, by decide +kernel⟩, tb_in (List.mem_of_getElem? (i := 889) (by decide +kernel)) rfl, tb_in (List.mem_of_getElem? (i := 890) (by decide +kernel)) rfl, tb_in (List.mem_of_getElem? (i := 50) (by decide +kernel)) rfl, tb_in (List.mem_of_getElem? (i := 891) (by decide +kernel)) rfl, by decide⟩
theorem mv_X10_couldBe : MV RX10 yX10_couldBe cX10_couldBe 4 (some .int) 2 := ⟨⟨rfl, by decide, by decide, by decide +kernel⟩, tb_in (List.mem_of_getElem? (i := 909) (by decide +kernel)) rfl, tb_in (List.mem_of_getElem? (i := 910) (by decide +kernel)) rfl, tb_in (List.mem_of_getElem? (i := 50) (by decide +kernel)) rfl, tb_in (List.mem_of_getElem? (i := 911) (by decide +kernel)) rfl, by decide⟩
theorem mv_X10_count : MV RX10 yX10_count cX10_count 2 (some .int) 1 := ⟨⟨rfl, by decide, by decide, by decide +kernel⟩, tb_in (List.mem_of_getElem? (i := 992) (by decide +kernel)) rfl, tb_in (List.mem_of_getElem? (i := 993) (by decide +kernel)) rfl, tb_in (List.mem_of_getElem? (i := 50) (by decide +kernel)) rfl, tb_in (List.mem_of_getElem? (i := 994) (by decide +kernel)) rfl, by decide⟩
theorem mv_X10_down : MV RX10 yX10_down cX10_down 4 (some .int) 2 := ⟨⟨rfl, by decide, by decide, by decide +kernel⟩, tb_in (List.mem_of_getElem? (i := 546) (by decide +kernel)) rfl, tb_in (List.mem_of_getElem? (i := 547) (by decide +kernel)) rfl, tb_in (List.mem_of_getElem? (i := 50) (by decide +kernel)) rfl, tb_in (List.mem_of_getElem? (i := 548) (by decide +kernel)) rfl, by decide⟩
theorem mv_X10_ears : MV RX10 yX10_ears cX10_ears 3 (some .int) 2 := ⟨⟨rfl, by decide, by decide, by decide +kernel⟩, tb_in (List.mem_of_getElem? (i := 946) (by decide +kernel)) rfl, tb_in (List.mem_of_getElem? (i := 947) (by decide +kernel)) rfl, tb_in (List.mem_of_getElem? (i := 50) (by decide +kernel)) rfl, tb_in (List.mem_of_getElem? (i := 948) (by decide +kernel)) rfl, by decide⟩
theorem mv_X10_endOfSoonest : MV RX10 yX10_endOfSoonest cX10_endOfSoonest 2 (some .int) 1 := ⟨⟨rfl, by decide, by decide, by decide +kernel⟩, tb_in (List.mem_of_getElem? (i := 613) (by decide +kernel)) rfl, tb_in (List.mem_of_getElem? (i := 3) (by decide +kernel)) rfl, tb_in (List.mem_of_getElem? (i := 50) (by decide +kernel)) rfl, tb_in (List.mem_of_getElem? (i := 614) (by decide +kernel)) rfl, by decide⟩
theorem mv_X10_folk : MV RX10 yX10_folk cX10_folk 5 (some .int) 3 := ⟨⟨rfl, by decide, by decide, by decide +kernel⟩, tb_in (List.mem_of_getElem? (i := 526) (by decide +kernel)) rfl, tb_in (List.mem_of_getElem? (i := 527) (by decide +kernel)) rfl, tb_in (List.mem_of_getElem? (i := 50) (by decide +kernel)) rfl, tb_in (List.mem_of_getElem? (i := 528) (by decide +kernel)) rfl, by decide⟩
theorem mv_X10_give : MV RX10 yX10_give cX10_give 4 (some .int) 1 := ⟨⟨rfl, by decide, by decide, by decide +kernel⟩, tb_in (List.mem_of_getElem? (i := 705) (by decide +kernel)) rfl, tb_in (List.mem_of_getElem? (i := 706) (by decide +kernel)) rfl, tb_in (List.mem_of_getElem? (i := 50) (by decide +kernel)) rfl, tb_in (List.mem_of_getElem? (i := 707) (by decide +kernel)) rfl, by decide⟩
theorem mv_X10_giveAll : MV RX10 yX10_giveAll cX10_giveAll 3 (some .int) 1 := ⟨⟨rfl, by decide, by decide, by decide +kernel⟩, tb_in (List.mem_of_getElem? (i := 873) (by decide +kernel)) rfl, tb_in (List.mem_of_getElem? (i := 874) (by decide +kernel)) rfl, tb_in (List.mem_of_getElem? (i := 50) (by decide +kernel)) rfl, tb_in (List.mem_of_getElem? (i := 875) (by decide +kernel)) rfl, by decide⟩
theorem ms_X10_giveIf : MS yX10_giveIf cX10_giveIf 2 (some .int) 2 := ⟨⟨by decide, by decide, by decide +kernel⟩, tb_in (List.mem_of_getElem? (i := 709) (by decide +kernel)) rfl, tb_in (List.mem_of_getElem? (i := 50) (by decide +kernel)) rfl, tb_in (List.mem_of_getElem? (i := 710) (by decide +kernel)) rfl, by decide⟩
theorem mv_X10_giveQuiet : MV RX10 yX10_giveQuiet cX10_giveQuiet 4 (some .int) 1 := ⟨⟨rfl, by decide, by decide, by decide +kernel⟩, tb_in (List.mem_of_getElem? (i := 712) (by decide +kernel)) rfl, tb_in (List.mem_of_getElem? (i := 713) (by decide +kernel)) rfl, tb_in (List.mem_of_getElem? (i := 50) (by decide +kernel)) rfl, tb_in (List.mem_of_getElem? (i := 714) (by decide +kernel)) rfl, by decide⟩
theorem ms_X10_holds : MS yX10_holds cX10_holds 3 (some .boolean) 2 := ⟨⟨by decide, by decide, by decide +kernel⟩, tb_in (List.mem_of_getElem? (i := 558) (by decide +kernel)) rfl, tb_in (List.mem_of_getElem? (i := 50) (by decide +kernel)) rfl, tb_in (List.mem_of_getElem? (i := 559) (by decide +kernel)) rfl, by decide⟩
theorem ms_X10_isIn : MS yX10_isIn cX10_isIn 2 (some .boolean) 2 := ⟨⟨by decide, by decide, by decide +kernel⟩, tb_in (List.mem_of_getElem? (i := 625) (by decide +kernel)) rfl, tb_in (List.mem_of_getElem? (i := 50) (by decide +kernel)) rfl, tb_in (List.mem_of_getElem? (i := 626) (by decide +kernel)) rfl, by decide⟩
theorem ms_X10_isMinute : MS yX10_isMinute cX10_isMinute 1 (some .boolean) 1 := ⟨⟨by decide, by decide, by decide +kernel⟩, tb_in (List.mem_of_getElem? (i := 118) (by decide +kernel)) rfl, tb_in (List.mem_of_getElem? (i := 50) (by decide +kernel)) rfl, tb_in (List.mem_of_getElem? (i := 119) (by decide +kernel)) rfl, by decide⟩
theorem ms_X10_isWithin : MS yX10_isWithin cX10_isWithin 3 (some .boolean) 3 := ⟨⟨by decide, by decide, by decide +kernel⟩, tb_in (List.mem_of_getElem? (i := 121) (by decide +kernel)) rfl, tb_in (List.mem_of_getElem? (i := 50) (by decide +kernel)) rfl, tb_in (List.mem_of_getElem? (i := 122) (by decide +kernel)) rfl, by decide⟩
theorem mv_X10_led : MV RX10 yX10_led cX10_led 2 (some .int) 1 := ⟨⟨rfl, by decide, by decide, by decide +kernel⟩, tb_in (List.mem_of_getElem? (i := 933) (by decide +kernel)) rfl, tb_in (List.mem_of_getElem? (i := 934) (by decide +kernel)) rfl, tb_in (List.mem_of_getElem? (i := 50) (by decide +kernel)) rfl, tb_in (List.mem_of_getElem? (i := 935) (by decide +kernel)) rfl, by decide⟩
theorem mv_X10_ledAt : MV RX10 yX10_ledAt cX10_ledAt 3 (some .int) 1 := ⟨⟨rfl, by decide, by decide, by decide +kernel⟩, tb_in (List.mem_of_getElem? (i := 941) (by decide +kernel)) rfl, tb_in (List.mem_of_getElem? (i := 942) (by decide +kernel)) rfl, tb_in (List.mem_of_getElem? (i := 50) (by decide +kernel)) rfl, tb_in (List.mem_of_getElem? (i := 943) (by decide +kernel)) rfl, by decide⟩
theorem mv_X10_ledOff : MV RX10 yX10_ledOff cX10_ledOff 1 (some .int) 0 := ⟨⟨rfl, by decide, by decide, by decide +kernel⟩, tb_in (List.mem_of_getElem? (i := 913) (by decide +kernel)) rfl, tb_in (List.mem_of_getElem? (i := 914) (by decide +kernel)) rfl, tb_in (List.mem_of_getElem? (i := 50) (by decide +kernel)) rfl, tb_in (List.mem_of_getElem? (i := 915) (by decide +kernel)) rfl, by decide⟩
theorem mv_X10_meet : MV RX10 yX10_meet cX10_meet 6 (some .int) 3 := ⟨⟨rfl, by decide, by decide, by decide +kernel⟩, tb_in (List.mem_of_getElem? (i := 774) (by decide +kernel)) rfl, tb_in (List.mem_of_getElem? (i := 775) (by decide +kernel)) rfl, tb_in (List.mem_of_getElem? (i := 50) (by decide +kernel)) rfl, tb_in (List.mem_of_getElem? (i := 776) (by decide +kernel)) rfl, by decide⟩
theorem mv_X10_noise : MV RX10 yX10_noise cX10_noise 2 (some .int) 1 := ⟨⟨rfl, by decide, by decide, by decide +kernel⟩, tb_in (List.mem_of_getElem? (i := 954) (by decide +kernel)) rfl, tb_in (List.mem_of_getElem? (i := 955) (by decide +kernel)) rfl, tb_in (List.mem_of_getElem? (i := 50) (by decide +kernel)) rfl, tb_in (List.mem_of_getElem? (i := 956) (by decide +kernel)) rfl, by decide⟩
theorem ms_X10_oneIf : MS yX10_oneIf cX10_oneIf 1 (some .int) 1 := ⟨⟨by decide, by decide, by decide +kernel⟩, tb_in (List.mem_of_getElem? (i := 567) (by decide +kernel)) rfl, tb_in (List.mem_of_getElem? (i := 50) (by decide +kernel)) rfl, tb_in (List.mem_of_getElem? (i := 568) (by decide +kernel)) rfl, by decide⟩
theorem mv_X10_open : MV RX10 yX10_open cX10_open 4 (some .int) 2 := ⟨⟨rfl, by decide, by decide, by decide +kernel⟩, tb_in (List.mem_of_getElem? (i := 562) (by decide +kernel)) rfl, tb_in (List.mem_of_getElem? (i := 563) (by decide +kernel)) rfl, tb_in (List.mem_of_getElem? (i := 50) (by decide +kernel)) rfl, tb_in (List.mem_of_getElem? (i := 564) (by decide +kernel)) rfl, by decide⟩
theorem mv_X10_order : MV RX10 yX10_order cX10_order 4 (some .int) 2 := ⟨⟨rfl, by decide, by decide, by decide +kernel⟩, tb_in (List.mem_of_getElem? (i := 864) (by decide +kernel)) rfl, tb_in (List.mem_of_getElem? (i := 865) (by decide +kernel)) rfl, tb_in (List.mem_of_getElem? (i := 50) (by decide +kernel)) rfl, tb_in (List.mem_of_getElem? (i := 866) (by decide +kernel)) rfl, by decide⟩
theorem mv_X10_price : MV RX10 yX10_price cX10_price 5 (some .int) 1 := ⟨⟨rfl, by decide, by decide, by decide +kernel⟩, tb_in (List.mem_of_getElem? (i := 984) (by decide +kernel)) rfl, tb_in (List.mem_of_getElem? (i := 985) (by decide +kernel)) rfl, tb_in (List.mem_of_getElem? (i := 50) (by decide +kernel)) rfl, tb_in (List.mem_of_getElem? (i := 986) (by decide +kernel)) rfl, by decide⟩
theorem mv_X10_quietAt : MV RX10 yX10_quietAt cX10_quietAt 6 (some .int) 3 := ⟨⟨rfl, by decide, by decide, by decide +kernel⟩, tb_in (List.mem_of_getElem? (i := 988) (by decide +kernel)) rfl, tb_in (List.mem_of_getElem? (i := 989) (by decide +kernel)) rfl, tb_in (List.mem_of_getElem? (i := 50) (by decide +kernel)) rfl, tb_in (List.mem_of_getElem? (i := 990) (by decide +kernel)) rfl, by decide⟩
theorem mv_X10_quietest : MV RX10 yX10_quietest cX10_quietest 4 (some .int) 1 := ⟨⟨rfl, by decide, by decide, by decide +kernel⟩, tb_in (List.mem_of_getElem? (i := 976) (by decide +kernel)) rfl, tb_in (List.mem_of_getElem? (i := 977) (by decide +kernel)) rfl, tb_in (List.mem_of_getElem? (i := 50) (by decide +kernel)) rfl, tb_in (List.mem_of_getElem? (i := 978) (by decide +kernel)) rfl, by decide⟩
theorem mv_X10_refuseCellAt : MV RX10 yX10_refuseCellAt cX10_refuseCellAt 3 (some .int) 2 := ⟨⟨rfl, by decide, by decide, by decide +kernel⟩, tb_in (List.mem_of_getElem? (i := 551) (by decide +kernel)) rfl, tb_in (List.mem_of_getElem? (i := 1) (by decide +kernel)) rfl, tb_in (List.mem_of_getElem? (i := 50) (by decide +kernel)) rfl, tb_in (List.mem_of_getElem? (i := 552) (by decide +kernel)) rfl, by decide⟩
theorem mv_X10_refuseGiven : MV RX10 yX10_refuseGiven cX10_refuseGiven 2 (some .int) 1 := ⟨⟨rfl, by decide, by decide, by decide +kernel⟩, tb_in (List.mem_of_getElem? (i := 609) (by decide +kernel)) rfl, tb_in (List.mem_of_getElem? (i := 2) (by decide +kernel)) rfl, tb_in (List.mem_of_getElem? (i := 50) (by decide +kernel)) rfl, tb_in (List.mem_of_getElem? (i := 610) (by decide +kernel)) rfl, by decide⟩
theorem mv_X10_refuseNotGiven : MV RX10 yX10_refuseNotGiven cX10_refuseNotGiven 2 (some .int) 1 := ⟨⟨rfl, by decide, by decide, by decide +kernel⟩, tb_in (List.mem_of_getElem? (i := 766) (by decide +kernel)) rfl, tb_in (List.mem_of_getElem? (i := 5) (by decide +kernel)) rfl, tb_in (List.mem_of_getElem? (i := 50) (by decide +kernel)) rfl, tb_in (List.mem_of_getElem? (i := 767) (by decide +kernel)) rfl, by decide⟩
theorem mv_X10_refuseSet : MV RX10 yX10_refuseSet cX10_refuseSet 2 (some .int) 1 := ⟨⟨rfl, by decide, by decide, by decide +kernel⟩, tb_in (List.mem_of_getElem? (i := 836) (by decide +kernel)) rfl, tb_in (List.mem_of_getElem? (i := 6) (by decide +kernel)) rfl, tb_in (List.mem_of_getElem? (i := 50) (by decide +kernel)) rfl, tb_in (List.mem_of_getElem? (i := 837) (by decide +kernel)) rfl, by decide⟩
theorem mv_X10_refuseSpan : MV RX10 yX10_refuseSpan cX10_refuseSpan 5 (some .int) 4 := ⟨⟨rfl, by decide, by decide, by decide +kernel⟩, tb_in (List.mem_of_getElem? (i := 512) (by decide +kernel)) rfl, tb_in (List.mem_of_getElem? (i := 0) (by decide +kernel)) rfl, tb_in (List.mem_of_getElem? (i := 50) (by decide +kernel)) rfl, tb_in (List.mem_of_getElem? (i := 513) (by decide +kernel)) rfl, by decide⟩
theorem mv_X10_refuseTelling : MV RX10 yX10_refuseTelling cX10_refuseTelling 3 (some .int) 2 := ⟨⟨rfl, by decide, by decide, by decide +kernel⟩, tb_in (List.mem_of_getElem? (i := 697) (by decide +kernel)) rfl, tb_in (List.mem_of_getElem? (i := 4) (by decide +kernel)) rfl, tb_in (List.mem_of_getElem? (i := 50) (by decide +kernel)) rfl, tb_in (List.mem_of_getElem? (i := 698) (by decide +kernel)) rfl, by decide⟩
theorem mv_X10_rule : MV RX10 yX10_rule cX10_rule 3 (some .int) 2 := ⟨⟨rfl, by decide, by decide, by decide +kernel⟩, tb_in (List.mem_of_getElem? (i := 534) (by decide +kernel)) rfl, tb_in (List.mem_of_getElem? (i := 535) (by decide +kernel)) rfl, tb_in (List.mem_of_getElem? (i := 50) (by decide +kernel)) rfl, tb_in (List.mem_of_getElem? (i := 536) (by decide +kernel)) rfl, by decide⟩
theorem mv_X10_shut : MV RX10 yX10_shut cX10_shut 5 (some .int) 3 := ⟨⟨rfl, by decide, by decide, by decide +kernel⟩, tb_in (List.mem_of_getElem? (i := 507) (by decide +kernel)) rfl, tb_in (List.mem_of_getElem? (i := 508) (by decide +kernel)) rfl, tb_in (List.mem_of_getElem? (i := 50) (by decide +kernel)) rfl, tb_in (List.mem_of_getElem? (i := 509) (by decide +kernel)) rfl, by decide⟩
theorem mv_X10_silent : MV RX10 yX10_silent cX10_silent 5 (some .int) 3 := ⟨⟨rfl, by decide, by decide, by decide +kernel⟩, tb_in (List.mem_of_getElem? (i := 881) (by decide +kernel)) rfl, tb_in (List.mem_of_getElem? (i := 882) (by decide +kernel)) rfl, tb_in (List.mem_of_getElem? (i := 50) (by decide +kernel)) rfl, tb_in (List.mem_of_getElem? (i := 883) (by decide +kernel)) rfl, by decide⟩
theorem mv_X10_soonest : MV RX10 yX10_soonest cX10_soonest 3 (some .int) 1 := ⟨⟨rfl, by decide, by decide, by decide +kernel⟩, tb_in (List.mem_of_getElem? (i := 604) (by decide +kernel)) rfl, tb_in (List.mem_of_getElem? (i := 605) (by decide +kernel)) rfl, tb_in (List.mem_of_getElem? (i := 50) (by decide +kernel)) rfl, tb_in (List.mem_of_getElem? (i := 606) (by decide +kernel)) rfl, by decide⟩
theorem mv_X10_soonestAt : MV RX10 yX10_soonestAt cX10_soonestAt 6 (some .int) 3 := ⟨⟨rfl, by decide, by decide, by decide +kernel⟩, tb_in (List.mem_of_getElem? (i := 692) (by decide +kernel)) rfl, tb_in (List.mem_of_getElem? (i := 693) (by decide +kernel)) rfl, tb_in (List.mem_of_getElem? (i := 50) (by decide +kernel)) rfl, tb_in (List.mem_of_getElem? (i := 694) (by decide +kernel)) rfl, by decide⟩
theorem mv_X10_take : MV RX10 yX10_take cX10_take 4 (some .int) 1 := ⟨⟨rfl, by decide, by decide, by decide +kernel⟩, tb_in (List.mem_of_getElem? (i := 761) (by decide +kernel)) rfl, tb_in (List.mem_of_getElem? (i := 762) (by decide +kernel)) rfl, tb_in (List.mem_of_getElem? (i := 50) (by decide +kernel)) rfl, tb_in (List.mem_of_getElem? (i := 763) (by decide +kernel)) rfl, by decide⟩
theorem mv_X10_where : MV RX10 yX10_where cX10_where 5 (some .int) 2 := ⟨⟨rfl, by decide, by decide, by decide +kernel⟩, tb_in (List.mem_of_getElem? (i := 769) (by decide +kernel)) rfl, tb_in (List.mem_of_getElem? (i := 770) (by decide +kernel)) rfl, tb_in (List.mem_of_getElem? (i := 50) (by decide +kernel)) rfl, tb_in (List.mem_of_getElem? (i := 771) (by decide +kernel)) rfl, by decide⟩
theorem mv_X10_worst : MV RX10 yX10_worst cX10_worst 3 (some .int) 1 := ⟨⟨rfl, by decide, by decide, by decide +kernel⟩, tb_in (List.mem_of_getElem? (i := 967) (by decide +kernel)) rfl, tb_in (List.mem_of_getElem? (i := 968) (by decide +kernel)) rfl, tb_in (List.mem_of_getElem? (i := 50) (by decide +kernel)) rfl, tb_in (List.mem_of_getElem? (i := 969) (by decide +kernel)) rfl, by decide⟩
theorem mv_X11_about : MV RX11 yX11_about cX11_about 3 (some .int) 2 := ⟨⟨rfl, by decide, by decide, by decide +kernel⟩, tb_in (List.mem_of_getElem? (i := 1196) (by decide +kernel)) rfl, tb_in (List.mem_of_getElem? (i := 1197) (by decide +kernel)) rfl, tb_in (List.mem_of_getElem? (i := 62) (by decide +kernel)) rfl, tb_in (List.mem_of_getElem? (i := 1198) (by decide +kernel)) rfl, by decide⟩
theorem mv_X11_air : MV RX11 yX11_air cX11_air 3 (some .int) 2 := ⟨⟨rfl, by decide, by decide, by decide +kernel⟩, tb_in (List.mem_of_getElem? (i := 1116) (by decide +kernel)) rfl, tb_in (List.mem_of_getElem? (i := 1117) (by decide +kernel)) rfl, tb_in (List.mem_of_getElem? (i := 62) (by decide +kernel)) rfl, tb_in (List.mem_of_getElem? (i := 1118) (by decide +kernel)) rfl, by decide⟩
theorem mv_X11_along : MV RX11 yX11_along cX11_along 3 (some .int) 2 := ⟨⟨rfl, by decide, by decide, by decide +kernel⟩, tb_in (List.mem_of_getElem? (i := 1163) (by decide +kernel)) rfl, tb_in (List.mem_of_getElem? (i := 11) (by decide +kernel)) rfl, tb_in (List.mem_of_getElem? (i := 62) (by decide +kernel)) rfl, tb_in (List.mem_of_getElem? (i := 1164) (by decide +kernel)) rfl, by decide⟩
theorem mv_X11_aside : MV RX11 yX11_aside cX11_aside 3 (some .int) 2 := ⟨⟨rfl, by decide, by decide, by decide +kernel⟩, tb_in (List.mem_of_getElem? (i := 1170) (by decide +kernel)) rfl, tb_in (List.mem_of_getElem? (i := 12) (by decide +kernel)) rfl, tb_in (List.mem_of_getElem? (i := 62) (by decide +kernel)) rfl, tb_in (List.mem_of_getElem? (i := 1171) (by decide +kernel)) rfl, by decide⟩
theorem mv_X11_ask : MV RX11 yX11_ask cX11_ask 9 (some .int) 7 := ⟨⟨rfl, by decide, by decide, by decide +kernel⟩, tb_in (List.mem_of_getElem? (i := 1189) (by decide +kernel)) rfl, tb_in (List.mem_of_getElem? (i := 1190) (by decide +kernel)) rfl, tb_in (List.mem_of_getElem? (i := 62) (by decide +kernel)) rfl, tb_in (List.mem_of_getElem? (i := 1191) (by decide +kernel)) rfl, by decide⟩
theorem mv_X11_atOnce : MV RX11 yX11_atOnce cX11_atOnce 4 (some .int) 1 := ⟨⟨rfl, by decide, by decide, by decide +kernel⟩, tb_in (List.mem_of_getElem? (i := 1326) (by decide +kernel)) rfl, tb_in (List.mem_of_getElem? (i := 1327) (by decide +kernel)) rfl, tb_in (List.mem_of_getElem? (i := 62) (by decide +kernel)) rfl, tb_in (List.mem_of_getElem? (i := 1328) (by decide +kernel)) rfl, by decide⟩
theorem mv_X11_bar : MV RX11 yX11_bar cX11_bar 5 (some .int) 2 := ⟨⟨rfl, by decide, by decide, by decide +kernel⟩, tb_in (List.mem_of_getElem? (i := 1319) (by decide +kernel)) rfl, tb_in (List.mem_of_getElem? (i := 1320) (by decide +kernel)) rfl, tb_in (List.mem_of_getElem? (i := 62) (by decide +kernel)) rfl, tb_in (List.mem_of_getElem? (i := 1321) (by decide +kernel)) rfl, by decide⟩
theorem mv_X11_barSet : MV RX11 yX11_barSet cX11_barSet 6 (some .int) 1 := ⟨⟨rfl, by decide, by decide, by decide +kernel⟩, tb_in (List.mem_of_getElem? (i := 1306) (by decide +kernel)) rfl, tb_in (List.mem_of_getElem? (i := 35) (by decide +kernel)) rfl, tb_in (List.mem_of_getElem? (i := 62) (by decide +kernel)) rfl, tb_in (List.mem_of_getElem? (i := 1307) (by decide +kernel)) rfl, by decide⟩
theorem mv_X11_bars : MV RX11 yX11_bars cX11_bars 4 (some .int) 1 := ⟨⟨rfl, by decide, by decide, by decide +kernel⟩, tb_in (List.mem_of_getElem? (i := 1301) (by decide +kernel)) rfl, tb_in (List.mem_of_getElem? (i := 1302) (by decide +kernel)) rfl, tb_in (List.mem_of_getElem? (i := 62) (by decide +kernel)) rfl, tb_in (List.mem_of_getElem? (i := 1303) (by decide +kernel)) rfl, by decide⟩
theorem mv_X11_cellAt : MV RX11 yX11_cellAt cX11_cellAt 3 (some .int) 2 := ⟨⟨rfl, by decide, by decide, by decide +kernel⟩, tb_in (List.mem_of_getElem? (i := 1294) (by decide +kernel)) rfl, tb_in (List.mem_of_getElem? (i := 34) (by decide +kernel)) rfl, tb_in (List.mem_of_getElem? (i := 62) (by decide +kernel)) rfl, tb_in (List.mem_of_getElem? (i := 1295) (by decide +kernel)) rfl, by decide⟩
theorem mv_X11_cells : MV RX11 yX11_cells cX11_cells 1 (some .int) 0 := ⟨⟨rfl, by decide, by decide, by decide +kernel⟩, tb_in (List.mem_of_getElem? (i := 1135) (by decide +kernel)) rfl, tb_in (List.mem_of_getElem? (i := 9) (by decide +kernel)) rfl, tb_in (List.mem_of_getElem? (i := 62) (by decide +kernel)) rfl, tb_in (List.mem_of_getElem? (i := 1136) (by decide +kernel)) rfl, by decide⟩
theorem mv_X11_could : MV RX11 yX11_could cX11_could 4 (some .int) 1 := ⟨⟨rfl, by decide, by decide, by decide +kernel⟩, tb_in (List.mem_of_getElem? (i := 1362) (by decide +kernel)) rfl, tb_in (List.mem_of_getElem? (i := 1363) (by decide +kernel)) rfl, tb_in (List.mem_of_getElem? (i := 62) (by decide +kernel)) rfl, tb_in (List.mem_of_getElem? (i := 1364) (by decide +kernel)) rfl, by decide⟩
theorem mv_X11_couldBe : MV RX11 yX11_couldBe cX11_couldBe 3 (some .int) 2 := ⟨⟨rfl, by decide, by decide, by decide +kernel⟩, tb_in (List.mem_of_getElem? (i := 1378) (by decide +kernel)) rfl, tb_in (List.mem_of_getElem? (i := 1379) (by decide +kernel)) rfl, tb_in (List.mem_of_getElem? (i := 62) (by decide +kernel)) rfl, tb_in (List.mem_of_getElem? (i := 1380) (by decide +kernel)) rfl, by decide⟩
theorem mv_X11_count : MV RX11 yX11_count cX11_count 4 (some .int) 1 := ⟨⟨rfl, by decide, by decide, by decide +kernel⟩, tb_in (List.mem_of_getElem? (i := 1439) (by decide +kernel)) rfl, tb_in (List.mem_of_getElem? (i := 1440) (by decide +kernel)) rfl, tb_in (List.mem_of_getElem? (i := 62) (by decide +kernel)) rfl, tb_in (List.mem_of_getElem? (i := 1441) (by decide +kernel)) rfl, by decide⟩
theorem mv_X11_down : MV RX11 yX11_down cX11_down 3 (some .int) 2 := ⟨⟨rfl, by decide, by decide, by decide +kernel⟩, tb_in (List.mem_of_getElem? (i := 1154) (by decide +kernel)) rfl, tb_in (List.mem_of_getElem? (i := 1155) (by decide +kernel)) rfl, tb_in (List.mem_of_getElem? (i := 62) (by decide +kernel)) rfl, tb_in (List.mem_of_getElem? (i := 1156) (by decide +kernel)) rfl, by decide⟩
theorem mv_X11_downOf : MV RX11 yX11_downOf cX11_downOf 6 (some .int) 2 := ⟨⟨rfl, by decide, by decide, by decide +kernel⟩, tb_in (List.mem_of_getElem? (i := 1159) (by decide +kernel)) rfl, tb_in (List.mem_of_getElem? (i := 10) (by decide +kernel)) rfl, tb_in (List.mem_of_getElem? (i := 62) (by decide +kernel)) rfl, tb_in (List.mem_of_getElem? (i := 1160) (by decide +kernel)) rfl, by decide⟩
theorem mv_X11_ears : MV RX11 yX11_ears cX11_ears 4 (some .int) 2 := ⟨⟨rfl, by decide, by decide, by decide +kernel⟩, tb_in (List.mem_of_getElem? (i := 1398) (by decide +kernel)) rfl, tb_in (List.mem_of_getElem? (i := 1399) (by decide +kernel)) rfl, tb_in (List.mem_of_getElem? (i := 62) (by decide +kernel)) rfl, tb_in (List.mem_of_getElem? (i := 1400) (by decide +kernel)) rfl, by decide⟩
theorem mv_X11_folk : MV RX11 yX11_folk cX11_folk 5 (some .int) 3 := ⟨⟨rfl, by decide, by decide, by decide +kernel⟩, tb_in (List.mem_of_getElem? (i := 1144) (by decide +kernel)) rfl, tb_in (List.mem_of_getElem? (i := 1145) (by decide +kernel)) rfl, tb_in (List.mem_of_getElem? (i := 62) (by decide +kernel)) rfl, tb_in (List.mem_of_getElem? (i := 1146) (by decide +kernel)) rfl, by decide⟩
theorem mv_X11_give : MV RX11 yX11_give cX11_give 3 (some .int) 1 := ⟨⟨rfl, by decide, by decide, by decide +kernel⟩, tb_in (List.mem_of_getElem? (i := 1277) (by decide +kernel)) rfl, tb_in (List.mem_of_getElem? (i := 1278) (by decide +kernel)) rfl, tb_in (List.mem_of_getElem? (i := 62) (by decide +kernel)) rfl, tb_in (List.mem_of_getElem? (i := 1279) (by decide +kernel)) rfl, by decide⟩
theorem mv_X11_giveAll : MV RX11 yX11_giveAll cX11_giveAll 5 (some .int) 1 := ⟨⟨rfl, by decide, by decide, by decide +kernel⟩, tb_in (List.mem_of_getElem? (i := 1354) (by decide +kernel)) rfl, tb_in (List.mem_of_getElem? (i := 1355) (by decide +kernel)) rfl, tb_in (List.mem_of_getElem? (i := 62) (by decide +kernel)) rfl, tb_in (List.mem_of_getElem? (i := 1356) (by decide +kernel)) rfl, by decide⟩
theorem mv_X11_giveQuiet : MV RX11 yX11_giveQuiet cX11_giveQuiet 3 (some .int) 1 := ⟨⟨rfl, by decide, by decide, by decide +kernel⟩, tb_in (List.mem_of_getElem? (i := 1435) (by decide +kernel)) rfl, tb_in (List.mem_of_getElem? (i := 1436) (by decide +kernel)) rfl, tb_in (List.mem_of_getElem? (i := 62) (by decide +kernel)) rfl, tb_in (List.mem_of_getElem? (i := 1437) (by decide +kernel)) rfl, by decide⟩
theorem mv_X11_givenSet : MV RX11 yX11_givenSet cX11_givenSet 3 (some .int) 0 := ⟨⟨rfl, by decide, by decide, by decide +kernel⟩, tb_in (List.mem_of_getElem? (i := 1310) (by decide +kernel)) rfl, tb_in (List.mem_of_getElem? (i := 36) (by decide +kernel)) rfl, tb_in (List.mem_of_getElem? (i := 62) (by decide +kernel)) rfl, tb_in (List.mem_of_getElem? (i := 1311) (by decide +kernel)) rfl, by decide⟩
theorem mv_X11_goRow : MV RX11 yX11_goRow cX11_goRow 5 (some .int) 1 := ⟨⟨rfl, by decide, by decide, by decide +kernel⟩, tb_in (List.mem_of_getElem? (i := 1343) (by decide +kernel)) rfl, tb_in (List.mem_of_getElem? (i := 40) (by decide +kernel)) rfl, tb_in (List.mem_of_getElem? (i := 62) (by decide +kernel)) rfl, tb_in (List.mem_of_getElem? (i := 1344) (by decide +kernel)) rfl, by decide⟩
theorem mv_X11_goes : MV RX11 yX11_goes cX11_goes 7 (some .int) 4 := ⟨⟨rfl, by decide, by decide, by decide +kernel⟩, tb_in (List.mem_of_getElem? (i := 1249) (by decide +kernel)) rfl, tb_in (List.mem_of_getElem? (i := 27) (by decide +kernel)) rfl, tb_in (List.mem_of_getElem? (i := 62) (by decide +kernel)) rfl, tb_in (List.mem_of_getElem? (i := 1250) (by decide +kernel)) rfl, by decide⟩
theorem mv_X11_hasFolk : MV RX11 yX11_hasFolk cX11_hasFolk 3 (some .boolean) 2 := ⟨⟨rfl, by decide, by decide, by decide +kernel⟩, tb_in (List.mem_of_getElem? (i := 1174) (by decide +kernel)) rfl, tb_in (List.mem_of_getElem? (i := 13) (by decide +kernel)) rfl, tb_in (List.mem_of_getElem? (i := 62) (by decide +kernel)) rfl, tb_in (List.mem_of_getElem? (i := 1175) (by decide +kernel)) rfl, by decide⟩
theorem mv_X11_hasWay : MV RX11 yX11_hasWay cX11_hasWay 6 (some .boolean) 2 := ⟨⟨rfl, by decide, by decide, by decide +kernel⟩, tb_in (List.mem_of_getElem? (i := 1241) (by decide +kernel)) rfl, tb_in (List.mem_of_getElem? (i := 25) (by decide +kernel)) rfl, tb_in (List.mem_of_getElem? (i := 62) (by decide +kernel)) rfl, tb_in (List.mem_of_getElem? (i := 1242) (by decide +kernel)) rfl, by decide⟩
theorem ms_X11_in : MS yX11_in cX11_in 6 (some .boolean) 3 := ⟨⟨by decide, by decide, by decide +kernel⟩, tb_in (List.mem_of_getElem? (i := 1122) (by decide +kernel)) rfl, tb_in (List.mem_of_getElem? (i := 62) (by decide +kernel)) rfl, tb_in (List.mem_of_getElem? (i := 1123) (by decide +kernel)) rfl, by decide⟩
theorem mv_X11_isAsk : MV RX11 yX11_isAsk cX11_isAsk 2 (some .boolean) 1 := ⟨⟨rfl, by decide, by decide, by decide +kernel⟩, tb_in (List.mem_of_getElem? (i := 1201) (by decide +kernel)) rfl, tb_in (List.mem_of_getElem? (i := 16) (by decide +kernel)) rfl, tb_in (List.mem_of_getElem? (i := 62) (by decide +kernel)) rfl, tb_in (List.mem_of_getElem? (i := 1202) (by decide +kernel)) rfl, by decide⟩
theorem mv_X11_isCell : MV RX11 yX11_isCell cX11_isCell 2 (some .boolean) 1 := ⟨⟨rfl, by decide, by decide, by decide +kernel⟩, tb_in (List.mem_of_getElem? (i := 1131) (by decide +kernel)) rfl, tb_in (List.mem_of_getElem? (i := 8) (by decide +kernel)) rfl, tb_in (List.mem_of_getElem? (i := 62) (by decide +kernel)) rfl, tb_in (List.mem_of_getElem? (i := 1132) (by decide +kernel)) rfl, by decide⟩
theorem ms_X11_isFirst : MS yX11_isFirst cX11_isFirst 3 (some .boolean) 2 := ⟨⟨by decide, by decide, by decide +kernel⟩, tb_in (List.mem_of_getElem? (i := 1316) (by decide +kernel)) rfl, tb_in (List.mem_of_getElem? (i := 62) (by decide +kernel)) rfl, tb_in (List.mem_of_getElem? (i := 1317) (by decide +kernel)) rfl, by decide⟩
theorem mv_X11_isFree : MV RX11 yX11_isFree cX11_isFree 4 (some .boolean) 3 := ⟨⟨rfl, by decide, by decide, by decide +kernel⟩, tb_in (List.mem_of_getElem? (i := 1253) (by decide +kernel)) rfl, tb_in (List.mem_of_getElem? (i := 28) (by decide +kernel)) rfl, tb_in (List.mem_of_getElem? (i := 62) (by decide +kernel)) rfl, tb_in (List.mem_of_getElem? (i := 1254) (by decide +kernel)) rfl, by decide⟩
theorem mv_X11_isLeast : MV RX11 yX11_isLeast cX11_isLeast 5 (some .boolean) 3 := ⟨⟨rfl, by decide, by decide, by decide +kernel⟩, tb_in (List.mem_of_getElem? (i := 1266) (by decide +kernel)) rfl, tb_in (List.mem_of_getElem? (i := 31) (by decide +kernel)) rfl, tb_in (List.mem_of_getElem? (i := 62) (by decide +kernel)) rfl, tb_in (List.mem_of_getElem? (i := 1267) (by decide +kernel)) rfl, by decide⟩
theorem ms_X11_isMinute : MS yX11_isMinute cX11_isMinute 1 (some .boolean) 1 := ⟨⟨by decide, by decide, by decide +kernel⟩, tb_in (List.mem_of_getElem? (i := 1139) (by decide +kernel)) rfl, tb_in (List.mem_of_getElem? (i := 62) (by decide +kernel)) rfl, tb_in (List.mem_of_getElem? (i := 1140) (by decide +kernel)) rfl, by decide⟩
theorem mv_X11_isOpen : MV RX11 yX11_isOpen cX11_isOpen 3 (some .boolean) 2 := ⟨⟨rfl, by decide, by decide, by decide +kernel⟩, tb_in (List.mem_of_getElem? (i := 1182) (by decide +kernel)) rfl, tb_in (List.mem_of_getElem? (i := 14) (by decide +kernel)) rfl, tb_in (List.mem_of_getElem? (i := 62) (by decide +kernel)) rfl, tb_in (List.mem_of_getElem? (i := 1183) (by decide +kernel)) rfl, by decide⟩
theorem mv_X11_isSeenBy : MV RX11 yX11_isSeenBy cX11_isSeenBy 2 (some .boolean) 1 := ⟨⟨rfl, by decide, by decide, by decide +kernel⟩, tb_in (List.mem_of_getElem? (i := 1371) (by decide +kernel)) rfl, tb_in (List.mem_of_getElem? (i := 43) (by decide +kernel)) rfl, tb_in (List.mem_of_getElem? (i := 62) (by decide +kernel)) rfl, tb_in (List.mem_of_getElem? (i := 1372) (by decide +kernel)) rfl, by decide⟩
theorem mv_X11_isShut : MV RX11 yX11_isShut cX11_isShut 3 (some .boolean) 2 := ⟨⟨rfl, by decide, by decide, by decide +kernel⟩, tb_in (List.mem_of_getElem? (i := 1186) (by decide +kernel)) rfl, tb_in (List.mem_of_getElem? (i := 15) (by decide +kernel)) rfl, tb_in (List.mem_of_getElem? (i := 62) (by decide +kernel)) rfl, tb_in (List.mem_of_getElem? (i := 1187) (by decide +kernel)) rfl, by decide⟩
theorem mv_X11_keep : MV RX11 yX11_keep cX11_keep 4 none 1 := ⟨⟨rfl, by decide, by decide, by decide +kernel⟩, tb_in (List.mem_of_getElem? (i := 1282) (by decide +kernel)) rfl, tb_in (List.mem_of_getElem? (i := 33) (by decide +kernel)) rfl, tb_in (List.mem_of_getElem? (i := 62) (by decide +kernel)) rfl, tb_in (List.mem_of_getElem? (i := 1283) (by decide +kernel)) rfl, by decide⟩
theorem mv_X11_layAir : MV RX11 yX11_layAir cX11_layAir 4 none 2 := ⟨⟨rfl, by decide, by decide, by decide +kernel⟩, tb_in (List.mem_of_getElem? (i := 1015) (by decide +kernel)) rfl, tb_in (List.mem_of_getElem? (i := 7) (by decide +kernel)) rfl, tb_in (List.mem_of_getElem? (i := 62) (by decide +kernel)) rfl, tb_in (List.mem_of_getElem? (i := 1016) (by decide +kernel)) rfl, by decide⟩
theorem mv_X11_layAll : MV RX11 yX11_layAll cX11_layAll 1 none 0 := ⟨⟨rfl, by decide, by decide, by decide +kernel⟩, tb_in (List.mem_of_getElem? (i := 1213) (by decide +kernel)) rfl, tb_in (List.mem_of_getElem? (i := 18) (by decide +kernel)) rfl, tb_in (List.mem_of_getElem? (i := 62) (by decide +kernel)) rfl, tb_in (List.mem_of_getElem? (i := 1214) (by decide +kernel)) rfl, by decide⟩
theorem mv_X11_layBits : MV RX11 yX11_layBits cX11_layBits 3 none 0 := ⟨⟨rfl, by decide, by decide, by decide +kernel⟩, tb_in (List.mem_of_getElem? (i := 1221) (by decide +kernel)) rfl, tb_in (List.mem_of_getElem? (i := 20) (by decide +kernel)) rfl, tb_in (List.mem_of_getElem? (i := 62) (by decide +kernel)) rfl, tb_in (List.mem_of_getElem? (i := 1222) (by decide +kernel)) rfl, by decide⟩
theorem mv_X11_layChange : MV RX11 yX11_layChange cX11_layChange 5 none 2 := ⟨⟨rfl, by decide, by decide, by decide +kernel⟩, tb_in (List.mem_of_getElem? (i := 1229) (by decide +kernel)) rfl, tb_in (List.mem_of_getElem? (i := 22) (by decide +kernel)) rfl, tb_in (List.mem_of_getElem? (i := 62) (by decide +kernel)) rfl, tb_in (List.mem_of_getElem? (i := 1230) (by decide +kernel)) rfl, by decide⟩
theorem mv_X11_layCould : MV RX11 yX11_layCould cX11_layCould 4 none 1 := ⟨⟨rfl, by decide, by decide, by decide +kernel⟩, tb_in (List.mem_of_getElem? (i := 1367) (by decide +kernel)) rfl, tb_in (List.mem_of_getElem? (i := 42) (by decide +kernel)) rfl, tb_in (List.mem_of_getElem? (i := 62) (by decide +kernel)) rfl, tb_in (List.mem_of_getElem? (i := 1368) (by decide +kernel)) rfl, by decide⟩
theorem mv_X11_layLatest : MV RX11 yX11_layLatest cX11_layLatest 8 none 2 := ⟨⟨rfl, by decide, by decide, by decide +kernel⟩, tb_in (List.mem_of_getElem? (i := 1245) (by decide +kernel)) rfl, tb_in (List.mem_of_getElem? (i := 26) (by decide +kernel)) rfl, tb_in (List.mem_of_getElem? (i := 62) (by decide +kernel)) rfl, tb_in (List.mem_of_getElem? (i := 1246) (by decide +kernel)) rfl, by decide⟩
theorem mv_X11_layNear : MV RX11 yX11_layNear cX11_layNear 5 none 2 := ⟨⟨rfl, by decide, by decide, by decide +kernel⟩, tb_in (List.mem_of_getElem? (i := 1225) (by decide +kernel)) rfl, tb_in (List.mem_of_getElem? (i := 21) (by decide +kernel)) rfl, tb_in (List.mem_of_getElem? (i := 62) (by decide +kernel)) rfl, tb_in (List.mem_of_getElem? (i := 1226) (by decide +kernel)) rfl, by decide⟩
theorem mv_X11_layOpen : MV RX11 yX11_layOpen cX11_layOpen 3 none 0 := ⟨⟨rfl, by decide, by decide, by decide +kernel⟩, tb_in (List.mem_of_getElem? (i := 1217) (by decide +kernel)) rfl, tb_in (List.mem_of_getElem? (i := 19) (by decide +kernel)) rfl, tb_in (List.mem_of_getElem? (i := 62) (by decide +kernel)) rfl, tb_in (List.mem_of_getElem? (i := 1218) (by decide +kernel)) rfl, by decide⟩
theorem mv_X11_layOrders : MV RX11 yX11_layOrders cX11_layOrders 7 (some .int) 1 := ⟨⟨rfl, by decide, by decide, by decide +kernel⟩, tb_in (List.mem_of_getElem? (i := 1335) (by decide +kernel)) rfl, tb_in (List.mem_of_getElem? (i := 38) (by decide +kernel)) rfl, tb_in (List.mem_of_getElem? (i := 62) (by decide +kernel)) rfl, tb_in (List.mem_of_getElem? (i := 1336) (by decide +kernel)) rfl, by decide⟩
theorem mv_X11_layQuietest : MV RX11 yX11_layQuietest cX11_layQuietest 9 (some .int) 1 := ⟨⟨rfl, by decide, by decide, by decide +kernel⟩, tb_in (List.mem_of_getElem? (i := 1424) (by decide +kernel)) rfl, tb_in (List.mem_of_getElem? (i := 48) (by decide +kernel)) rfl, tb_in (List.mem_of_getElem? (i := 62) (by decide +kernel)) rfl, tb_in (List.mem_of_getElem? (i := 1425) (by decide +kernel)) rfl, by decide⟩
theorem mv_X11_layRest : MV RX11 yX11_layRest cX11_layRest 11 none 3 := ⟨⟨rfl, by decide, by decide, by decide +kernel⟩, tb_in (List.mem_of_getElem? (i := 1257) (by decide +kernel)) rfl, tb_in (List.mem_of_getElem? (i := 29) (by decide +kernel)) rfl, tb_in (List.mem_of_getElem? (i := 62) (by decide +kernel)) rfl, tb_in (List.mem_of_getElem? (i := 1258) (by decide +kernel)) rfl, by decide⟩
theorem mv_X11_layRow : MV RX11 yX11_layRow cX11_layRow 8 none 3 := ⟨⟨rfl, by decide, by decide, by decide +kernel⟩, tb_in (List.mem_of_getElem? (i := 1339) (by decide +kernel)) rfl, tb_in (List.mem_of_getElem? (i := 39) (by decide +kernel)) rfl, tb_in (List.mem_of_getElem? (i := 62) (by decide +kernel)) rfl, tb_in (List.mem_of_getElem? (i := 1340) (by decide +kernel)) rfl, by decide⟩
theorem mv_X11_laySoonest : MV RX11 yX11_laySoonest cX11_laySoonest 3 (some .boolean) 1 := ⟨⟨rfl, by decide, by decide, by decide +kernel⟩, tb_in (List.mem_of_getElem? (i := 1237) (by decide +kernel)) rfl, tb_in (List.mem_of_getElem? (i := 24) (by decide +kernel)) rfl, tb_in (List.mem_of_getElem? (i := 62) (by decide +kernel)) rfl, tb_in (List.mem_of_getElem? (i := 1238) (by decide +kernel)) rfl, by decide⟩
theorem mv_X11_laySteps : MV RX11 yX11_laySteps cX11_laySteps 5 none 1 := ⟨⟨rfl, by decide, by decide, by decide +kernel⟩, tb_in (List.mem_of_getElem? (i := 1262) (by decide +kernel)) rfl, tb_in (List.mem_of_getElem? (i := 30) (by decide +kernel)) rfl, tb_in (List.mem_of_getElem? (i := 62) (by decide +kernel)) rfl, tb_in (List.mem_of_getElem? (i := 1263) (by decide +kernel)) rfl, by decide⟩
theorem mv_X11_led : MV RX11 yX11_led cX11_led 4 (some .int) 1 := ⟨⟨rfl, by decide, by decide, by decide +kernel⟩, tb_in (List.mem_of_getElem? (i := 1390) (by decide +kernel)) rfl, tb_in (List.mem_of_getElem? (i := 1391) (by decide +kernel)) rfl, tb_in (List.mem_of_getElem? (i := 62) (by decide +kernel)) rfl, tb_in (List.mem_of_getElem? (i := 1392) (by decide +kernel)) rfl, by decide⟩
theorem mv_X11_ledAt : MV RX11 yX11_ledAt cX11_ledAt 2 (some .int) 1 := ⟨⟨rfl, by decide, by decide, by decide +kernel⟩, tb_in (List.mem_of_getElem? (i := 1394) (by decide +kernel)) rfl, tb_in (List.mem_of_getElem? (i := 1395) (by decide +kernel)) rfl, tb_in (List.mem_of_getElem? (i := 62) (by decide +kernel)) rfl, tb_in (List.mem_of_getElem? (i := 1396) (by decide +kernel)) rfl, by decide⟩
theorem mv_X11_ledOf : MV RX11 yX11_ledOf cX11_ledOf 4 (some .int) 1 := ⟨⟨rfl, by decide, by decide, by decide +kernel⟩, tb_in (List.mem_of_getElem? (i := 1387) (by decide +kernel)) rfl, tb_in (List.mem_of_getElem? (i := 45) (by decide +kernel)) rfl, tb_in (List.mem_of_getElem? (i := 62) (by decide +kernel)) rfl, tb_in (List.mem_of_getElem? (i := 1388) (by decide +kernel)) rfl, by decide⟩
theorem mv_X11_ledOff : MV RX11 yX11_ledOff cX11_ledOff 3 (some .int) 0 := ⟨⟨rfl, by decide, by decide, by decide +kernel⟩, tb_in (List.mem_of_getElem? (i := 1382) (by decide +kernel)) rfl, tb_in (List.mem_of_getElem? (i := 1383) (by decide +kernel)) rfl, tb_in (List.mem_of_getElem? (i := 62) (by decide +kernel)) rfl, tb_in (List.mem_of_getElem? (i := 1384) (by decide +kernel)) rfl, by decide⟩
theorem mv_X11_loud : MV RX11 yX11_loud cX11_loud 5 (some .int) 2 := ⟨⟨rfl, by decide, by decide, by decide +kernel⟩, tb_in (List.mem_of_getElem? (i := 1412) (by decide +kernel)) rfl, tb_in (List.mem_of_getElem? (i := 47) (by decide +kernel)) rfl, tb_in (List.mem_of_getElem? (i := 62) (by decide +kernel)) rfl, tb_in (List.mem_of_getElem? (i := 1413) (by decide +kernel)) rfl, by decide⟩
theorem mv_X11_mayAsk : MV RX11 yX11_mayAsk cX11_mayAsk 2 (some .int) 1 := ⟨⟨rfl, by decide, by decide, by decide +kernel⟩, tb_in (List.mem_of_getElem? (i := 1209) (by decide +kernel)) rfl, tb_in (List.mem_of_getElem? (i := 17) (by decide +kernel)) rfl, tb_in (List.mem_of_getElem? (i := 62) (by decide +kernel)) rfl, tb_in (List.mem_of_getElem? (i := 1210) (by decide +kernel)) rfl, by decide⟩
theorem mv_X11_maySet : MV RX11 yX11_maySet cX11_maySet 2 (some .int) 1 := ⟨⟨rfl, by decide, by decide, by decide +kernel⟩, tb_in (List.mem_of_getElem? (i := 1331) (by decide +kernel)) rfl, tb_in (List.mem_of_getElem? (i := 37) (by decide +kernel)) rfl, tb_in (List.mem_of_getElem? (i := 62) (by decide +kernel)) rfl, tb_in (List.mem_of_getElem? (i := 1332) (by decide +kernel)) rfl, by decide⟩
theorem mv_X11_meet : MV RX11 yX11_meet cX11_meet 9 (some .int) 3 := ⟨⟨rfl, by decide, by decide, by decide +kernel⟩, tb_in (List.mem_of_getElem? (i := 1297) (by decide +kernel)) rfl, tb_in (List.mem_of_getElem? (i := 1298) (by decide +kernel)) rfl, tb_in (List.mem_of_getElem? (i := 62) (by decide +kernel)) rfl, tb_in (List.mem_of_getElem? (i := 1299) (by decide +kernel)) rfl, by decide⟩
theorem mv_X11_noise : MV RX11 yX11_noise cX11_noise 2 (some .int) 1 := ⟨⟨rfl, by decide, by decide, by decide +kernel⟩, tb_in (List.mem_of_getElem? (i := 1403) (by decide +kernel)) rfl, tb_in (List.mem_of_getElem? (i := 1404) (by decide +kernel)) rfl, tb_in (List.mem_of_getElem? (i := 62) (by decide +kernel)) rfl, tb_in (List.mem_of_getElem? (i := 1405) (by decide +kernel)) rfl, by decide⟩
theorem mv_X11_noiseOf : MV RX11 yX11_noiseOf cX11_noiseOf 5 (some .int) 1 := ⟨⟨rfl, by decide, by decide, by decide +kernel⟩, tb_in (List.mem_of_getElem? (i := 1408) (by decide +kernel)) rfl, tb_in (List.mem_of_getElem? (i := 46) (by decide +kernel)) rfl, tb_in (List.mem_of_getElem? (i := 62) (by decide +kernel)) rfl, tb_in (List.mem_of_getElem? (i := 1409) (by decide +kernel)) rfl, by decide⟩
theorem ms_X11_nth : MS yX11_nth cX11_nth 4 (some .int) 2 := ⟨⟨by decide, by decide, by decide +kernel⟩, tb_in (List.mem_of_getElem? (i := 1323) (by decide +kernel)) rfl, tb_in (List.mem_of_getElem? (i := 62) (by decide +kernel)) rfl, tb_in (List.mem_of_getElem? (i := 1324) (by decide +kernel)) rfl, by decide⟩
theorem ms_X11_ones : MS yX11_ones cX11_ones 3 (some .int) 1 := ⟨⟨by decide, by decide, by decide +kernel⟩, tb_in (List.mem_of_getElem? (i := 1313) (by decide +kernel)) rfl, tb_in (List.mem_of_getElem? (i := 62) (by decide +kernel)) rfl, tb_in (List.mem_of_getElem? (i := 1314) (by decide +kernel)) rfl, by decide⟩
theorem mv_X11_open : MV RX11 yX11_open cX11_open 3 (some .int) 2 := ⟨⟨rfl, by decide, by decide, by decide +kernel⟩, tb_in (List.mem_of_getElem? (i := 1177) (by decide +kernel)) rfl, tb_in (List.mem_of_getElem? (i := 1178) (by decide +kernel)) rfl, tb_in (List.mem_of_getElem? (i := 62) (by decide +kernel)) rfl, tb_in (List.mem_of_getElem? (i := 1179) (by decide +kernel)) rfl, by decide⟩
theorem mv_X11_order : MV RX11 yX11_order cX11_order 5 (some .int) 2 := ⟨⟨rfl, by decide, by decide, by decide +kernel⟩, tb_in (List.mem_of_getElem? (i := 1350) (by decide +kernel)) rfl, tb_in (List.mem_of_getElem? (i := 1351) (by decide +kernel)) rfl, tb_in (List.mem_of_getElem? (i := 62) (by decide +kernel)) rfl, tb_in (List.mem_of_getElem? (i := 1352) (by decide +kernel)) rfl, by decide⟩
theorem mv_X11_price : MV RX11 yX11_price cX11_price 5 (some .int) 1 := ⟨⟨rfl, by decide, by decide, by decide +kernel⟩, tb_in (List.mem_of_getElem? (i := 1427) (by decide +kernel)) rfl, tb_in (List.mem_of_getElem? (i := 1428) (by decide +kernel)) rfl, tb_in (List.mem_of_getElem? (i := 62) (by decide +kernel)) rfl, tb_in (List.mem_of_getElem? (i := 1429) (by decide +kernel)) rfl, by decide⟩
theorem mv_X11_quietAt : MV RX11 yX11_quietAt cX11_quietAt 4 (some .int) 3 := ⟨⟨rfl, by decide, by decide, by decide +kernel⟩, tb_in (List.mem_of_getElem? (i := 1431) (by decide +kernel)) rfl, tb_in (List.mem_of_getElem? (i := 1432) (by decide +kernel)) rfl, tb_in (List.mem_of_getElem? (i := 62) (by decide +kernel)) rfl, tb_in (List.mem_of_getElem? (i := 1433) (by decide +kernel)) rfl, by decide⟩
theorem mv_X11_quietest : MV RX11 yX11_quietest cX11_quietest 3 (some .int) 1 := ⟨⟨rfl, by decide, by decide, by decide +kernel⟩, tb_in (List.mem_of_getElem? (i := 1419) (by decide +kernel)) rfl, tb_in (List.mem_of_getElem? (i := 1420) (by decide +kernel)) rfl, tb_in (List.mem_of_getElem? (i := 62) (by decide +kernel)) rfl, tb_in (List.mem_of_getElem? (i := 1421) (by decide +kernel)) rfl, by decide⟩
theorem mv_X11_rule : MV RX11 yX11_rule cX11_rule 4 (some .int) 2 := ⟨⟨rfl, by decide, by decide, by decide +kernel⟩, tb_in (List.mem_of_getElem? (i := 1148) (by decide +kernel)) rfl, tb_in (List.mem_of_getElem? (i := 1149) (by decide +kernel)) rfl, tb_in (List.mem_of_getElem? (i := 62) (by decide +kernel)) rfl, tb_in (List.mem_of_getElem? (i := 1150) (by decide +kernel)) rfl, by decide⟩
theorem mv_X11_shut : MV RX11 yX11_shut cX11_shut 5 (some .int) 3 := ⟨⟨rfl, by decide, by decide, by decide +kernel⟩, tb_in (List.mem_of_getElem? (i := 1126) (by decide +kernel)) rfl, tb_in (List.mem_of_getElem? (i := 1127) (by decide +kernel)) rfl, tb_in (List.mem_of_getElem? (i := 62) (by decide +kernel)) rfl, tb_in (List.mem_of_getElem? (i := 1128) (by decide +kernel)) rfl, by decide⟩
theorem mv_X11_silent : MV RX11 yX11_silent cX11_silent 4 (some .int) 3 := ⟨⟨rfl, by decide, by decide, by decide +kernel⟩, tb_in (List.mem_of_getElem? (i := 1358) (by decide +kernel)) rfl, tb_in (List.mem_of_getElem? (i := 1359) (by decide +kernel)) rfl, tb_in (List.mem_of_getElem? (i := 62) (by decide +kernel)) rfl, tb_in (List.mem_of_getElem? (i := 1360) (by decide +kernel)) rfl, by decide⟩
theorem ms_X11_size : MS yX11_size cX11_size 1 (some .int) 1 := ⟨⟨by decide, by decide, by decide +kernel⟩, tb_in (List.mem_of_getElem? (i := 1166) (by decide +kernel)) rfl, tb_in (List.mem_of_getElem? (i := 62) (by decide +kernel)) rfl, tb_in (List.mem_of_getElem? (i := 1167) (by decide +kernel)) rfl, by decide⟩
theorem mv_X11_soonest : MV RX11 yX11_soonest cX11_soonest 3 (some .int) 1 := ⟨⟨rfl, by decide, by decide, by decide +kernel⟩, tb_in (List.mem_of_getElem? (i := 1204) (by decide +kernel)) rfl, tb_in (List.mem_of_getElem? (i := 1205) (by decide +kernel)) rfl, tb_in (List.mem_of_getElem? (i := 62) (by decide +kernel)) rfl, tb_in (List.mem_of_getElem? (i := 1206) (by decide +kernel)) rfl, by decide⟩
theorem mv_X11_soonestAt : MV RX11 yX11_soonestAt cX11_soonestAt 4 (some .int) 3 := ⟨⟨rfl, by decide, by decide, by decide +kernel⟩, tb_in (List.mem_of_getElem? (i := 1269) (by decide +kernel)) rfl, tb_in (List.mem_of_getElem? (i := 1270) (by decide +kernel)) rfl, tb_in (List.mem_of_getElem? (i := 62) (by decide +kernel)) rfl, tb_in (List.mem_of_getElem? (i := 1271) (by decide +kernel)) rfl, by decide⟩
theorem mv_X11_spread : MV RX11 yX11_spread cX11_spread 5 none 1 := ⟨⟨rfl, by decide, by decide, by decide +kernel⟩, tb_in (List.mem_of_getElem? (i := 1375) (by decide +kernel)) rfl, tb_in (List.mem_of_getElem? (i := 44) (by decide +kernel)) rfl, tb_in (List.mem_of_getElem? (i := 62) (by decide +kernel)) rfl, tb_in (List.mem_of_getElem? (i := 1376) (by decide +kernel)) rfl, by decide⟩
theorem mv_X11_step : MV RX11 yX11_step cX11_step 5 (some .int) 2 := ⟨⟨rfl, by decide, by decide, by decide +kernel⟩, tb_in (List.mem_of_getElem? (i := 1233) (by decide +kernel)) rfl, tb_in (List.mem_of_getElem? (i := 23) (by decide +kernel)) rfl, tb_in (List.mem_of_getElem? (i := 62) (by decide +kernel)) rfl, tb_in (List.mem_of_getElem? (i := 1234) (by decide +kernel)) rfl, by decide⟩
theorem mv_X11_take : MV RX11 yX11_take cX11_take 2 (some .int) 1 := ⟨⟨rfl, by decide, by decide, by decide +kernel⟩, tb_in (List.mem_of_getElem? (i := 1285) (by decide +kernel)) rfl, tb_in (List.mem_of_getElem? (i := 1286) (by decide +kernel)) rfl, tb_in (List.mem_of_getElem? (i := 62) (by decide +kernel)) rfl, tb_in (List.mem_of_getElem? (i := 1287) (by decide +kernel)) rfl, by decide⟩
theorem mv_X11_takeRow : MV RX11 yX11_takeRow cX11_takeRow 3 none 1 := ⟨⟨rfl, by decide, by decide, by decide +kernel⟩, tb_in (List.mem_of_getElem? (i := 1347) (by decide +kernel)) rfl, tb_in (List.mem_of_getElem? (i := 41) (by decide +kernel)) rfl, tb_in (List.mem_of_getElem? (i := 62) (by decide +kernel)) rfl, tb_in (List.mem_of_getElem? (i := 1348) (by decide +kernel)) rfl, by decide⟩
theorem mv_X11_told : MV RX11 yX11_told cX11_told 3 (some .int) 2 := ⟨⟨rfl, by decide, by decide, by decide +kernel⟩, tb_in (List.mem_of_getElem? (i := 1274) (by decide +kernel)) rfl, tb_in (List.mem_of_getElem? (i := 32) (by decide +kernel)) rfl, tb_in (List.mem_of_getElem? (i := 62) (by decide +kernel)) rfl, tb_in (List.mem_of_getElem? (i := 1275) (by decide +kernel)) rfl, by decide⟩
theorem mv_X11_where : MV RX11 yX11_where cX11_where 3 (some .int) 2 := ⟨⟨rfl, by decide, by decide, by decide +kernel⟩, tb_in (List.mem_of_getElem? (i := 1289) (by decide +kernel)) rfl, tb_in (List.mem_of_getElem? (i := 1290) (by decide +kernel)) rfl, tb_in (List.mem_of_getElem? (i := 62) (by decide +kernel)) rfl, tb_in (List.mem_of_getElem? (i := 1291) (by decide +kernel)) rfl, by decide⟩
theorem mv_X11_worst : MV RX11 yX11_worst cX11_worst 4 (some .int) 1 := ⟨⟨rfl, by decide, by decide, by decide +kernel⟩, tb_in (List.mem_of_getElem? (i := 1415) (by decide +kernel)) rfl, tb_in (List.mem_of_getElem? (i := 1416) (by decide +kernel)) rfl, tb_in (List.mem_of_getElem? (i := 62) (by decide +kernel)) rfl, tb_in (List.mem_of_getElem? (i := 1417) (by decide +kernel)) rfl, by decide⟩
theorem mv_X1_decoded : MV RX1 yX1_decoded cX1_decoded 5 (some .int) 2 := ⟨⟨rfl, by decide, by decide, by decide +kernel⟩, tb_in (List.mem_of_getElem? (i := 814) (by decide +kernel)) rfl, tb_in (List.mem_of_getElem? (i := 815) (by decide +kernel)) rfl, tb_in (List.mem_of_getElem? (i := 59) (by decide +kernel)) rfl, tb_in (List.mem_of_getElem? (i := 816) (by decide +kernel)) rfl, by decide⟩
theorem mv_X1_find : MV RX1 yX1_find cX1_find 6 (some .boolean) 1 := ⟨⟨rfl, by decide, by decide, by decide +kernel⟩, tb_in (List.mem_of_getElem? (i := 787) (by decide +kernel)) rfl, tb_in (List.mem_of_getElem? (i := 788) (by decide +kernel)) rfl, tb_in (List.mem_of_getElem? (i := 59) (by decide +kernel)) rfl, tb_in (List.mem_of_getElem? (i := 789) (by decide +kernel)) rfl, by decide⟩
theorem mv_X1_firstOfSize : MV RX1 yX1_firstOfSize cX1_firstOfSize 6 (some .int) 3 := ⟨⟨rfl, by decide, by decide, by decide +kernel⟩, tb_in (List.mem_of_getElem? (i := 804) (by decide +kernel)) rfl, tb_in (List.mem_of_getElem? (i := 805) (by decide +kernel)) rfl, tb_in (List.mem_of_getElem? (i := 59) (by decide +kernel)) rfl, tb_in (List.mem_of_getElem? (i := 806) (by decide +kernel)) rfl, by decide⟩
theorem mv_X1_keep : MV RX1 yX1_keep cX1_keep 3 none 1 := ⟨⟨rfl, by decide, by decide, by decide +kernel⟩, tb_in (List.mem_of_getElem? (i := 818) (by decide +kernel)) rfl, tb_in (List.mem_of_getElem? (i := 819) (by decide +kernel)) rfl, tb_in (List.mem_of_getElem? (i := 59) (by decide +kernel)) rfl, tb_in (List.mem_of_getElem? (i := 820) (by decide +kernel)) rfl, by decide⟩
theorem mv_X1_listGiven : MV RX1 yX1_listGiven cX1_listGiven 4 (some .int) 1 := ⟨⟨rfl, by decide, by decide, by decide +kernel⟩, tb_in (List.mem_of_getElem? (i := 799) (by decide +kernel)) rfl, tb_in (List.mem_of_getElem? (i := 800) (by decide +kernel)) rfl, tb_in (List.mem_of_getElem? (i := 59) (by decide +kernel)) rfl, tb_in (List.mem_of_getElem? (i := 801) (by decide +kernel)) rfl, by decide⟩
theorem mv_X1_number : MV RX1 yX1_number cX1_number 2 (some .int) 1 := ⟨⟨rfl, by decide, by decide, by decide +kernel⟩, tb_in (List.mem_of_getElem? (i := 826) (by decide +kernel)) rfl, tb_in (List.mem_of_getElem? (i := 827) (by decide +kernel)) rfl, tb_in (List.mem_of_getElem? (i := 59) (by decide +kernel)) rfl, tb_in (List.mem_of_getElem? (i := 828) (by decide +kernel)) rfl, by decide⟩
theorem mv_X2_add : MV RX2 yX2_add cX2_add 2 (some (.object "SmallFlyers$Ask")) 0 := ⟨⟨rfl, by decide, by decide, by decide +kernel⟩, tb_in (List.mem_of_getElem? (i := 579) (by decide +kernel)) rfl, tb_in (List.mem_of_getElem? (i := 580) (by decide +kernel)) rfl, tb_in (List.mem_of_getElem? (i := 53) (by decide +kernel)) rfl, tb_in (List.mem_of_getElem? (i := 581) (by decide +kernel)) rfl, by decide⟩
theorem mv_X2_countGiven : MV RX2 yX2_countGiven cX2_countGiven 1 (some .int) 0 := ⟨⟨rfl, by decide, by decide, by decide +kernel⟩, tb_in (List.mem_of_getElem? (i := 996) (by decide +kernel)) rfl, tb_in (List.mem_of_getElem? (i := 997) (by decide +kernel)) rfl, tb_in (List.mem_of_getElem? (i := 53) (by decide +kernel)) rfl, tb_in (List.mem_of_getElem? (i := 998) (by decide +kernel)) rfl, by decide⟩
theorem mv_X2_givenOnes : MV RX2 yX2_givenOnes cX2_givenOnes 3 (some .int) 0 := ⟨⟨rfl, by decide, by decide, by decide +kernel⟩, tb_in (List.mem_of_getElem? (i := 791) (by decide +kernel)) rfl, tb_in (List.mem_of_getElem? (i := 792) (by decide +kernel)) rfl, tb_in (List.mem_of_getElem? (i := 53) (by decide +kernel)) rfl, tb_in (List.mem_of_getElem? (i := 793) (by decide +kernel)) rfl, by decide⟩
theorem mv_X2_has : MV RX2 yX2_has cX2_has 2 (some .boolean) 1 := ⟨⟨rfl, by decide, by decide, by decide +kernel⟩, tb_in (List.mem_of_getElem? (i := 600) (by decide +kernel)) rfl, tb_in (List.mem_of_getElem? (i := 601) (by decide +kernel)) rfl, tb_in (List.mem_of_getElem? (i := 53) (by decide +kernel)) rfl, tb_in (List.mem_of_getElem? (i := 602) (by decide +kernel)) rfl, by decide⟩
theorem mv_X2_isFull : MV RX2 yX2_isFull cX2_isFull 1 (some .boolean) 0 := ⟨⟨rfl, by decide, by decide, by decide +kernel⟩, tb_in (List.mem_of_getElem? (i := 575) (by decide +kernel)) rfl, tb_in (List.mem_of_getElem? (i := 576) (by decide +kernel)) rfl, tb_in (List.mem_of_getElem? (i := 53) (by decide +kernel)) rfl, tb_in (List.mem_of_getElem? (i := 577) (by decide +kernel)) rfl, by decide⟩
theorem mv_X2_minutesGiven : MV RX2 yX2_minutesGiven cX2_minutesGiven 3 (some .int) 0 := ⟨⟨rfl, by decide, by decide, by decide +kernel⟩, tb_in (List.mem_of_getElem? (i := 1002) (by decide +kernel)) rfl, tb_in (List.mem_of_getElem? (i := 1003) (by decide +kernel)) rfl, tb_in (List.mem_of_getElem? (i := 53) (by decide +kernel)) rfl, tb_in (List.mem_of_getElem? (i := 1004) (by decide +kernel)) rfl, by decide⟩
theorem mv_X3_beginAt : MV RX3 yX3_beginAt cX3_beginAt 4 (some .boolean) 2 := ⟨⟨rfl, by decide, by decide, by decide +kernel⟩, tb_in (List.mem_of_getElem? (i := 735) (by decide +kernel)) rfl, tb_in (List.mem_of_getElem? (i := 736) (by decide +kernel)) rfl, tb_in (List.mem_of_getElem? (i := 58) (by decide +kernel)) rfl, tb_in (List.mem_of_getElem? (i := 737) (by decide +kernel)) rfl, by decide⟩
theorem mv_X3_findQuietest : MV RX3 yX3_findQuietest cX3_findQuietest 3 (some .boolean) 1 := ⟨⟨rfl, by decide, by decide, by decide +kernel⟩, tb_in (List.mem_of_getElem? (i := 716) (by decide +kernel)) rfl, tb_in (List.mem_of_getElem? (i := 717) (by decide +kernel)) rfl, tb_in (List.mem_of_getElem? (i := 58) (by decide +kernel)) rfl, tb_in (List.mem_of_getElem? (i := 718) (by decide +kernel)) rfl, by decide⟩
theorem mv_X3_firstStep : MV RX3 yX3_firstStep cX3_firstStep 7 (some .int) 2 := ⟨⟨rfl, by decide, by decide, by decide +kernel⟩, tb_in (List.mem_of_getElem? (i := 756) (by decide +kernel)) rfl, tb_in (List.mem_of_getElem? (i := 757) (by decide +kernel)) rfl, tb_in (List.mem_of_getElem? (i := 58) (by decide +kernel)) rfl, tb_in (List.mem_of_getElem? (i := 758) (by decide +kernel)) rfl, by decide⟩
theorem mv_X3_follow : MV RX3 yX3_follow cX3_follow 5 none 1 := ⟨⟨rfl, by decide, by decide, by decide +kernel⟩, tb_in (List.mem_of_getElem? (i := 751) (by decide +kernel)) rfl, tb_in (List.mem_of_getElem? (i := 752) (by decide +kernel)) rfl, tb_in (List.mem_of_getElem? (i := 58) (by decide +kernel)) rfl, tb_in (List.mem_of_getElem? (i := 753) (by decide +kernel)) rfl, by decide⟩
theorem mv_X3_growth : MV RX3 yX3_growth cX3_growth 2 (some .int) 1 := ⟨⟨rfl, by decide, by decide, by decide +kernel⟩, tb_in (List.mem_of_getElem? (i := 980) (by decide +kernel)) rfl, tb_in (List.mem_of_getElem? (i := 981) (by decide +kernel)) rfl, tb_in (List.mem_of_getElem? (i := 58) (by decide +kernel)) rfl, tb_in (List.mem_of_getElem? (i := 982) (by decide +kernel)) rfl, by decide⟩
theorem mv_X3_leastNext : MV RX3 yX3_leastNext cX3_leastNext 7 (some .int) 3 := ⟨⟨rfl, by decide, by decide, by decide +kernel⟩, tb_in (List.mem_of_getElem? (i := 745) (by decide +kernel)) rfl, tb_in (List.mem_of_getElem? (i := 746) (by decide +kernel)) rfl, tb_in (List.mem_of_getElem? (i := 58) (by decide +kernel)) rfl, tb_in (List.mem_of_getElem? (i := 747) (by decide +kernel)) rfl, by decide⟩
theorem mv_X3_lookBack : MV RX3 yX3_lookBack cX3_lookBack 6 none 2 := ⟨⟨rfl, by decide, by decide, by decide +kernel⟩, tb_in (List.mem_of_getElem? (i := 731) (by decide +kernel)) rfl, tb_in (List.mem_of_getElem? (i := 732) (by decide +kernel)) rfl, tb_in (List.mem_of_getElem? (i := 58) (by decide +kernel)) rfl, tb_in (List.mem_of_getElem? (i := 733) (by decide +kernel)) rfl, by decide⟩
theorem mv_X3_stepBack : MV RX3 yX3_stepBack cX3_stepBack 7 (some .boolean) 3 := ⟨⟨rfl, by decide, by decide, by decide +kernel⟩, tb_in (List.mem_of_getElem? (i := 741) (by decide +kernel)) rfl, tb_in (List.mem_of_getElem? (i := 742) (by decide +kernel)) rfl, tb_in (List.mem_of_getElem? (i := 58) (by decide +kernel)) rfl, tb_in (List.mem_of_getElem? (i := 743) (by decide +kernel)) rfl, by decide⟩
theorem mv_X4_carryOut : MV RX4 yX4_carryOut cX4_carryOut 3 (some .int) 0 := ⟨⟨rfl, by decide, by decide, by decide +kernel⟩, tb_in (List.mem_of_getElem? (i := 877) (by decide +kernel)) rfl, tb_in (List.mem_of_getElem? (i := 878) (by decide +kernel)) rfl, tb_in (List.mem_of_getElem? (i := 60) (by decide +kernel)) rfl, tb_in (List.mem_of_getElem? (i := 879) (by decide +kernel)) rfl, by decide⟩
theorem mv_X4_findBest : MV RX4 yX4_findBest cX4_findBest 3 none 1 := ⟨⟨rfl, by decide, by decide, by decide +kernel⟩, tb_in (List.mem_of_getElem? (i := 841) (by decide +kernel)) rfl, tb_in (List.mem_of_getElem? (i := 842) (by decide +kernel)) rfl, tb_in (List.mem_of_getElem? (i := 60) (by decide +kernel)) rfl, tb_in (List.mem_of_getElem? (i := 843) (by decide +kernel)) rfl, by decide⟩
theorem mv_X4_giveNext : MV RX4 yX4_giveNext cX4_giveNext 3 (some .int) 1 := ⟨⟨rfl, by decide, by decide, by decide +kernel⟩, tb_in (List.mem_of_getElem? (i := 848) (by decide +kernel)) rfl, tb_in (List.mem_of_getElem? (i := 849) (by decide +kernel)) rfl, tb_in (List.mem_of_getElem? (i := 60) (by decide +kernel)) rfl, tb_in (List.mem_of_getElem? (i := 850) (by decide +kernel)) rfl, by decide⟩
theorem mv_X4_keep : MV RX4 yX4_keep cX4_keep 3 none 1 := ⟨⟨rfl, by decide, by decide, by decide +kernel⟩, tb_in (List.mem_of_getElem? (i := 860) (by decide +kernel)) rfl, tb_in (List.mem_of_getElem? (i := 861) (by decide +kernel)) rfl, tb_in (List.mem_of_getElem? (i := 60) (by decide +kernel)) rfl, tb_in (List.mem_of_getElem? (i := 862) (by decide +kernel)) rfl, by decide⟩
theorem mv_X4_leastCost : MV RX4 yX4_leastCost cX4_leastCost 5 (some .int) 2 := ⟨⟨rfl, by decide, by decide, by decide +kernel⟩, tb_in (List.mem_of_getElem? (i := 856) (by decide +kernel)) rfl, tb_in (List.mem_of_getElem? (i := 857) (by decide +kernel)) rfl, tb_in (List.mem_of_getElem? (i := 60) (by decide +kernel)) rfl, tb_in (List.mem_of_getElem? (i := 858) (by decide +kernel)) rfl, by decide⟩
theorem mv_X4_number : MV RX4 yX4_number cX4_number 2 (some .int) 1 := ⟨⟨rfl, by decide, by decide, by decide +kernel⟩, tb_in (List.mem_of_getElem? (i := 868) (by decide +kernel)) rfl, tb_in (List.mem_of_getElem? (i := 869) (by decide +kernel)) rfl, tb_in (List.mem_of_getElem? (i := 60) (by decide +kernel)) rfl, tb_in (List.mem_of_getElem? (i := 870) (by decide +kernel)) rfl, by decide⟩
theorem ms_X4_tryFrom : MS yX4_tryFrom cX4_tryFrom 6 none 4 := ⟨⟨by decide, by decide, by decide +kernel⟩, tb_in (List.mem_of_getElem? (i := 853) (by decide +kernel)) rfl, tb_in (List.mem_of_getElem? (i := 60) (by decide +kernel)) rfl, tb_in (List.mem_of_getElem? (i := 854) (by decide +kernel)) rfl, by decide⟩
theorem mv_X5_heardFrom : MV RX5 yX5_heardFrom cX5_heardFrom 4 (some .int) 1 := ⟨⟨rfl, by decide, by decide, by decide +kernel⟩, tb_in (List.mem_of_getElem? (i := 721) (by decide +kernel)) rfl, tb_in (List.mem_of_getElem? (i := 722) (by decide +kernel)) rfl, tb_in (List.mem_of_getElem? (i := 56) (by decide +kernel)) rfl, tb_in (List.mem_of_getElem? (i := 723) (by decide +kernel)) rfl, by decide⟩
theorem mv_X5_heardIn : MV RX5 yX5_heardIn cX5_heardIn 4 (some .int) 1 := ⟨⟨rfl, by decide, by decide, by decide +kernel⟩, tb_in (List.mem_of_getElem? (i := 958) (by decide +kernel)) rfl, tb_in (List.mem_of_getElem? (i := 959) (by decide +kernel)) rfl, tb_in (List.mem_of_getElem? (i := 56) (by decide +kernel)) rfl, tb_in (List.mem_of_getElem? (i := 960) (by decide +kernel)) rfl, by decide⟩
theorem mv_X5_listen : MV RX5 yX5_listen cX5_listen 4 (some .int) 2 := ⟨⟨rfl, by decide, by decide, by decide +kernel⟩, tb_in (List.mem_of_getElem? (i := 950) (by decide +kernel)) rfl, tb_in (List.mem_of_getElem? (i := 951) (by decide +kernel)) rfl, tb_in (List.mem_of_getElem? (i := 56) (by decide +kernel)) rfl, tb_in (List.mem_of_getElem? (i := 952) (by decide +kernel)) rfl, by decide⟩
theorem mv_X5_loudestCell : MV RX5 yX5_loudestCell cX5_loudestCell 5 (some .int) 0 := ⟨⟨rfl, by decide, by decide, by decide +kernel⟩, tb_in (List.mem_of_getElem? (i := 971) (by decide +kernel)) rfl, tb_in (List.mem_of_getElem? (i := 972) (by decide +kernel)) rfl, tb_in (List.mem_of_getElem? (i := 56) (by decide +kernel)) rfl, tb_in (List.mem_of_getElem? (i := 973) (by decide +kernel)) rfl, by decide⟩
theorem mv_X5_silence : MV RX5 yX5_silence cX5_silence 2 none 0 := ⟨⟨rfl, by decide, by decide, by decide +kernel⟩, tb_in (List.mem_of_getElem? (i := 503) (by decide +kernel)) rfl, tb_in (List.mem_of_getElem? (i := 504) (by decide +kernel)) rfl, tb_in (List.mem_of_getElem? (i := 56) (by decide +kernel)) rfl, tb_in (List.mem_of_getElem? (i := 505) (by decide +kernel)) rfl, by decide⟩
theorem mv_X5_sound : MV RX5 yX5_sound cX5_sound 3 (some .int) 2 := ⟨⟨rfl, by decide, by decide, by decide +kernel⟩, tb_in (List.mem_of_getElem? (i := 725) (by decide +kernel)) rfl, tb_in (List.mem_of_getElem? (i := 726) (by decide +kernel)) rfl, tb_in (List.mem_of_getElem? (i := 56) (by decide +kernel)) rfl, tb_in (List.mem_of_getElem? (i := 727) (by decide +kernel)) rfl, by decide⟩
theorem mv_X5_soundOf : MV RX5 yX5_soundOf cX5_soundOf 5 (some .int) 2 := ⟨⟨rfl, by decide, by decide, by decide +kernel⟩, tb_in (List.mem_of_getElem? (i := 962) (by decide +kernel)) rfl, tb_in (List.mem_of_getElem? (i := 963) (by decide +kernel)) rfl, tb_in (List.mem_of_getElem? (i := 56) (by decide +kernel)) rfl, tb_in (List.mem_of_getElem? (i := 964) (by decide +kernel)) rfl, by decide⟩
theorem ms_X6_against : MS yX6_against cX6_against 1 (some .int) 1 := ⟨⟨by decide, by decide, by decide +kernel⟩, tb_in (List.mem_of_getElem? (i := 643) (by decide +kernel)) rfl, tb_in (List.mem_of_getElem? (i := 57) (by decide +kernel)) rfl, tb_in (List.mem_of_getElem? (i := 644) (by decide +kernel)) rfl, by decide⟩
theorem mv_X6_ahead : MV RX6 yX6_ahead cX6_ahead 6 (some .long) 2 := ⟨⟨rfl, by decide, by decide, by decide +kernel⟩, tb_in (List.mem_of_getElem? (i := 650) (by decide +kernel)) rfl, tb_in (List.mem_of_getElem? (i := 651) (by decide +kernel)) rfl, tb_in (List.mem_of_getElem? (i := 57) (by decide +kernel)) rfl, tb_in (List.mem_of_getElem? (i := 652) (by decide +kernel)) rfl, by decide⟩
theorem mv_X6_behind : MV RX6 yX6_behind cX6_behind 6 (some .long) 2 := ⟨⟨rfl, by decide, by decide, by decide +kernel⟩, tb_in (List.mem_of_getElem? (i := 659) (by decide +kernel)) rfl, tb_in (List.mem_of_getElem? (i := 660) (by decide +kernel)) rfl, tb_in (List.mem_of_getElem? (i := 57) (by decide +kernel)) rfl, tb_in (List.mem_of_getElem? (i := 661) (by decide +kernel)) rfl, by decide⟩
theorem mv_X6_clearFor : MV RX6 yX6_clearFor cX6_clearFor 5 none 2 := ⟨⟨rfl, by decide, by decide, by decide +kernel⟩, tb_in (List.mem_of_getElem? (i := 620) (by decide +kernel)) rfl, tb_in (List.mem_of_getElem? (i := 621) (by decide +kernel)) rfl, tb_in (List.mem_of_getElem? (i := 57) (by decide +kernel)) rfl, tb_in (List.mem_of_getElem? (i := 622) (by decide +kernel)) rfl, by decide⟩
theorem mv_X6_findEnd : MV RX6 yX6_findEnd cX6_findEnd 5 (some .boolean) 1 := ⟨⟨rfl, by decide, by decide, by decide +kernel⟩, tb_in (List.mem_of_getElem? (i := 646) (by decide +kernel)) rfl, tb_in (List.mem_of_getElem? (i := 647) (by decide +kernel)) rfl, tb_in (List.mem_of_getElem? (i := 57) (by decide +kernel)) rfl, tb_in (List.mem_of_getElem? (i := 648) (by decide +kernel)) rfl, by decide⟩
theorem mv_X6_findSoonest : MV RX6 yX6_findSoonest cX6_findSoonest 2 (some .boolean) 1 := ⟨⟨rfl, by decide, by decide, by decide +kernel⟩, tb_in (List.mem_of_getElem? (i := 616) (by decide +kernel)) rfl, tb_in (List.mem_of_getElem? (i := 617) (by decide +kernel)) rfl, tb_in (List.mem_of_getElem? (i := 57) (by decide +kernel)) rfl, tb_in (List.mem_of_getElem? (i := 618) (by decide +kernel)) rfl, by decide⟩
theorem mv_X6_findStart : MV RX6 yX6_findStart cX6_findStart 5 (some .boolean) 2 := ⟨⟨rfl, by decide, by decide, by decide +kernel⟩, tb_in (List.mem_of_getElem? (i := 655) (by decide +kernel)) rfl, tb_in (List.mem_of_getElem? (i := 656) (by decide +kernel)) rfl, tb_in (List.mem_of_getElem? (i := 57) (by decide +kernel)) rfl, tb_in (List.mem_of_getElem? (i := 657) (by decide +kernel)) rfl, by decide⟩
theorem mv_X6_firstStep : MV RX6 yX6_firstStep cX6_firstStep 5 (some .int) 2 := ⟨⟨rfl, by decide, by decide, by decide +kernel⟩, tb_in (List.mem_of_getElem? (i := 671) (by decide +kernel)) rfl, tb_in (List.mem_of_getElem? (i := 672) (by decide +kernel)) rfl, tb_in (List.mem_of_getElem? (i := 57) (by decide +kernel)) rfl, tb_in (List.mem_of_getElem? (i := 673) (by decide +kernel)) rfl, by decide⟩
theorem mv_X6_follow : MV RX6 yX6_follow cX6_follow 5 none 1 := ⟨⟨rfl, by decide, by decide, by decide +kernel⟩, tb_in (List.mem_of_getElem? (i := 663) (by decide +kernel)) rfl, tb_in (List.mem_of_getElem? (i := 664) (by decide +kernel)) rfl, tb_in (List.mem_of_getElem? (i := 57) (by decide +kernel)) rfl, tb_in (List.mem_of_getElem? (i := 665) (by decide +kernel)) rfl, by decide⟩
theorem mv_X6_hasWayWithout : MV RX6 yX6_hasWayWithout cX6_hasWayWithout 3 (some .boolean) 2 := ⟨⟨rfl, by decide, by decide, by decide +kernel⟩, tb_in (List.mem_of_getElem? (i := 795) (by decide +kernel)) rfl, tb_in (List.mem_of_getElem? (i := 796) (by decide +kernel)) rfl, tb_in (List.mem_of_getElem? (i := 57) (by decide +kernel)) rfl, tb_in (List.mem_of_getElem? (i := 797) (by decide +kernel)) rfl, by decide⟩
theorem mv_X6_isAllowed : MV RX6 yX6_isAllowed cX6_isAllowed 4 (some .boolean) 3 := ⟨⟨rfl, by decide, by decide, by decide +kernel⟩, tb_in (List.mem_of_getElem? (i := 679) (by decide +kernel)) rfl, tb_in (List.mem_of_getElem? (i := 680) (by decide +kernel)) rfl, tb_in (List.mem_of_getElem? (i := 57) (by decide +kernel)) rfl, tb_in (List.mem_of_getElem? (i := 681) (by decide +kernel)) rfl, by decide⟩
theorem mv_X6_keepApart : MV RX6 yX6_keepApart cX6_keepApart 8 none 2 := ⟨⟨rfl, by decide, by decide, by decide +kernel⟩, tb_in (List.mem_of_getElem? (i := 628) (by decide +kernel)) rfl, tb_in (List.mem_of_getElem? (i := 629) (by decide +kernel)) rfl, tb_in (List.mem_of_getElem? (i := 57) (by decide +kernel)) rfl, tb_in (List.mem_of_getElem? (i := 630) (by decide +kernel)) rfl, by decide⟩
theorem mv_X6_wouldMeet : MV RX6 yX6_wouldMeet cX6_wouldMeet 6 (some .boolean) 3 := ⟨⟨rfl, by decide, by decide, by decide +kernel⟩, tb_in (List.mem_of_getElem? (i := 778) (by decide +kernel)) rfl, tb_in (List.mem_of_getElem? (i := 779) (by decide +kernel)) rfl, tb_in (List.mem_of_getElem? (i := 57) (by decide +kernel)) rfl, tb_in (List.mem_of_getElem? (i := 780) (by decide +kernel)) rfl, by decide⟩
theorem mv_X7_countTouched : MV RX7 yX7_countTouched cX7_countTouched 3 (some .int) 0 := ⟨⟨rfl, by decide, by decide, by decide +kernel⟩, tb_in (List.mem_of_getElem? (i := 917) (by decide +kernel)) rfl, tb_in (List.mem_of_getElem? (i := 918) (by decide +kernel)) rfl, tb_in (List.mem_of_getElem? (i := 61) (by decide +kernel)) rfl, tb_in (List.mem_of_getElem? (i := 919) (by decide +kernel)) rfl, by decide⟩
theorem mv_X7_firstTouch : MV RX7 yX7_firstTouch cX7_firstTouch 3 (some .int) 1 := ⟨⟨rfl, by decide, by decide, by decide +kernel⟩, tb_in (List.mem_of_getElem? (i := 925) (by decide +kernel)) rfl, tb_in (List.mem_of_getElem? (i := 926) (by decide +kernel)) rfl, tb_in (List.mem_of_getElem? (i := 61) (by decide +kernel)) rfl, tb_in (List.mem_of_getElem? (i := 927) (by decide +kernel)) rfl, by decide⟩
theorem mv_X7_see : MV RX7 yX7_see cX7_see 4 none 3 := ⟨⟨rfl, by decide, by decide, by decide +kernel⟩, tb_in (List.mem_of_getElem? (i := 885) (by decide +kernel)) rfl, tb_in (List.mem_of_getElem? (i := 886) (by decide +kernel)) rfl, tb_in (List.mem_of_getElem? (i := 61) (by decide +kernel)) rfl, tb_in (List.mem_of_getElem? (i := 887) (by decide +kernel)) rfl, by decide⟩
theorem mv_X7_spread : MV RX7 yX7_spread cX7_spread 4 none 0 := ⟨⟨rfl, by decide, by decide, by decide +kernel⟩, tb_in (List.mem_of_getElem? (i := 893) (by decide +kernel)) rfl, tb_in (List.mem_of_getElem? (i := 894) (by decide +kernel)) rfl, tb_in (List.mem_of_getElem? (i := 61) (by decide +kernel)) rfl, tb_in (List.mem_of_getElem? (i := 895) (by decide +kernel)) rfl, by decide⟩
theorem mv_X7_spreadInto : MV RX7 yX7_spreadInto cX7_spreadInto 7 (some .long) 2 := ⟨⟨rfl, by decide, by decide, by decide +kernel⟩, tb_in (List.mem_of_getElem? (i := 897) (by decide +kernel)) rfl, tb_in (List.mem_of_getElem? (i := 898) (by decide +kernel)) rfl, tb_in (List.mem_of_getElem? (i := 61) (by decide +kernel)) rfl, tb_in (List.mem_of_getElem? (i := 899) (by decide +kernel)) rfl, by decide⟩
theorem mv_X7_touched : MV RX7 yX7_touched cX7_touched 4 (some .int) 1 := ⟨⟨rfl, by decide, by decide, by decide +kernel⟩, tb_in (List.mem_of_getElem? (i := 937) (by decide +kernel)) rfl, tb_in (List.mem_of_getElem? (i := 938) (by decide +kernel)) rfl, tb_in (List.mem_of_getElem? (i := 61) (by decide +kernel)) rfl, tb_in (List.mem_of_getElem? (i := 939) (by decide +kernel)) rfl, by decide⟩
theorem mv_X7_touches : MV RX7 yX7_touches cX7_touches 2 (some .boolean) 1 := ⟨⟨rfl, by decide, by decide, by decide +kernel⟩, tb_in (List.mem_of_getElem? (i := 921) (by decide +kernel)) rfl, tb_in (List.mem_of_getElem? (i := 922) (by decide +kernel)) rfl, tb_in (List.mem_of_getElem? (i := 61) (by decide +kernel)) rfl, tb_in (List.mem_of_getElem? (i := 923) (by decide +kernel)) rfl, by decide⟩
theorem mv_X8_addFolk : MV RX8 yX8_addFolk cX8_addFolk 4 (some .int) 3 := ⟨⟨rfl, by decide, by decide, by decide +kernel⟩, tb_in (List.mem_of_getElem? (i := 530) (by decide +kernel)) rfl, tb_in (List.mem_of_getElem? (i := 531) (by decide +kernel)) rfl, tb_in (List.mem_of_getElem? (i := 51) (by decide +kernel)) rfl, tb_in (List.mem_of_getElem? (i := 532) (by decide +kernel)) rfl, by decide⟩
theorem mv_X8_addShut : MV RX8 yX8_addShut cX8_addShut 4 (some .int) 3 := ⟨⟨rfl, by decide, by decide, by decide +kernel⟩, tb_in (List.mem_of_getElem? (i := 519) (by decide +kernel)) rfl, tb_in (List.mem_of_getElem? (i := 520) (by decide +kernel)) rfl, tb_in (List.mem_of_getElem? (i := 51) (by decide +kernel)) rfl, tb_in (List.mem_of_getElem? (i := 521) (by decide +kernel)) rfl, by decide⟩
theorem mv_X8_apart : MV RX8 yX8_apart cX8_apart 3 (some .int) 2 := ⟨⟨rfl, by decide, by decide, by decide +kernel⟩, tb_in (List.mem_of_getElem? (i := 95) (by decide +kernel)) rfl, tb_in (List.mem_of_getElem? (i := 96) (by decide +kernel)) rfl, tb_in (List.mem_of_getElem? (i := 51) (by decide +kernel)) rfl, tb_in (List.mem_of_getElem? (i := 97) (by decide +kernel)) rfl, by decide⟩
theorem mv_X8_besideOf : MV RX8 yX8_besideOf cX8_besideOf 5 (some .long) 1 := ⟨⟨rfl, by decide, by decide, by decide +kernel⟩, tb_in (List.mem_of_getElem? (i := 125) (by decide +kernel)) rfl, tb_in (List.mem_of_getElem? (i := 126) (by decide +kernel)) rfl, tb_in (List.mem_of_getElem? (i := 51) (by decide +kernel)) rfl, tb_in (List.mem_of_getElem? (i := 127) (by decide +kernel)) rfl, by decide⟩
theorem mv_X8_changeGlide : MV RX8 yX8_changeGlide cX8_changeGlide 3 (some .int) 1 := ⟨⟨rfl, by decide, by decide, by decide +kernel⟩, tb_in (List.mem_of_getElem? (i := 538) (by decide +kernel)) rfl, tb_in (List.mem_of_getElem? (i := 539) (by decide +kernel)) rfl, tb_in (List.mem_of_getElem? (i := 51) (by decide +kernel)) rfl, tb_in (List.mem_of_getElem? (i := 540) (by decide +kernel)) rfl, by decide⟩
theorem mv_X8_changeNear : MV RX8 yX8_changeNear cX8_changeNear 3 (some .int) 1 := ⟨⟨rfl, by decide, by decide, by decide +kernel⟩, tb_in (List.mem_of_getElem? (i := 542) (by decide +kernel)) rfl, tb_in (List.mem_of_getElem? (i := 543) (by decide +kernel)) rfl, tb_in (List.mem_of_getElem? (i := 51) (by decide +kernel)) rfl, tb_in (List.mem_of_getElem? (i := 544) (by decide +kernel)) rfl, by decide⟩
theorem mv_X8_downBy : MV RX8 yX8_downBy cX8_downBy 7 (some .long) 2 := ⟨⟨rfl, by decide, by decide, by decide +kernel⟩, tb_in (List.mem_of_getElem? (i := 114) (by decide +kernel)) rfl, tb_in (List.mem_of_getElem? (i := 115) (by decide +kernel)) rfl, tb_in (List.mem_of_getElem? (i := 51) (by decide +kernel)) rfl, tb_in (List.mem_of_getElem? (i := 116) (by decide +kernel)) rfl, by decide⟩
theorem mv_X8_hasCell : MV RX8 yX8_hasCell cX8_hasCell 2 (some .boolean) 1 := ⟨⟨rfl, by decide, by decide, by decide +kernel⟩, tb_in (List.mem_of_getElem? (i := 99) (by decide +kernel)) rfl, tb_in (List.mem_of_getElem? (i := 100) (by decide +kernel)) rfl, tb_in (List.mem_of_getElem? (i := 51) (by decide +kernel)) rfl, tb_in (List.mem_of_getElem? (i := 101) (by decide +kernel)) rfl, by decide⟩
theorem mv_X8_lay : MV RX8 yX8_lay cX8_lay 4 none 2 := ⟨⟨rfl, by decide, by decide, by decide +kernel⟩, tb_in (List.mem_of_getElem? (i := 80) (by decide +kernel)) rfl, tb_in (List.mem_of_getElem? (i := 81) (by decide +kernel)) rfl, tb_in (List.mem_of_getElem? (i := 51) (by decide +kernel)) rfl, tb_in (List.mem_of_getElem? (i := 82) (by decide +kernel)) rfl, by decide⟩
theorem ms_X8_mark : MS yX8_mark cX8_mark 5 none 4 := ⟨⟨by decide, by decide, by decide +kernel⟩, tb_in (List.mem_of_getElem? (i := 523) (by decide +kernel)) rfl, tb_in (List.mem_of_getElem? (i := 51) (by decide +kernel)) rfl, tb_in (List.mem_of_getElem? (i := 524) (by decide +kernel)) rfl, by decide⟩
theorem mv_X8_placeCells : MV RX8 yX8_placeCells cX8_placeCells 4 none 0 := ⟨⟨rfl, by decide, by decide, by decide +kernel⟩, tb_in (List.mem_of_getElem? (i := 87) (by decide +kernel)) rfl, tb_in (List.mem_of_getElem? (i := 88) (by decide +kernel)) rfl, tb_in (List.mem_of_getElem? (i := 51) (by decide +kernel)) rfl, tb_in (List.mem_of_getElem? (i := 89) (by decide +kernel)) rfl, by decide⟩
theorem mv_X8_refreshNear : MV RX8 yX8_refreshNear cX8_refreshNear 5 none 0 := ⟨⟨rfl, by decide, by decide, by decide +kernel⟩, tb_in (List.mem_of_getElem? (i := 91) (by decide +kernel)) rfl, tb_in (List.mem_of_getElem? (i := 92) (by decide +kernel)) rfl, tb_in (List.mem_of_getElem? (i := 51) (by decide +kernel)) rfl, tb_in (List.mem_of_getElem? (i := 93) (by decide +kernel)) rfl, by decide⟩
theorem mv_X8_refreshOpen : MV RX8 yX8_refreshOpen cX8_refreshOpen 5 none 0 := ⟨⟨rfl, by decide, by decide, by decide +kernel⟩, tb_in (List.mem_of_getElem? (i := 110) (by decide +kernel)) rfl, tb_in (List.mem_of_getElem? (i := 111) (by decide +kernel)) rfl, tb_in (List.mem_of_getElem? (i := 51) (by decide +kernel)) rfl, tb_in (List.mem_of_getElem? (i := 112) (by decide +kernel)) rfl, by decide⟩
theorem mv_X8_stepFrom : MV RX8 yX8_stepFrom cX8_stepFrom 3 (some .int) 2 := ⟨⟨rfl, by decide, by decide, by decide +kernel⟩, tb_in (List.mem_of_getElem? (i := 675) (by decide +kernel)) rfl, tb_in (List.mem_of_getElem? (i := 676) (by decide +kernel)) rfl, tb_in (List.mem_of_getElem? (i := 51) (by decide +kernel)) rfl, tb_in (List.mem_of_getElem? (i := 677) (by decide +kernel)) rfl, by decide⟩
theorem mv_X8_stepsDown : MV RX8 yX8_stepsDown cX8_stepsDown 4 (some .int) 2 := ⟨⟨rfl, by decide, by decide, by decide +kernel⟩, tb_in (List.mem_of_getElem? (i := 554) (by decide +kernel)) rfl, tb_in (List.mem_of_getElem? (i := 555) (by decide +kernel)) rfl, tb_in (List.mem_of_getElem? (i := 51) (by decide +kernel)) rfl, tb_in (List.mem_of_getElem? (i := 556) (by decide +kernel)) rfl, by decide⟩
theorem mv_X9_begin : MV RX9 yX9_begin cX9_begin 3 none 2 := ⟨⟨rfl, by decide, by decide, by decide +kernel⟩, tb_in (List.mem_of_getElem? (i := 667) (by decide +kernel)) rfl, tb_in (List.mem_of_getElem? (i := 668) (by decide +kernel)) rfl, tb_in (List.mem_of_getElem? (i := 55) (by decide +kernel)) rfl, tb_in (List.mem_of_getElem? (i := 669) (by decide +kernel)) rfl, by decide⟩
theorem mv_X9_cellAt : MV RX9 yX9_cellAt cX9_cellAt 3 (some .int) 1 := ⟨⟨rfl, by decide, by decide, by decide +kernel⟩, tb_in (List.mem_of_getElem? (i := 633) (by decide +kernel)) rfl, tb_in (List.mem_of_getElem? (i := 634) (by decide +kernel)) rfl, tb_in (List.mem_of_getElem? (i := 55) (by decide +kernel)) rfl, tb_in (List.mem_of_getElem? (i := 635) (by decide +kernel)) rfl, by decide⟩
theorem mv_X9_goOn : MV RX9 yX9_goOn cX9_goOn 4 none 2 := ⟨⟨rfl, by decide, by decide, by decide +kernel⟩, tb_in (List.mem_of_getElem? (i := 683) (by decide +kernel)) rfl, tb_in (List.mem_of_getElem? (i := 684) (by decide +kernel)) rfl, tb_in (List.mem_of_getElem? (i := 55) (by decide +kernel)) rfl, tb_in (List.mem_of_getElem? (i := 685) (by decide +kernel)) rfl, by decide⟩
theorem mv_X9_length : MV RX9 yX9_length cX9_length 1 (some .int) 0 := ⟨⟨rfl, by decide, by decide, by decide +kernel⟩, tb_in (List.mem_of_getElem? (i := 687) (by decide +kernel)) rfl, tb_in (List.mem_of_getElem? (i := 688) (by decide +kernel)) rfl, tb_in (List.mem_of_getElem? (i := 55) (by decide +kernel)) rfl, tb_in (List.mem_of_getElem? (i := 689) (by decide +kernel)) rfl, by decide⟩
theorem mv_X9_stepAt : MV RX9 yX9_stepAt cX9_stepAt 3 (some .int) 1 := ⟨⟨rfl, by decide, by decide, by decide +kernel⟩, tb_in (List.mem_of_getElem? (i := 639) (by decide +kernel)) rfl, tb_in (List.mem_of_getElem? (i := 640) (by decide +kernel)) rfl, tb_in (List.mem_of_getElem? (i := 55) (by decide +kernel)) rfl, tb_in (List.mem_of_getElem? (i := 641) (by decide +kernel)) rfl, by decide⟩
theorem mv_X9_tell : MV RX9 yX9_tell cX9_tell 3 (some .int) 2 := ⟨⟨rfl, by decide, by decide, by decide +kernel⟩, tb_in (List.mem_of_getElem? (i := 700) (by decide +kernel)) rfl, tb_in (List.mem_of_getElem? (i := 701) (by decide +kernel)) rfl, tb_in (List.mem_of_getElem? (i := 55) (by decide +kernel)) rfl, tb_in (List.mem_of_getElem? (i := 702) (by decide +kernel)) rfl, by decide⟩
theorem lk_RX10_9 : Cond.methodLink RX10 9 yX8_init ∈ tb := tb_in (List.mem_of_getElem? (i := 75) (by decide +kernel)) rfl
theorem lk_RX10_18 : Cond.methodLink RX10 18 yX2_init ∈ tb := tb_in (List.mem_of_getElem? (i := 192) (by decide +kernel)) rfl
theorem lk_RX10_25 : Cond.methodLink RX10 25 yX5_init ∈ tb := tb_in (List.mem_of_getElem? (i := 311) (by decide +kernel)) rfl
theorem lk_RX10_34 : Cond.methodLink RX10 34 yX6_init ∈ tb := tb_in (List.mem_of_getElem? (i := 327) (by decide +kernel)) rfl
theorem lk_RX10_41 : Cond.methodLink RX10 41 yX3_init ∈ tb := tb_in (List.mem_of_getElem? (i := 358) (by decide +kernel)) rfl
theorem lk_RX10_50 : Cond.methodLink RX10 50 yX1_init ∈ tb := tb_in (List.mem_of_getElem? (i := 391) (by decide +kernel)) rfl
theorem lk_RX10_59 : Cond.methodLink RX10 59 yX4_init ∈ tb := tb_in (List.mem_of_getElem? (i := 414) (by decide +kernel)) rfl
theorem lk_RX10_66 : Cond.methodLink RX10 66 yX7_init ∈ tb := tb_in (List.mem_of_getElem? (i := 443) (by decide +kernel)) rfl
theorem lk_RX10_71 : Cond.methodLink RX10 71 yX10_isWithin ∈ tb := tb_in (List.mem_of_getElem? (i := 120) (by decide +kernel)) rfl
theorem lk_RX10_76 : Cond.methodLink RX10 76 yX8_lay ∈ tb := tb_in (List.mem_of_getElem? (i := 501) (by decide +kernel)) rfl
theorem lk_RX10_84 : Cond.methodLink RX10 84 yX5_silence ∈ tb := tb_in (List.mem_of_getElem? (i := 502) (by decide +kernel)) rfl
theorem lk_RX10_97 : Cond.methodLink RX10 97 yX10_refuseSpan ∈ tb := tb_in (List.mem_of_getElem? (i := 510) (by decide +kernel)) rfl
theorem lk_RX10_101 : Cond.methodLink RX10 101 yX8_addShut ∈ tb := tb_in (List.mem_of_getElem? (i := 518) (by decide +kernel)) rfl
theorem lk_RX10_108 : Cond.methodLink RX10 108 yX8_addFolk ∈ tb := tb_in (List.mem_of_getElem? (i := 529) (by decide +kernel)) rfl
theorem lk_RX10_111 : Cond.methodLink RX10 111 yX8_changeGlide ∈ tb := tb_in (List.mem_of_getElem? (i := 537) (by decide +kernel)) rfl
theorem lk_RX10_115 : Cond.methodLink RX10 115 yX8_changeNear ∈ tb := tb_in (List.mem_of_getElem? (i := 541) (by decide +kernel)) rfl
theorem lk_RX10_118 : Cond.methodLink RX10 118 yX10_refuseCellAt ∈ tb := tb_in (List.mem_of_getElem? (i := 549) (by decide +kernel)) rfl
theorem lk_RX10_122 : Cond.methodLink RX10 122 yX8_stepsDown ∈ tb := tb_in (List.mem_of_getElem? (i := 553) (by decide +kernel)) rfl
theorem lk_RX10_129 : Cond.methodLink RX10 129 yX10_holds ∈ tb := tb_in (List.mem_of_getElem? (i := 565) (by decide +kernel)) rfl
theorem lk_RX10_133 : Cond.methodLink RX10 133 yX10_oneIf ∈ tb := tb_in (List.mem_of_getElem? (i := 566) (by decide +kernel)) rfl
theorem lk_RX10_137 : Cond.methodLink RX10 137 yX8_hasCell ∈ tb := tb_in (List.mem_of_getElem? (i := 514) (by decide +kernel)) rfl
theorem lk_RX10_142 : Cond.methodLink RX10 142 yX10_isMinute ∈ tb := tb_in (List.mem_of_getElem? (i := 516) (by decide +kernel)) rfl
theorem lk_RX10_146 : Cond.methodLink RX10 146 yX2_isFull ∈ tb := tb_in (List.mem_of_getElem? (i := 574) (by decide +kernel)) rfl
theorem lk_RX10_151 : Cond.methodLink RX10 151 yX2_add ∈ tb := tb_in (List.mem_of_getElem? (i := 578) (by decide +kernel)) rfl
theorem lk_RX10_155 : Cond.methodLink RX10 155 yX0_between ∈ tb := tb_in (List.mem_of_getElem? (i := 583) (by decide +kernel)) rfl
theorem lk_RX10_160 : Cond.methodLink RX10 160 yX0_within ∈ tb := tb_in (List.mem_of_getElem? (i := 587) (by decide +kernel)) rfl
theorem lk_RX10_163 : Cond.methodLink RX10 163 yX0_like ∈ tb := tb_in (List.mem_of_getElem? (i := 591) (by decide +kernel)) rfl
theorem lk_RX10_167 : Cond.methodLink RX10 167 yX2_has ∈ tb := tb_in (List.mem_of_getElem? (i := 599) (by decide +kernel)) rfl
theorem lk_RX10_198 : Cond.methodLink RX10 198 yX10_refuseGiven ∈ tb := tb_in (List.mem_of_getElem? (i := 607) (by decide +kernel)) rfl
theorem lk_RX10_201 : Cond.methodLink RX10 201 yX10_endOfSoonest ∈ tb := tb_in (List.mem_of_getElem? (i := 611) (by decide +kernel)) rfl
theorem lk_RX10_205 : Cond.methodLink RX10 205 yX10_refuseTelling ∈ tb := tb_in (List.mem_of_getElem? (i := 695) (by decide +kernel)) rfl
theorem lk_RX10_208 : Cond.methodLink RX10 208 yX6_findSoonest ∈ tb := tb_in (List.mem_of_getElem? (i := 615) (by decide +kernel)) rfl
theorem lk_RX10_216 : Cond.methodLink RX10 216 yX9_tell ∈ tb := tb_in (List.mem_of_getElem? (i := 699) (by decide +kernel)) rfl
theorem lk_RX10_222 : Cond.methodLink RX10 222 yX10_giveIf ∈ tb := tb_in (List.mem_of_getElem? (i := 708) (by decide +kernel)) rfl
theorem lk_RX10_226 : Cond.methodLink RX10 226 yX3_findQuietest ∈ tb := tb_in (List.mem_of_getElem? (i := 715) (by decide +kernel)) rfl
theorem lk_RX10_229 : Cond.methodLink RX10 229 yX10_refuseNotGiven ∈ tb := tb_in (List.mem_of_getElem? (i := 764) (by decide +kernel)) rfl
theorem lk_RX10_235 : Cond.methodLink RX10 235 yX9_cellAt ∈ tb := tb_in (List.mem_of_getElem? (i := 772) (by decide +kernel)) rfl
theorem lk_RX10_238 : Cond.methodLink RX10 238 yX6_wouldMeet ∈ tb := tb_in (List.mem_of_getElem? (i := 777) (by decide +kernel)) rfl
theorem lk_RX10_242 : Cond.methodLink RX10 242 yX1_find ∈ tb := tb_in (List.mem_of_getElem? (i := 786) (by decide +kernel)) rfl
theorem lk_RX10_246 : Cond.methodLink RX10 246 yX1_number ∈ tb := tb_in (List.mem_of_getElem? (i := 825) (by decide +kernel)) rfl
theorem lk_RX10_249 : Cond.methodLink RX10 249 yX10_refuseSet ∈ tb := tb_in (List.mem_of_getElem? (i := 834) (by decide +kernel)) rfl
theorem lk_RX10_252 : Cond.methodLink RX10 252 yX4_findBest ∈ tb := tb_in (List.mem_of_getElem? (i := 840) (by decide +kernel)) rfl
theorem lk_RX10_259 : Cond.methodLink RX10 259 yX4_number ∈ tb := tb_in (List.mem_of_getElem? (i := 867) (by decide +kernel)) rfl
theorem lk_RX10_260 : Cond.methodLink RX10 260 yX4_carryOut ∈ tb := tb_in (List.mem_of_getElem? (i := 876) (by decide +kernel)) rfl
theorem lk_RX10_264 : Cond.methodLink RX10 264 yX7_see ∈ tb := tb_in (List.mem_of_getElem? (i := 884) (by decide +kernel)) rfl
theorem lk_RX10_267 : Cond.methodLink RX10 267 yX7_spread ∈ tb := tb_in (List.mem_of_getElem? (i := 892) (by decide +kernel)) rfl
theorem lk_RX10_273 : Cond.methodLink RX10 273 yJ13_bitCount_95d88 ∈ tb := tb_in (List.mem_of_getElem? (i := 902) (by decide +kernel)) rfl
theorem lk_RX10_279 : Cond.methodLink RX10 279 yX7_countTouched ∈ tb := tb_in (List.mem_of_getElem? (i := 916) (by decide +kernel)) rfl
theorem lk_RX10_282 : Cond.methodLink RX10 282 yX7_touched ∈ tb := tb_in (List.mem_of_getElem? (i := 936) (by decide +kernel)) rfl
theorem lk_RX10_285 : Cond.methodLink RX10 285 yX7_firstTouch ∈ tb := tb_in (List.mem_of_getElem? (i := 944) (by decide +kernel)) rfl
theorem lk_RX10_289 : Cond.methodLink RX10 289 yX5_listen ∈ tb := tb_in (List.mem_of_getElem? (i := 949) (by decide +kernel)) rfl
theorem lk_RX10_292 : Cond.methodLink RX10 292 yX5_heardIn ∈ tb := tb_in (List.mem_of_getElem? (i := 957) (by decide +kernel)) rfl
theorem lk_RX10_295 : Cond.methodLink RX10 295 yX5_loudestCell ∈ tb := tb_in (List.mem_of_getElem? (i := 970) (by decide +kernel)) rfl
theorem lk_RX10_298 : Cond.methodLink RX10 298 yX3_growth ∈ tb := tb_in (List.mem_of_getElem? (i := 979) (by decide +kernel)) rfl
theorem lk_RX10_301 : Cond.methodLink RX10 301 yX2_countGiven ∈ tb := tb_in (List.mem_of_getElem? (i := 995) (by decide +kernel)) rfl
theorem lk_RX10_304 : Cond.methodLink RX10 304 yX2_minutesGiven ∈ tb := tb_in (List.mem_of_getElem? (i := 1001) (by decide +kernel)) rfl
theorem lk_RX10_307 : Cond.methodLink RX10 307 yJ6_bitCount_0f7a4 ∈ tb := tb_in (List.mem_of_getElem? (i := 838) (by decide +kernel)) rfl
theorem lk_RX10_311 : Cond.methodLink RX10 311 yX2_givenOnes ∈ tb := tb_in (List.mem_of_getElem? (i := 839) (by decide +kernel)) rfl
theorem lk_RX1_31 : Cond.methodLink RX1 31 yX2_givenOnes ∈ tb := tb_in (List.mem_of_getElem? (i := 790) (by decide +kernel)) rfl
theorem lk_RX1_37 : Cond.methodLink RX1 37 yX6_hasWayWithout ∈ tb := tb_in (List.mem_of_getElem? (i := 794) (by decide +kernel)) rfl
theorem lk_RX1_43 : Cond.methodLink RX1 43 yX1_listGiven ∈ tb := tb_in (List.mem_of_getElem? (i := 798) (by decide +kernel)) rfl
theorem lk_RX1_47 : Cond.methodLink RX1 47 yX1_firstOfSize ∈ tb := tb_in (List.mem_of_getElem? (i := 803) (by decide +kernel)) rfl
theorem lk_RX1_51 : Cond.methodLink RX1 51 yX1_keep ∈ tb := tb_in (List.mem_of_getElem? (i := 817) (by decide +kernel)) rfl
theorem lk_RX1_59 : Cond.methodLink RX1 59 yJ6_bitCount_0f7a4 ∈ tb := tb_in (List.mem_of_getElem? (i := 807) (by decide +kernel)) rfl
theorem lk_RX1_64 : Cond.methodLink RX1 64 yX1_decoded ∈ tb := tb_in (List.mem_of_getElem? (i := 813) (by decide +kernel)) rfl
theorem lk_RX2_22 : Cond.methodLink RX2 22 yJ9_min_7cf53 ∈ tb := tb_in (List.mem_of_getElem? (i := 582) (by decide +kernel)) rfl
theorem lk_RX2_32 : Cond.methodLink RX2 32 yX2_givenOnes ∈ tb := tb_in (List.mem_of_getElem? (i := 999) (by decide +kernel)) rfl
theorem lk_RX2_36 : Cond.methodLink RX2 36 yJ6_bitCount_0f7a4 ∈ tb := tb_in (List.mem_of_getElem? (i := 1000) (by decide +kernel)) rfl
theorem lk_RX2_46 : Cond.methodLink RX2 46 yX9_length ∈ tb := tb_in (List.mem_of_getElem? (i := 1005) (by decide +kernel)) rfl
theorem lk_RX3_41 : Cond.methodLink RX3 41 yX6_clearFor ∈ tb := tb_in (List.mem_of_getElem? (i := 719) (by decide +kernel)) rfl
theorem lk_RX3_52 : Cond.methodLink RX3 52 yX5_heardFrom ∈ tb := tb_in (List.mem_of_getElem? (i := 720) (by decide +kernel)) rfl
theorem lk_RX3_65 : Cond.methodLink RX3 65 yX3_lookBack ∈ tb := tb_in (List.mem_of_getElem? (i := 730) (by decide +kernel)) rfl
theorem lk_RX3_68 : Cond.methodLink RX3 68 yX3_follow ∈ tb := tb_in (List.mem_of_getElem? (i := 750) (by decide +kernel)) rfl
theorem lk_RX3_75 : Cond.methodLink RX3 75 yX3_beginAt ∈ tb := tb_in (List.mem_of_getElem? (i := 734) (by decide +kernel)) rfl
theorem lk_RX3_82 : Cond.methodLink RX3 82 yJ9_max_7cf53 ∈ tb := tb_in (List.mem_of_getElem? (i := 739) (by decide +kernel)) rfl
theorem lk_RX3_88 : Cond.methodLink RX3 88 yX3_stepBack ∈ tb := tb_in (List.mem_of_getElem? (i := 740) (by decide +kernel)) rfl
theorem lk_RX3_109 : Cond.methodLink RX3 109 yX3_leastNext ∈ tb := tb_in (List.mem_of_getElem? (i := 744) (by decide +kernel)) rfl
theorem lk_RX3_113 : Cond.methodLink RX3 113 yX8_stepFrom ∈ tb := tb_in (List.mem_of_getElem? (i := 748) (by decide +kernel)) rfl
theorem lk_RX3_116 : Cond.methodLink RX3 116 yX6_isAllowed ∈ tb := tb_in (List.mem_of_getElem? (i := 749) (by decide +kernel)) rfl
theorem lk_RX3_123 : Cond.methodLink RX3 123 yX9_begin ∈ tb := tb_in (List.mem_of_getElem? (i := 754) (by decide +kernel)) rfl
theorem lk_RX3_129 : Cond.methodLink RX3 129 yX3_firstStep ∈ tb := tb_in (List.mem_of_getElem? (i := 755) (by decide +kernel)) rfl
theorem lk_RX3_132 : Cond.methodLink RX3 132 yX9_goOn ∈ tb := tb_in (List.mem_of_getElem? (i := 759) (by decide +kernel)) rfl
theorem lk_RX4_34 : Cond.methodLink RX4 34 yJ6_bitCount_0f7a4 ∈ tb := tb_in (List.mem_of_getElem? (i := 844) (by decide +kernel)) rfl
theorem lk_RX4_51 : Cond.methodLink RX4 51 yX4_giveNext ∈ tb := tb_in (List.mem_of_getElem? (i := 847) (by decide +kernel)) rfl
theorem lk_RX4_64 : Cond.methodLink RX4 64 yX4_tryFrom ∈ tb := tb_in (List.mem_of_getElem? (i := 852) (by decide +kernel)) rfl
theorem lk_RX4_68 : Cond.methodLink RX4 68 yX4_leastCost ∈ tb := tb_in (List.mem_of_getElem? (i := 855) (by decide +kernel)) rfl
theorem lk_RX4_72 : Cond.methodLink RX4 72 yX4_keep ∈ tb := tb_in (List.mem_of_getElem? (i := 859) (by decide +kernel)) rfl
theorem lk_RX4_76 : Cond.methodLink RX4 76 yX6_findSoonest ∈ tb := tb_in (List.mem_of_getElem? (i := 851) (by decide +kernel)) rfl
theorem lk_RX5_23 : Cond.methodLink RX5 23 yX8_apart ∈ tb := tb_in (List.mem_of_getElem? (i := 728) (by decide +kernel)) rfl
theorem lk_RX5_39 : Cond.methodLink RX5 39 yX5_sound ∈ tb := tb_in (List.mem_of_getElem? (i := 724) (by decide +kernel)) rfl
theorem lk_RX5_61 : Cond.methodLink RX5 61 yX5_soundOf ∈ tb := tb_in (List.mem_of_getElem? (i := 961) (by decide +kernel)) rfl
theorem lk_RX5_76 : Cond.methodLink RX5 76 yX9_cellAt ∈ tb := tb_in (List.mem_of_getElem? (i := 965) (by decide +kernel)) rfl
theorem lk_RX5_80 : Cond.methodLink RX5 80 yX5_heardIn ∈ tb := tb_in (List.mem_of_getElem? (i := 974) (by decide +kernel)) rfl
theorem lk_RX6_37 : Cond.methodLink RX6 37 yJ9_min_7cf53 ∈ tb := tb_in (List.mem_of_getElem? (i := 631) (by decide +kernel)) rfl
theorem lk_RX6_46 : Cond.methodLink RX6 46 yJ9_max_7cf53 ∈ tb := tb_in (List.mem_of_getElem? (i := 623) (by decide +kernel)) rfl
theorem lk_RX6_49 : Cond.methodLink RX6 49 yX9_cellAt ∈ tb := tb_in (List.mem_of_getElem? (i := 632) (by decide +kernel)) rfl
theorem lk_RX6_53 : Cond.methodLink RX6 53 yX8_apart ∈ tb := tb_in (List.mem_of_getElem? (i := 781) (by decide +kernel)) rfl
theorem lk_RX6_90 : Cond.methodLink RX6 90 yX6_keepApart ∈ tb := tb_in (List.mem_of_getElem? (i := 627) (by decide +kernel)) rfl
theorem lk_RX6_94 : Cond.methodLink RX6 94 yX8_hasCell ∈ tb := tb_in (List.mem_of_getElem? (i := 636) (by decide +kernel)) rfl
theorem lk_RX6_103 : Cond.methodLink RX6 103 yX9_stepAt ∈ tb := tb_in (List.mem_of_getElem? (i := 638) (by decide +kernel)) rfl
theorem lk_RX6_106 : Cond.methodLink RX6 106 yX6_against ∈ tb := tb_in (List.mem_of_getElem? (i := 642) (by decide +kernel)) rfl
theorem lk_RX6_119 : Cond.methodLink RX6 119 yX6_clearFor ∈ tb := tb_in (List.mem_of_getElem? (i := 619) (by decide +kernel)) rfl
theorem lk_RX6_123 : Cond.methodLink RX6 123 yX6_findEnd ∈ tb := tb_in (List.mem_of_getElem? (i := 645) (by decide +kernel)) rfl
theorem lk_RX6_127 : Cond.methodLink RX6 127 yX6_follow ∈ tb := tb_in (List.mem_of_getElem? (i := 662) (by decide +kernel)) rfl
theorem lk_RX6_131 : Cond.methodLink RX6 131 yX6_ahead ∈ tb := tb_in (List.mem_of_getElem? (i := 649) (by decide +kernel)) rfl
theorem lk_RX6_142 : Cond.methodLink RX6 142 yX6_findStart ∈ tb := tb_in (List.mem_of_getElem? (i := 654) (by decide +kernel)) rfl
theorem lk_RX6_152 : Cond.methodLink RX6 152 yX6_behind ∈ tb := tb_in (List.mem_of_getElem? (i := 658) (by decide +kernel)) rfl
theorem lk_RX6_157 : Cond.methodLink RX6 157 yX9_begin ∈ tb := tb_in (List.mem_of_getElem? (i := 666) (by decide +kernel)) rfl
theorem lk_RX6_161 : Cond.methodLink RX6 161 yX6_firstStep ∈ tb := tb_in (List.mem_of_getElem? (i := 670) (by decide +kernel)) rfl
theorem lk_RX6_164 : Cond.methodLink RX6 164 yX8_stepFrom ∈ tb := tb_in (List.mem_of_getElem? (i := 674) (by decide +kernel)) rfl
theorem lk_RX6_167 : Cond.methodLink RX6 167 yX9_goOn ∈ tb := tb_in (List.mem_of_getElem? (i := 682) (by decide +kernel)) rfl
theorem lk_RX6_170 : Cond.methodLink RX6 170 yX6_isAllowed ∈ tb := tb_in (List.mem_of_getElem? (i := 678) (by decide +kernel)) rfl
theorem lk_RX7_37 : Cond.methodLink RX7 37 yX7_spreadInto ∈ tb := tb_in (List.mem_of_getElem? (i := 896) (by decide +kernel)) rfl
theorem lk_RX7_41 : Cond.methodLink RX7 41 yX8_besideOf ∈ tb := tb_in (List.mem_of_getElem? (i := 900) (by decide +kernel)) rfl
theorem lk_RX7_57 : Cond.methodLink RX7 57 yJ9_max_7cf53 ∈ tb := tb_in (List.mem_of_getElem? (i := 928) (by decide +kernel)) rfl
theorem lk_RX7_66 : Cond.methodLink RX7 66 yX9_cellAt ∈ tb := tb_in (List.mem_of_getElem? (i := 929) (by decide +kernel)) rfl
theorem lk_RX7_90 : Cond.methodLink RX7 90 yX7_firstTouch ∈ tb := tb_in (List.mem_of_getElem? (i := 924) (by decide +kernel)) rfl
theorem lk_RX7_97 : Cond.methodLink RX7 97 yX7_touches ∈ tb := tb_in (List.mem_of_getElem? (i := 920) (by decide +kernel)) rfl
theorem lk_RX8_38 : Cond.methodLink RX8 38 yX8_lay ∈ tb := tb_in (List.mem_of_getElem? (i := 79) (by decide +kernel)) rfl
theorem lk_RX8_45 : Cond.methodLink RX8 45 yJ9_min_7cf53 ∈ tb := tb_in (List.mem_of_getElem? (i := 83) (by decide +kernel)) rfl
theorem lk_RX8_58 : Cond.methodLink RX8 58 yX8_placeCells ∈ tb := tb_in (List.mem_of_getElem? (i := 86) (by decide +kernel)) rfl
theorem lk_RX8_67 : Cond.methodLink RX8 67 yX8_refreshNear ∈ tb := tb_in (List.mem_of_getElem? (i := 90) (by decide +kernel)) rfl
theorem lk_RX8_70 : Cond.methodLink RX8 70 yX8_refreshOpen ∈ tb := tb_in (List.mem_of_getElem? (i := 109) (by decide +kernel)) rfl
theorem lk_RX8_79 : Cond.methodLink RX8 79 yX8_mark ∈ tb := tb_in (List.mem_of_getElem? (i := 522) (by decide +kernel)) rfl
theorem lk_RX8_83 : Cond.methodLink RX8 83 yJ9_max_7cf53 ∈ tb := tb_in (List.mem_of_getElem? (i := 106) (by decide +kernel)) rfl
theorem lk_RX8_86 : Cond.methodLink RX8 86 yX8_apart ∈ tb := tb_in (List.mem_of_getElem? (i := 94) (by decide +kernel)) rfl
theorem lk_RX8_89 : Cond.methodLink RX8 89 yX8_downBy ∈ tb := tb_in (List.mem_of_getElem? (i := 113) (by decide +kernel)) rfl
theorem lk_RX8_99 : Cond.methodLink RX8 99 yX8_besideOf ∈ tb := tb_in (List.mem_of_getElem? (i := 124) (by decide +kernel)) rfl
theorem lk_RX8_108 : Cond.methodLink RX8 108 yX8_hasCell ∈ tb := tb_in (List.mem_of_getElem? (i := 98) (by decide +kernel)) rfl
theorem lk_RX8_112 : Cond.methodLink RX8 112 yJ9_abs_0f7a4 ∈ tb := tb_in (List.mem_of_getElem? (i := 103) (by decide +kernel)) rfl
theorem lk_RX9_25 : Cond.methodLink RX9 25 yX9_length ∈ tb := tb_in (List.mem_of_getElem? (i := 686) (by decide +kernel)) rfl
theorem lk_RL_9 : Cond.methodLink RL 9 yX10_init ∈ tb := tb_in (List.mem_of_getElem? (i := 67) (by decide +kernel)) rfl
theorem lk_RL_12 : Cond.methodLink RL 12 yX11_init ∈ tb := tb_in (List.mem_of_getElem? (i := 1008) (by decide +kernel)) rfl
theorem lk_RL_13 : Cond.methodLink RL 13 yX10_air ∈ tb := tb_in (List.mem_of_getElem? (i := 496) (by decide +kernel)) rfl
theorem lk_RL_17 : Cond.methodLink RL 17 yX11_air ∈ tb := tb_in (List.mem_of_getElem? (i := 1115) (by decide +kernel)) rfl
theorem lk_RL_18 : Cond.methodLink RL 18 yX10_shut ∈ tb := tb_in (List.mem_of_getElem? (i := 506) (by decide +kernel)) rfl
theorem lk_RL_22 : Cond.methodLink RL 22 yX11_shut ∈ tb := tb_in (List.mem_of_getElem? (i := 1125) (by decide +kernel)) rfl
theorem lk_RL_23 : Cond.methodLink RL 23 yX10_folk ∈ tb := tb_in (List.mem_of_getElem? (i := 525) (by decide +kernel)) rfl
theorem lk_RL_26 : Cond.methodLink RL 26 yX11_folk ∈ tb := tb_in (List.mem_of_getElem? (i := 1143) (by decide +kernel)) rfl
theorem lk_RL_27 : Cond.methodLink RL 27 yX10_rule ∈ tb := tb_in (List.mem_of_getElem? (i := 533) (by decide +kernel)) rfl
theorem lk_RL_30 : Cond.methodLink RL 30 yX11_rule ∈ tb := tb_in (List.mem_of_getElem? (i := 1147) (by decide +kernel)) rfl
theorem lk_RL_31 : Cond.methodLink RL 31 yX10_down ∈ tb := tb_in (List.mem_of_getElem? (i := 545) (by decide +kernel)) rfl
theorem lk_RL_34 : Cond.methodLink RL 34 yX11_down ∈ tb := tb_in (List.mem_of_getElem? (i := 1153) (by decide +kernel)) rfl
theorem lk_RL_35 : Cond.methodLink RL 35 yX10_open ∈ tb := tb_in (List.mem_of_getElem? (i := 561) (by decide +kernel)) rfl
theorem lk_RL_38 : Cond.methodLink RL 38 yX11_open ∈ tb := tb_in (List.mem_of_getElem? (i := 1176) (by decide +kernel)) rfl
theorem lk_RL_39 : Cond.methodLink RL 39 yX10_ask ∈ tb := tb_in (List.mem_of_getElem? (i := 569) (by decide +kernel)) rfl
theorem lk_RL_43 : Cond.methodLink RL 43 yX11_ask ∈ tb := tb_in (List.mem_of_getElem? (i := 1188) (by decide +kernel)) rfl
theorem lk_RL_44 : Cond.methodLink RL 44 yX10_about ∈ tb := tb_in (List.mem_of_getElem? (i := 595) (by decide +kernel)) rfl
theorem lk_RL_47 : Cond.methodLink RL 47 yX11_about ∈ tb := tb_in (List.mem_of_getElem? (i := 1195) (by decide +kernel)) rfl
theorem lk_RL_48 : Cond.methodLink RL 48 yX10_soonest ∈ tb := tb_in (List.mem_of_getElem? (i := 603) (by decide +kernel)) rfl
theorem lk_RL_52 : Cond.methodLink RL 52 yX11_soonest ∈ tb := tb_in (List.mem_of_getElem? (i := 1203) (by decide +kernel)) rfl
theorem lk_RL_53 : Cond.methodLink RL 53 yX10_soonestAt ∈ tb := tb_in (List.mem_of_getElem? (i := 691) (by decide +kernel)) rfl
theorem lk_RL_56 : Cond.methodLink RL 56 yX11_soonestAt ∈ tb := tb_in (List.mem_of_getElem? (i := 1268) (by decide +kernel)) rfl
theorem lk_RL_57 : Cond.methodLink RL 57 yX10_give ∈ tb := tb_in (List.mem_of_getElem? (i := 704) (by decide +kernel)) rfl
theorem lk_RL_60 : Cond.methodLink RL 60 yX11_give ∈ tb := tb_in (List.mem_of_getElem? (i := 1276) (by decide +kernel)) rfl
theorem lk_RL_61 : Cond.methodLink RL 61 yX10_giveQuiet ∈ tb := tb_in (List.mem_of_getElem? (i := 711) (by decide +kernel)) rfl
theorem lk_RL_64 : Cond.methodLink RL 64 yX11_giveQuiet ∈ tb := tb_in (List.mem_of_getElem? (i := 1434) (by decide +kernel)) rfl
theorem lk_RL_65 : Cond.methodLink RL 65 yX10_take ∈ tb := tb_in (List.mem_of_getElem? (i := 760) (by decide +kernel)) rfl
theorem lk_RL_68 : Cond.methodLink RL 68 yX11_take ∈ tb := tb_in (List.mem_of_getElem? (i := 1284) (by decide +kernel)) rfl
theorem lk_RL_69 : Cond.methodLink RL 69 yX10_where ∈ tb := tb_in (List.mem_of_getElem? (i := 768) (by decide +kernel)) rfl
theorem lk_RL_72 : Cond.methodLink RL 72 yX11_where ∈ tb := tb_in (List.mem_of_getElem? (i := 1288) (by decide +kernel)) rfl
theorem lk_RL_73 : Cond.methodLink RL 73 yX10_meet ∈ tb := tb_in (List.mem_of_getElem? (i := 773) (by decide +kernel)) rfl
theorem lk_RL_76 : Cond.methodLink RL 76 yX11_meet ∈ tb := tb_in (List.mem_of_getElem? (i := 1296) (by decide +kernel)) rfl
theorem lk_RL_77 : Cond.methodLink RL 77 yX10_bars ∈ tb := tb_in (List.mem_of_getElem? (i := 782) (by decide +kernel)) rfl
theorem lk_RL_80 : Cond.methodLink RL 80 yX11_bars ∈ tb := tb_in (List.mem_of_getElem? (i := 1300) (by decide +kernel)) rfl
theorem lk_RL_81 : Cond.methodLink RL 81 yX10_bar ∈ tb := tb_in (List.mem_of_getElem? (i := 821) (by decide +kernel)) rfl
theorem lk_RL_84 : Cond.methodLink RL 84 yX11_bar ∈ tb := tb_in (List.mem_of_getElem? (i := 1318) (by decide +kernel)) rfl
theorem lk_RL_85 : Cond.methodLink RL 85 yX10_atOnce ∈ tb := tb_in (List.mem_of_getElem? (i := 830) (by decide +kernel)) rfl
theorem lk_RL_88 : Cond.methodLink RL 88 yX11_atOnce ∈ tb := tb_in (List.mem_of_getElem? (i := 1325) (by decide +kernel)) rfl
theorem lk_RL_89 : Cond.methodLink RL 89 yX10_order ∈ tb := tb_in (List.mem_of_getElem? (i := 863) (by decide +kernel)) rfl
theorem lk_RL_92 : Cond.methodLink RL 92 yX11_order ∈ tb := tb_in (List.mem_of_getElem? (i := 1349) (by decide +kernel)) rfl
theorem lk_RL_93 : Cond.methodLink RL 93 yX10_giveAll ∈ tb := tb_in (List.mem_of_getElem? (i := 872) (by decide +kernel)) rfl
theorem lk_RL_96 : Cond.methodLink RL 96 yX11_giveAll ∈ tb := tb_in (List.mem_of_getElem? (i := 1353) (by decide +kernel)) rfl
theorem lk_RL_97 : Cond.methodLink RL 97 yX10_silent ∈ tb := tb_in (List.mem_of_getElem? (i := 880) (by decide +kernel)) rfl
theorem lk_RL_100 : Cond.methodLink RL 100 yX11_silent ∈ tb := tb_in (List.mem_of_getElem? (i := 1357) (by decide +kernel)) rfl
theorem lk_RL_101 : Cond.methodLink RL 101 yX10_could ∈ tb := tb_in (List.mem_of_getElem? (i := 888) (by decide +kernel)) rfl
theorem lk_RL_104 : Cond.methodLink RL 104 yX11_could ∈ tb := tb_in (List.mem_of_getElem? (i := 1361) (by decide +kernel)) rfl
theorem lk_RL_105 : Cond.methodLink RL 105 yX10_couldBe ∈ tb := tb_in (List.mem_of_getElem? (i := 908) (by decide +kernel)) rfl
theorem lk_RL_108 : Cond.methodLink RL 108 yX11_couldBe ∈ tb := tb_in (List.mem_of_getElem? (i := 1377) (by decide +kernel)) rfl
theorem lk_RL_109 : Cond.methodLink RL 109 yX10_ledOff ∈ tb := tb_in (List.mem_of_getElem? (i := 912) (by decide +kernel)) rfl
theorem lk_RL_113 : Cond.methodLink RL 113 yX11_ledOff ∈ tb := tb_in (List.mem_of_getElem? (i := 1381) (by decide +kernel)) rfl
theorem lk_RL_114 : Cond.methodLink RL 114 yX10_led ∈ tb := tb_in (List.mem_of_getElem? (i := 932) (by decide +kernel)) rfl
theorem lk_RL_117 : Cond.methodLink RL 117 yX11_led ∈ tb := tb_in (List.mem_of_getElem? (i := 1389) (by decide +kernel)) rfl
theorem lk_RL_118 : Cond.methodLink RL 118 yX10_ledAt ∈ tb := tb_in (List.mem_of_getElem? (i := 940) (by decide +kernel)) rfl
theorem lk_RL_121 : Cond.methodLink RL 121 yX11_ledAt ∈ tb := tb_in (List.mem_of_getElem? (i := 1393) (by decide +kernel)) rfl
theorem lk_RL_122 : Cond.methodLink RL 122 yX10_ears ∈ tb := tb_in (List.mem_of_getElem? (i := 945) (by decide +kernel)) rfl
theorem lk_RL_125 : Cond.methodLink RL 125 yX11_ears ∈ tb := tb_in (List.mem_of_getElem? (i := 1397) (by decide +kernel)) rfl
theorem lk_RL_126 : Cond.methodLink RL 126 yX10_noise ∈ tb := tb_in (List.mem_of_getElem? (i := 953) (by decide +kernel)) rfl
theorem lk_RL_129 : Cond.methodLink RL 129 yX11_noise ∈ tb := tb_in (List.mem_of_getElem? (i := 1402) (by decide +kernel)) rfl
theorem lk_RL_130 : Cond.methodLink RL 130 yX10_worst ∈ tb := tb_in (List.mem_of_getElem? (i := 966) (by decide +kernel)) rfl
theorem lk_RL_134 : Cond.methodLink RL 134 yX11_worst ∈ tb := tb_in (List.mem_of_getElem? (i := 1414) (by decide +kernel)) rfl
theorem lk_RL_135 : Cond.methodLink RL 135 yX10_quietest ∈ tb := tb_in (List.mem_of_getElem? (i := 975) (by decide +kernel)) rfl
theorem lk_RL_138 : Cond.methodLink RL 138 yX11_quietest ∈ tb := tb_in (List.mem_of_getElem? (i := 1418) (by decide +kernel)) rfl
theorem lk_RL_139 : Cond.methodLink RL 139 yX10_price ∈ tb := tb_in (List.mem_of_getElem? (i := 983) (by decide +kernel)) rfl
theorem lk_RL_142 : Cond.methodLink RL 142 yX11_price ∈ tb := tb_in (List.mem_of_getElem? (i := 1426) (by decide +kernel)) rfl
theorem lk_RL_143 : Cond.methodLink RL 143 yX10_quietAt ∈ tb := tb_in (List.mem_of_getElem? (i := 987) (by decide +kernel)) rfl
theorem lk_RL_146 : Cond.methodLink RL 146 yX11_quietAt ∈ tb := tb_in (List.mem_of_getElem? (i := 1430) (by decide +kernel)) rfl
theorem lk_RL_147 : Cond.methodLink RL 147 yX10_count ∈ tb := tb_in (List.mem_of_getElem? (i := 991) (by decide +kernel)) rfl
theorem lk_RL_150 : Cond.methodLink RL 150 yX11_count ∈ tb := tb_in (List.mem_of_getElem? (i := 1438) (by decide +kernel)) rfl
theorem lk_RX11_76 : Cond.methodLink RX11 76 yX11_layAir ∈ tb := tb_in (List.mem_of_getElem? (i := 1013) (by decide +kernel)) rfl
theorem lk_RX11_82 : Cond.methodLink RX11 82 yX11_in ∈ tb := tb_in (List.mem_of_getElem? (i := 1121) (by decide +kernel)) rfl
theorem lk_RX11_101 : Cond.methodLink RX11 101 yX11_cells ∈ tb := tb_in (List.mem_of_getElem? (i := 1133) (by decide +kernel)) rfl
theorem lk_RX11_110 : Cond.methodLink RX11 110 yX11_isCell ∈ tb := tb_in (List.mem_of_getElem? (i := 1129) (by decide +kernel)) rfl
theorem lk_RX11_115 : Cond.methodLink RX11 115 yX11_isMinute ∈ tb := tb_in (List.mem_of_getElem? (i := 1138) (by decide +kernel)) rfl
theorem lk_RX11_126 : Cond.methodLink RX11 126 yX11_size ∈ tb := tb_in (List.mem_of_getElem? (i := 1165) (by decide +kernel)) rfl
theorem lk_RX11_130 : Cond.methodLink RX11 130 yX11_along ∈ tb := tb_in (List.mem_of_getElem? (i := 1161) (by decide +kernel)) rfl
theorem lk_RX11_134 : Cond.methodLink RX11 134 yX11_aside ∈ tb := tb_in (List.mem_of_getElem? (i := 1168) (by decide +kernel)) rfl
theorem lk_RX11_137 : Cond.methodLink RX11 137 yX11_hasFolk ∈ tb := tb_in (List.mem_of_getElem? (i := 1172) (by decide +kernel)) rfl
theorem lk_RX11_141 : Cond.methodLink RX11 141 yX11_downOf ∈ tb := tb_in (List.mem_of_getElem? (i := 1157) (by decide +kernel)) rfl
theorem lk_RX11_144 : Cond.methodLink RX11 144 yX11_isShut ∈ tb := tb_in (List.mem_of_getElem? (i := 1184) (by decide +kernel)) rfl
theorem lk_RX11_147 : Cond.methodLink RX11 147 yX11_isOpen ∈ tb := tb_in (List.mem_of_getElem? (i := 1180) (by decide +kernel)) rfl
theorem lk_RX11_155 : Cond.methodLink RX11 155 yX11_isAsk ∈ tb := tb_in (List.mem_of_getElem? (i := 1199) (by decide +kernel)) rfl
theorem lk_RX11_158 : Cond.methodLink RX11 158 yX11_layNear ∈ tb := tb_in (List.mem_of_getElem? (i := 1223) (by decide +kernel)) rfl
theorem lk_RX11_161 : Cond.methodLink RX11 161 yX11_layChange ∈ tb := tb_in (List.mem_of_getElem? (i := 1227) (by decide +kernel)) rfl
theorem lk_RX11_164 : Cond.methodLink RX11 164 yX11_step ∈ tb := tb_in (List.mem_of_getElem? (i := 1231) (by decide +kernel)) rfl
theorem lk_RX11_167 : Cond.methodLink RX11 167 yX11_isFree ∈ tb := tb_in (List.mem_of_getElem? (i := 1251) (by decide +kernel)) rfl
theorem lk_RX11_171 : Cond.methodLink RX11 171 yX11_goes ∈ tb := tb_in (List.mem_of_getElem? (i := 1247) (by decide +kernel)) rfl
theorem lk_RX11_175 : Cond.methodLink RX11 175 yX11_layLatest ∈ tb := tb_in (List.mem_of_getElem? (i := 1243) (by decide +kernel)) rfl
theorem lk_RX11_185 : Cond.methodLink RX11 185 yX11_isLeast ∈ tb := tb_in (List.mem_of_getElem? (i := 1264) (by decide +kernel)) rfl
theorem lk_RX11_188 : Cond.methodLink RX11 188 yX11_layOpen ∈ tb := tb_in (List.mem_of_getElem? (i := 1215) (by decide +kernel)) rfl
theorem lk_RX11_191 : Cond.methodLink RX11 191 yX11_layBits ∈ tb := tb_in (List.mem_of_getElem? (i := 1219) (by decide +kernel)) rfl
theorem lk_RX11_194 : Cond.methodLink RX11 194 yX11_hasWay ∈ tb := tb_in (List.mem_of_getElem? (i := 1239) (by decide +kernel)) rfl
theorem lk_RX11_197 : Cond.methodLink RX11 197 yX11_layRest ∈ tb := tb_in (List.mem_of_getElem? (i := 1255) (by decide +kernel)) rfl
theorem lk_RX11_201 : Cond.methodLink RX11 201 yX11_laySteps ∈ tb := tb_in (List.mem_of_getElem? (i := 1260) (by decide +kernel)) rfl
theorem lk_RX11_205 : Cond.methodLink RX11 205 yX11_mayAsk ∈ tb := tb_in (List.mem_of_getElem? (i := 1207) (by decide +kernel)) rfl
theorem lk_RX11_208 : Cond.methodLink RX11 208 yX11_layAll ∈ tb := tb_in (List.mem_of_getElem? (i := 1211) (by decide +kernel)) rfl
theorem lk_RX11_211 : Cond.methodLink RX11 211 yX11_laySoonest ∈ tb := tb_in (List.mem_of_getElem? (i := 1235) (by decide +kernel)) rfl
theorem lk_RX11_214 : Cond.methodLink RX11 214 yX11_told ∈ tb := tb_in (List.mem_of_getElem? (i := 1272) (by decide +kernel)) rfl
theorem lk_RX11_217 : Cond.methodLink RX11 217 yX11_keep ∈ tb := tb_in (List.mem_of_getElem? (i := 1280) (by decide +kernel)) rfl
theorem lk_RX11_220 : Cond.methodLink RX11 220 yX11_cellAt ∈ tb := tb_in (List.mem_of_getElem? (i := 1292) (by decide +kernel)) rfl
theorem lk_RX11_223 : Cond.methodLink RX11 223 yX11_givenSet ∈ tb := tb_in (List.mem_of_getElem? (i := 1308) (by decide +kernel)) rfl
theorem lk_RX11_226 : Cond.methodLink RX11 226 yX11_ones ∈ tb := tb_in (List.mem_of_getElem? (i := 1312) (by decide +kernel)) rfl
theorem lk_RX11_229 : Cond.methodLink RX11 229 yX11_isFirst ∈ tb := tb_in (List.mem_of_getElem? (i := 1315) (by decide +kernel)) rfl
theorem lk_RX11_232 : Cond.methodLink RX11 232 yX11_barSet ∈ tb := tb_in (List.mem_of_getElem? (i := 1304) (by decide +kernel)) rfl
theorem lk_RX11_235 : Cond.methodLink RX11 235 yX11_nth ∈ tb := tb_in (List.mem_of_getElem? (i := 1322) (by decide +kernel)) rfl
theorem lk_RX11_241 : Cond.methodLink RX11 241 yX11_layRow ∈ tb := tb_in (List.mem_of_getElem? (i := 1337) (by decide +kernel)) rfl
theorem lk_RX11_244 : Cond.methodLink RX11 244 yX11_goRow ∈ tb := tb_in (List.mem_of_getElem? (i := 1341) (by decide +kernel)) rfl
theorem lk_RX11_247 : Cond.methodLink RX11 247 yX11_takeRow ∈ tb := tb_in (List.mem_of_getElem? (i := 1345) (by decide +kernel)) rfl
theorem lk_RX11_250 : Cond.methodLink RX11 250 yX11_maySet ∈ tb := tb_in (List.mem_of_getElem? (i := 1329) (by decide +kernel)) rfl
theorem lk_RX11_253 : Cond.methodLink RX11 253 yX11_layOrders ∈ tb := tb_in (List.mem_of_getElem? (i := 1333) (by decide +kernel)) rfl
theorem lk_RX11_262 : Cond.methodLink RX11 262 yX11_isSeenBy ∈ tb := tb_in (List.mem_of_getElem? (i := 1369) (by decide +kernel)) rfl
theorem lk_RX11_265 : Cond.methodLink RX11 265 yX11_spread ∈ tb := tb_in (List.mem_of_getElem? (i := 1373) (by decide +kernel)) rfl
theorem lk_RX11_268 : Cond.methodLink RX11 268 yX11_layCould ∈ tb := tb_in (List.mem_of_getElem? (i := 1365) (by decide +kernel)) rfl
theorem lk_RX11_271 : Cond.methodLink RX11 271 yX11_ledOf ∈ tb := tb_in (List.mem_of_getElem? (i := 1385) (by decide +kernel)) rfl
theorem lk_RX11_276 : Cond.methodLink RX11 276 yX11_loud ∈ tb := tb_in (List.mem_of_getElem? (i := 1410) (by decide +kernel)) rfl
theorem lk_RX11_279 : Cond.methodLink RX11 279 yX11_noiseOf ∈ tb := tb_in (List.mem_of_getElem? (i := 1406) (by decide +kernel)) rfl
theorem lk_RX11_282 : Cond.methodLink RX11 282 yX11_layQuietest ∈ tb := tb_in (List.mem_of_getElem? (i := 1422) (by decide +kernel)) rfl
theorem nk_RX0_9 : (RX0, 9, yX9_init, RX10) ∈ nests := by decide +kernel
theorem nk_RX1_55 : (RX1, 55, yX10_isIn, RX10) ∈ nests := by decide +kernel
theorem nk_RX2_17 : (RX2, 17, yX0_init, RX10) ∈ nests := by decide +kernel
theorem nk_RX3_105 : (RX3, 105, yX10_holds, RX10) ∈ nests := by decide +kernel
theorem nk_RX4_47 : (RX4, 47, yX10_isIn, RX10) ∈ nests := by decide +kernel
theorem nk_RX6_82 : (RX6, 82, yX10_isIn, RX10) ∈ nests := by decide +kernel
theorem nk_RX6_138 : (RX6, 138, yX10_holds, RX10) ∈ nests := by decide +kernel
theorem nk_RX7_70 : (RX7, 70, yX10_holds, RX10) ∈ nests := by decide +kernel
theorem nk_RX8_95 : (RX8, 95, yX10_isMinute, RX10) ∈ nests := by decide +kernel
theorem nk_RX8_103 : (RX8, 103, yX10_holds, RX10) ∈ nests := by decide +kernel
theorem kc_RX10_75 : Cond.constant RX10 75 (-900002 : Int32) ∈ tb := tb_in (List.mem_of_getElem? (i := 500) (by decide +kernel)) rfl
theorem kc_RX10_141 : Cond.constant RX10 141 (-900001 : Int32) ∈ tb := tb_in (List.mem_of_getElem? (i := 515) (by decide +kernel)) rfl
theorem kc_RX10_145 : Cond.constant RX10 145 (-900003 : Int32) ∈ tb := tb_in (List.mem_of_getElem? (i := 573) (by decide +kernel)) rfl
theorem kc_RX10_150 : Cond.constant RX10 150 (-900004 : Int32) ∈ tb := tb_in (List.mem_of_getElem? (i := 517) (by decide +kernel)) rfl
theorem kc_RX10_221 : Cond.constant RX10 221 (-900009 : Int32) ∈ tb := tb_in (List.mem_of_getElem? (i := 690) (by decide +kernel)) rfl
theorem kc_RX1_30 : Cond.constant RX1 30 (-900009 : Int32) ∈ tb := tb_in (List.mem_of_getElem? (i := 829) (by decide +kernel)) rfl
theorem kc_RX3_58 : Cond.constant RX3 58 (1000000000 : Int32) ∈ tb := tb_in (List.mem_of_getElem? (i := 729) (by decide +kernel)) rfl
theorem kc_RX4_33 : Cond.constant RX4 33 (-900009 : Int32) ∈ tb := tb_in (List.mem_of_getElem? (i := 871) (by decide +kernel)) rfl
theorem kc_RX4_40 : Cond.constant RX4 40 (1000000000 : Int32) ∈ tb := tb_in (List.mem_of_getElem? (i := 845) (by decide +kernel)) rfl
theorem kc_RX7_74 : Cond.constant RX7 74 (-900009 : Int32) ∈ tb := tb_in (List.mem_of_getElem? (i := 931) (by decide +kernel)) rfl
theorem kc_RX8_107 : Cond.constant RX8 107 (-900009 : Int32) ∈ tb := tb_in (List.mem_of_getElem? (i := 560) (by decide +kernel)) rfl
theorem kc_RX8_111 : Cond.constant RX8 111 (1000000000 : Int32) ∈ tb := tb_in (List.mem_of_getElem? (i := 102) (by decide +kernel)) rfl
theorem kc_RX9_29 : Cond.constant RX9 29 (-900009 : Int32) ∈ tb := tb_in (List.mem_of_getElem? (i := 703) (by decide +kernel)) rfl
theorem kc_RX11_66 : Cond.constant RX11 66 (-900009 : Int32) ∈ tb := tb_in (List.mem_of_getElem? (i := 1012) (by decide +kernel)) rfl
theorem kc_RX11_109 : Cond.constant RX11 109 (-900002 : Int32) ∈ tb := tb_in (List.mem_of_getElem? (i := 1124) (by decide +kernel)) rfl
theorem kc_RX11_114 : Cond.constant RX11 114 (-900001 : Int32) ∈ tb := tb_in (List.mem_of_getElem? (i := 1137) (by decide +kernel)) rfl
theorem kc_RX11_118 : Cond.constant RX11 118 (-900004 : Int32) ∈ tb := tb_in (List.mem_of_getElem? (i := 1142) (by decide +kernel)) rfl
theorem kc_RX11_154 : Cond.constant RX11 154 (-900003 : Int32) ∈ tb := tb_in (List.mem_of_getElem? (i := 1194) (by decide +kernel)) rfl
theorem kc_RX11_184 : Cond.constant RX11 184 (100000000 : Int32) ∈ tb := tb_in (List.mem_of_getElem? (i := 1259) (by decide +kernel)) rfl
theorem kc_RJ6_265 : Cond.constant RJ6 265 (1431655765 : Int32) ∈ tb := tb_in (List.mem_of_getElem? (i := 810) (by decide +kernel)) rfl
theorem kc_RJ6_266 : Cond.constant RJ6 266 (858993459 : Int32) ∈ tb := tb_in (List.mem_of_getElem? (i := 811) (by decide +kernel)) rfl
theorem kc_RJ6_267 : Cond.constant RJ6 267 (252645135 : Int32) ∈ tb := tb_in (List.mem_of_getElem? (i := 812) (by decide +kernel)) rfl
theorem kl_RX6_101 : Cond.constantLong RX6 101 (-1 : Int64) ∈ tb := tb_in (List.mem_of_getElem? (i := 637) (by decide +kernel)) rfl
theorem kl_RX7_50 : Cond.constantLong RX7 50 (-1 : Int64) ∈ tb := tb_in (List.mem_of_getElem? (i := 901) (by decide +kernel)) rfl
theorem kl_RX8_93 : Cond.constantLong RX8 93 (-1 : Int64) ∈ tb := tb_in (List.mem_of_getElem? (i := 123) (by decide +kernel)) rfl
theorem kl_RX11_80 : Cond.constantLong RX11 80 (59 : Int64) ∈ tb := tb_in (List.mem_of_getElem? (i := 1141) (by decide +kernel)) rfl
theorem kl_RX11_105 : Cond.constantLong RX11 105 (2 : Int64) ∈ tb := tb_in (List.mem_of_getElem? (i := 1119) (by decide +kernel)) rfl
theorem kl_RX11_107 : Cond.constantLong RX11 107 (6 : Int64) ∈ tb := tb_in (List.mem_of_getElem? (i := 1120) (by decide +kernel)) rfl
theorem kl_RX11_119 : Cond.constantLong RX11 119 (4 : Int64) ∈ tb := tb_in (List.mem_of_getElem? (i := 1151) (by decide +kernel)) rfl
theorem kl_RX11_121 : Cond.constantLong RX11 121 (3 : Int64) ∈ tb := tb_in (List.mem_of_getElem? (i := 1152) (by decide +kernel)) rfl
theorem kl_RX11_150 : Cond.constantLong RX11 150 (30 : Int64) ∈ tb := tb_in (List.mem_of_getElem? (i := 1192) (by decide +kernel)) rfl
theorem kl_RX11_152 : Cond.constantLong RX11 152 (9 : Int64) ∈ tb := tb_in (List.mem_of_getElem? (i := 1193) (by decide +kernel)) rfl
theorem kl_RX11_274 : Cond.constantLong RX11 274 (99 : Int64) ∈ tb := tb_in (List.mem_of_getElem? (i := 1401) (by decide +kernel)) rfl
theorem kl_RJ13_314 : Cond.constantLong RJ13 314 (6148914691236517205 : Int64) ∈ tb := tb_in (List.mem_of_getElem? (i := 905) (by decide +kernel)) rfl
theorem kl_RJ13_316 : Cond.constantLong RJ13 316 (3689348814741910323 : Int64) ∈ tb := tb_in (List.mem_of_getElem? (i := 906) (by decide +kernel)) rfl
theorem kl_RJ13_318 : Cond.constantLong RJ13 318 (1085102592571150095 : Int64) ∈ tb := tb_in (List.mem_of_getElem? (i := 907) (by decide +kernel)) rfl
theorem kI_m1 : Int32.ofInt (-1) = (-1 : Int32) := by decide
theorem kI_0 : Int32.ofInt (0) = (0 : Int32) := by decide
theorem kI_1 : Int32.ofInt (1) = (1 : Int32) := by decide
theorem kI_2 : Int32.ofInt (2) = (2 : Int32) := by decide
theorem kI_3 : Int32.ofInt (3) = (3 : Int32) := by decide
theorem kI_4 : Int32.ofInt (4) = (4 : Int32) := by decide
theorem kI_5 : Int32.ofInt (5) = (5 : Int32) := by decide
theorem kI_8 : Int32.ofInt (8) = (8 : Int32) := by decide
theorem kB_6 : (Int8.ofInt (6)).toInt32 = (6 : Int32) := by decide
theorem kB_7 : (Int8.ofInt (7)).toInt32 = (7 : Int32) := by decide
theorem kB_8 : (Int8.ofInt (8)).toInt32 = (8 : Int32) := by decide
theorem kB_9 : (Int8.ofInt (9)).toInt32 = (9 : Int32) := by decide
theorem kB_10 : (Int8.ofInt (10)).toInt32 = (10 : Int32) := by decide
theorem kB_16 : (Int8.ofInt (16)).toInt32 = (16 : Int32) := by decide
theorem kB_20 : (Int8.ofInt (20)).toInt32 = (20 : Int32) := by decide
theorem kB_30 : (Int8.ofInt (30)).toInt32 = (30 : Int32) := by decide
theorem kB_31 : (Int8.ofInt (31)).toInt32 = (31 : Int32) := by decide
theorem kB_32 : (Int8.ofInt (32)).toInt32 = (32 : Int32) := by decide
theorem kB_36 : (Int8.ofInt (36)).toInt32 = (36 : Int32) := by decide
theorem kB_59 : (Int8.ofInt (59)).toInt32 = (59 : Int32) := by decide
theorem kB_60 : (Int8.ofInt (60)).toInt32 = (60 : Int32) := by decide
theorem kB_63 : (Int8.ofInt (63)).toInt32 = (63 : Int32) := by decide
theorem kB_80 : (Int8.ofInt (80)).toInt32 = (80 : Int32) := by decide
theorem kB_99 : (Int8.ofInt (99)).toInt32 = (99 : Int32) := by decide
theorem kB_100 : (Int8.ofInt (100)).toInt32 = (100 : Int32) := by decide
theorem kB_127 : (Int8.ofInt (127)).toInt32 = (127 : Int32) := by decide
theorem kS_600 : (Int16.ofInt (600)).toInt32 = (600 : Int32) := by decide
theorem kS_2160 : (Int16.ofInt (2160)).toInt32 = (2160 : Int32) := by decide
theorem kS_2340 : (Int16.ofInt (2340)).toInt32 = (2340 : Int32) := by decide
theorem kS_10800 : (Int16.ofInt (10800)).toInt32 = (10800 : Int32) := by decide
theorem kL_0 : Int64.ofNat ((0 : Fin 2) : Nat) = (0 : Int64) := by decide
theorem kL_1 : Int64.ofNat ((1 : Fin 2) : Nat) = (1 : Int64) := by decide
