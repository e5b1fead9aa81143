set_option maxRecDepth 1000000
theorem xok_0 : xokC 0 = true := by decide +kernel
theorem xok_1 : xokC 1 = true := by decide +kernel
theorem xok_2 : xokC 2 = true := by decide +kernel
theorem xok_3_0 : xc_3_0.all (xokR 3) = true := by decide +kernel
theorem xok_3_1 : xc_3_1.all (xokR 3) = true := by decide +kernel
theorem xok_3 : xokC 3 = true := by
  show (xc_3_0 ++ (xc_3_1)).all (xokR 3) = true
  simp only [List.all_append, xok_3_0, xok_3_1, Bool.and_self]
theorem xok_4_0 : xc_4_0.all (xokR 4) = true := by decide +kernel
theorem xok_4_1 : xc_4_1.all (xokR 4) = true := by decide +kernel
theorem xok_4 : xokC 4 = true := by
  show (xc_4_0 ++ (xc_4_1)).all (xokR 4) = true
  simp only [List.all_append, xok_4_0, xok_4_1, Bool.and_self]
theorem xok_5 : xokC 5 = true := by decide +kernel
theorem xok_6 : xokC 6 = true := by decide +kernel
theorem xok_7 : xokC 7 = true := by decide +kernel
theorem xok_8 : xokC 8 = true := by decide +kernel
theorem xok_9 : xokC 9 = true := by decide +kernel
theorem xok_10 : xokC 10 = true := by decide +kernel
theorem xok_11 : xokC 11 = true := by decide +kernel
theorem xok_12 : xokC 12 = true := by decide +kernel
theorem xok_13 : xokC 13 = true := by decide +kernel
theorem xok_14 : xokC 14 = true := by decide +kernel
theorem xok_15 : xokC 15 = true := by decide +kernel
theorem xok_16 : xokC 16 = true := by decide +kernel
theorem xok_17 : xokC 17 = true := by decide +kernel
theorem xok_18 : xokC 18 = true := by decide +kernel
theorem xok_19 : xokC 19 = true := by decide +kernel
theorem xok_20_0 : xc_20_0.all (xokR 20) = true := by decide +kernel
theorem xok_20_1 : xc_20_1.all (xokR 20) = true := by decide +kernel
theorem xok_20 : xokC 20 = true := by
  show (xc_20_0 ++ (xc_20_1)).all (xokR 20) = true
  simp only [List.all_append, xok_20_0, xok_20_1, Bool.and_self]
theorem xok_21_0 : xc_21_0.all (xokR 21) = true := by decide +kernel
theorem xok_21_1 : xc_21_1.all (xokR 21) = true := by decide +kernel
theorem xok_21 : xokC 21 = true := by
  show (xc_21_0 ++ (xc_21_1)).all (xokR 21) = true
  simp only [List.all_append, xok_21_0, xok_21_1, Bool.and_self]
theorem xok_22 : xokC 22 = true := by decide +kernel
theorem xok_23_0 : xc_23_0.all (xokR 23) = true := by decide +kernel
theorem xok_23_1 : xc_23_1.all (xokR 23) = true := by decide +kernel
theorem xok_23 : xokC 23 = true := by
  show (xc_23_0 ++ (xc_23_1)).all (xokR 23) = true
  simp only [List.all_append, xok_23_0, xok_23_1, Bool.and_self]
theorem xok_24 : xokC 24 = true := by decide +kernel
theorem xok_25_0 : xc_25_0.all (xokR 25) = true := by decide +kernel
theorem xok_25_1 : xc_25_1.all (xokR 25) = true := by decide +kernel
theorem xok_25_2 : xc_25_2.all (xokR 25) = true := by decide +kernel
theorem xok_25 : xokC 25 = true := by
  show (xc_25_0 ++ (xc_25_1 ++ (xc_25_2))).all (xokR 25) = true
  simp only [List.all_append, xok_25_0, xok_25_1, xok_25_2, Bool.and_self]
theorem xok_26_0 : xc_26_0.all (xokR 26) = true := by decide +kernel
theorem xok_26_1 : xc_26_1.all (xokR 26) = true := by decide +kernel
theorem xok_26 : xokC 26 = true := by
  show (xc_26_0 ++ (xc_26_1)).all (xokR 26) = true
  simp only [List.all_append, xok_26_0, xok_26_1, Bool.and_self]
theorem xok_27 : xokC 27 = true := by decide +kernel
theorem xok_28 : xokC 28 = true := by decide +kernel
theorem xok_29_0 : xc_29_0.all (xokR 29) = true := by decide +kernel
theorem xok_29_1 : xc_29_1.all (xokR 29) = true := by decide +kernel
theorem xok_29 : xokC 29 = true := by
  show (xc_29_0 ++ (xc_29_1)).all (xokR 29) = true
  simp only [List.all_append, xok_29_0, xok_29_1, Bool.and_self]
theorem xok_30 : xokC 30 = true := by decide +kernel
theorem xok_31 : xokC 31 = true := by decide +kernel
theorem xok_32_0 : xc_32_0.all (xokR 32) = true := by decide +kernel
theorem xok_32_1 : xc_32_1.all (xokR 32) = true := by decide +kernel
theorem xok_32_2 : xc_32_2.all (xokR 32) = true := by decide +kernel
theorem xok_32 : xokC 32 = true := by
  show (xc_32_0 ++ (xc_32_1 ++ (xc_32_2))).all (xokR 32) = true
  simp only [List.all_append, xok_32_0, xok_32_1, xok_32_2, Bool.and_self]
theorem xok_33 : xokC 33 = true := by decide +kernel
theorem xok_34 : xokC 34 = true := by decide +kernel
theorem xok_35 : xokC 35 = true := by decide +kernel
theorem xok_36 : xokC 36 = true := by decide +kernel
theorem xok_37 : xokC 37 = true := by decide +kernel
theorem xok_38 : xokC 38 = true := by decide +kernel
theorem xok_39_0 : xc_39_0.all (xokR 39) = true := by decide +kernel
theorem xok_39_1 : xc_39_1.all (xokR 39) = true := by decide +kernel
theorem xok_39 : xokC 39 = true := by
  show (xc_39_0 ++ (xc_39_1)).all (xokR 39) = true
  simp only [List.all_append, xok_39_0, xok_39_1, Bool.and_self]
theorem xok_40 : xokC 40 = true := by decide +kernel
theorem xok_41_0 : xc_41_0.all (xokR 41) = true := by decide +kernel
theorem xok_41_1 : xc_41_1.all (xokR 41) = true := by decide +kernel
theorem xok_41 : xokC 41 = true := by
  show (xc_41_0 ++ (xc_41_1)).all (xokR 41) = true
  simp only [List.all_append, xok_41_0, xok_41_1, Bool.and_self]
theorem xok_42_0 : xc_42_0.all (xokR 42) = true := by decide +kernel
theorem xok_42_1 : xc_42_1.all (xokR 42) = true := by decide +kernel
theorem xok_42_2 : xc_42_2.all (xokR 42) = true := by decide +kernel
theorem xok_42 : xokC 42 = true := by
  show (xc_42_0 ++ (xc_42_1 ++ (xc_42_2))).all (xokR 42) = true
  simp only [List.all_append, xok_42_0, xok_42_1, xok_42_2, Bool.and_self]
theorem xok_43 : xokC 43 = true := by decide +kernel
theorem xok_44 : xokC 44 = true := by decide +kernel
theorem xok_45_0 : xc_45_0.all (xokR 45) = true := by decide +kernel
theorem xok_45_1 : xc_45_1.all (xokR 45) = true := by decide +kernel
theorem xok_45 : xokC 45 = true := by
  show (xc_45_0 ++ (xc_45_1)).all (xokR 45) = true
  simp only [List.all_append, xok_45_0, xok_45_1, Bool.and_self]
theorem xok_46_0 : xc_46_0.all (xokR 46) = true := by decide +kernel
theorem xok_46_1 : xc_46_1.all (xokR 46) = true := by decide +kernel
theorem xok_46 : xokC 46 = true := by
  show (xc_46_0 ++ (xc_46_1)).all (xokR 46) = true
  simp only [List.all_append, xok_46_0, xok_46_1, Bool.and_self]
theorem xok_47_0 : xc_47_0.all (xokR 47) = true := by decide +kernel
theorem xok_47_1 : xc_47_1.all (xokR 47) = true := by decide +kernel
theorem xok_47 : xokC 47 = true := by
  show (xc_47_0 ++ (xc_47_1)).all (xokR 47) = true
  simp only [List.all_append, xok_47_0, xok_47_1, Bool.and_self]
theorem xok_48_0 : xc_48_0.all (xokR 48) = true := by decide +kernel
theorem xok_48_1 : xc_48_1.all (xokR 48) = true := by decide +kernel
theorem xok_48 : xokC 48 = true := by
  show (xc_48_0 ++ (xc_48_1)).all (xokR 48) = true
  simp only [List.all_append, xok_48_0, xok_48_1, Bool.and_self]
theorem xok_49 : xokC 49 = true := by decide +kernel
theorem xok_50 : xokC 50 = true := by decide +kernel
theorem xok_51_0 : xc_51_0.all (xokR 51) = true := by decide +kernel
theorem xok_51_1 : xc_51_1.all (xokR 51) = true := by decide +kernel
theorem xok_51 : xokC 51 = true := by
  show (xc_51_0 ++ (xc_51_1)).all (xokR 51) = true
  simp only [List.all_append, xok_51_0, xok_51_1, Bool.and_self]
theorem xok_52 : xokC 52 = true := by decide +kernel
theorem xok_53 : xokC 53 = true := by decide +kernel
theorem xok_54 : xokC 54 = true := by decide +kernel
theorem xok_55 : xokC 55 = true := by decide +kernel
theorem xok_56_0 : xc_56_0.all (xokR 56) = true := by decide +kernel
theorem xok_56_1 : xc_56_1.all (xokR 56) = true := by decide +kernel
theorem xok_56_2 : xc_56_2.all (xokR 56) = true := by decide +kernel
theorem xok_56 : xokC 56 = true := by
  show (xc_56_0 ++ (xc_56_1 ++ (xc_56_2))).all (xokR 56) = true
  simp only [List.all_append, xok_56_0, xok_56_1, xok_56_2, Bool.and_self]
theorem xok_57 : xokC 57 = true := by decide +kernel
theorem xok_58 : xokC 58 = true := by decide +kernel
theorem xok_59 : xokC 59 = true := by decide +kernel
theorem xok_60_0 : xc_60_0.all (xokR 60) = true := by decide +kernel
theorem xok_60_1 : xc_60_1.all (xokR 60) = true := by decide +kernel
theorem xok_60 : xokC 60 = true := by
  show (xc_60_0 ++ (xc_60_1)).all (xokR 60) = true
  simp only [List.all_append, xok_60_0, xok_60_1, Bool.and_self]
theorem xok_61 : xokC 61 = true := by decide +kernel
theorem xok_62_0 : xc_62_0.all (xokR 62) = true := by decide +kernel
theorem xok_62_1 : xc_62_1.all (xokR 62) = true := by decide +kernel
theorem xok_62_2 : xc_62_2.all (xokR 62) = true := by decide +kernel
theorem xok_62_3 : xc_62_3.all (xokR 62) = true := by decide +kernel
theorem xok_62 : xokC 62 = true := by
  show (xc_62_0 ++ (xc_62_1 ++ (xc_62_2 ++ (xc_62_3)))).all (xokR 62) = true
  simp only [List.all_append, xok_62_0, xok_62_1, xok_62_2, xok_62_3, Bool.and_self]
theorem xok_63_0 : xc_63_0.all (xokR 63) = true := by decide +kernel
theorem xok_63_1 : xc_63_1.all (xokR 63) = true := by decide +kernel
theorem xok_63_2 : xc_63_2.all (xokR 63) = true := by decide +kernel
theorem xok_63_3 : xc_63_3.all (xokR 63) = true := by decide +kernel
theorem xok_63 : xokC 63 = true := by
  show (xc_63_0 ++ (xc_63_1 ++ (xc_63_2 ++ (xc_63_3)))).all (xokR 63) = true
  simp only [List.all_append, xok_63_0, xok_63_1, xok_63_2, xok_63_3, Bool.and_self]
theorem xok_64 : xokC 64 = true := by decide +kernel
theorem xok_65_0 : xc_65_0.all (xokR 65) = true := by decide +kernel
theorem xok_65_1 : xc_65_1.all (xokR 65) = true := by decide +kernel
theorem xok_65_2 : xc_65_2.all (xokR 65) = true := by decide +kernel
theorem xok_65 : xokC 65 = true := by
  show (xc_65_0 ++ (xc_65_1 ++ (xc_65_2))).all (xokR 65) = true
  simp only [List.all_append, xok_65_0, xok_65_1, xok_65_2, Bool.and_self]
theorem xok_66 : xokC 66 = true := by decide +kernel
theorem xok_67 : xokC 67 = true := by decide +kernel
theorem xok_68 : xokC 68 = true := by decide +kernel
theorem xok_69_0 : xc_69_0.all (xokR 69) = true := by decide +kernel
theorem xok_69_1 : xc_69_1.all (xokR 69) = true := by decide +kernel
theorem xok_69 : xokC 69 = true := by
  show (xc_69_0 ++ (xc_69_1)).all (xokR 69) = true
  simp only [List.all_append, xok_69_0, xok_69_1, Bool.and_self]
theorem xok_70 : xokC 70 = true := by decide +kernel
theorem xok_71 : xokC 71 = true := by decide +kernel
theorem xok_72_0 : xc_72_0.all (xokR 72) = true := by decide +kernel
theorem xok_72_1 : xc_72_1.all (xokR 72) = true := by decide +kernel
theorem xok_72_2 : xc_72_2.all (xokR 72) = true := by decide +kernel
theorem xok_72 : xokC 72 = true := by
  show (xc_72_0 ++ (xc_72_1 ++ (xc_72_2))).all (xokR 72) = true
  simp only [List.all_append, xok_72_0, xok_72_1, xok_72_2, Bool.and_self]
theorem xok_73 : xokC 73 = true := by decide +kernel
theorem xok_74 : xokC 74 = true := by decide +kernel
theorem xok_75 : xokC 75 = true := by decide +kernel
theorem xok_76 : xokC 76 = true := by decide +kernel
theorem xok_77 : xokC 77 = true := by decide +kernel
theorem xok_78_0 : xc_78_0.all (xokR 78) = true := by decide +kernel
theorem xok_78_1 : xc_78_1.all (xokR 78) = true := by decide +kernel
theorem xok_78 : xokC 78 = true := by
  show (xc_78_0 ++ (xc_78_1)).all (xokR 78) = true
  simp only [List.all_append, xok_78_0, xok_78_1, Bool.and_self]
theorem xok_79 : xokC 79 = true := by decide +kernel
theorem xok_80 : xokC 80 = true := by decide +kernel
theorem xok_81 : xokC 81 = true := by decide +kernel
theorem xok_82_0 : xc_82_0.all (xokR 82) = true := by decide +kernel
theorem xok_82_1 : xc_82_1.all (xokR 82) = true := by decide +kernel
theorem xok_82_2 : xc_82_2.all (xokR 82) = true := by decide +kernel
theorem xok_82 : xokC 82 = true := by
  show (xc_82_0 ++ (xc_82_1 ++ (xc_82_2))).all (xokR 82) = true
  simp only [List.all_append, xok_82_0, xok_82_1, xok_82_2, Bool.and_self]
theorem xok_83 : xokC 83 = true := by decide +kernel
theorem xok_84 : xokC 84 = true := by decide +kernel
theorem xok_85 : xokC 85 = true := by decide +kernel
theorem xok_86_0 : xc_86_0.all (xokR 86) = true := by decide +kernel
theorem xok_86_1 : xc_86_1.all (xokR 86) = true := by decide +kernel
theorem xok_86 : xokC 86 = true := by
  show (xc_86_0 ++ (xc_86_1)).all (xokR 86) = true
  simp only [List.all_append, xok_86_0, xok_86_1, Bool.and_self]
theorem xok_87 : xokC 87 = true := by decide +kernel
theorem xok_88 : xokC 88 = true := by decide +kernel
theorem xok_89 : xokC 89 = true := by decide +kernel
theorem xok_90 : xokC 90 = true := by decide +kernel
theorem xok_91_0 : xc_91_0.all (xokR 91) = true := by decide +kernel
theorem xok_91_1 : xc_91_1.all (xokR 91) = true := by decide +kernel
theorem xok_91 : xokC 91 = true := by
  show (xc_91_0 ++ (xc_91_1)).all (xokR 91) = true
  simp only [List.all_append, xok_91_0, xok_91_1, Bool.and_self]
theorem xok_92_0 : xc_92_0.all (xokR 92) = true := by decide +kernel
theorem xok_92_1 : xc_92_1.all (xokR 92) = true := by decide +kernel
theorem xok_92 : xokC 92 = true := by
  show (xc_92_0 ++ (xc_92_1)).all (xokR 92) = true
  simp only [List.all_append, xok_92_0, xok_92_1, Bool.and_self]
theorem xok_93 : xokC 93 = true := by decide +kernel
theorem xok_94 : xokC 94 = true := by decide +kernel
theorem xok_95 : xokC 95 = true := by decide +kernel
theorem xok_96 : xokC 96 = true := by decide +kernel
theorem xok_97 : xokC 97 = true := by decide +kernel
theorem xok_98 : xokC 98 = true := by decide +kernel
theorem xok_99 : xokC 99 = true := by decide +kernel
theorem xok_100 : xokC 100 = true := by decide +kernel
theorem xok_101 : xokC 101 = true := by decide +kernel
theorem xok_102 : xokC 102 = true := by decide +kernel
theorem xok_103 : xokC 103 = true := by decide +kernel
theorem xok_104_0 : xc_104_0.all (xokR 104) = true := by decide +kernel
theorem xok_104_1 : xc_104_1.all (xokR 104) = true := by decide +kernel
theorem xok_104 : xokC 104 = true := by
  show (xc_104_0 ++ (xc_104_1)).all (xokR 104) = true
  simp only [List.all_append, xok_104_0, xok_104_1, Bool.and_self]
theorem xok_105 : xokC 105 = true := by decide +kernel
theorem xok_106_0 : xc_106_0.all (xokR 106) = true := by decide +kernel
theorem xok_106_1 : xc_106_1.all (xokR 106) = true := by decide +kernel
theorem xok_106 : xokC 106 = true := by
  show (xc_106_0 ++ (xc_106_1)).all (xokR 106) = true
  simp only [List.all_append, xok_106_0, xok_106_1, Bool.and_self]
theorem xok_107 : xokC 107 = true := by decide +kernel
theorem xok_108 : xokC 108 = true := by decide +kernel
theorem xok_109 : xokC 109 = true := by decide +kernel
theorem xok_110 : xokC 110 = true := by decide +kernel
theorem xok_111_0 : xc_111_0.all (xokR 111) = true := by decide +kernel
theorem xok_111_1 : xc_111_1.all (xokR 111) = true := by decide +kernel
theorem xok_111 : xokC 111 = true := by
  show (xc_111_0 ++ (xc_111_1)).all (xokR 111) = true
  simp only [List.all_append, xok_111_0, xok_111_1, Bool.and_self]
theorem xok_112 : xokC 112 = true := by decide +kernel
theorem xok_113_0 : xc_113_0.all (xokR 113) = true := by decide +kernel
theorem xok_113_1 : xc_113_1.all (xokR 113) = true := by decide +kernel
theorem xok_113 : xokC 113 = true := by
  show (xc_113_0 ++ (xc_113_1)).all (xokR 113) = true
  simp only [List.all_append, xok_113_0, xok_113_1, Bool.and_self]
theorem xok_114 : xokC 114 = true := by decide +kernel
theorem xok_115 : xokC 115 = true := by decide +kernel
theorem xok_116 : xokC 116 = true := by decide +kernel
theorem xok_117_0 : xc_117_0.all (xokR 117) = true := by decide +kernel
theorem xok_117_1 : xc_117_1.all (xokR 117) = true := by decide +kernel
theorem xok_117 : xokC 117 = true := by
  show (xc_117_0 ++ (xc_117_1)).all (xokR 117) = true
  simp only [List.all_append, xok_117_0, xok_117_1, Bool.and_self]
theorem xok_118 : xokC 118 = true := by decide +kernel
theorem xok_119_0 : xc_119_0.all (xokR 119) = true := by decide +kernel
theorem xok_119_1 : xc_119_1.all (xokR 119) = true := by decide +kernel
theorem xok_119 : xokC 119 = true := by
  show (xc_119_0 ++ (xc_119_1)).all (xokR 119) = true
  simp only [List.all_append, xok_119_0, xok_119_1, Bool.and_self]
theorem xok_120 : xokC 120 = true := by decide +kernel
theorem xok_121 : xokC 121 = true := by decide +kernel
theorem xok_122 : xokC 122 = true := by decide +kernel
theorem xok_123 : xokC 123 = true := by decide +kernel
theorem xok_124 : xokC 124 = true := by decide +kernel
theorem xok_125_0 : xc_125_0.all (xokR 125) = true := by decide +kernel
theorem xok_125_1 : xc_125_1.all (xokR 125) = true := by decide +kernel
theorem xok_125 : xokC 125 = true := by
  show (xc_125_0 ++ (xc_125_1)).all (xokR 125) = true
  simp only [List.all_append, xok_125_0, xok_125_1, Bool.and_self]
theorem xok_126 : xokC 126 = true := by decide +kernel
theorem xok_127_0 : xc_127_0.all (xokR 127) = true := by decide +kernel
theorem xok_127_1 : xc_127_1.all (xokR 127) = true := by decide +kernel
theorem xok_127 : xokC 127 = true := by
  show (xc_127_0 ++ (xc_127_1)).all (xokR 127) = true
  simp only [List.all_append, xok_127_0, xok_127_1, Bool.and_self]
theorem xok_128 : xokC 128 = true := by decide +kernel
theorem xok_129 : xokC 129 = true := by decide +kernel
theorem xok_130 : xokC 130 = true := by decide +kernel
theorem xok_131 : xokC 131 = true := by decide +kernel
theorem xok_132 : xokC 132 = true := by decide +kernel
theorem xok_133_0 : xc_133_0.all (xokR 133) = true := by decide +kernel
theorem xok_133_1 : xc_133_1.all (xokR 133) = true := by decide +kernel
theorem xok_133 : xokC 133 = true := by
  show (xc_133_0 ++ (xc_133_1)).all (xokR 133) = true
  simp only [List.all_append, xok_133_0, xok_133_1, Bool.and_self]
theorem xok_134 : xokC 134 = true := by decide +kernel
theorem xok_135_0 : xc_135_0.all (xokR 135) = true := by decide +kernel
theorem xok_135_1 : xc_135_1.all (xokR 135) = true := by decide +kernel
theorem xok_135 : xokC 135 = true := by
  show (xc_135_0 ++ (xc_135_1)).all (xokR 135) = true
  simp only [List.all_append, xok_135_0, xok_135_1, Bool.and_self]
theorem xok_136 : xokC 136 = true := by decide +kernel
theorem xok_137 : xokC 137 = true := by decide +kernel
theorem xok_138 : xokC 138 = true := by decide +kernel
theorem xok_139 : xokC 139 = true := by decide +kernel
theorem xok_140_0 : xc_140_0.all (xokR 140) = true := by decide +kernel
theorem xok_140_1 : xc_140_1.all (xokR 140) = true := by decide +kernel
theorem xok_140_2 : xc_140_2.all (xokR 140) = true := by decide +kernel
theorem xok_140 : xokC 140 = true := by
  show (xc_140_0 ++ (xc_140_1 ++ (xc_140_2))).all (xokR 140) = true
  simp only [List.all_append, xok_140_0, xok_140_1, xok_140_2, Bool.and_self]
theorem xok_141 : xokC 141 = true := by decide +kernel
theorem xok_142 : xokC 142 = true := by decide +kernel
theorem xok_143_0 : xc_143_0.all (xokR 143) = true := by decide +kernel
theorem xok_143_1 : xc_143_1.all (xokR 143) = true := by decide +kernel
theorem xok_143 : xokC 143 = true := by
  show (xc_143_0 ++ (xc_143_1)).all (xokR 143) = true
  simp only [List.all_append, xok_143_0, xok_143_1, Bool.and_self]
theorem xok_144 : xokC 144 = true := by decide +kernel
theorem xok_145_0 : xc_145_0.all (xokR 145) = true := by decide +kernel
theorem xok_145_1 : xc_145_1.all (xokR 145) = true := by decide +kernel
theorem xok_145_2 : xc_145_2.all (xokR 145) = true := by decide +kernel
theorem xok_145_3 : xc_145_3.all (xokR 145) = true := by decide +kernel
theorem xok_145 : xokC 145 = true := by
  show (xc_145_0 ++ (xc_145_1 ++ (xc_145_2 ++ (xc_145_3)))).all (xokR 145) = true
  simp only [List.all_append, xok_145_0, xok_145_1, xok_145_2, xok_145_3, Bool.and_self]
theorem xok_146_0 : xc_146_0.all (xokR 146) = true := by decide +kernel
theorem xok_146_1 : xc_146_1.all (xokR 146) = true := by decide +kernel
theorem xok_146 : xokC 146 = true := by
  show (xc_146_0 ++ (xc_146_1)).all (xokR 146) = true
  simp only [List.all_append, xok_146_0, xok_146_1, Bool.and_self]
theorem xok_147 : xokC 147 = true := by decide +kernel
theorem xok_148_0 : xc_148_0.all (xokR 148) = true := by decide +kernel
theorem xok_148_1 : xc_148_1.all (xokR 148) = true := by decide +kernel
theorem xok_148 : xokC 148 = true := by
  show (xc_148_0 ++ (xc_148_1)).all (xokR 148) = true
  simp only [List.all_append, xok_148_0, xok_148_1, Bool.and_self]
theorem xok_149_0 : xc_149_0.all (xokR 149) = true := by decide +kernel
theorem xok_149_1 : xc_149_1.all (xokR 149) = true := by decide +kernel
theorem xok_149 : xokC 149 = true := by
  show (xc_149_0 ++ (xc_149_1)).all (xokR 149) = true
  simp only [List.all_append, xok_149_0, xok_149_1, Bool.and_self]
theorem xok_150_0 : xc_150_0.all (xokR 150) = true := by decide +kernel
theorem xok_150_1 : xc_150_1.all (xokR 150) = true := by decide +kernel
theorem xok_150_2 : xc_150_2.all (xokR 150) = true := by decide +kernel
theorem xok_150 : xokC 150 = true := by
  show (xc_150_0 ++ (xc_150_1 ++ (xc_150_2))).all (xokR 150) = true
  simp only [List.all_append, xok_150_0, xok_150_1, xok_150_2, Bool.and_self]
theorem xok_151_0 : xc_151_0.all (xokR 151) = true := by decide +kernel
theorem xok_151_1 : xc_151_1.all (xokR 151) = true := by decide +kernel
theorem xok_151 : xokC 151 = true := by
  show (xc_151_0 ++ (xc_151_1)).all (xokR 151) = true
  simp only [List.all_append, xok_151_0, xok_151_1, Bool.and_self]
theorem xok_152 : xokC 152 = true := by decide +kernel
theorem xok_153_0 : xc_153_0.all (xokR 153) = true := by decide +kernel
theorem xok_153_1 : xc_153_1.all (xokR 153) = true := by decide +kernel
theorem xok_153 : xokC 153 = true := by
  show (xc_153_0 ++ (xc_153_1)).all (xokR 153) = true
  simp only [List.all_append, xok_153_0, xok_153_1, Bool.and_self]
theorem xok_154 : xokC 154 = true := by decide +kernel
theorem xok_155 : xokC 155 = true := by decide +kernel
theorem xok_156 : xokC 156 = true := by decide +kernel
theorem xok_157 : xokC 157 = true := by decide +kernel
theorem xok_158 : xokC 158 = true := by decide +kernel
theorem xok_159 : xokC 159 = true := by decide +kernel
theorem xok_160 : xokC 160 = true := by decide +kernel
theorem xok_161 : xokC 161 = true := by decide +kernel
theorem xok_162 : xokC 162 = true := by decide +kernel
theorem xok_163_0 : xc_163_0.all (xokR 163) = true := by decide +kernel
theorem xok_163_1 : xc_163_1.all (xokR 163) = true := by decide +kernel
theorem xok_163 : xokC 163 = true := by
  show (xc_163_0 ++ (xc_163_1)).all (xokR 163) = true
  simp only [List.all_append, xok_163_0, xok_163_1, Bool.and_self]
theorem xok_164 : xokC 164 = true := by decide +kernel
theorem xok_165 : xokC 165 = true := by decide +kernel
theorem xok_166 : xokC 166 = true := by decide +kernel
theorem xok_167 : xokC 167 = true := by decide +kernel
theorem xok_168 : xokC 168 = true := by decide +kernel
theorem xok_169 : xokC 169 = true := by decide +kernel
theorem xok_170_0 : xc_170_0.all (xokR 170) = true := by decide +kernel
theorem xok_170_1 : xc_170_1.all (xokR 170) = true := by decide +kernel
theorem xok_170 : xokC 170 = true := by
  show (xc_170_0 ++ (xc_170_1)).all (xokR 170) = true
  simp only [List.all_append, xok_170_0, xok_170_1, Bool.and_self]
theorem xok_171 : xokC 171 = true := by decide +kernel
theorem xok_172 : xokC 172 = true := by decide +kernel
theorem xok_173 : xokC 173 = true := by decide +kernel
theorem xok_174_0 : xc_174_0.all (xokR 174) = true := by decide +kernel
theorem xok_174_1 : xc_174_1.all (xokR 174) = true := by decide +kernel
theorem xok_174 : xokC 174 = true := by
  show (xc_174_0 ++ (xc_174_1)).all (xokR 174) = true
  simp only [List.all_append, xok_174_0, xok_174_1, Bool.and_self]
theorem xok_175 : xokC 175 = true := by decide +kernel
theorem xok_176_0 : xc_176_0.all (xokR 176) = true := by decide +kernel
theorem xok_176_1 : xc_176_1.all (xokR 176) = true := by decide +kernel
theorem xok_176_2 : xc_176_2.all (xokR 176) = true := by decide +kernel
theorem xok_176_3 : xc_176_3.all (xokR 176) = true := by decide +kernel
theorem xok_176_4 : xc_176_4.all (xokR 176) = true := by decide +kernel
theorem xok_176 : xokC 176 = true := by
  show (xc_176_0 ++ (xc_176_1 ++ (xc_176_2 ++ (xc_176_3 ++ (xc_176_4))))).all (xokR 176) = true
  simp only [List.all_append, xok_176_0, xok_176_1, xok_176_2, xok_176_3, xok_176_4, Bool.and_self]
theorem xok_177 : xokC 177 = true := by decide +kernel
theorem xok_178_0 : xc_178_0.all (xokR 178) = true := by decide +kernel
theorem xok_178_1 : xc_178_1.all (xokR 178) = true := by decide +kernel
theorem xok_178_2 : xc_178_2.all (xokR 178) = true := by decide +kernel
theorem xok_178_3 : xc_178_3.all (xokR 178) = true := by decide +kernel
theorem xok_178 : xokC 178 = true := by
  show (xc_178_0 ++ (xc_178_1 ++ (xc_178_2 ++ (xc_178_3)))).all (xokR 178) = true
  simp only [List.all_append, xok_178_0, xok_178_1, xok_178_2, xok_178_3, Bool.and_self]
theorem xok_179_0 : xc_179_0.all (xokR 179) = true := by decide +kernel
theorem xok_179_1 : xc_179_1.all (xokR 179) = true := by decide +kernel
theorem xok_179 : xokC 179 = true := by
  show (xc_179_0 ++ (xc_179_1)).all (xokR 179) = true
  simp only [List.all_append, xok_179_0, xok_179_1, Bool.and_self]
theorem xok_180_0 : xc_180_0.all (xokR 180) = true := by decide +kernel
theorem xok_180_1 : xc_180_1.all (xokR 180) = true := by decide +kernel
theorem xok_180 : xokC 180 = true := by
  show (xc_180_0 ++ (xc_180_1)).all (xokR 180) = true
  simp only [List.all_append, xok_180_0, xok_180_1, Bool.and_self]
theorem xok_181_0 : xc_181_0.all (xokR 181) = true := by decide +kernel
theorem xok_181_1 : xc_181_1.all (xokR 181) = true := by decide +kernel
theorem xok_181 : xokC 181 = true := by
  show (xc_181_0 ++ (xc_181_1)).all (xokR 181) = true
  simp only [List.all_append, xok_181_0, xok_181_1, Bool.and_self]
theorem xok_182 : xokC 182 = true := by decide +kernel
theorem xok_183 : xokC 183 = true := by decide +kernel
theorem xok_184_0 : xc_184_0.all (xokR 184) = true := by decide +kernel
theorem xok_184_1 : xc_184_1.all (xokR 184) = true := by decide +kernel
theorem xok_184 : xokC 184 = true := by
  show (xc_184_0 ++ (xc_184_1)).all (xokR 184) = true
  simp only [List.all_append, xok_184_0, xok_184_1, Bool.and_self]
theorem xok_185 : xokC 185 = true := by decide +kernel
theorem xok_186 : xokC 186 = true := by decide +kernel
theorem xok_187 : xokC 187 = true := by decide +kernel
theorem xok_188 : xokC 188 = true := by decide +kernel
theorem xok_189 : xokC 189 = true := by decide +kernel
theorem xok_190 : xokC 190 = true := by decide +kernel
theorem xok_191 : xokC 191 = true := by decide +kernel
theorem xok_192 : xokC 192 = true := by decide +kernel
theorem xok_193 : xokC 193 = true := by decide +kernel
theorem xok_194_0 : xc_194_0.all (xokR 194) = true := by decide +kernel
theorem xok_194_1 : xc_194_1.all (xokR 194) = true := by decide +kernel
theorem xok_194 : xokC 194 = true := by
  show (xc_194_0 ++ (xc_194_1)).all (xokR 194) = true
  simp only [List.all_append, xok_194_0, xok_194_1, Bool.and_self]
theorem xok_195 : xokC 195 = true := by decide +kernel
theorem xok_196 : xokC 196 = true := by decide +kernel
theorem xok_197 : xokC 197 = true := by decide +kernel
theorem xok_198 : xokC 198 = true := by decide +kernel
theorem xok_199 : xokC 199 = true := by decide +kernel
theorem xok_200 : xokC 200 = true := by decide +kernel
theorem xok_201 : xokC 201 = true := by decide +kernel
theorem xok_202 : xokC 202 = true := by decide +kernel
theorem xok_203_0 : xc_203_0.all (xokR 203) = true := by decide +kernel
theorem xok_203_1 : xc_203_1.all (xokR 203) = true := by decide +kernel
theorem xok_203 : xokC 203 = true := by
  show (xc_203_0 ++ (xc_203_1)).all (xokR 203) = true
  simp only [List.all_append, xok_203_0, xok_203_1, Bool.and_self]
theorem xok_204_0 : xc_204_0.all (xokR 204) = true := by decide +kernel
theorem xok_204_1 : xc_204_1.all (xokR 204) = true := by decide +kernel
theorem xok_204 : xokC 204 = true := by
  show (xc_204_0 ++ (xc_204_1)).all (xokR 204) = true
  simp only [List.all_append, xok_204_0, xok_204_1, Bool.and_self]
theorem xok_205 : xokC 205 = true := by decide +kernel
theorem xok_206 : xokC 206 = true := by decide +kernel
theorem xok_207 : xokC 207 = true := by decide +kernel
theorem xok_208 : xokC 208 = true := by decide +kernel
theorem xok_209_0 : xc_209_0.all (xokR 209) = true := by decide +kernel
theorem xok_209_1 : xc_209_1.all (xokR 209) = true := by decide +kernel
theorem xok_209_2 : xc_209_2.all (xokR 209) = true := by decide +kernel
theorem xok_209 : xokC 209 = true := by
  show (xc_209_0 ++ (xc_209_1 ++ (xc_209_2))).all (xokR 209) = true
  simp only [List.all_append, xok_209_0, xok_209_1, xok_209_2, Bool.and_self]
theorem xok_210_0 : xc_210_0.all (xokR 210) = true := by decide +kernel
theorem xok_210_1 : xc_210_1.all (xokR 210) = true := by decide +kernel
theorem xok_210 : xokC 210 = true := by
  show (xc_210_0 ++ (xc_210_1)).all (xokR 210) = true
  simp only [List.all_append, xok_210_0, xok_210_1, Bool.and_self]
theorem xok_211 : xokC 211 = true := by decide +kernel
theorem xok_212_0 : xc_212_0.all (xokR 212) = true := by decide +kernel
theorem xok_212_1 : xc_212_1.all (xokR 212) = true := by decide +kernel
theorem xok_212 : xokC 212 = true := by
  show (xc_212_0 ++ (xc_212_1)).all (xokR 212) = true
  simp only [List.all_append, xok_212_0, xok_212_1, Bool.and_self]
theorem xok_213 : xokC 213 = true := by decide +kernel
theorem xok_214_0 : xc_214_0.all (xokR 214) = true := by decide +kernel
theorem xok_214_1 : xc_214_1.all (xokR 214) = true := by decide +kernel
theorem xok_214 : xokC 214 = true := by
  show (xc_214_0 ++ (xc_214_1)).all (xokR 214) = true
  simp only [List.all_append, xok_214_0, xok_214_1, Bool.and_self]
theorem xok_215_0 : xc_215_0.all (xokR 215) = true := by decide +kernel
theorem xok_215_1 : xc_215_1.all (xokR 215) = true := by decide +kernel
theorem xok_215 : xokC 215 = true := by
  show (xc_215_0 ++ (xc_215_1)).all (xokR 215) = true
  simp only [List.all_append, xok_215_0, xok_215_1, Bool.and_self]
theorem xok_216_0 : xc_216_0.all (xokR 216) = true := by decide +kernel
theorem xok_216_1 : xc_216_1.all (xokR 216) = true := by decide +kernel
theorem xok_216_2 : xc_216_2.all (xokR 216) = true := by decide +kernel
theorem xok_216 : xokC 216 = true := by
  show (xc_216_0 ++ (xc_216_1 ++ (xc_216_2))).all (xokR 216) = true
  simp only [List.all_append, xok_216_0, xok_216_1, xok_216_2, Bool.and_self]
theorem xok_217_0 : xc_217_0.all (xokR 217) = true := by decide +kernel
theorem xok_217_1 : xc_217_1.all (xokR 217) = true := by decide +kernel
theorem xok_217_2 : xc_217_2.all (xokR 217) = true := by decide +kernel
theorem xok_217_3 : xc_217_3.all (xokR 217) = true := by decide +kernel
theorem xok_217 : xokC 217 = true := by
  show (xc_217_0 ++ (xc_217_1 ++ (xc_217_2 ++ (xc_217_3)))).all (xokR 217) = true
  simp only [List.all_append, xok_217_0, xok_217_1, xok_217_2, xok_217_3, Bool.and_self]
theorem xok_218 : xokC 218 = true := by decide +kernel
theorem xok_219_0 : xc_219_0.all (xokR 219) = true := by decide +kernel
theorem xok_219_1 : xc_219_1.all (xokR 219) = true := by decide +kernel
theorem xok_219 : xokC 219 = true := by
  show (xc_219_0 ++ (xc_219_1)).all (xokR 219) = true
  simp only [List.all_append, xok_219_0, xok_219_1, Bool.and_self]
theorem xok_220_0 : xc_220_0.all (xokR 220) = true := by decide +kernel
theorem xok_220_1 : xc_220_1.all (xokR 220) = true := by decide +kernel
theorem xok_220 : xokC 220 = true := by
  show (xc_220_0 ++ (xc_220_1)).all (xokR 220) = true
  simp only [List.all_append, xok_220_0, xok_220_1, Bool.and_self]
theorem xok_221 : xokC 221 = true := by decide +kernel
theorem xok_222 : xokC 222 = true := by decide +kernel
theorem xok_223 : xokC 223 = true := by decide +kernel
theorem xok_224 : xokC 224 = true := by decide +kernel
theorem xok_225 : xokC 225 = true := by decide +kernel
theorem xok_226 : xokC 226 = true := by decide +kernel
theorem xok_227 : xokC 227 = true := by decide +kernel
theorem xok_228_0 : xc_228_0.all (xokR 228) = true := by decide +kernel
theorem xok_228_1 : xc_228_1.all (xokR 228) = true := by decide +kernel
theorem xok_228_2 : xc_228_2.all (xokR 228) = true := by decide +kernel
theorem xok_228_3 : xc_228_3.all (xokR 228) = true := by decide +kernel
theorem xok_228_4 : xc_228_4.all (xokR 228) = true := by decide +kernel
theorem xok_228_5 : xc_228_5.all (xokR 228) = true := by decide +kernel
theorem xok_228_6 : xc_228_6.all (xokR 228) = true := by decide +kernel
theorem xok_228_7 : xc_228_7.all (xokR 228) = true := by decide +kernel
theorem xok_228_8 : xc_228_8.all (xokR 228) = true := by decide +kernel
theorem xok_228_9 : xc_228_9.all (xokR 228) = true := by decide +kernel
theorem xok_228_10 : xc_228_10.all (xokR 228) = true := by decide +kernel
theorem xok_228_11 : xc_228_11.all (xokR 228) = true := by decide +kernel
theorem xok_228_12 : xc_228_12.all (xokR 228) = true := by decide +kernel
theorem xok_228_13 : xc_228_13.all (xokR 228) = true := by decide +kernel
theorem xok_228_14 : xc_228_14.all (xokR 228) = true := by decide +kernel
theorem xok_228_15 : xc_228_15.all (xokR 228) = true := by decide +kernel
theorem xok_228_16 : xc_228_16.all (xokR 228) = true := by decide +kernel
theorem xok_228_17 : xc_228_17.all (xokR 228) = true := by decide +kernel
theorem xok_228_18 : xc_228_18.all (xokR 228) = true := by decide +kernel
theorem xok_228 : xokC 228 = true := by
  show (xc_228_0 ++ (xc_228_1 ++ (xc_228_2 ++ (xc_228_3 ++ (xc_228_4 ++ (xc_228_5 ++ (xc_228_6 ++ (xc_228_7 ++ (xc_228_8 ++ (xc_228_9 ++ (xc_228_10 ++ (xc_228_11 ++ (xc_228_12 ++ (xc_228_13 ++ (xc_228_14 ++ (xc_228_15 ++ (xc_228_16 ++ (xc_228_17 ++ (xc_228_18))))))))))))))))))).all (xokR 228) = true
  simp only [List.all_append, xok_228_0, xok_228_1, xok_228_2, xok_228_3, xok_228_4, xok_228_5, xok_228_6, xok_228_7, xok_228_8, xok_228_9, xok_228_10, xok_228_11, xok_228_12, xok_228_13, xok_228_14, xok_228_15, xok_228_16, xok_228_17, xok_228_18, Bool.and_self]
theorem xokC_L0 : ∀ z ∈ ([0, 1, 2, 3, 4, 5, 6, 7, 8, 9, 10, 11, 12, 13, 14, 15, 16, 17, 18, 19] : List Nat), xokC z = true := List.forall_mem_cons.mpr ⟨xok_0, List.forall_mem_cons.mpr ⟨xok_1, List.forall_mem_cons.mpr ⟨xok_2, List.forall_mem_cons.mpr ⟨xok_3, List.forall_mem_cons.mpr ⟨xok_4, List.forall_mem_cons.mpr ⟨xok_5, List.forall_mem_cons.mpr ⟨xok_6, List.forall_mem_cons.mpr ⟨xok_7, List.forall_mem_cons.mpr ⟨xok_8, List.forall_mem_cons.mpr ⟨xok_9, List.forall_mem_cons.mpr ⟨xok_10, List.forall_mem_cons.mpr ⟨xok_11, List.forall_mem_cons.mpr ⟨xok_12, List.forall_mem_cons.mpr ⟨xok_13, List.forall_mem_cons.mpr ⟨xok_14, List.forall_mem_cons.mpr ⟨xok_15, List.forall_mem_cons.mpr ⟨xok_16, List.forall_mem_cons.mpr ⟨xok_17, List.forall_mem_cons.mpr ⟨xok_18, List.forall_mem_cons.mpr ⟨xok_19, fun _ h => absurd h List.not_mem_nil⟩⟩⟩⟩⟩⟩⟩⟩⟩⟩⟩⟩⟩⟩⟩⟩⟩⟩⟩⟩
theorem xokC_L20 : ∀ z ∈ ([20, 21, 22, 23, 24, 25, 26, 27, 28, 29, 30, 31, 32, 33, 34, 35, 36, 37, 38, 39] : List Nat), xokC z = true := List.forall_mem_cons.mpr ⟨xok_20, List.forall_mem_cons.mpr ⟨xok_21, List.forall_mem_cons.mpr ⟨xok_22, List.forall_mem_cons.mpr ⟨xok_23, List.forall_mem_cons.mpr ⟨xok_24, List.forall_mem_cons.mpr ⟨xok_25, List.forall_mem_cons.mpr ⟨xok_26, List.forall_mem_cons.mpr ⟨xok_27, List.forall_mem_cons.mpr ⟨xok_28, List.forall_mem_cons.mpr ⟨xok_29, List.forall_mem_cons.mpr ⟨xok_30, List.forall_mem_cons.mpr ⟨xok_31, List.forall_mem_cons.mpr ⟨xok_32, List.forall_mem_cons.mpr ⟨xok_33, List.forall_mem_cons.mpr ⟨xok_34, List.forall_mem_cons.mpr ⟨xok_35, List.forall_mem_cons.mpr ⟨xok_36, List.forall_mem_cons.mpr ⟨xok_37, List.forall_mem_cons.mpr ⟨xok_38, List.forall_mem_cons.mpr ⟨xok_39, fun _ h => absurd h List.not_mem_nil⟩⟩⟩⟩⟩⟩⟩⟩⟩⟩⟩⟩⟩⟩⟩⟩⟩⟩⟩⟩
theorem xokC_L40 : ∀ z ∈ ([40, 41, 42, 43, 44, 45, 46, 47, 48, 49, 50, 51, 52, 53, 54, 55, 56, 57, 58, 59] : List Nat), xokC z = true := List.forall_mem_cons.mpr ⟨xok_40, List.forall_mem_cons.mpr ⟨xok_41, List.forall_mem_cons.mpr ⟨xok_42, List.forall_mem_cons.mpr ⟨xok_43, List.forall_mem_cons.mpr ⟨xok_44, List.forall_mem_cons.mpr ⟨xok_45, List.forall_mem_cons.mpr ⟨xok_46, List.forall_mem_cons.mpr ⟨xok_47, List.forall_mem_cons.mpr ⟨xok_48, List.forall_mem_cons.mpr ⟨xok_49, List.forall_mem_cons.mpr ⟨xok_50, List.forall_mem_cons.mpr ⟨xok_51, List.forall_mem_cons.mpr ⟨xok_52, List.forall_mem_cons.mpr ⟨xok_53, List.forall_mem_cons.mpr ⟨xok_54, List.forall_mem_cons.mpr ⟨xok_55, List.forall_mem_cons.mpr ⟨xok_56, List.forall_mem_cons.mpr ⟨xok_57, List.forall_mem_cons.mpr ⟨xok_58, List.forall_mem_cons.mpr ⟨xok_59, fun _ h => absurd h List.not_mem_nil⟩⟩⟩⟩⟩⟩⟩⟩⟩⟩⟩⟩⟩⟩⟩⟩⟩⟩⟩⟩
theorem xokC_L60 : ∀ z ∈ ([60, 61, 62, 63, 64, 65, 66, 67, 68, 69, 70, 71, 72, 73, 74, 75, 76, 77, 78, 79] : List Nat), xokC z = true := List.forall_mem_cons.mpr ⟨xok_60, List.forall_mem_cons.mpr ⟨xok_61, List.forall_mem_cons.mpr ⟨xok_62, List.forall_mem_cons.mpr ⟨xok_63, List.forall_mem_cons.mpr ⟨xok_64, List.forall_mem_cons.mpr ⟨xok_65, List.forall_mem_cons.mpr ⟨xok_66, List.forall_mem_cons.mpr ⟨xok_67, List.forall_mem_cons.mpr ⟨xok_68, List.forall_mem_cons.mpr ⟨xok_69, List.forall_mem_cons.mpr ⟨xok_70, List.forall_mem_cons.mpr ⟨xok_71, List.forall_mem_cons.mpr ⟨xok_72, List.forall_mem_cons.mpr ⟨xok_73, List.forall_mem_cons.mpr ⟨xok_74, List.forall_mem_cons.mpr ⟨xok_75, List.forall_mem_cons.mpr ⟨xok_76, List.forall_mem_cons.mpr ⟨xok_77, List.forall_mem_cons.mpr ⟨xok_78, List.forall_mem_cons.mpr ⟨xok_79, fun _ h => absurd h List.not_mem_nil⟩⟩⟩⟩⟩⟩⟩⟩⟩⟩⟩⟩⟩⟩⟩⟩⟩⟩⟩⟩
theorem xokC_L80 : ∀ z ∈ ([80, 81, 82, 83, 84, 85, 86, 87, 88, 89, 90, 91, 92, 93, 94, 95, 96, 97, 98, 99] : List Nat), xokC z = true := List.forall_mem_cons.mpr ⟨xok_80, List.forall_mem_cons.mpr ⟨xok_81, List.forall_mem_cons.mpr ⟨xok_82, List.forall_mem_cons.mpr ⟨xok_83, List.forall_mem_cons.mpr ⟨xok_84, List.forall_mem_cons.mpr ⟨xok_85, List.forall_mem_cons.mpr ⟨xok_86, List.forall_mem_cons.mpr ⟨xok_87, List.forall_mem_cons.mpr ⟨xok_88, List.forall_mem_cons.mpr ⟨xok_89, List.forall_mem_cons.mpr ⟨xok_90, List.forall_mem_cons.mpr ⟨xok_91, List.forall_mem_cons.mpr ⟨xok_92, List.forall_mem_cons.mpr ⟨xok_93, List.forall_mem_cons.mpr ⟨xok_94, List.forall_mem_cons.mpr ⟨xok_95, List.forall_mem_cons.mpr ⟨xok_96, List.forall_mem_cons.mpr ⟨xok_97, List.forall_mem_cons.mpr ⟨xok_98, List.forall_mem_cons.mpr ⟨xok_99, fun _ h => absurd h List.not_mem_nil⟩⟩⟩⟩⟩⟩⟩⟩⟩⟩⟩⟩⟩⟩⟩⟩⟩⟩⟩⟩
theorem xokC_L100 : ∀ z ∈ ([100, 101, 102, 103, 104, 105, 106, 107, 108, 109, 110, 111, 112, 113, 114, 115, 116, 117, 118, 119] : List Nat), xokC z = true := List.forall_mem_cons.mpr ⟨xok_100, List.forall_mem_cons.mpr ⟨xok_101, List.forall_mem_cons.mpr ⟨xok_102, List.forall_mem_cons.mpr ⟨xok_103, List.forall_mem_cons.mpr ⟨xok_104, List.forall_mem_cons.mpr ⟨xok_105, List.forall_mem_cons.mpr ⟨xok_106, List.forall_mem_cons.mpr ⟨xok_107, List.forall_mem_cons.mpr ⟨xok_108, List.forall_mem_cons.mpr ⟨xok_109, List.forall_mem_cons.mpr ⟨xok_110, List.forall_mem_cons.mpr ⟨xok_111, List.forall_mem_cons.mpr ⟨xok_112, List.forall_mem_cons.mpr ⟨xok_113, List.forall_mem_cons.mpr ⟨xok_114, List.forall_mem_cons.mpr ⟨xok_115, List.forall_mem_cons.mpr ⟨xok_116, List.forall_mem_cons.mpr ⟨xok_117, List.forall_mem_cons.mpr ⟨xok_118, List.forall_mem_cons.mpr ⟨xok_119, fun _ h => absurd h List.not_mem_nil⟩⟩⟩⟩⟩⟩⟩⟩⟩⟩⟩⟩⟩⟩⟩⟩⟩⟩⟩⟩
theorem xokC_L120 : ∀ z ∈ ([120, 121, 122, 123, 124, 125, 126, 127, 128, 129, 130, 131, 132, 133, 134, 135, 136, 137, 138, 139] : List Nat), xokC z = true := List.forall_mem_cons.mpr ⟨xok_120, List.forall_mem_cons.mpr ⟨xok_121, List.forall_mem_cons.mpr ⟨xok_122, List.forall_mem_cons.mpr ⟨xok_123, List.forall_mem_cons.mpr ⟨xok_124, List.forall_mem_cons.mpr ⟨xok_125, List.forall_mem_cons.mpr ⟨xok_126, List.forall_mem_cons.mpr ⟨xok_127, List.forall_mem_cons.mpr ⟨xok_128, List.forall_mem_cons.mpr ⟨xok_129, List.forall_mem_cons.mpr ⟨xok_130, List.forall_mem_cons.mpr ⟨xok_131, List.forall_mem_cons.mpr ⟨xok_132, List.forall_mem_cons.mpr ⟨xok_133, List.forall_mem_cons.mpr ⟨xok_134, List.forall_mem_cons.mpr ⟨xok_135, List.forall_mem_cons.mpr ⟨xok_136, List.forall_mem_cons.mpr ⟨xok_137, List.forall_mem_cons.mpr ⟨xok_138, List.forall_mem_cons.mpr ⟨xok_139, fun _ h => absurd h List.not_mem_nil⟩⟩⟩⟩⟩⟩⟩⟩⟩⟩⟩⟩⟩⟩⟩⟩⟩⟩⟩⟩
theorem xokC_L140 : ∀ z ∈ ([140, 141, 142, 143, 144, 145, 146, 147, 148, 149, 150, 151, 152, 153, 154, 155, 156, 157, 158, 159] : List Nat), xokC z = true := List.forall_mem_cons.mpr ⟨xok_140, List.forall_mem_cons.mpr ⟨xok_141, List.forall_mem_cons.mpr ⟨xok_142, List.forall_mem_cons.mpr ⟨xok_143, List.forall_mem_cons.mpr ⟨xok_144, List.forall_mem_cons.mpr ⟨xok_145, List.forall_mem_cons.mpr ⟨xok_146, List.forall_mem_cons.mpr ⟨xok_147, List.forall_mem_cons.mpr ⟨xok_148, List.forall_mem_cons.mpr ⟨xok_149, List.forall_mem_cons.mpr ⟨xok_150, List.forall_mem_cons.mpr ⟨xok_151, List.forall_mem_cons.mpr ⟨xok_152, List.forall_mem_cons.mpr ⟨xok_153, List.forall_mem_cons.mpr ⟨xok_154, List.forall_mem_cons.mpr ⟨xok_155, List.forall_mem_cons.mpr ⟨xok_156, List.forall_mem_cons.mpr ⟨xok_157, List.forall_mem_cons.mpr ⟨xok_158, List.forall_mem_cons.mpr ⟨xok_159, fun _ h => absurd h List.not_mem_nil⟩⟩⟩⟩⟩⟩⟩⟩⟩⟩⟩⟩⟩⟩⟩⟩⟩⟩⟩⟩
theorem xokC_L160 : ∀ z ∈ ([160, 161, 162, 163, 164, 165, 166, 167, 168, 169, 170, 171, 172, 173, 174, 175, 176, 177, 178, 179] : List Nat), xokC z = true := List.forall_mem_cons.mpr ⟨xok_160, List.forall_mem_cons.mpr ⟨xok_161, List.forall_mem_cons.mpr ⟨xok_162, List.forall_mem_cons.mpr ⟨xok_163, List.forall_mem_cons.mpr ⟨xok_164, List.forall_mem_cons.mpr ⟨xok_165, List.forall_mem_cons.mpr ⟨xok_166, List.forall_mem_cons.mpr ⟨xok_167, List.forall_mem_cons.mpr ⟨xok_168, List.forall_mem_cons.mpr ⟨xok_169, List.forall_mem_cons.mpr ⟨xok_170, List.forall_mem_cons.mpr ⟨xok_171, List.forall_mem_cons.mpr ⟨xok_172, List.forall_mem_cons.mpr ⟨xok_173, List.forall_mem_cons.mpr ⟨xok_174, List.forall_mem_cons.mpr ⟨xok_175, List.forall_mem_cons.mpr ⟨xok_176, List.forall_mem_cons.mpr ⟨xok_177, List.forall_mem_cons.mpr ⟨xok_178, List.forall_mem_cons.mpr ⟨xok_179, fun _ h => absurd h List.not_mem_nil⟩⟩⟩⟩⟩⟩⟩⟩⟩⟩⟩⟩⟩⟩⟩⟩⟩⟩⟩⟩
theorem xokC_L180 : ∀ z ∈ ([180, 181, 182, 183, 184, 185, 186, 187, 188, 189, 190, 191, 192, 193, 194, 195, 196, 197, 198, 199] : List Nat), xokC z = true := List.forall_mem_cons.mpr ⟨xok_180, List.forall_mem_cons.mpr ⟨xok_181, List.forall_mem_cons.mpr ⟨xok_182, List.forall_mem_cons.mpr ⟨xok_183, List.forall_mem_cons.mpr ⟨xok_184, List.forall_mem_cons.mpr ⟨xok_185, List.forall_mem_cons.mpr ⟨xok_186, List.forall_mem_cons.mpr ⟨xok_187, List.forall_mem_cons.mpr ⟨xok_188, List.forall_mem_cons.mpr ⟨xok_189, List.forall_mem_cons.mpr ⟨xok_190, List.forall_mem_cons.mpr ⟨xok_191, List.forall_mem_cons.mpr ⟨xok_192, List.forall_mem_cons.mpr ⟨xok_193, List.forall_mem_cons.mpr ⟨xok_194, List.forall_mem_cons.mpr ⟨xok_195, List.forall_mem_cons.mpr ⟨xok_196, List.forall_mem_cons.mpr ⟨xok_197, List.forall_mem_cons.mpr ⟨xok_198, List.forall_mem_cons.mpr ⟨xok_199, fun _ h => absurd h List.not_mem_nil⟩⟩⟩⟩⟩⟩⟩⟩⟩⟩⟩⟩⟩⟩⟩⟩⟩⟩⟩⟩
theorem xokC_L200 : ∀ z ∈ ([200, 201, 202, 203, 204, 205, 206, 207, 208, 209, 210, 211, 212, 213, 214, 215, 216, 217, 218, 219] : List Nat), xokC z = true := List.forall_mem_cons.mpr ⟨xok_200, List.forall_mem_cons.mpr ⟨xok_201, List.forall_mem_cons.mpr ⟨xok_202, List.forall_mem_cons.mpr ⟨xok_203, List.forall_mem_cons.mpr ⟨xok_204, List.forall_mem_cons.mpr ⟨xok_205, List.forall_mem_cons.mpr ⟨xok_206, List.forall_mem_cons.mpr ⟨xok_207, List.forall_mem_cons.mpr ⟨xok_208, List.forall_mem_cons.mpr ⟨xok_209, List.forall_mem_cons.mpr ⟨xok_210, List.forall_mem_cons.mpr ⟨xok_211, List.forall_mem_cons.mpr ⟨xok_212, List.forall_mem_cons.mpr ⟨xok_213, List.forall_mem_cons.mpr ⟨xok_214, List.forall_mem_cons.mpr ⟨xok_215, List.forall_mem_cons.mpr ⟨xok_216, List.forall_mem_cons.mpr ⟨xok_217, List.forall_mem_cons.mpr ⟨xok_218, List.forall_mem_cons.mpr ⟨xok_219, fun _ h => absurd h List.not_mem_nil⟩⟩⟩⟩⟩⟩⟩⟩⟩⟩⟩⟩⟩⟩⟩⟩⟩⟩⟩⟩
theorem xokC_L220 : ∀ z ∈ ([220, 221, 222, 223, 224, 225, 226, 227, 228] : List Nat), xokC z = true := List.forall_mem_cons.mpr ⟨xok_220, List.forall_mem_cons.mpr ⟨xok_221, List.forall_mem_cons.mpr ⟨xok_222, List.forall_mem_cons.mpr ⟨xok_223, List.forall_mem_cons.mpr ⟨xok_224, List.forall_mem_cons.mpr ⟨xok_225, List.forall_mem_cons.mpr ⟨xok_226, List.forall_mem_cons.mpr ⟨xok_227, List.forall_mem_cons.mpr ⟨xok_228, fun _ h => absurd h List.not_mem_nil⟩⟩⟩⟩⟩⟩⟩⟩⟩
theorem xokC_all {z : Nat} (hz : z < 229) : xokC z = true := by
  rcases Nat.lt_or_ge z 20 with q | q
  · exact xokC_L0 z (by simp only [List.mem_cons, List.not_mem_nil]; omega)
  rcases Nat.lt_or_ge z 40 with q | q
  · exact xokC_L20 z (by simp only [List.mem_cons, List.not_mem_nil]; omega)
  rcases Nat.lt_or_ge z 60 with q | q
  · exact xokC_L40 z (by simp only [List.mem_cons, List.not_mem_nil]; omega)
  rcases Nat.lt_or_ge z 80 with q | q
  · exact xokC_L60 z (by simp only [List.mem_cons, List.not_mem_nil]; omega)
  rcases Nat.lt_or_ge z 100 with q | q
  · exact xokC_L80 z (by simp only [List.mem_cons, List.not_mem_nil]; omega)
  rcases Nat.lt_or_ge z 120 with q | q
  · exact xokC_L100 z (by simp only [List.mem_cons, List.not_mem_nil]; omega)
  rcases Nat.lt_or_ge z 140 with q | q
  · exact xokC_L120 z (by simp only [List.mem_cons, List.not_mem_nil]; omega)
  rcases Nat.lt_or_ge z 160 with q | q
  · exact xokC_L140 z (by simp only [List.mem_cons, List.not_mem_nil]; omega)
  rcases Nat.lt_or_ge z 180 with q | q
  · exact xokC_L160 z (by simp only [List.mem_cons, List.not_mem_nil]; omega)
  rcases Nat.lt_or_ge z 200 with q | q
  · exact xokC_L180 z (by simp only [List.mem_cons, List.not_mem_nil]; omega)
  rcases Nat.lt_or_ge z 220 with q | q
  · exact xokC_L200 z (by simp only [List.mem_cons, List.not_mem_nil]; omega)
  exact xokC_L220 z (by simp only [List.mem_cons, List.not_mem_nil]; omega)
