theorem dX8_ones_0 : decode cX8_ones 0 = .ok (.iconst 0, 1) := by decide +kernel
theorem dX8_ones_1 : decode cX8_ones 1 = .ok (.istore_n 1, 1) := by decide +kernel
theorem dX8_ones_2 : decode cX8_ones 2 = .ok (.iconst 0, 1) := by decide +kernel
theorem dX8_ones_3 : decode cX8_ones 3 = .ok (.istore_n 2, 1) := by decide +kernel
theorem dX8_ones_4 : decode cX8_ones 4 = .ok (.iload_n 2, 1) := by decide +kernel
theorem dX8_ones_5 : decode cX8_ones 5 = .ok (.bipush 8, 2) := by decide +kernel
theorem dX8_ones_7 : decode cX8_ones 7 = .ok (.if_icmp .ge 17, 3) := by decide +kernel
theorem dX8_ones_10 : decode cX8_ones 10 = .ok (.iload_n 1, 1) := by decide +kernel
theorem dX8_ones_11 : decode cX8_ones 11 = .ok (.iload_n 0, 1) := by decide +kernel
theorem dX8_ones_12 : decode cX8_ones 12 = .ok (.iload_n 2, 1) := by decide +kernel
theorem dX8_ones_13 : decode cX8_ones 13 = .ok (.ishr, 1) := by decide +kernel
theorem dX8_ones_14 : decode cX8_ones 14 = .ok (.iconst 1, 1) := by decide +kernel
theorem dX8_ones_15 : decode cX8_ones 15 = .ok (.iand, 1) := by decide +kernel
theorem dX8_ones_16 : decode cX8_ones 16 = .ok (.iadd, 1) := by decide +kernel
theorem dX8_ones_17 : decode cX8_ones 17 = .ok (.istore_n 1, 1) := by decide +kernel
theorem dX8_ones_18 : decode cX8_ones 18 = .ok (.iinc 2 1, 3) := by decide +kernel
theorem dX8_ones_21 : decode cX8_ones 21 = .ok (.goto (-17), 3) := by decide +kernel
theorem dX8_ones_24 : decode cX8_ones 24 = .ok (.iload_n 1, 1) := by decide +kernel
theorem dX8_ones_25 : decode cX8_ones 25 = .ok (.ireturn, 1) := by decide +kernel
theorem dX8_page_0 : decode cX8_page 0 = .ok (.aload_n 0, 1) := by decide +kernel
theorem dX8_page_1 : decode cX8_page 1 = .ok (.invokevirtual 115, 3) := by decide +kernel
theorem dX8_page_4 : decode cX8_page 4 = .ok (.aload_n 0, 1) := by decide +kernel
theorem dX8_page_5 : decode cX8_page 5 = .ok (.getfield 80, 3) := by decide +kernel
theorem dX8_page_8 : decode cX8_page 8 = .ok (.if_icmp .lt 10, 3) := by decide +kernel
theorem dX8_page_11 : decode cX8_page 11 = .ok (.aload_n 0, 1) := by decide +kernel
theorem dX8_page_12 : decode cX8_page 12 = .ok (.getfield 105, 3) := by decide +kernel
theorem dX8_page_15 : decode cX8_page 15 = .ok (.ifCond .ne 6, 3) := by decide +kernel
theorem dX8_page_18 : decode cX8_page 18 = .ok (.bipush (-103), 2) := by decide +kernel
theorem dX8_page_20 : decode cX8_page 20 = .ok (.ireturn, 1) := by decide +kernel
theorem dX8_page_21 : decode cX8_page 21 = .ok (.aload_n 0, 1) := by decide +kernel
theorem dX8_page_22 : decode cX8_page 22 = .ok (.aload_n 0, 1) := by decide +kernel
theorem dX8_page_23 : decode cX8_page 23 = .ok (.getfield 93, 3) := by decide +kernel
theorem dX8_page_26 : decode cX8_page 26 = .ok (.iconst 1, 1) := by decide +kernel
theorem dX8_page_27 : decode cX8_page 27 = .ok (.iadd, 1) := by decide +kernel
theorem dX8_page_28 : decode cX8_page 28 = .ok (.bipush 6, 2) := by decide +kernel
theorem dX8_page_30 : decode cX8_page 30 = .ok (.idiv, 1) := by decide +kernel
theorem dX8_page_31 : decode cX8_page 31 = .ok (.putfield 119, 3) := by decide +kernel
theorem dX8_page_34 : decode cX8_page 34 = .ok (.iconst 0, 1) := by decide +kernel
theorem dX8_page_35 : decode cX8_page 35 = .ok (.istore_n 1, 1) := by decide +kernel
theorem dX8_page_36 : decode cX8_page 36 = .ok (.iload_n 1, 1) := by decide +kernel
theorem dX8_page_37 : decode cX8_page 37 = .ok (.aload_n 0, 1) := by decide +kernel
theorem dX8_page_38 : decode cX8_page 38 = .ok (.getfield 119, 3) := by decide +kernel
theorem dX8_page_41 : decode cX8_page 41 = .ok (.if_icmp .ge 66, 3) := by decide +kernel
theorem dX8_page_44 : decode cX8_page 44 = .ok (.aload_n 0, 1) := by decide +kernel
theorem dX8_page_45 : decode cX8_page 45 = .ok (.getfield 13, 3) := by decide +kernel
theorem dX8_page_48 : decode cX8_page 48 = .ok (.iload_n 1, 1) := by decide +kernel
theorem dX8_page_49 : decode cX8_page 49 = .ok (.aload_n 0, 1) := by decide +kernel
theorem dX8_page_50 : decode cX8_page 50 = .ok (.getfield 7, 3) := by decide +kernel
theorem dX8_page_53 : decode cX8_page 53 = .ok (.bipush 6, 2) := by decide +kernel
theorem dX8_page_55 : decode cX8_page 55 = .ok (.iload_n 1, 1) := by decide +kernel
theorem dX8_page_56 : decode cX8_page 56 = .ok (.imul, 1) := by decide +kernel
theorem dX8_page_57 : decode cX8_page 57 = .ok (.iaload, 1) := by decide +kernel
theorem dX8_page_58 : decode cX8_page 58 = .ok (.invokestatic 83, 3) := by decide +kernel
theorem dX8_page_61 : decode cX8_page 61 = .ok (.iastore, 1) := by decide +kernel
theorem dX8_page_62 : decode cX8_page 62 = .ok (.iconst 0, 1) := by decide +kernel
theorem dX8_page_63 : decode cX8_page 63 = .ok (.istore_n 2, 1) := by decide +kernel
theorem dX8_page_64 : decode cX8_page 64 = .ok (.iload_n 2, 1) := by decide +kernel
theorem dX8_page_65 : decode cX8_page 65 = .ok (.iconst 4, 1) := by decide +kernel
theorem dX8_page_66 : decode cX8_page 66 = .ok (.if_icmp .ge 35, 3) := by decide +kernel
theorem dX8_page_69 : decode cX8_page 69 = .ok (.aload_n 0, 1) := by decide +kernel
theorem dX8_page_70 : decode cX8_page 70 = .ok (.getfield 16, 3) := by decide +kernel
theorem dX8_page_73 : decode cX8_page 73 = .ok (.iconst 4, 1) := by decide +kernel
theorem dX8_page_74 : decode cX8_page 74 = .ok (.iload_n 1, 1) := by decide +kernel
theorem dX8_page_75 : decode cX8_page 75 = .ok (.imul, 1) := by decide +kernel
theorem dX8_page_76 : decode cX8_page 76 = .ok (.iload_n 2, 1) := by decide +kernel
theorem dX8_page_77 : decode cX8_page 77 = .ok (.iadd, 1) := by decide +kernel
theorem dX8_page_78 : decode cX8_page 78 = .ok (.aload_n 0, 1) := by decide +kernel
theorem dX8_page_79 : decode cX8_page 79 = .ok (.getfield 7, 3) := by decide +kernel
theorem dX8_page_82 : decode cX8_page 82 = .ok (.bipush 6, 2) := by decide +kernel
theorem dX8_page_84 : decode cX8_page 84 = .ok (.iload_n 1, 1) := by decide +kernel
theorem dX8_page_85 : decode cX8_page 85 = .ok (.imul, 1) := by decide +kernel
theorem dX8_page_86 : decode cX8_page 86 = .ok (.iconst 1, 1) := by decide +kernel
theorem dX8_page_87 : decode cX8_page 87 = .ok (.iadd, 1) := by decide +kernel
theorem dX8_page_88 : decode cX8_page 88 = .ok (.iload_n 2, 1) := by decide +kernel
theorem dX8_page_89 : decode cX8_page 89 = .ok (.iadd, 1) := by decide +kernel
theorem dX8_page_90 : decode cX8_page 90 = .ok (.iaload, 1) := by decide +kernel
theorem dX8_page_91 : decode cX8_page 91 = .ok (.bipush 48, 2) := by decide +kernel
theorem dX8_page_93 : decode cX8_page 93 = .ok (.isub, 1) := by decide +kernel
theorem dX8_page_94 : decode cX8_page 94 = .ok (.iastore, 1) := by decide +kernel
theorem dX8_page_95 : decode cX8_page 95 = .ok (.iinc 2 1, 3) := by decide +kernel
theorem dX8_page_98 : decode cX8_page 98 = .ok (.goto (-34), 3) := by decide +kernel
theorem dX8_page_101 : decode cX8_page 101 = .ok (.iinc 1 1, 3) := by decide +kernel
theorem dX8_page_104 : decode cX8_page 104 = .ok (.goto (-68), 3) := by decide +kernel
theorem dX8_page_107 : decode cX8_page 107 = .ok (.aload_n 0, 1) := by decide +kernel
theorem dX8_page_108 : decode cX8_page 108 = .ok (.aload_n 0, 1) := by decide +kernel
theorem dX8_page_109 : decode cX8_page 109 = .ok (.getfield 105, 3) := by decide +kernel
theorem dX8_page_112 : decode cX8_page 112 = .ok (.putfield 122, 3) := by decide +kernel
theorem dX8_page_115 : decode cX8_page 115 = .ok (.iconst 0, 1) := by decide +kernel
theorem dX8_page_116 : decode cX8_page 116 = .ok (.istore_n 1, 1) := by decide +kernel
theorem dX8_page_117 : decode cX8_page 117 = .ok (.iload_n 1, 1) := by decide +kernel
theorem dX8_page_118 : decode cX8_page 118 = .ok (.aload_n 0, 1) := by decide +kernel
theorem dX8_page_119 : decode cX8_page 119 = .ok (.getfield 122, 3) := by decide +kernel
theorem dX8_page_122 : decode cX8_page 122 = .ok (.if_icmp .ge 31, 3) := by decide +kernel
theorem dX8_page_125 : decode cX8_page 125 = .ok (.aload_n 0, 1) := by decide +kernel
theorem dX8_page_126 : decode cX8_page 126 = .ok (.getfield 19, 3) := by decide +kernel
theorem dX8_page_129 : decode cX8_page 129 = .ok (.iload_n 1, 1) := by decide +kernel
theorem dX8_page_130 : decode cX8_page 130 = .ok (.aload_n 0, 1) := by decide +kernel
theorem dX8_page_131 : decode cX8_page 131 = .ok (.getfield 7, 3) := by decide +kernel
theorem dX8_page_134 : decode cX8_page 134 = .ok (.aload_n 0, 1) := by decide +kernel
theorem dX8_page_135 : decode cX8_page 135 = .ok (.getfield 93, 3) := by decide +kernel
theorem dX8_page_138 : decode cX8_page 138 = .ok (.iconst 1, 1) := by decide +kernel
theorem dX8_page_139 : decode cX8_page 139 = .ok (.iadd, 1) := by decide +kernel
theorem dX8_page_140 : decode cX8_page 140 = .ok (.iload_n 1, 1) := by decide +kernel
theorem dX8_page_141 : decode cX8_page 141 = .ok (.iadd, 1) := by decide +kernel
theorem dX8_page_142 : decode cX8_page 142 = .ok (.iaload, 1) := by decide +kernel
theorem dX8_page_143 : decode cX8_page 143 = .ok (.bipush 48, 2) := by decide +kernel
theorem dX8_page_145 : decode cX8_page 145 = .ok (.isub, 1) := by decide +kernel
theorem dX8_page_146 : decode cX8_page 146 = .ok (.iastore, 1) := by decide +kernel
theorem dX8_page_147 : decode cX8_page 147 = .ok (.iinc 1 1, 3) := by decide +kernel
theorem dX8_page_150 : decode cX8_page 150 = .ok (.goto (-33), 3) := by decide +kernel
theorem dX8_page_153 : decode cX8_page 153 = .ok (.aload_n 0, 1) := by decide +kernel
theorem dX8_page_154 : decode cX8_page 154 = .ok (.iconst 0, 1) := by decide +kernel
theorem dX8_page_155 : decode cX8_page 155 = .ok (.putfield 125, 3) := by decide +kernel
theorem dX8_page_158 : decode cX8_page 158 = .ok (.aload_n 0, 1) := by decide +kernel
theorem dX8_page_159 : decode cX8_page 159 = .ok (.dup, 1) := by decide +kernel
theorem dX8_page_160 : decode cX8_page 160 = .ok (.getfield 128, 3) := by decide +kernel
theorem dX8_page_163 : decode cX8_page 163 = .ok (.iconst 1, 1) := by decide +kernel
theorem dX8_page_164 : decode cX8_page 164 = .ok (.iadd, 1) := by decide +kernel
theorem dX8_page_165 : decode cX8_page 165 = .ok (.putfield 128, 3) := by decide +kernel
theorem dX8_page_168 : decode cX8_page 168 = .ok (.aload_n 0, 1) := by decide +kernel
theorem dX8_page_169 : decode cX8_page 169 = .ok (.iconst 0, 1) := by decide +kernel
theorem dX8_page_170 : decode cX8_page 170 = .ok (.putfield 80, 3) := by decide +kernel
theorem dX8_page_173 : decode cX8_page 173 = .ok (.aload_n 0, 1) := by decide +kernel
theorem dX8_page_174 : decode cX8_page 174 = .ok (.getfield 119, 3) := by decide +kernel
theorem dX8_page_177 : decode cX8_page 177 = .ok (.ireturn, 1) := by decide +kernel
theorem dX8_tryLane_0 : decode cX8_tryLane 0 = .ok (.iload 4, 2) := by decide +kernel
theorem dX8_tryLane_2 : decode cX8_tryLane 2 = .ok (.iload_n 3, 1) := by decide +kernel
theorem dX8_tryLane_3 : decode cX8_tryLane 3 = .ok (.isub, 1) := by decide +kernel
theorem dX8_tryLane_4 : decode cX8_tryLane 4 = .ok (.aload_n 0, 1) := by decide +kernel
theorem dX8_tryLane_5 : decode cX8_tryLane 5 = .ok (.getfield 139, 3) := by decide +kernel
theorem dX8_tryLane_8 : decode cX8_tryLane 8 = .ok (.if_icmp .gt 30, 3) := by decide +kernel
theorem dX8_tryLane_11 : decode cX8_tryLane 11 = .ok (.iload 4, 2) := by decide +kernel
theorem dX8_tryLane_13 : decode cX8_tryLane 13 = .ok (.iload_n 3, 1) := by decide +kernel
theorem dX8_tryLane_14 : decode cX8_tryLane 14 = .ok (.isub, 1) := by decide +kernel
theorem dX8_tryLane_15 : decode cX8_tryLane 15 = .ok (.aload_n 0, 1) := by decide +kernel
theorem dX8_tryLane_16 : decode cX8_tryLane 16 = .ok (.getfield 139, 3) := by decide +kernel
theorem dX8_tryLane_19 : decode cX8_tryLane 19 = .ok (.if_icmp .ne 23, 3) := by decide +kernel
theorem dX8_tryLane_22 : decode cX8_tryLane 22 = .ok (.iload_n 2, 1) := by decide +kernel
theorem dX8_tryLane_23 : decode cX8_tryLane 23 = .ok (.aload_n 0, 1) := by decide +kernel
theorem dX8_tryLane_24 : decode cX8_tryLane 24 = .ok (.getfield 142, 3) := by decide +kernel
theorem dX8_tryLane_27 : decode cX8_tryLane 27 = .ok (.if_icmp .ne 15, 3) := by decide +kernel
theorem dX8_tryLane_30 : decode cX8_tryLane 30 = .ok (.iload_n 3, 1) := by decide +kernel
theorem dX8_tryLane_31 : decode cX8_tryLane 31 = .ok (.aload_n 0, 1) := by decide +kernel
theorem dX8_tryLane_32 : decode cX8_tryLane 32 = .ok (.getfield 145, 3) := by decide +kernel
theorem dX8_tryLane_35 : decode cX8_tryLane 35 = .ok (.if_icmp .ge 7, 3) := by decide +kernel
theorem dX8_tryLane_38 : decode cX8_tryLane 38 = .ok (.iconst 1, 1) := by decide +kernel
theorem dX8_tryLane_39 : decode cX8_tryLane 39 = .ok (.goto 4, 3) := by decide +kernel
theorem dX8_tryLane_42 : decode cX8_tryLane 42 = .ok (.iconst 0, 1) := by decide +kernel
theorem dX8_tryLane_43 : decode cX8_tryLane 43 = .ok (.istore 5, 2) := by decide +kernel
theorem dX8_tryLane_45 : decode cX8_tryLane 45 = .ok (.iload 4, 2) := by decide +kernel
theorem dX8_tryLane_47 : decode cX8_tryLane 47 = .ok (.iload_n 3, 1) := by decide +kernel
theorem dX8_tryLane_48 : decode cX8_tryLane 48 = .ok (.if_icmp .le 38, 3) := by decide +kernel
theorem dX8_tryLane_51 : decode cX8_tryLane 51 = .ok (.iload 5, 2) := by decide +kernel
theorem dX8_tryLane_53 : decode cX8_tryLane 53 = .ok (.ifCond .eq 33, 3) := by decide +kernel
theorem dX8_tryLane_56 : decode cX8_tryLane 56 = .ok (.aload_n 0, 1) := by decide +kernel
theorem dX8_tryLane_57 : decode cX8_tryLane 57 = .ok (.iload_n 1, 1) := by decide +kernel
theorem dX8_tryLane_58 : decode cX8_tryLane 58 = .ok (.iload_n 2, 1) := by decide +kernel
theorem dX8_tryLane_59 : decode cX8_tryLane 59 = .ok (.iload_n 3, 1) := by decide +kernel
theorem dX8_tryLane_60 : decode cX8_tryLane 60 = .ok (.iload 4, 2) := by decide +kernel
theorem dX8_tryLane_62 : decode cX8_tryLane 62 = .ok (.invokevirtual 148, 3) := by decide +kernel
theorem dX8_tryLane_65 : decode cX8_tryLane 65 = .ok (.ifCond .eq 21, 3) := by decide +kernel
theorem dX8_tryLane_68 : decode cX8_tryLane 68 = .ok (.aload_n 0, 1) := by decide +kernel
theorem dX8_tryLane_69 : decode cX8_tryLane 69 = .ok (.iload_n 2, 1) := by decide +kernel
theorem dX8_tryLane_70 : decode cX8_tryLane 70 = .ok (.putfield 142, 3) := by decide +kernel
theorem dX8_tryLane_73 : decode cX8_tryLane 73 = .ok (.aload_n 0, 1) := by decide +kernel
theorem dX8_tryLane_74 : decode cX8_tryLane 74 = .ok (.iload_n 3, 1) := by decide +kernel
theorem dX8_tryLane_75 : decode cX8_tryLane 75 = .ok (.putfield 145, 3) := by decide +kernel
theorem dX8_tryLane_78 : decode cX8_tryLane 78 = .ok (.aload_n 0, 1) := by decide +kernel
theorem dX8_tryLane_79 : decode cX8_tryLane 79 = .ok (.iload 4, 2) := by decide +kernel
theorem dX8_tryLane_81 : decode cX8_tryLane 81 = .ok (.iload_n 3, 1) := by decide +kernel
theorem dX8_tryLane_82 : decode cX8_tryLane 82 = .ok (.isub, 1) := by decide +kernel
theorem dX8_tryLane_83 : decode cX8_tryLane 83 = .ok (.putfield 139, 3) := by decide +kernel
theorem dX8_tryLane_86 : decode cX8_tryLane 86 = .ok (.return_, 1) := by decide +kernel
theorem dX8_ruleOf_0 : decode cX8_ruleOf 0 = .ok (.iconst 0, 1) := by decide +kernel
theorem dX8_ruleOf_1 : decode cX8_ruleOf 1 = .ok (.istore_n 3, 1) := by decide +kernel
theorem dX8_ruleOf_2 : decode cX8_ruleOf 2 = .ok (.iload_n 3, 1) := by decide +kernel
theorem dX8_ruleOf_3 : decode cX8_ruleOf 3 = .ok (.aload_n 0, 1) := by decide +kernel
theorem dX8_ruleOf_4 : decode cX8_ruleOf 4 = .ok (.getfield 122, 3) := by decide +kernel
theorem dX8_ruleOf_7 : decode cX8_ruleOf 7 = .ok (.if_icmp .ge 31, 3) := by decide +kernel
theorem dX8_ruleOf_10 : decode cX8_ruleOf 10 = .ok (.aload_n 0, 1) := by decide +kernel
theorem dX8_ruleOf_11 : decode cX8_ruleOf 11 = .ok (.aload_n 0, 1) := by decide +kernel
theorem dX8_ruleOf_12 : decode cX8_ruleOf 12 = .ok (.getfield 19, 3) := by decide +kernel
theorem dX8_ruleOf_15 : decode cX8_ruleOf 15 = .ok (.iload_n 3, 1) := by decide +kernel
theorem dX8_ruleOf_16 : decode cX8_ruleOf 16 = .ok (.iaload, 1) := by decide +kernel
theorem dX8_ruleOf_17 : decode cX8_ruleOf 17 = .ok (.iload_n 1, 1) := by decide +kernel
theorem dX8_ruleOf_18 : decode cX8_ruleOf 18 = .ok (.iload_n 2, 1) := by decide +kernel
theorem dX8_ruleOf_19 : decode cX8_ruleOf 19 = .ok (.invokevirtual 159, 3) := by decide +kernel
theorem dX8_ruleOf_22 : decode cX8_ruleOf 22 = .ok (.ifCond .eq 10, 3) := by decide +kernel
theorem dX8_ruleOf_25 : decode cX8_ruleOf 25 = .ok (.aload_n 0, 1) := by decide +kernel
theorem dX8_ruleOf_26 : decode cX8_ruleOf 26 = .ok (.getfield 19, 3) := by decide +kernel
theorem dX8_ruleOf_29 : decode cX8_ruleOf 29 = .ok (.iload_n 3, 1) := by decide +kernel
theorem dX8_ruleOf_30 : decode cX8_ruleOf 30 = .ok (.iaload, 1) := by decide +kernel
theorem dX8_ruleOf_31 : decode cX8_ruleOf 31 = .ok (.ireturn, 1) := by decide +kernel
theorem dX8_ruleOf_32 : decode cX8_ruleOf 32 = .ok (.iinc 3 1, 3) := by decide +kernel
theorem dX8_ruleOf_35 : decode cX8_ruleOf 35 = .ok (.goto (-33), 3) := by decide +kernel
theorem dX8_ruleOf_38 : decode cX8_ruleOf 38 = .ok (.iconst 4, 1) := by decide +kernel
theorem dX8_ruleOf_39 : decode cX8_ruleOf 39 = .ok (.ireturn, 1) := by decide +kernel
theorem dX8_placeOf_0 : decode cX8_placeOf 0 = .ok (.iconst (-1), 1) := by decide +kernel
theorem dX8_placeOf_1 : decode cX8_placeOf 1 = .ok (.istore_n 2, 1) := by decide +kernel
theorem dX8_placeOf_2 : decode cX8_placeOf 2 = .ok (.iconst 0, 1) := by decide +kernel
theorem dX8_placeOf_3 : decode cX8_placeOf 3 = .ok (.istore_n 3, 1) := by decide +kernel
theorem dX8_placeOf_4 : decode cX8_placeOf 4 = .ok (.iload_n 3, 1) := by decide +kernel
theorem dX8_placeOf_5 : decode cX8_placeOf 5 = .ok (.aload_n 0, 1) := by decide +kernel
theorem dX8_placeOf_6 : decode cX8_placeOf 6 = .ok (.getfield 166, 3) := by decide +kernel
theorem dX8_placeOf_9 : decode cX8_placeOf 9 = .ok (.if_icmp .ge 25, 3) := by decide +kernel
theorem dX8_placeOf_12 : decode cX8_placeOf 12 = .ok (.aload_n 0, 1) := by decide +kernel
theorem dX8_placeOf_13 : decode cX8_placeOf 13 = .ok (.getfield 25, 3) := by decide +kernel
theorem dX8_placeOf_16 : decode cX8_placeOf 16 = .ok (.iload_n 3, 1) := by decide +kernel
theorem dX8_placeOf_17 : decode cX8_placeOf 17 = .ok (.iaload, 1) := by decide +kernel
theorem dX8_placeOf_18 : decode cX8_placeOf 18 = .ok (.iload_n 1, 1) := by decide +kernel
theorem dX8_placeOf_19 : decode cX8_placeOf 19 = .ok (.if_icmp .ne 7, 3) := by decide +kernel
theorem dX8_placeOf_22 : decode cX8_placeOf 22 = .ok (.iload_n 3, 1) := by decide +kernel
theorem dX8_placeOf_23 : decode cX8_placeOf 23 = .ok (.goto 4, 3) := by decide +kernel
theorem dX8_placeOf_26 : decode cX8_placeOf 26 = .ok (.iload_n 2, 1) := by decide +kernel
theorem dX8_placeOf_27 : decode cX8_placeOf 27 = .ok (.istore_n 2, 1) := by decide +kernel
theorem dX8_placeOf_28 : decode cX8_placeOf 28 = .ok (.iinc 3 1, 3) := by decide +kernel
theorem dX8_placeOf_31 : decode cX8_placeOf 31 = .ok (.goto (-27), 3) := by decide +kernel
theorem dX8_placeOf_34 : decode cX8_placeOf 34 = .ok (.iload_n 2, 1) := by decide +kernel
theorem dX8_placeOf_35 : decode cX8_placeOf 35 = .ok (.ireturn, 1) := by decide +kernel
theorem dX8_tellBox_0 : decode cX8_tellBox 0 = .ok (.aload_n 0, 1) := by decide +kernel
theorem dX8_tellBox_1 : decode cX8_tellBox 1 = .ok (.invokevirtual 201, 3) := by decide +kernel
theorem dX8_tellBox_4 : decode cX8_tellBox 4 = .ok (.iload_n 2, 1) := by decide +kernel
theorem dX8_tellBox_5 : decode cX8_tellBox 5 = .ok (.tableswitch 107 0 9 #[55, 62, 62, 62, 62, 75, 81, 88, 95, 101], 55) := by decide +kernel
theorem dX8_tellBox_60 : decode cX8_tellBox 60 = .ok (.aload_n 0, 1) := by decide +kernel
theorem dX8_tellBox_61 : decode cX8_tellBox 61 = .ok (.getfield 13, 3) := by decide +kernel
theorem dX8_tellBox_64 : decode cX8_tellBox 64 = .ok (.iload_n 1, 1) := by decide +kernel
theorem dX8_tellBox_65 : decode cX8_tellBox 65 = .ok (.iaload, 1) := by decide +kernel
theorem dX8_tellBox_66 : decode cX8_tellBox 66 = .ok (.ireturn, 1) := by decide +kernel
theorem dX8_tellBox_67 : decode cX8_tellBox 67 = .ok (.aload_n 0, 1) := by decide +kernel
theorem dX8_tellBox_68 : decode cX8_tellBox 68 = .ok (.getfield 16, 3) := by decide +kernel
theorem dX8_tellBox_71 : decode cX8_tellBox 71 = .ok (.iconst 4, 1) := by decide +kernel
theorem dX8_tellBox_72 : decode cX8_tellBox 72 = .ok (.iload_n 1, 1) := by decide +kernel
theorem dX8_tellBox_73 : decode cX8_tellBox 73 = .ok (.imul, 1) := by decide +kernel
theorem dX8_tellBox_74 : decode cX8_tellBox 74 = .ok (.iload_n 2, 1) := by decide +kernel
theorem dX8_tellBox_75 : decode cX8_tellBox 75 = .ok (.iadd, 1) := by decide +kernel
theorem dX8_tellBox_76 : decode cX8_tellBox 76 = .ok (.iconst 1, 1) := by decide +kernel
theorem dX8_tellBox_77 : decode cX8_tellBox 77 = .ok (.isub, 1) := by decide +kernel
theorem dX8_tellBox_78 : decode cX8_tellBox 78 = .ok (.iaload, 1) := by decide +kernel
theorem dX8_tellBox_79 : decode cX8_tellBox 79 = .ok (.ireturn, 1) := by decide +kernel
theorem dX8_tellBox_80 : decode cX8_tellBox 80 = .ok (.aload_n 0, 1) := by decide +kernel
theorem dX8_tellBox_81 : decode cX8_tellBox 81 = .ok (.iload_n 1, 1) := by decide +kernel
theorem dX8_tellBox_82 : decode cX8_tellBox 82 = .ok (.invokevirtual 204, 3) := by decide +kernel
theorem dX8_tellBox_85 : decode cX8_tellBox 85 = .ok (.ireturn, 1) := by decide +kernel
theorem dX8_tellBox_86 : decode cX8_tellBox 86 = .ok (.aload_n 0, 1) := by decide +kernel
theorem dX8_tellBox_87 : decode cX8_tellBox 87 = .ok (.getfield 22, 3) := by decide +kernel
theorem dX8_tellBox_90 : decode cX8_tellBox 90 = .ok (.iload_n 1, 1) := by decide +kernel
theorem dX8_tellBox_91 : decode cX8_tellBox 91 = .ok (.iaload, 1) := by decide +kernel
theorem dX8_tellBox_92 : decode cX8_tellBox 92 = .ok (.ireturn, 1) := by decide +kernel
theorem dX8_tellBox_93 : decode cX8_tellBox 93 = .ok (.aload_n 0, 1) := by decide +kernel
theorem dX8_tellBox_94 : decode cX8_tellBox 94 = .ok (.getfield 34, 3) := by decide +kernel
theorem dX8_tellBox_97 : decode cX8_tellBox 97 = .ok (.iload_n 1, 1) := by decide +kernel
theorem dX8_tellBox_98 : decode cX8_tellBox 98 = .ok (.iaload, 1) := by decide +kernel
theorem dX8_tellBox_99 : decode cX8_tellBox 99 = .ok (.ireturn, 1) := by decide +kernel
theorem dX8_tellBox_100 : decode cX8_tellBox 100 = .ok (.aload_n 0, 1) := by decide +kernel
theorem dX8_tellBox_101 : decode cX8_tellBox 101 = .ok (.iload_n 1, 1) := by decide +kernel
theorem dX8_tellBox_102 : decode cX8_tellBox 102 = .ok (.invokevirtual 207, 3) := by decide +kernel
theorem dX8_tellBox_105 : decode cX8_tellBox 105 = .ok (.ireturn, 1) := by decide +kernel
theorem dX8_tellBox_106 : decode cX8_tellBox 106 = .ok (.aload_n 0, 1) := by decide +kernel
theorem dX8_tellBox_107 : decode cX8_tellBox 107 = .ok (.iload_n 1, 1) := by decide +kernel
theorem dX8_tellBox_108 : decode cX8_tellBox 108 = .ok (.invokevirtual 210, 3) := by decide +kernel
theorem dX8_tellBox_111 : decode cX8_tellBox 111 = .ok (.ireturn, 1) := by decide +kernel
theorem dX8_tellBox_112 : decode cX8_tellBox 112 = .ok (.bipush (-102), 2) := by decide +kernel
theorem dX8_tellBox_114 : decode cX8_tellBox 114 = .ok (.ireturn, 1) := by decide +kernel
theorem dX8_order_0 : decode cX8_order 0 = .ok (.aload_n 0, 1) := by decide +kernel
theorem dX8_order_1 : decode cX8_order 1 = .ok (.iload_n 1, 1) := by decide +kernel
theorem dX8_order_2 : decode cX8_order 2 = .ok (.invokevirtual 213, 3) := by decide +kernel
theorem dX8_order_5 : decode cX8_order 5 = .ok (.ifCond .ne 6, 3) := by decide +kernel
theorem dX8_order_8 : decode cX8_order 8 = .ok (.bipush (-101), 2) := by decide +kernel
theorem dX8_order_10 : decode cX8_order 10 = .ok (.ireturn, 1) := by decide +kernel
theorem dX8_order_11 : decode cX8_order 11 = .ok (.aload_n 0, 1) := by decide +kernel
theorem dX8_order_12 : decode cX8_order 12 = .ok (.invokevirtual 201, 3) := by decide +kernel
theorem dX8_order_15 : decode cX8_order 15 = .ok (.aload_n 0, 1) := by decide +kernel
theorem dX8_order_16 : decode cX8_order 16 = .ok (.getfield 25, 3) := by decide +kernel
theorem dX8_order_19 : decode cX8_order 19 = .ok (.iload_n 1, 1) := by decide +kernel
theorem dX8_order_20 : decode cX8_order 20 = .ok (.iaload, 1) := by decide +kernel
theorem dX8_order_21 : decode cX8_order 21 = .ok (.ireturn, 1) := by decide +kernel
theorem dX8_why_0 : decode cX8_why 0 = .ok (.aload_n 0, 1) := by decide +kernel
theorem dX8_why_1 : decode cX8_why 1 = .ok (.iload_n 1, 1) := by decide +kernel
theorem dX8_why_2 : decode cX8_why 2 = .ok (.invokevirtual 213, 3) := by decide +kernel
theorem dX8_why_5 : decode cX8_why 5 = .ok (.ifCond .eq 16, 3) := by decide +kernel
theorem dX8_why_8 : decode cX8_why 8 = .ok (.aload_n 0, 1) := by decide +kernel
theorem dX8_why_9 : decode cX8_why 9 = .ok (.iload_n 2, 1) := by decide +kernel
theorem dX8_why_10 : decode cX8_why 10 = .ok (.invokevirtual 213, 3) := by decide +kernel
theorem dX8_why_13 : decode cX8_why 13 = .ok (.ifCond .eq 8, 3) := by decide +kernel
theorem dX8_why_16 : decode cX8_why 16 = .ok (.iload_n 1, 1) := by decide +kernel
theorem dX8_why_17 : decode cX8_why 17 = .ok (.iload_n 2, 1) := by decide +kernel
theorem dX8_why_18 : decode cX8_why 18 = .ok (.if_icmp .ne 6, 3) := by decide +kernel
theorem dX8_why_21 : decode cX8_why 21 = .ok (.bipush (-101), 2) := by decide +kernel
theorem dX8_why_23 : decode cX8_why 23 = .ok (.ireturn, 1) := by decide +kernel
theorem dX8_why_24 : decode cX8_why 24 = .ok (.aload_n 0, 1) := by decide +kernel
theorem dX8_why_25 : decode cX8_why 25 = .ok (.invokevirtual 201, 3) := by decide +kernel
theorem dX8_why_28 : decode cX8_why 28 = .ok (.aload_n 0, 1) := by decide +kernel
theorem dX8_why_29 : decode cX8_why 29 = .ok (.iload_n 1, 1) := by decide +kernel
theorem dX8_why_30 : decode cX8_why 30 = .ok (.invokevirtual 204, 3) := by decide +kernel
theorem dX8_why_33 : decode cX8_why 33 = .ok (.aload_n 0, 1) := by decide +kernel
theorem dX8_why_34 : decode cX8_why 34 = .ok (.iload_n 2, 1) := by decide +kernel
theorem dX8_why_35 : decode cX8_why 35 = .ok (.invokevirtual 204, 3) := by decide +kernel
theorem dX8_why_38 : decode cX8_why 38 = .ok (.if_icmp .ge 7, 3) := by decide +kernel
theorem dX8_why_41 : decode cX8_why 41 = .ok (.iload_n 1, 1) := by decide +kernel
theorem dX8_why_42 : decode cX8_why 42 = .ok (.goto 4, 3) := by decide +kernel
theorem dX8_why_45 : decode cX8_why 45 = .ok (.iload_n 2, 1) := by decide +kernel
theorem dX8_why_46 : decode cX8_why 46 = .ok (.istore_n 3, 1) := by decide +kernel
theorem dX8_why_47 : decode cX8_why 47 = .ok (.aload_n 0, 1) := by decide +kernel
theorem dX8_why_48 : decode cX8_why 48 = .ok (.getfield 22, 3) := by decide +kernel
theorem dX8_why_51 : decode cX8_why 51 = .ok (.iload_n 1, 1) := by decide +kernel
theorem dX8_why_52 : decode cX8_why 52 = .ok (.iaload, 1) := by decide +kernel
theorem dX8_why_53 : decode cX8_why 53 = .ok (.iconst (-1), 1) := by decide +kernel
theorem dX8_why_54 : decode cX8_why 54 = .ok (.if_icmp .ne 13, 3) := by decide +kernel
theorem dX8_why_57 : decode cX8_why 57 = .ok (.aload_n 0, 1) := by decide +kernel
theorem dX8_why_58 : decode cX8_why 58 = .ok (.getfield 22, 3) := by decide +kernel
theorem dX8_why_61 : decode cX8_why 61 = .ok (.iload_n 2, 1) := by decide +kernel
theorem dX8_why_62 : decode cX8_why 62 = .ok (.iaload, 1) := by decide +kernel
theorem dX8_why_63 : decode cX8_why 63 = .ok (.iconst (-1), 1) := by decide +kernel
theorem dX8_why_64 : decode cX8_why 64 = .ok (.if_icmp .eq 8, 3) := by decide +kernel
theorem dX8_why_67 : decode cX8_why 67 = .ok (.bipush 6, 2) := by decide +kernel
theorem dX8_why_69 : decode cX8_why 69 = .ok (.goto 28, 3) := by decide +kernel
theorem dX8_why_72 : decode cX8_why 72 = .ok (.aload_n 0, 1) := by decide +kernel
theorem dX8_why_73 : decode cX8_why 73 = .ok (.getfield 31, 3) := by decide +kernel
theorem dX8_why_76 : decode cX8_why 76 = .ok (.iload_n 1, 1) := by decide +kernel
theorem dX8_why_77 : decode cX8_why 77 = .ok (.iaload, 1) := by decide +kernel
theorem dX8_why_78 : decode cX8_why 78 = .ok (.aload_n 0, 1) := by decide +kernel
theorem dX8_why_79 : decode cX8_why 79 = .ok (.getfield 31, 3) := by decide +kernel
theorem dX8_why_82 : decode cX8_why 82 = .ok (.iload_n 2, 1) := by decide +kernel
theorem dX8_why_83 : decode cX8_why 83 = .ok (.iaload, 1) := by decide +kernel
theorem dX8_why_84 : decode cX8_why 84 = .ok (.if_icmp .eq 7, 3) := by decide +kernel
theorem dX8_why_87 : decode cX8_why 87 = .ok (.iconst 5, 1) := by decide +kernel
theorem dX8_why_88 : decode cX8_why 88 = .ok (.goto 9, 3) := by decide +kernel
theorem dX8_why_91 : decode cX8_why 91 = .ok (.aload_n 0, 1) := by decide +kernel
theorem dX8_why_92 : decode cX8_why 92 = .ok (.iload_n 1, 1) := by decide +kernel
theorem dX8_why_93 : decode cX8_why 93 = .ok (.iload_n 2, 1) := by decide +kernel
theorem dX8_why_94 : decode cX8_why 94 = .ok (.invokevirtual 163, 3) := by decide +kernel
theorem dX8_why_97 : decode cX8_why 97 = .ok (.istore 4, 2) := by decide +kernel
theorem dX8_why_99 : decode cX8_why 99 = .ok (.bipush 10, 2) := by decide +kernel
theorem dX8_why_101 : decode cX8_why 101 = .ok (.iload_n 3, 1) := by decide +kernel
theorem dX8_why_102 : decode cX8_why 102 = .ok (.imul, 1) := by decide +kernel
theorem dX8_why_103 : decode cX8_why 103 = .ok (.iload 4, 2) := by decide +kernel
theorem dX8_why_105 : decode cX8_why 105 = .ok (.iadd, 1) := by decide +kernel
theorem dX8_why_106 : decode cX8_why 106 = .ok (.ireturn, 1) := by decide +kernel
theorem dX8_rankOf_0 : decode cX8_rankOf 0 = .ok (.sipush 1000, 3) := by decide +kernel
theorem dX8_rankOf_3 : decode cX8_rankOf 3 = .ok (.iload_n 2, 1) := by decide +kernel
theorem dX8_rankOf_4 : decode cX8_rankOf 4 = .ok (.isub, 1) := by decide +kernel
theorem dX8_rankOf_5 : decode cX8_rankOf 5 = .ok (.sipush 2000, 3) := by decide +kernel
theorem dX8_rankOf_8 : decode cX8_rankOf 8 = .ok (.imul, 1) := by decide +kernel
theorem dX8_rankOf_9 : decode cX8_rankOf 9 = .ok (.iconst 1, 1) := by decide +kernel
theorem dX8_rankOf_10 : decode cX8_rankOf 10 = .ok (.iload_n 0, 1) := by decide +kernel
theorem dX8_rankOf_11 : decode cX8_rankOf 11 = .ok (.isub, 1) := by decide +kernel
theorem dX8_rankOf_12 : decode cX8_rankOf 12 = .ok (.sipush 1000, 3) := by decide +kernel
theorem dX8_rankOf_15 : decode cX8_rankOf 15 = .ok (.imul, 1) := by decide +kernel
theorem dX8_rankOf_16 : decode cX8_rankOf 16 = .ok (.iadd, 1) := by decide +kernel
theorem dX8_rankOf_17 : decode cX8_rankOf 17 = .ok (.iload_n 1, 1) := by decide +kernel
theorem dX8_rankOf_18 : decode cX8_rankOf 18 = .ok (.iadd, 1) := by decide +kernel
theorem dX8_rankOf_19 : decode cX8_rankOf 19 = .ok (.ireturn, 1) := by decide +kernel
theorem dX8_nextLane_0 : decode cX8_nextLane 0 = .ok (.iconst (-1), 1) := by decide +kernel
theorem dX8_nextLane_1 : decode cX8_nextLane 1 = .ok (.istore_n 3, 1) := by decide +kernel
theorem dX8_nextLane_2 : decode cX8_nextLane 2 = .ok (.iconst 0, 1) := by decide +kernel
theorem dX8_nextLane_3 : decode cX8_nextLane 3 = .ok (.istore 4, 2) := by decide +kernel
theorem dX8_nextLane_5 : decode cX8_nextLane 5 = .ok (.iload 4, 2) := by decide +kernel
theorem dX8_nextLane_7 : decode cX8_nextLane 7 = .ok (.sipush 128, 3) := by decide +kernel
theorem dX8_nextLane_10 : decode cX8_nextLane 10 = .ok (.if_icmp .ge 152, 3) := by decide +kernel
theorem dX8_nextLane_13 : decode cX8_nextLane 13 = .ok (.iload 4, 2) := by decide +kernel
theorem dX8_nextLane_15 : decode cX8_nextLane 15 = .ok (.bipush 64, 2) := by decide +kernel
theorem dX8_nextLane_17 : decode cX8_nextLane 17 = .ok (.idiv, 1) := by decide +kernel
theorem dX8_nextLane_18 : decode cX8_nextLane 18 = .ok (.istore 5, 2) := by decide +kernel
theorem dX8_nextLane_20 : decode cX8_nextLane 20 = .ok (.iload 4, 2) := by decide +kernel
theorem dX8_nextLane_22 : decode cX8_nextLane 22 = .ok (.bipush 8, 2) := by decide +kernel
theorem dX8_nextLane_24 : decode cX8_nextLane 24 = .ok (.idiv, 1) := by decide +kernel
theorem dX8_nextLane_25 : decode cX8_nextLane 25 = .ok (.bipush 8, 2) := by decide +kernel
theorem dX8_nextLane_27 : decode cX8_nextLane 27 = .ok (.irem, 1) := by decide +kernel
theorem dX8_nextLane_28 : decode cX8_nextLane 28 = .ok (.istore 6, 2) := by decide +kernel
theorem dX8_nextLane_30 : decode cX8_nextLane 30 = .ok (.iload 4, 2) := by decide +kernel
theorem dX8_nextLane_32 : decode cX8_nextLane 32 = .ok (.bipush 8, 2) := by decide +kernel
theorem dX8_nextLane_34 : decode cX8_nextLane 34 = .ok (.irem, 1) := by decide +kernel
theorem dX8_nextLane_35 : decode cX8_nextLane 35 = .ok (.istore 7, 2) := by decide +kernel
theorem dX8_nextLane_37 : decode cX8_nextLane 37 = .ok (.iload_n 1, 1) := by decide +kernel
theorem dX8_nextLane_38 : decode cX8_nextLane 38 = .ok (.iload 6, 2) := by decide +kernel
theorem dX8_nextLane_40 : decode cX8_nextLane 40 = .ok (.invokestatic 101, 3) := by decide +kernel
theorem dX8_nextLane_43 : decode cX8_nextLane 43 = .ok (.ifCond .eq 113, 3) := by decide +kernel
theorem dX8_nextLane_46 : decode cX8_nextLane 46 = .ok (.iload_n 1, 1) := by decide +kernel
theorem dX8_nextLane_47 : decode cX8_nextLane 47 = .ok (.iload 7, 2) := by decide +kernel
theorem dX8_nextLane_49 : decode cX8_nextLane 49 = .ok (.invokestatic 101, 3) := by decide +kernel
theorem dX8_nextLane_52 : decode cX8_nextLane 52 = .ok (.ifCond .eq 104, 3) := by decide +kernel
theorem dX8_nextLane_55 : decode cX8_nextLane 55 = .ok (.aload_n 0, 1) := by decide +kernel
theorem dX8_nextLane_56 : decode cX8_nextLane 56 = .ok (.getfield 16, 3) := by decide +kernel
theorem dX8_nextLane_59 : decode cX8_nextLane 59 = .ok (.iconst 4, 1) := by decide +kernel
theorem dX8_nextLane_60 : decode cX8_nextLane 60 = .ok (.iload 6, 2) := by decide +kernel
theorem dX8_nextLane_62 : decode cX8_nextLane 62 = .ok (.imul, 1) := by decide +kernel
theorem dX8_nextLane_63 : decode cX8_nextLane 63 = .ok (.iconst 2, 1) := by decide +kernel
theorem dX8_nextLane_64 : decode cX8_nextLane 64 = .ok (.iadd, 1) := by decide +kernel
theorem dX8_nextLane_65 : decode cX8_nextLane 65 = .ok (.iload 5, 2) := by decide +kernel
theorem dX8_nextLane_67 : decode cX8_nextLane 67 = .ok (.iadd, 1) := by decide +kernel
theorem dX8_nextLane_68 : decode cX8_nextLane 68 = .ok (.iaload, 1) := by decide +kernel
theorem dX8_nextLane_69 : decode cX8_nextLane 69 = .ok (.istore 8, 2) := by decide +kernel
theorem dX8_nextLane_71 : decode cX8_nextLane 71 = .ok (.aload_n 0, 1) := by decide +kernel
theorem dX8_nextLane_72 : decode cX8_nextLane 72 = .ok (.getfield 16, 3) := by decide +kernel
theorem dX8_nextLane_75 : decode cX8_nextLane 75 = .ok (.iconst 4, 1) := by decide +kernel
theorem dX8_nextLane_76 : decode cX8_nextLane 76 = .ok (.iload 7, 2) := by decide +kernel
theorem dX8_nextLane_78 : decode cX8_nextLane 78 = .ok (.imul, 1) := by decide +kernel
theorem dX8_nextLane_79 : decode cX8_nextLane 79 = .ok (.iload 5, 2) := by decide +kernel
theorem dX8_nextLane_81 : decode cX8_nextLane 81 = .ok (.iadd, 1) := by decide +kernel
theorem dX8_nextLane_82 : decode cX8_nextLane 82 = .ok (.iaload, 1) := by decide +kernel
theorem dX8_nextLane_83 : decode cX8_nextLane 83 = .ok (.istore 9, 2) := by decide +kernel
theorem dX8_nextLane_85 : decode cX8_nextLane 85 = .ok (.iload 5, 2) := by decide +kernel
theorem dX8_nextLane_87 : decode cX8_nextLane 87 = .ok (.iload 8, 2) := by decide +kernel
theorem dX8_nextLane_89 : decode cX8_nextLane 89 = .ok (.iload 9, 2) := by decide +kernel
theorem dX8_nextLane_91 : decode cX8_nextLane 91 = .ok (.iload 8, 2) := by decide +kernel
theorem dX8_nextLane_93 : decode cX8_nextLane 93 = .ok (.isub, 1) := by decide +kernel
theorem dX8_nextLane_94 : decode cX8_nextLane 94 = .ok (.invokestatic 221, 3) := by decide +kernel
theorem dX8_nextLane_97 : decode cX8_nextLane 97 = .ok (.istore 10, 2) := by decide +kernel
theorem dX8_nextLane_99 : decode cX8_nextLane 99 = .ok (.iload 9, 2) := by decide +kernel
theorem dX8_nextLane_101 : decode cX8_nextLane 101 = .ok (.iload 8, 2) := by decide +kernel
theorem dX8_nextLane_103 : decode cX8_nextLane 103 = .ok (.if_icmp .le 24, 3) := by decide +kernel
theorem dX8_nextLane_106 : decode cX8_nextLane 106 = .ok (.iload 10, 2) := by decide +kernel
theorem dX8_nextLane_108 : decode cX8_nextLane 108 = .ok (.iload_n 2, 1) := by decide +kernel
theorem dX8_nextLane_109 : decode cX8_nextLane 109 = .ok (.if_icmp .le 18, 3) := by decide +kernel
theorem dX8_nextLane_112 : decode cX8_nextLane 112 = .ok (.iload_n 3, 1) := by decide +kernel
theorem dX8_nextLane_113 : decode cX8_nextLane 113 = .ok (.iconst (-1), 1) := by decide +kernel
theorem dX8_nextLane_114 : decode cX8_nextLane 114 = .ok (.if_icmp .eq 9, 3) := by decide +kernel
theorem dX8_nextLane_117 : decode cX8_nextLane 117 = .ok (.iload 10, 2) := by decide +kernel
theorem dX8_nextLane_119 : decode cX8_nextLane 119 = .ok (.iload_n 3, 1) := by decide +kernel
theorem dX8_nextLane_120 : decode cX8_nextLane 120 = .ok (.if_icmp .ge 7, 3) := by decide +kernel
theorem dX8_nextLane_123 : decode cX8_nextLane 123 = .ok (.iconst 1, 1) := by decide +kernel
theorem dX8_nextLane_124 : decode cX8_nextLane 124 = .ok (.goto 4, 3) := by decide +kernel
theorem dX8_nextLane_127 : decode cX8_nextLane 127 = .ok (.iconst 0, 1) := by decide +kernel
theorem dX8_nextLane_128 : decode cX8_nextLane 128 = .ok (.istore 11, 2) := by decide +kernel
theorem dX8_nextLane_130 : decode cX8_nextLane 130 = .ok (.iload 11, 2) := by decide +kernel
theorem dX8_nextLane_132 : decode cX8_nextLane 132 = .ok (.ifCond .eq 22, 3) := by decide +kernel
theorem dX8_nextLane_135 : decode cX8_nextLane 135 = .ok (.aload_n 0, 1) := by decide +kernel
theorem dX8_nextLane_136 : decode cX8_nextLane 136 = .ok (.iload_n 1, 1) := by decide +kernel
theorem dX8_nextLane_137 : decode cX8_nextLane 137 = .ok (.iload 5, 2) := by decide +kernel
theorem dX8_nextLane_139 : decode cX8_nextLane 139 = .ok (.iload 8, 2) := by decide +kernel
theorem dX8_nextLane_141 : decode cX8_nextLane 141 = .ok (.iload 9, 2) := by decide +kernel
theorem dX8_nextLane_143 : decode cX8_nextLane 143 = .ok (.invokevirtual 148, 3) := by decide +kernel
theorem dX8_nextLane_146 : decode cX8_nextLane 146 = .ok (.ifCond .eq 8, 3) := by decide +kernel
theorem dX8_nextLane_149 : decode cX8_nextLane 149 = .ok (.iload 10, 2) := by decide +kernel
theorem dX8_nextLane_151 : decode cX8_nextLane 151 = .ok (.goto 4, 3) := by decide +kernel
theorem dX8_nextLane_154 : decode cX8_nextLane 154 = .ok (.iload_n 3, 1) := by decide +kernel
theorem dX8_nextLane_155 : decode cX8_nextLane 155 = .ok (.istore_n 3, 1) := by decide +kernel
theorem dX8_nextLane_156 : decode cX8_nextLane 156 = .ok (.iinc 4 1, 3) := by decide +kernel
theorem dX8_nextLane_159 : decode cX8_nextLane 159 = .ok (.goto (-154), 3) := by decide +kernel
theorem dX8_nextLane_162 : decode cX8_nextLane 162 = .ok (.iload_n 3, 1) := by decide +kernel
theorem dX8_nextLane_163 : decode cX8_nextLane 163 = .ok (.ireturn, 1) := by decide +kernel
theorem dX8_put_0 : decode cX8_put 0 = .ok (.iload_n 1, 1) := by decide +kernel
theorem dX8_put_1 : decode cX8_put 1 = .ok (.i2l, 1) := by decide +kernel
theorem dX8_put_2 : decode cX8_put 2 = .ok (.lconst 0, 1) := by decide +kernel
theorem dX8_put_3 : decode cX8_put 3 = .ok (.ldc2_w 230, 3) := by decide +kernel
theorem dX8_put_6 : decode cX8_put 6 = .ok (.invokestatic 76, 3) := by decide +kernel
theorem dX8_put_9 : decode cX8_put 9 = .ok (.ifCond .eq 15, 3) := by decide +kernel
theorem dX8_put_12 : decode cX8_put 12 = .ok (.iload_n 2, 1) := by decide +kernel
theorem dX8_put_13 : decode cX8_put 13 = .ok (.i2l, 1) := by decide +kernel
theorem dX8_put_14 : decode cX8_put 14 = .ok (.lconst 0, 1) := by decide +kernel
theorem dX8_put_15 : decode cX8_put 15 = .ok (.ldc2_w 230, 3) := by decide +kernel
theorem dX8_put_18 : decode cX8_put 18 = .ok (.invokestatic 76, 3) := by decide +kernel
theorem dX8_put_21 : decode cX8_put 21 = .ok (.ifCond .ne 6, 3) := by decide +kernel
theorem dX8_put_24 : decode cX8_put 24 = .ok (.bipush (-102), 2) := by decide +kernel
theorem dX8_put_26 : decode cX8_put 26 = .ok (.ireturn, 1) := by decide +kernel
theorem dX8_put_27 : decode cX8_put 27 = .ok (.aload_n 0, 1) := by decide +kernel
theorem dX8_put_28 : decode cX8_put 28 = .ok (.invokevirtual 232, 3) := by decide +kernel
theorem dX8_put_31 : decode cX8_put 31 = .ok (.ifCond .eq 6, 3) := by decide +kernel
theorem dX8_put_34 : decode cX8_put 34 = .ok (.bipush (-103), 2) := by decide +kernel
theorem dX8_put_36 : decode cX8_put 36 = .ok (.ireturn, 1) := by decide +kernel
theorem dX8_put_37 : decode cX8_put 37 = .ok (.aload_n 0, 1) := by decide +kernel
theorem dX8_put_38 : decode cX8_put 38 = .ok (.getfield 119, 3) := by decide +kernel
theorem dX8_put_41 : decode cX8_put 41 = .ok (.bipush 8, 2) := by decide +kernel
theorem dX8_put_43 : decode cX8_put 43 = .ok (.if_icmp .ne 6, 3) := by decide +kernel
theorem dX8_put_46 : decode cX8_put 46 = .ok (.bipush (-104), 2) := by decide +kernel
theorem dX8_put_48 : decode cX8_put 48 = .ok (.ireturn, 1) := by decide +kernel
theorem dX8_put_49 : decode cX8_put 49 = .ok (.aload_n 0, 1) := by decide +kernel
theorem dX8_put_50 : decode cX8_put 50 = .ok (.getfield 13, 3) := by decide +kernel
theorem dX8_put_53 : decode cX8_put 53 = .ok (.aload_n 0, 1) := by decide +kernel
theorem dX8_put_54 : decode cX8_put 54 = .ok (.getfield 119, 3) := by decide +kernel
theorem dX8_put_57 : decode cX8_put 57 = .ok (.iconst 0, 1) := by decide +kernel
theorem dX8_put_58 : decode cX8_put 58 = .ok (.iastore, 1) := by decide +kernel
theorem dX8_put_59 : decode cX8_put 59 = .ok (.aload_n 0, 1) := by decide +kernel
theorem dX8_put_60 : decode cX8_put 60 = .ok (.getfield 16, 3) := by decide +kernel
theorem dX8_put_63 : decode cX8_put 63 = .ok (.iconst 4, 1) := by decide +kernel
theorem dX8_put_64 : decode cX8_put 64 = .ok (.aload_n 0, 1) := by decide +kernel
theorem dX8_put_65 : decode cX8_put 65 = .ok (.getfield 119, 3) := by decide +kernel
theorem dX8_put_68 : decode cX8_put 68 = .ok (.imul, 1) := by decide +kernel
theorem dX8_put_69 : decode cX8_put 69 = .ok (.iload_n 1, 1) := by decide +kernel
theorem dX8_put_70 : decode cX8_put 70 = .ok (.iastore, 1) := by decide +kernel
theorem dX8_put_71 : decode cX8_put 71 = .ok (.aload_n 0, 1) := by decide +kernel
theorem dX8_put_72 : decode cX8_put 72 = .ok (.getfield 16, 3) := by decide +kernel
theorem dX8_put_75 : decode cX8_put 75 = .ok (.iconst 4, 1) := by decide +kernel
theorem dX8_put_76 : decode cX8_put 76 = .ok (.aload_n 0, 1) := by decide +kernel
theorem dX8_put_77 : decode cX8_put 77 = .ok (.getfield 119, 3) := by decide +kernel
theorem dX8_put_80 : decode cX8_put 80 = .ok (.imul, 1) := by decide +kernel
theorem dX8_put_81 : decode cX8_put 81 = .ok (.iconst 1, 1) := by decide +kernel
theorem dX8_put_82 : decode cX8_put 82 = .ok (.iadd, 1) := by decide +kernel
theorem dX8_put_83 : decode cX8_put 83 = .ok (.iload_n 2, 1) := by decide +kernel
theorem dX8_put_84 : decode cX8_put 84 = .ok (.iastore, 1) := by decide +kernel
theorem dX8_put_85 : decode cX8_put 85 = .ok (.aload_n 0, 1) := by decide +kernel
theorem dX8_put_86 : decode cX8_put 86 = .ok (.getfield 16, 3) := by decide +kernel
theorem dX8_put_89 : decode cX8_put 89 = .ok (.iconst 4, 1) := by decide +kernel
theorem dX8_put_90 : decode cX8_put 90 = .ok (.aload_n 0, 1) := by decide +kernel
theorem dX8_put_91 : decode cX8_put 91 = .ok (.getfield 119, 3) := by decide +kernel
theorem dX8_put_94 : decode cX8_put 94 = .ok (.imul, 1) := by decide +kernel
theorem dX8_put_95 : decode cX8_put 95 = .ok (.iconst 2, 1) := by decide +kernel
theorem dX8_put_96 : decode cX8_put 96 = .ok (.iadd, 1) := by decide +kernel
theorem dX8_put_97 : decode cX8_put 97 = .ok (.iload_n 1, 1) := by decide +kernel
theorem dX8_put_98 : decode cX8_put 98 = .ok (.iconst 2, 1) := by decide +kernel
theorem dX8_put_99 : decode cX8_put 99 = .ok (.iadd, 1) := by decide +kernel
theorem dX8_put_100 : decode cX8_put 100 = .ok (.iastore, 1) := by decide +kernel
theorem dX8_put_101 : decode cX8_put 101 = .ok (.aload_n 0, 1) := by decide +kernel
theorem dX8_put_102 : decode cX8_put 102 = .ok (.getfield 16, 3) := by decide +kernel
theorem dX8_put_105 : decode cX8_put 105 = .ok (.iconst 4, 1) := by decide +kernel
theorem dX8_put_106 : decode cX8_put 106 = .ok (.aload_n 0, 1) := by decide +kernel
theorem dX8_put_107 : decode cX8_put 107 = .ok (.getfield 119, 3) := by decide +kernel
theorem dX8_put_110 : decode cX8_put 110 = .ok (.imul, 1) := by decide +kernel
theorem dX8_put_111 : decode cX8_put 111 = .ok (.iconst 3, 1) := by decide +kernel
theorem dX8_put_112 : decode cX8_put 112 = .ok (.iadd, 1) := by decide +kernel
theorem dX8_put_113 : decode cX8_put 113 = .ok (.iload_n 2, 1) := by decide +kernel
theorem dX8_put_114 : decode cX8_put 114 = .ok (.iconst 2, 1) := by decide +kernel
theorem dX8_put_115 : decode cX8_put 115 = .ok (.iadd, 1) := by decide +kernel
theorem dX8_put_116 : decode cX8_put 116 = .ok (.iastore, 1) := by decide +kernel
theorem dX8_put_117 : decode cX8_put 117 = .ok (.aload_n 0, 1) := by decide +kernel
theorem dX8_put_118 : decode cX8_put 118 = .ok (.dup, 1) := by decide +kernel
theorem dX8_put_119 : decode cX8_put 119 = .ok (.getfield 119, 3) := by decide +kernel
theorem dX8_put_122 : decode cX8_put 122 = .ok (.iconst 1, 1) := by decide +kernel
theorem dX8_put_123 : decode cX8_put 123 = .ok (.iadd, 1) := by decide +kernel
theorem dX8_put_124 : decode cX8_put 124 = .ok (.putfield 119, 3) := by decide +kernel
theorem dX8_put_127 : decode cX8_put 127 = .ok (.aload_n 0, 1) := by decide +kernel
theorem dX8_put_128 : decode cX8_put 128 = .ok (.getfield 119, 3) := by decide +kernel
theorem dX8_put_131 : decode cX8_put 131 = .ok (.ireturn, 1) := by decide +kernel
theorem dX8_take_0 : decode cX8_take 0 = .ok (.aload_n 0, 1) := by decide +kernel
theorem dX8_take_1 : decode cX8_take 1 = .ok (.iload_n 1, 1) := by decide +kernel
theorem dX8_take_2 : decode cX8_take 2 = .ok (.invokevirtual 213, 3) := by decide +kernel
theorem dX8_take_5 : decode cX8_take 5 = .ok (.ifCond .ne 6, 3) := by decide +kernel
theorem dX8_take_8 : decode cX8_take 8 = .ok (.bipush (-101), 2) := by decide +kernel
theorem dX8_take_10 : decode cX8_take 10 = .ok (.ireturn, 1) := by decide +kernel
theorem dX8_take_11 : decode cX8_take 11 = .ok (.aload_n 0, 1) := by decide +kernel
theorem dX8_take_12 : decode cX8_take 12 = .ok (.getfield 119, 3) := by decide +kernel
theorem dX8_take_15 : decode cX8_take 15 = .ok (.iconst 1, 1) := by decide +kernel
theorem dX8_take_16 : decode cX8_take 16 = .ok (.if_icmp .ne 6, 3) := by decide +kernel
theorem dX8_take_19 : decode cX8_take 19 = .ok (.bipush (-103), 2) := by decide +kernel
theorem dX8_take_21 : decode cX8_take 21 = .ok (.ireturn, 1) := by decide +kernel
theorem dX8_take_22 : decode cX8_take 22 = .ok (.aload_n 0, 1) := by decide +kernel
theorem dX8_take_23 : decode cX8_take 23 = .ok (.dup, 1) := by decide +kernel
theorem dX8_take_24 : decode cX8_take 24 = .ok (.getfield 119, 3) := by decide +kernel
theorem dX8_take_27 : decode cX8_take 27 = .ok (.iconst 1, 1) := by decide +kernel
theorem dX8_take_28 : decode cX8_take 28 = .ok (.isub, 1) := by decide +kernel
theorem dX8_take_29 : decode cX8_take 29 = .ok (.putfield 119, 3) := by decide +kernel
theorem dX8_take_32 : decode cX8_take 32 = .ok (.iload_n 1, 1) := by decide +kernel
theorem dX8_take_33 : decode cX8_take 33 = .ok (.istore_n 2, 1) := by decide +kernel
theorem dX8_take_34 : decode cX8_take 34 = .ok (.iload_n 2, 1) := by decide +kernel
theorem dX8_take_35 : decode cX8_take 35 = .ok (.aload_n 0, 1) := by decide +kernel
theorem dX8_take_36 : decode cX8_take 36 = .ok (.getfield 119, 3) := by decide +kernel
theorem dX8_take_39 : decode cX8_take 39 = .ok (.if_icmp .ge 58, 3) := by decide +kernel
theorem dX8_take_42 : decode cX8_take 42 = .ok (.aload_n 0, 1) := by decide +kernel
theorem dX8_take_43 : decode cX8_take 43 = .ok (.getfield 13, 3) := by decide +kernel
theorem dX8_take_46 : decode cX8_take 46 = .ok (.iload_n 2, 1) := by decide +kernel
theorem dX8_take_47 : decode cX8_take 47 = .ok (.aload_n 0, 1) := by decide +kernel
theorem dX8_take_48 : decode cX8_take 48 = .ok (.getfield 13, 3) := by decide +kernel
theorem dX8_take_51 : decode cX8_take 51 = .ok (.iload_n 2, 1) := by decide +kernel
theorem dX8_take_52 : decode cX8_take 52 = .ok (.iconst 1, 1) := by decide +kernel
theorem dX8_take_53 : decode cX8_take 53 = .ok (.iadd, 1) := by decide +kernel
theorem dX8_take_54 : decode cX8_take 54 = .ok (.iaload, 1) := by decide +kernel
theorem dX8_take_55 : decode cX8_take 55 = .ok (.iastore, 1) := by decide +kernel
theorem dX8_take_56 : decode cX8_take 56 = .ok (.iconst 0, 1) := by decide +kernel
theorem dX8_take_57 : decode cX8_take 57 = .ok (.istore_n 3, 1) := by decide +kernel
theorem dX8_take_58 : decode cX8_take 58 = .ok (.iload_n 3, 1) := by decide +kernel
theorem dX8_take_59 : decode cX8_take 59 = .ok (.iconst 4, 1) := by decide +kernel
theorem dX8_take_60 : decode cX8_take 60 = .ok (.if_icmp .ge 31, 3) := by decide +kernel
theorem dX8_take_63 : decode cX8_take 63 = .ok (.aload_n 0, 1) := by decide +kernel
theorem dX8_take_64 : decode cX8_take 64 = .ok (.getfield 16, 3) := by decide +kernel
theorem dX8_take_67 : decode cX8_take 67 = .ok (.iconst 4, 1) := by decide +kernel
theorem dX8_take_68 : decode cX8_take 68 = .ok (.iload_n 2, 1) := by decide +kernel
theorem dX8_take_69 : decode cX8_take 69 = .ok (.imul, 1) := by decide +kernel
theorem dX8_take_70 : decode cX8_take 70 = .ok (.iload_n 3, 1) := by decide +kernel
theorem dX8_take_71 : decode cX8_take 71 = .ok (.iadd, 1) := by decide +kernel
theorem dX8_take_72 : decode cX8_take 72 = .ok (.aload_n 0, 1) := by decide +kernel
theorem dX8_take_73 : decode cX8_take 73 = .ok (.getfield 16, 3) := by decide +kernel
theorem dX8_take_76 : decode cX8_take 76 = .ok (.iconst 4, 1) := by decide +kernel
theorem dX8_take_77 : decode cX8_take 77 = .ok (.iload_n 2, 1) := by decide +kernel
theorem dX8_take_78 : decode cX8_take 78 = .ok (.imul, 1) := by decide +kernel
theorem dX8_take_79 : decode cX8_take 79 = .ok (.iconst 4, 1) := by decide +kernel
theorem dX8_take_80 : decode cX8_take 80 = .ok (.iadd, 1) := by decide +kernel
theorem dX8_take_81 : decode cX8_take 81 = .ok (.iload_n 3, 1) := by decide +kernel
theorem dX8_take_82 : decode cX8_take 82 = .ok (.iadd, 1) := by decide +kernel
theorem dX8_take_83 : decode cX8_take 83 = .ok (.iaload, 1) := by decide +kernel
theorem dX8_take_84 : decode cX8_take 84 = .ok (.iastore, 1) := by decide +kernel
theorem dX8_take_85 : decode cX8_take 85 = .ok (.iinc 3 1, 3) := by decide +kernel
theorem dX8_take_88 : decode cX8_take 88 = .ok (.goto (-30), 3) := by decide +kernel
theorem dX8_take_91 : decode cX8_take 91 = .ok (.iinc 2 1, 3) := by decide +kernel
theorem dX8_take_94 : decode cX8_take 94 = .ok (.goto (-60), 3) := by decide +kernel
theorem dX8_take_97 : decode cX8_take 97 = .ok (.aload_n 0, 1) := by decide +kernel
theorem dX8_take_98 : decode cX8_take 98 = .ok (.getfield 119, 3) := by decide +kernel
theorem dX8_take_101 : decode cX8_take 101 = .ok (.ireturn, 1) := by decide +kernel
theorem dX8_shift_0 : decode cX8_shift 0 = .ok (.aload_n 0, 1) := by decide +kernel
theorem dX8_shift_1 : decode cX8_shift 1 = .ok (.getfield 16, 3) := by decide +kernel
theorem dX8_shift_4 : decode cX8_shift 4 = .ok (.iconst 4, 1) := by decide +kernel
theorem dX8_shift_5 : decode cX8_shift 5 = .ok (.iload_n 1, 1) := by decide +kernel
theorem dX8_shift_6 : decode cX8_shift 6 = .ok (.imul, 1) := by decide +kernel
theorem dX8_shift_7 : decode cX8_shift 7 = .ok (.dup2, 1) := by decide +kernel
theorem dX8_shift_8 : decode cX8_shift 8 = .ok (.iaload, 1) := by decide +kernel
theorem dX8_shift_9 : decode cX8_shift 9 = .ok (.iload_n 2, 1) := by decide +kernel
theorem dX8_shift_10 : decode cX8_shift 10 = .ok (.iadd, 1) := by decide +kernel
theorem dX8_shift_11 : decode cX8_shift 11 = .ok (.iastore, 1) := by decide +kernel
theorem dX8_shift_12 : decode cX8_shift 12 = .ok (.aload_n 0, 1) := by decide +kernel
theorem dX8_shift_13 : decode cX8_shift 13 = .ok (.getfield 16, 3) := by decide +kernel
theorem dX8_shift_16 : decode cX8_shift 16 = .ok (.iconst 4, 1) := by decide +kernel
theorem dX8_shift_17 : decode cX8_shift 17 = .ok (.iload_n 1, 1) := by decide +kernel
theorem dX8_shift_18 : decode cX8_shift 18 = .ok (.imul, 1) := by decide +kernel
theorem dX8_shift_19 : decode cX8_shift 19 = .ok (.iconst 1, 1) := by decide +kernel
theorem dX8_shift_20 : decode cX8_shift 20 = .ok (.iadd, 1) := by decide +kernel
theorem dX8_shift_21 : decode cX8_shift 21 = .ok (.dup2, 1) := by decide +kernel
theorem dX8_shift_22 : decode cX8_shift 22 = .ok (.iaload, 1) := by decide +kernel
theorem dX8_shift_23 : decode cX8_shift 23 = .ok (.iload_n 3, 1) := by decide +kernel
theorem dX8_shift_24 : decode cX8_shift 24 = .ok (.iadd, 1) := by decide +kernel
theorem dX8_shift_25 : decode cX8_shift 25 = .ok (.iastore, 1) := by decide +kernel
theorem dX8_shift_26 : decode cX8_shift 26 = .ok (.aload_n 0, 1) := by decide +kernel
theorem dX8_shift_27 : decode cX8_shift 27 = .ok (.getfield 16, 3) := by decide +kernel
theorem dX8_shift_30 : decode cX8_shift 30 = .ok (.iconst 4, 1) := by decide +kernel
theorem dX8_shift_31 : decode cX8_shift 31 = .ok (.iload_n 1, 1) := by decide +kernel
theorem dX8_shift_32 : decode cX8_shift 32 = .ok (.imul, 1) := by decide +kernel
theorem dX8_shift_33 : decode cX8_shift 33 = .ok (.iconst 2, 1) := by decide +kernel
theorem dX8_shift_34 : decode cX8_shift 34 = .ok (.iadd, 1) := by decide +kernel
theorem dX8_shift_35 : decode cX8_shift 35 = .ok (.dup2, 1) := by decide +kernel
theorem dX8_shift_36 : decode cX8_shift 36 = .ok (.iaload, 1) := by decide +kernel
theorem dX8_shift_37 : decode cX8_shift 37 = .ok (.iload_n 2, 1) := by decide +kernel
theorem dX8_shift_38 : decode cX8_shift 38 = .ok (.iadd, 1) := by decide +kernel
theorem dX8_shift_39 : decode cX8_shift 39 = .ok (.iastore, 1) := by decide +kernel
theorem dX8_shift_40 : decode cX8_shift 40 = .ok (.aload_n 0, 1) := by decide +kernel
theorem dX8_shift_41 : decode cX8_shift 41 = .ok (.getfield 16, 3) := by decide +kernel
theorem dX8_shift_44 : decode cX8_shift 44 = .ok (.iconst 4, 1) := by decide +kernel
theorem dX8_shift_45 : decode cX8_shift 45 = .ok (.iload_n 1, 1) := by decide +kernel
theorem dX8_shift_46 : decode cX8_shift 46 = .ok (.imul, 1) := by decide +kernel
theorem dX8_shift_47 : decode cX8_shift 47 = .ok (.iconst 3, 1) := by decide +kernel
theorem dX8_shift_48 : decode cX8_shift 48 = .ok (.iadd, 1) := by decide +kernel
theorem dX8_shift_49 : decode cX8_shift 49 = .ok (.dup2, 1) := by decide +kernel
theorem dX8_shift_50 : decode cX8_shift 50 = .ok (.iaload, 1) := by decide +kernel
theorem dX8_shift_51 : decode cX8_shift 51 = .ok (.iload_n 3, 1) := by decide +kernel
theorem dX8_shift_52 : decode cX8_shift 52 = .ok (.iadd, 1) := by decide +kernel
theorem dX8_shift_53 : decode cX8_shift 53 = .ok (.iastore, 1) := by decide +kernel
theorem dX8_shift_54 : decode cX8_shift 54 = .ok (.return_, 1) := by decide +kernel
theorem dX8_move_0 : decode cX8_move 0 = .ok (.aload_n 0, 1) := by decide +kernel
theorem dX8_move_1 : decode cX8_move 1 = .ok (.iload_n 1, 1) := by decide +kernel
theorem dX8_move_2 : decode cX8_move 2 = .ok (.invokevirtual 213, 3) := by decide +kernel
theorem dX8_move_5 : decode cX8_move 5 = .ok (.ifCond .ne 6, 3) := by decide +kernel
theorem dX8_move_8 : decode cX8_move 8 = .ok (.bipush (-101), 2) := by decide +kernel
theorem dX8_move_10 : decode cX8_move 10 = .ok (.ireturn, 1) := by decide +kernel
theorem dX8_move_11 : decode cX8_move 11 = .ok (.iload_n 2, 1) := by decide +kernel
theorem dX8_move_12 : decode cX8_move 12 = .ok (.i2l, 1) := by decide +kernel
theorem dX8_move_13 : decode cX8_move 13 = .ok (.ldc2_w 236, 3) := by decide +kernel
theorem dX8_move_16 : decode cX8_move 16 = .ok (.ldc2_w 238, 3) := by decide +kernel
theorem dX8_move_19 : decode cX8_move 19 = .ok (.invokestatic 76, 3) := by decide +kernel
theorem dX8_move_22 : decode cX8_move 22 = .ok (.ifCond .eq 17, 3) := by decide +kernel
theorem dX8_move_25 : decode cX8_move 25 = .ok (.iload_n 3, 1) := by decide +kernel
theorem dX8_move_26 : decode cX8_move 26 = .ok (.i2l, 1) := by decide +kernel
theorem dX8_move_27 : decode cX8_move 27 = .ok (.ldc2_w 236, 3) := by decide +kernel
theorem dX8_move_30 : decode cX8_move 30 = .ok (.ldc2_w 238, 3) := by decide +kernel
theorem dX8_move_33 : decode cX8_move 33 = .ok (.invokestatic 76, 3) := by decide +kernel
theorem dX8_move_36 : decode cX8_move 36 = .ok (.ifCond .ne 6, 3) := by decide +kernel
theorem dX8_move_39 : decode cX8_move 39 = .ok (.bipush (-102), 2) := by decide +kernel
theorem dX8_move_41 : decode cX8_move 41 = .ok (.ireturn, 1) := by decide +kernel
theorem dX8_move_42 : decode cX8_move 42 = .ok (.aload_n 0, 1) := by decide +kernel
theorem dX8_move_43 : decode cX8_move 43 = .ok (.getfield 16, 3) := by decide +kernel
theorem dX8_move_46 : decode cX8_move 46 = .ok (.iconst 4, 1) := by decide +kernel
theorem dX8_move_47 : decode cX8_move 47 = .ok (.iload_n 1, 1) := by decide +kernel
theorem dX8_move_48 : decode cX8_move 48 = .ok (.imul, 1) := by decide +kernel
theorem dX8_move_49 : decode cX8_move 49 = .ok (.iaload, 1) := by decide +kernel
theorem dX8_move_50 : decode cX8_move 50 = .ok (.iload_n 2, 1) := by decide +kernel
theorem dX8_move_51 : decode cX8_move 51 = .ok (.iadd, 1) := by decide +kernel
theorem dX8_move_52 : decode cX8_move 52 = .ok (.ifCond .lt 58, 3) := by decide +kernel
theorem dX8_move_55 : decode cX8_move 55 = .ok (.aload_n 0, 1) := by decide +kernel
theorem dX8_move_56 : decode cX8_move 56 = .ok (.getfield 16, 3) := by decide +kernel
theorem dX8_move_59 : decode cX8_move 59 = .ok (.iconst 4, 1) := by decide +kernel
theorem dX8_move_60 : decode cX8_move 60 = .ok (.iload_n 1, 1) := by decide +kernel
theorem dX8_move_61 : decode cX8_move 61 = .ok (.imul, 1) := by decide +kernel
theorem dX8_move_62 : decode cX8_move 62 = .ok (.iconst 1, 1) := by decide +kernel
theorem dX8_move_63 : decode cX8_move 63 = .ok (.iadd, 1) := by decide +kernel
theorem dX8_move_64 : decode cX8_move 64 = .ok (.iaload, 1) := by decide +kernel
theorem dX8_move_65 : decode cX8_move 65 = .ok (.iload_n 3, 1) := by decide +kernel
theorem dX8_move_66 : decode cX8_move 66 = .ok (.iadd, 1) := by decide +kernel
theorem dX8_move_67 : decode cX8_move 67 = .ok (.ifCond .lt 43, 3) := by decide +kernel
theorem dX8_move_70 : decode cX8_move 70 = .ok (.aload_n 0, 1) := by decide +kernel
theorem dX8_move_71 : decode cX8_move 71 = .ok (.getfield 16, 3) := by decide +kernel
theorem dX8_move_74 : decode cX8_move 74 = .ok (.iconst 4, 1) := by decide +kernel
theorem dX8_move_75 : decode cX8_move 75 = .ok (.iload_n 1, 1) := by decide +kernel
theorem dX8_move_76 : decode cX8_move 76 = .ok (.imul, 1) := by decide +kernel
theorem dX8_move_77 : decode cX8_move 77 = .ok (.iconst 2, 1) := by decide +kernel
theorem dX8_move_78 : decode cX8_move 78 = .ok (.iadd, 1) := by decide +kernel
theorem dX8_move_79 : decode cX8_move 79 = .ok (.iaload, 1) := by decide +kernel
theorem dX8_move_80 : decode cX8_move 80 = .ok (.iload_n 2, 1) := by decide +kernel
theorem dX8_move_81 : decode cX8_move 81 = .ok (.iadd, 1) := by decide +kernel
theorem dX8_move_82 : decode cX8_move 82 = .ok (.sipush 999, 3) := by decide +kernel
theorem dX8_move_85 : decode cX8_move 85 = .ok (.if_icmp .gt 25, 3) := by decide +kernel
theorem dX8_move_88 : decode cX8_move 88 = .ok (.aload_n 0, 1) := by decide +kernel
theorem dX8_move_89 : decode cX8_move 89 = .ok (.getfield 16, 3) := by decide +kernel
theorem dX8_move_92 : decode cX8_move 92 = .ok (.iconst 4, 1) := by decide +kernel
theorem dX8_move_93 : decode cX8_move 93 = .ok (.iload_n 1, 1) := by decide +kernel
theorem dX8_move_94 : decode cX8_move 94 = .ok (.imul, 1) := by decide +kernel
theorem dX8_move_95 : decode cX8_move 95 = .ok (.iconst 3, 1) := by decide +kernel
theorem dX8_move_96 : decode cX8_move 96 = .ok (.iadd, 1) := by decide +kernel
theorem dX8_move_97 : decode cX8_move 97 = .ok (.iaload, 1) := by decide +kernel
theorem dX8_move_98 : decode cX8_move 98 = .ok (.iload_n 3, 1) := by decide +kernel
theorem dX8_move_99 : decode cX8_move 99 = .ok (.iadd, 1) := by decide +kernel
theorem dX8_move_100 : decode cX8_move 100 = .ok (.sipush 999, 3) := by decide +kernel
theorem dX8_move_103 : decode cX8_move 103 = .ok (.if_icmp .gt 7, 3) := by decide +kernel
theorem dX8_move_106 : decode cX8_move 106 = .ok (.iconst 1, 1) := by decide +kernel
theorem dX8_move_107 : decode cX8_move 107 = .ok (.goto 4, 3) := by decide +kernel
theorem dX8_move_110 : decode cX8_move 110 = .ok (.iconst 0, 1) := by decide +kernel
theorem dX8_move_111 : decode cX8_move 111 = .ok (.istore 4, 2) := by decide +kernel
theorem dX8_move_113 : decode cX8_move 113 = .ok (.iload 4, 2) := by decide +kernel
theorem dX8_move_115 : decode cX8_move 115 = .ok (.ifCond .ne 6, 3) := by decide +kernel
theorem dX8_move_118 : decode cX8_move 118 = .ok (.bipush (-102), 2) := by decide +kernel
theorem dX8_move_120 : decode cX8_move 120 = .ok (.ireturn, 1) := by decide +kernel
theorem dX8_move_121 : decode cX8_move 121 = .ok (.aload_n 0, 1) := by decide +kernel
theorem dX8_move_122 : decode cX8_move 122 = .ok (.iload_n 1, 1) := by decide +kernel
theorem dX8_move_123 : decode cX8_move 123 = .ok (.iload_n 2, 1) := by decide +kernel
theorem dX8_move_124 : decode cX8_move 124 = .ok (.iload_n 3, 1) := by decide +kernel
theorem dX8_move_125 : decode cX8_move 125 = .ok (.invokevirtual 240, 3) := by decide +kernel
theorem dX8_move_128 : decode cX8_move 128 = .ok (.aload_n 0, 1) := by decide +kernel
theorem dX8_move_129 : decode cX8_move 129 = .ok (.invokevirtual 201, 3) := by decide +kernel
theorem dX8_move_132 : decode cX8_move 132 = .ok (.aload_n 0, 1) := by decide +kernel
theorem dX8_move_133 : decode cX8_move 133 = .ok (.getfield 182, 3) := by decide +kernel
theorem dX8_move_136 : decode cX8_move 136 = .ok (.ireturn, 1) := by decide +kernel
theorem dX8_rules_0 : decode cX8_rules 0 = .ok (.iload_n 1, 1) := by decide +kernel
theorem dX8_rules_1 : decode cX8_rules 1 = .ok (.invokestatic 244, 3) := by decide +kernel
theorem dX8_rules_4 : decode cX8_rules 4 = .ok (.ifCond .ne 6, 3) := by decide +kernel
theorem dX8_rules_7 : decode cX8_rules 7 = .ok (.bipush (-102), 2) := by decide +kernel
theorem dX8_rules_9 : decode cX8_rules 9 = .ok (.ireturn, 1) := by decide +kernel
theorem dX8_rules_10 : decode cX8_rules 10 = .ok (.aload_n 0, 1) := by decide +kernel
theorem dX8_rules_11 : decode cX8_rules 11 = .ok (.invokevirtual 232, 3) := by decide +kernel
theorem dX8_rules_14 : decode cX8_rules 14 = .ok (.ifCond .eq 6, 3) := by decide +kernel
theorem dX8_rules_17 : decode cX8_rules 17 = .ok (.bipush (-103), 2) := by decide +kernel
theorem dX8_rules_19 : decode cX8_rules 19 = .ok (.ireturn, 1) := by decide +kernel
theorem dX8_rules_20 : decode cX8_rules 20 = .ok (.aload_n 0, 1) := by decide +kernel
theorem dX8_rules_21 : decode cX8_rules 21 = .ok (.iconst 0, 1) := by decide +kernel
theorem dX8_rules_22 : decode cX8_rules 22 = .ok (.putfield 122, 3) := by decide +kernel
theorem dX8_rules_25 : decode cX8_rules 25 = .ok (.sipush 1000, 3) := by decide +kernel
theorem dX8_rules_28 : decode cX8_rules 28 = .ok (.istore_n 2, 1) := by decide +kernel
theorem dX8_rules_29 : decode cX8_rules 29 = .ok (.iload_n 2, 1) := by decide +kernel
theorem dX8_rules_30 : decode cX8_rules 30 = .ok (.ifCond .le 44, 3) := by decide +kernel
theorem dX8_rules_33 : decode cX8_rules 33 = .ok (.iload_n 1, 1) := by decide +kernel
theorem dX8_rules_34 : decode cX8_rules 34 = .ok (.iload_n 2, 1) := by decide +kernel
theorem dX8_rules_35 : decode cX8_rules 35 = .ok (.idiv, 1) := by decide +kernel
theorem dX8_rules_36 : decode cX8_rules 36 = .ok (.bipush 10, 2) := by decide +kernel
theorem dX8_rules_38 : decode cX8_rules 38 = .ok (.irem, 1) := by decide +kernel
theorem dX8_rules_39 : decode cX8_rules 39 = .ok (.istore_n 3, 1) := by decide +kernel
theorem dX8_rules_40 : decode cX8_rules 40 = .ok (.iload_n 3, 1) := by decide +kernel
theorem dX8_rules_41 : decode cX8_rules 41 = .ok (.ifCond .le 25, 3) := by decide +kernel
theorem dX8_rules_44 : decode cX8_rules 44 = .ok (.aload_n 0, 1) := by decide +kernel
theorem dX8_rules_45 : decode cX8_rules 45 = .ok (.getfield 19, 3) := by decide +kernel
theorem dX8_rules_48 : decode cX8_rules 48 = .ok (.aload_n 0, 1) := by decide +kernel
theorem dX8_rules_49 : decode cX8_rules 49 = .ok (.getfield 122, 3) := by decide +kernel
theorem dX8_rules_52 : decode cX8_rules 52 = .ok (.iload_n 3, 1) := by decide +kernel
theorem dX8_rules_53 : decode cX8_rules 53 = .ok (.iconst 4, 1) := by decide +kernel
theorem dX8_rules_54 : decode cX8_rules 54 = .ok (.irem, 1) := by decide +kernel
theorem dX8_rules_55 : decode cX8_rules 55 = .ok (.iastore, 1) := by decide +kernel
theorem dX8_rules_56 : decode cX8_rules 56 = .ok (.aload_n 0, 1) := by decide +kernel
theorem dX8_rules_57 : decode cX8_rules 57 = .ok (.dup, 1) := by decide +kernel
theorem dX8_rules_58 : decode cX8_rules 58 = .ok (.getfield 122, 3) := by decide +kernel
theorem dX8_rules_61 : decode cX8_rules 61 = .ok (.iconst 1, 1) := by decide +kernel
theorem dX8_rules_62 : decode cX8_rules 62 = .ok (.iadd, 1) := by decide +kernel
theorem dX8_rules_63 : decode cX8_rules 63 = .ok (.putfield 122, 3) := by decide +kernel
theorem dX8_rules_66 : decode cX8_rules 66 = .ok (.iload_n 2, 1) := by decide +kernel
theorem dX8_rules_67 : decode cX8_rules 67 = .ok (.bipush 10, 2) := by decide +kernel
theorem dX8_rules_69 : decode cX8_rules 69 = .ok (.idiv, 1) := by decide +kernel
theorem dX8_rules_70 : decode cX8_rules 70 = .ok (.istore_n 2, 1) := by decide +kernel
theorem dX8_rules_71 : decode cX8_rules 71 = .ok (.goto (-42), 3) := by decide +kernel
theorem dX8_rules_74 : decode cX8_rules 74 = .ok (.aload_n 0, 1) := by decide +kernel
theorem dX8_rules_75 : decode cX8_rules 75 = .ok (.getfield 122, 3) := by decide +kernel
theorem dX8_rules_78 : decode cX8_rules 78 = .ok (.ireturn, 1) := by decide +kernel
theorem dX8_scale_0 : decode cX8_scale 0 = .ok (.iload_n 1, 1) := by decide +kernel
theorem dX8_scale_1 : decode cX8_scale 1 = .ok (.i2l, 1) := by decide +kernel
theorem dX8_scale_2 : decode cX8_scale 2 = .ok (.lconst 1, 1) := by decide +kernel
theorem dX8_scale_3 : decode cX8_scale 3 = .ok (.ldc2_w 247, 3) := by decide +kernel
theorem dX8_scale_6 : decode cX8_scale 6 = .ok (.invokestatic 76, 3) := by decide +kernel
theorem dX8_scale_9 : decode cX8_scale 9 = .ok (.ifCond .eq 15, 3) := by decide +kernel
theorem dX8_scale_12 : decode cX8_scale 12 = .ok (.aload_n 0, 1) := by decide +kernel
theorem dX8_scale_13 : decode cX8_scale 13 = .ok (.invokevirtual 249, 3) := by decide +kernel
theorem dX8_scale_16 : decode cX8_scale 16 = .ok (.iload_n 1, 1) := by decide +kernel
theorem dX8_scale_17 : decode cX8_scale 17 = .ok (.imul, 1) := by decide +kernel
theorem dX8_scale_18 : decode cX8_scale 18 = .ok (.sipush 999, 3) := by decide +kernel
theorem dX8_scale_21 : decode cX8_scale 21 = .ok (.if_icmp .le 6, 3) := by decide +kernel
theorem dX8_scale_24 : decode cX8_scale 24 = .ok (.bipush (-102), 2) := by decide +kernel
theorem dX8_scale_26 : decode cX8_scale 26 = .ok (.ireturn, 1) := by decide +kernel
theorem dX8_scale_27 : decode cX8_scale 27 = .ok (.aload_n 0, 1) := by decide +kernel
theorem dX8_scale_28 : decode cX8_scale 28 = .ok (.invokevirtual 232, 3) := by decide +kernel
theorem dX8_scale_31 : decode cX8_scale 31 = .ok (.ifCond .eq 6, 3) := by decide +kernel
theorem dX8_scale_34 : decode cX8_scale 34 = .ok (.bipush (-103), 2) := by decide +kernel
theorem dX8_scale_36 : decode cX8_scale 36 = .ok (.ireturn, 1) := by decide +kernel
theorem dX8_scale_37 : decode cX8_scale 37 = .ok (.iconst 0, 1) := by decide +kernel
theorem dX8_scale_38 : decode cX8_scale 38 = .ok (.istore_n 2, 1) := by decide +kernel
theorem dX8_scale_39 : decode cX8_scale 39 = .ok (.iload_n 2, 1) := by decide +kernel
theorem dX8_scale_40 : decode cX8_scale 40 = .ok (.iconst 4, 1) := by decide +kernel
theorem dX8_scale_41 : decode cX8_scale 41 = .ok (.aload_n 0, 1) := by decide +kernel
theorem dX8_scale_42 : decode cX8_scale 42 = .ok (.getfield 119, 3) := by decide +kernel
theorem dX8_scale_45 : decode cX8_scale 45 = .ok (.imul, 1) := by decide +kernel
theorem dX8_scale_46 : decode cX8_scale 46 = .ok (.if_icmp .ge 19, 3) := by decide +kernel
theorem dX8_scale_49 : decode cX8_scale 49 = .ok (.aload_n 0, 1) := by decide +kernel
theorem dX8_scale_50 : decode cX8_scale 50 = .ok (.getfield 16, 3) := by decide +kernel
theorem dX8_scale_53 : decode cX8_scale 53 = .ok (.iload_n 2, 1) := by decide +kernel
theorem dX8_scale_54 : decode cX8_scale 54 = .ok (.dup2, 1) := by decide +kernel
theorem dX8_scale_55 : decode cX8_scale 55 = .ok (.iaload, 1) := by decide +kernel
theorem dX8_scale_56 : decode cX8_scale 56 = .ok (.iload_n 1, 1) := by decide +kernel
theorem dX8_scale_57 : decode cX8_scale 57 = .ok (.imul, 1) := by decide +kernel
theorem dX8_scale_58 : decode cX8_scale 58 = .ok (.iastore, 1) := by decide +kernel
theorem dX8_scale_59 : decode cX8_scale 59 = .ok (.iinc 2 1, 3) := by decide +kernel
theorem dX8_scale_62 : decode cX8_scale 62 = .ok (.goto (-23), 3) := by decide +kernel
theorem dX8_scale_65 : decode cX8_scale 65 = .ok (.aload_n 0, 1) := by decide +kernel
theorem dX8_scale_66 : decode cX8_scale 66 = .ok (.invokevirtual 249, 3) := by decide +kernel
theorem dX8_scale_69 : decode cX8_scale 69 = .ok (.ireturn, 1) := by decide +kernel
theorem dX8_without_0 : decode cX8_without 0 = .ok (.aload_n 0, 1) := by decide +kernel
theorem dX8_without_1 : decode cX8_without 1 = .ok (.iload_n 1, 1) := by decide +kernel
theorem dX8_without_2 : decode cX8_without 2 = .ok (.invokevirtual 213, 3) := by decide +kernel
theorem dX8_without_5 : decode cX8_without 5 = .ok (.ifCond .ne 6, 3) := by decide +kernel
theorem dX8_without_8 : decode cX8_without 8 = .ok (.bipush (-101), 2) := by decide +kernel
theorem dX8_without_10 : decode cX8_without 10 = .ok (.ireturn, 1) := by decide +kernel
theorem dX8_without_11 : decode cX8_without 11 = .ok (.aload_n 0, 1) := by decide +kernel
theorem dX8_without_12 : decode cX8_without 12 = .ok (.invokevirtual 256, 3) := by decide +kernel
theorem dX8_without_15 : decode cX8_without 15 = .ok (.aload_n 0, 1) := by decide +kernel
theorem dX8_without_16 : decode cX8_without 16 = .ok (.iconst 1, 1) := by decide +kernel
theorem dX8_without_17 : decode cX8_without 17 = .ok (.aload_n 0, 1) := by decide +kernel
theorem dX8_without_18 : decode cX8_without 18 = .ok (.getfield 119, 3) := by decide +kernel
theorem dX8_without_21 : decode cX8_without 21 = .ok (.ishl, 1) := by decide +kernel
theorem dX8_without_22 : decode cX8_without 22 = .ok (.iconst 1, 1) := by decide +kernel
theorem dX8_without_23 : decode cX8_without 23 = .ok (.isub, 1) := by decide +kernel
theorem dX8_without_24 : decode cX8_without 24 = .ok (.iconst 1, 1) := by decide +kernel
theorem dX8_without_25 : decode cX8_without 25 = .ok (.iload_n 1, 1) := by decide +kernel
theorem dX8_without_26 : decode cX8_without 26 = .ok (.ishl, 1) := by decide +kernel
theorem dX8_without_27 : decode cX8_without 27 = .ok (.iconst (-1), 1) := by decide +kernel
theorem dX8_without_28 : decode cX8_without 28 = .ok (.ixor, 1) := by decide +kernel
theorem dX8_without_29 : decode cX8_without 29 = .ok (.iand, 1) := by decide +kernel
theorem dX8_without_30 : decode cX8_without 30 = .ok (.invokevirtual 198, 3) := by decide +kernel
theorem dX8_without_33 : decode cX8_without 33 = .ok (.iconst 0, 1) := by decide +kernel
theorem dX8_without_34 : decode cX8_without 34 = .ok (.istore_n 2, 1) := by decide +kernel
theorem dX8_without_35 : decode cX8_without 35 = .ok (.iconst 0, 1) := by decide +kernel
theorem dX8_without_36 : decode cX8_without 36 = .ok (.istore_n 3, 1) := by decide +kernel
theorem dX8_without_37 : decode cX8_without 37 = .ok (.iconst 0, 1) := by decide +kernel
theorem dX8_without_38 : decode cX8_without 38 = .ok (.istore 4, 2) := by decide +kernel
theorem dX8_without_40 : decode cX8_without 40 = .ok (.iload 4, 2) := by decide +kernel
theorem dX8_without_42 : decode cX8_without 42 = .ok (.aload_n 0, 1) := by decide +kernel
theorem dX8_without_43 : decode cX8_without 43 = .ok (.getfield 119, 3) := by decide +kernel
theorem dX8_without_46 : decode cX8_without 46 = .ok (.if_icmp .ge 47, 3) := by decide +kernel
theorem dX8_without_49 : decode cX8_without 49 = .ok (.aload_n 0, 1) := by decide +kernel
theorem dX8_without_50 : decode cX8_without 50 = .ok (.getfield 43, 3) := by decide +kernel
theorem dX8_without_53 : decode cX8_without 53 = .ok (.iload 4, 2) := by decide +kernel
theorem dX8_without_55 : decode cX8_without 55 = .ok (.iaload, 1) := by decide +kernel
theorem dX8_without_56 : decode cX8_without 56 = .ok (.iload_n 1, 1) := by decide +kernel
theorem dX8_without_57 : decode cX8_without 57 = .ok (.if_icmp .eq 30, 3) := by decide +kernel
theorem dX8_without_60 : decode cX8_without 60 = .ok (.iload_n 2, 1) := by decide +kernel
theorem dX8_without_61 : decode cX8_without 61 = .ok (.aload_n 0, 1) := by decide +kernel
theorem dX8_without_62 : decode cX8_without 62 = .ok (.getfield 25, 3) := by decide +kernel
theorem dX8_without_65 : decode cX8_without 65 = .ok (.iload_n 3, 1) := by decide +kernel
theorem dX8_without_66 : decode cX8_without 66 = .ok (.iaload, 1) := by decide +kernel
theorem dX8_without_67 : decode cX8_without 67 = .ok (.aload_n 0, 1) := by decide +kernel
theorem dX8_without_68 : decode cX8_without 68 = .ok (.getfield 43, 3) := by decide +kernel
theorem dX8_without_71 : decode cX8_without 71 = .ok (.iload 4, 2) := by decide +kernel
theorem dX8_without_73 : decode cX8_without 73 = .ok (.iaload, 1) := by decide +kernel
theorem dX8_without_74 : decode cX8_without 74 = .ok (.if_icmp .ne 7, 3) := by decide +kernel
theorem dX8_without_77 : decode cX8_without 77 = .ok (.iconst 0, 1) := by decide +kernel
theorem dX8_without_78 : decode cX8_without 78 = .ok (.goto 4, 3) := by decide +kernel
theorem dX8_without_81 : decode cX8_without 81 = .ok (.iconst 1, 1) := by decide +kernel
theorem dX8_without_82 : decode cX8_without 82 = .ok (.iadd, 1) := by decide +kernel
theorem dX8_without_83 : decode cX8_without 83 = .ok (.istore_n 2, 1) := by decide +kernel
theorem dX8_without_84 : decode cX8_without 84 = .ok (.iinc 3 1, 3) := by decide +kernel
theorem dX8_without_87 : decode cX8_without 87 = .ok (.iinc 4 1, 3) := by decide +kernel
theorem dX8_without_90 : decode cX8_without 90 = .ok (.goto (-50), 3) := by decide +kernel
theorem dX8_without_93 : decode cX8_without 93 = .ok (.iload_n 2, 1) := by decide +kernel
theorem dX8_without_94 : decode cX8_without 94 = .ok (.ireturn, 1) := by decide +kernel
theorem dX8_see_0 : decode cX8_see 0 = .ok (.aload_n 0, 1) := by decide +kernel
theorem dX8_see_1 : decode cX8_see 1 = .ok (.iload_n 1, 1) := by decide +kernel
theorem dX8_see_2 : decode cX8_see 2 = .ok (.invokevirtual 213, 3) := by decide +kernel
theorem dX8_see_5 : decode cX8_see 5 = .ok (.ifCond .ne 6, 3) := by decide +kernel
theorem dX8_see_8 : decode cX8_see 8 = .ok (.bipush (-101), 2) := by decide +kernel
theorem dX8_see_10 : decode cX8_see 10 = .ok (.ireturn, 1) := by decide +kernel
theorem dX8_see_11 : decode cX8_see 11 = .ok (.iload_n 2, 1) := by decide +kernel
theorem dX8_see_12 : decode cX8_see 12 = .ok (.i2l, 1) := by decide +kernel
theorem dX8_see_13 : decode cX8_see 13 = .ok (.lconst 0, 1) := by decide +kernel
theorem dX8_see_14 : decode cX8_see 14 = .ok (.ldc2_w 268, 3) := by decide +kernel
theorem dX8_see_17 : decode cX8_see 17 = .ok (.invokestatic 76, 3) := by decide +kernel
theorem dX8_see_20 : decode cX8_see 20 = .ok (.ifCond .ne 6, 3) := by decide +kernel
theorem dX8_see_23 : decode cX8_see 23 = .ok (.bipush (-102), 2) := by decide +kernel
theorem dX8_see_25 : decode cX8_see 25 = .ok (.ireturn, 1) := by decide +kernel
theorem dX8_see_26 : decode cX8_see 26 = .ok (.aload_n 0, 1) := by decide +kernel
theorem dX8_see_27 : decode cX8_see 27 = .ok (.getfield 125, 3) := by decide +kernel
theorem dX8_see_30 : decode cX8_see 30 = .ok (.bipush 6, 2) := by decide +kernel
theorem dX8_see_32 : decode cX8_see 32 = .ok (.if_icmp .ne 6, 3) := by decide +kernel
theorem dX8_see_35 : decode cX8_see 35 = .ok (.bipush (-104), 2) := by decide +kernel
theorem dX8_see_37 : decode cX8_see 37 = .ok (.ireturn, 1) := by decide +kernel
theorem dX8_see_38 : decode cX8_see 38 = .ok (.aload_n 0, 1) := by decide +kernel
theorem dX8_see_39 : decode cX8_see 39 = .ok (.getfield 49, 3) := by decide +kernel
theorem dX8_see_42 : decode cX8_see 42 = .ok (.iconst 3, 1) := by decide +kernel
theorem dX8_see_43 : decode cX8_see 43 = .ok (.aload_n 0, 1) := by decide +kernel
theorem dX8_see_44 : decode cX8_see 44 = .ok (.getfield 125, 3) := by decide +kernel
theorem dX8_see_47 : decode cX8_see 47 = .ok (.imul, 1) := by decide +kernel
theorem dX8_see_48 : decode cX8_see 48 = .ok (.iload_n 1, 1) := by decide +kernel
theorem dX8_see_49 : decode cX8_see 49 = .ok (.iastore, 1) := by decide +kernel
theorem dX8_see_50 : decode cX8_see 50 = .ok (.aload_n 0, 1) := by decide +kernel
theorem dX8_see_51 : decode cX8_see 51 = .ok (.getfield 49, 3) := by decide +kernel
theorem dX8_see_54 : decode cX8_see 54 = .ok (.iconst 3, 1) := by decide +kernel
theorem dX8_see_55 : decode cX8_see 55 = .ok (.aload_n 0, 1) := by decide +kernel
theorem dX8_see_56 : decode cX8_see 56 = .ok (.getfield 125, 3) := by decide +kernel
theorem dX8_see_59 : decode cX8_see 59 = .ok (.imul, 1) := by decide +kernel
theorem dX8_see_60 : decode cX8_see 60 = .ok (.iconst 1, 1) := by decide +kernel
theorem dX8_see_61 : decode cX8_see 61 = .ok (.iadd, 1) := by decide +kernel
theorem dX8_see_62 : decode cX8_see 62 = .ok (.iload_n 2, 1) := by decide +kernel
theorem dX8_see_63 : decode cX8_see 63 = .ok (.iastore, 1) := by decide +kernel
theorem dX8_see_64 : decode cX8_see 64 = .ok (.aload_n 0, 1) := by decide +kernel
theorem dX8_see_65 : decode cX8_see 65 = .ok (.getfield 49, 3) := by decide +kernel
theorem dX8_see_68 : decode cX8_see 68 = .ok (.iconst 3, 1) := by decide +kernel
theorem dX8_see_69 : decode cX8_see 69 = .ok (.aload_n 0, 1) := by decide +kernel
theorem dX8_see_70 : decode cX8_see 70 = .ok (.getfield 125, 3) := by decide +kernel
theorem dX8_see_73 : decode cX8_see 73 = .ok (.imul, 1) := by decide +kernel
theorem dX8_see_74 : decode cX8_see 74 = .ok (.iconst 2, 1) := by decide +kernel
theorem dX8_see_75 : decode cX8_see 75 = .ok (.iadd, 1) := by decide +kernel
theorem dX8_see_76 : decode cX8_see 76 = .ok (.iload_n 3, 1) := by decide +kernel
theorem dX8_see_77 : decode cX8_see 77 = .ok (.ifCond .eq 7, 3) := by decide +kernel
theorem dX8_see_80 : decode cX8_see 80 = .ok (.iconst 1, 1) := by decide +kernel
theorem dX8_see_81 : decode cX8_see 81 = .ok (.goto 4, 3) := by decide +kernel
theorem dX8_see_84 : decode cX8_see 84 = .ok (.iconst 0, 1) := by decide +kernel
theorem dX8_see_85 : decode cX8_see 85 = .ok (.iastore, 1) := by decide +kernel
theorem dX8_see_86 : decode cX8_see 86 = .ok (.aload_n 0, 1) := by decide +kernel
theorem dX8_see_87 : decode cX8_see 87 = .ok (.dup, 1) := by decide +kernel
theorem dX8_see_88 : decode cX8_see 88 = .ok (.getfield 125, 3) := by decide +kernel
theorem dX8_see_91 : decode cX8_see 91 = .ok (.iconst 1, 1) := by decide +kernel
theorem dX8_see_92 : decode cX8_see 92 = .ok (.iadd, 1) := by decide +kernel
theorem dX8_see_93 : decode cX8_see 93 = .ok (.putfield 125, 3) := by decide +kernel
theorem dX8_see_96 : decode cX8_see 96 = .ok (.aload_n 0, 1) := by decide +kernel
theorem dX8_see_97 : decode cX8_see 97 = .ok (.getfield 125, 3) := by decide +kernel
theorem dX8_see_100 : decode cX8_see 100 = .ok (.ireturn, 1) := by decide +kernel
theorem dX8_sortsBy_0 : decode cX8_sortsBy 0 = .ok (.iload_n 0, 1) := by decide +kernel
theorem dX8_sortsBy_1 : decode cX8_sortsBy 1 = .ok (.tableswitch 35 0 2 #[27, 29, 32], 27) := by decide +kernel
theorem dX8_sortsBy_28 : decode cX8_sortsBy 28 = .ok (.iconst 2, 1) := by decide +kernel
theorem dX8_sortsBy_29 : decode cX8_sortsBy 29 = .ok (.ireturn, 1) := by decide +kernel
theorem dX8_sortsBy_30 : decode cX8_sortsBy 30 = .ok (.bipush 20, 2) := by decide +kernel
theorem dX8_sortsBy_32 : decode cX8_sortsBy 32 = .ok (.ireturn, 1) := by decide +kernel
theorem dX8_sortsBy_33 : decode cX8_sortsBy 33 = .ok (.bipush 16, 2) := by decide +kernel
theorem dX8_sortsBy_35 : decode cX8_sortsBy 35 = .ok (.ireturn, 1) := by decide +kernel
theorem dX8_sortsBy_36 : decode cX8_sortsBy 36 = .ok (.bipush 8, 2) := by decide +kernel
theorem dX8_sortsBy_38 : decode cX8_sortsBy 38 = .ok (.ireturn, 1) := by decide +kernel
theorem dX8_sortsOf_0 : decode cX8_sortsOf 0 = .ok (.bipush 31, 2) := by decide +kernel
theorem dX8_sortsOf_2 : decode cX8_sortsOf 2 = .ok (.istore_n 2, 1) := by decide +kernel
theorem dX8_sortsOf_3 : decode cX8_sortsOf 3 = .ok (.iconst 0, 1) := by decide +kernel
theorem dX8_sortsOf_4 : decode cX8_sortsOf 4 = .ok (.istore_n 3, 1) := by decide +kernel
theorem dX8_sortsOf_5 : decode cX8_sortsOf 5 = .ok (.iload_n 3, 1) := by decide +kernel
theorem dX8_sortsOf_6 : decode cX8_sortsOf 6 = .ok (.iconst 3, 1) := by decide +kernel
theorem dX8_sortsOf_7 : decode cX8_sortsOf 7 = .ok (.aload_n 0, 1) := by decide +kernel
theorem dX8_sortsOf_8 : decode cX8_sortsOf 8 = .ok (.getfield 125, 3) := by decide +kernel
theorem dX8_sortsOf_11 : decode cX8_sortsOf 11 = .ok (.imul, 1) := by decide +kernel
theorem dX8_sortsOf_12 : decode cX8_sortsOf 12 = .ok (.if_icmp .ge 57, 3) := by decide +kernel
theorem dX8_sortsOf_15 : decode cX8_sortsOf 15 = .ok (.aload_n 0, 1) := by decide +kernel
theorem dX8_sortsOf_16 : decode cX8_sortsOf 16 = .ok (.getfield 49, 3) := by decide +kernel
theorem dX8_sortsOf_19 : decode cX8_sortsOf 19 = .ok (.iload_n 3, 1) := by decide +kernel
theorem dX8_sortsOf_20 : decode cX8_sortsOf 20 = .ok (.iaload, 1) := by decide +kernel
theorem dX8_sortsOf_21 : decode cX8_sortsOf 21 = .ok (.iload_n 1, 1) := by decide +kernel
theorem dX8_sortsOf_22 : decode cX8_sortsOf 22 = .ok (.if_icmp .ne 41, 3) := by decide +kernel
theorem dX8_sortsOf_25 : decode cX8_sortsOf 25 = .ok (.aload_n 0, 1) := by decide +kernel
theorem dX8_sortsOf_26 : decode cX8_sortsOf 26 = .ok (.getfield 49, 3) := by decide +kernel
theorem dX8_sortsOf_29 : decode cX8_sortsOf 29 = .ok (.iload_n 3, 1) := by decide +kernel
theorem dX8_sortsOf_30 : decode cX8_sortsOf 30 = .ok (.iconst 1, 1) := by decide +kernel
theorem dX8_sortsOf_31 : decode cX8_sortsOf 31 = .ok (.iadd, 1) := by decide +kernel
theorem dX8_sortsOf_32 : decode cX8_sortsOf 32 = .ok (.iaload, 1) := by decide +kernel
theorem dX8_sortsOf_33 : decode cX8_sortsOf 33 = .ok (.invokestatic 270, 3) := by decide +kernel
theorem dX8_sortsOf_36 : decode cX8_sortsOf 36 = .ok (.istore 4, 2) := by decide +kernel
theorem dX8_sortsOf_38 : decode cX8_sortsOf 38 = .ok (.iload_n 2, 1) := by decide +kernel
theorem dX8_sortsOf_39 : decode cX8_sortsOf 39 = .ok (.aload_n 0, 1) := by decide +kernel
theorem dX8_sortsOf_40 : decode cX8_sortsOf 40 = .ok (.getfield 49, 3) := by decide +kernel
theorem dX8_sortsOf_43 : decode cX8_sortsOf 43 = .ok (.iload_n 3, 1) := by decide +kernel
theorem dX8_sortsOf_44 : decode cX8_sortsOf 44 = .ok (.iconst 2, 1) := by decide +kernel
theorem dX8_sortsOf_45 : decode cX8_sortsOf 45 = .ok (.iadd, 1) := by decide +kernel
theorem dX8_sortsOf_46 : decode cX8_sortsOf 46 = .ok (.iaload, 1) := by decide +kernel
theorem dX8_sortsOf_47 : decode cX8_sortsOf 47 = .ok (.iconst 1, 1) := by decide +kernel
theorem dX8_sortsOf_48 : decode cX8_sortsOf 48 = .ok (.if_icmp .ne 8, 3) := by decide +kernel
theorem dX8_sortsOf_51 : decode cX8_sortsOf 51 = .ok (.iload 4, 2) := by decide +kernel
theorem dX8_sortsOf_53 : decode cX8_sortsOf 53 = .ok (.goto 8, 3) := by decide +kernel
theorem dX8_sortsOf_56 : decode cX8_sortsOf 56 = .ok (.bipush 31, 2) := by decide +kernel
theorem dX8_sortsOf_58 : decode cX8_sortsOf 58 = .ok (.iload 4, 2) := by decide +kernel
theorem dX8_sortsOf_60 : decode cX8_sortsOf 60 = .ok (.isub, 1) := by decide +kernel
theorem dX8_sortsOf_61 : decode cX8_sortsOf 61 = .ok (.iand, 1) := by decide +kernel
theorem dX8_sortsOf_62 : decode cX8_sortsOf 62 = .ok (.istore_n 2, 1) := by decide +kernel
theorem dX8_sortsOf_63 : decode cX8_sortsOf 63 = .ok (.iinc 3 3, 3) := by decide +kernel
theorem dX8_sortsOf_66 : decode cX8_sortsOf 66 = .ok (.goto (-61), 3) := by decide +kernel
theorem dX8_sortsOf_69 : decode cX8_sortsOf 69 = .ok (.iload_n 2, 1) := by decide +kernel
theorem dX8_sortsOf_70 : decode cX8_sortsOf 70 = .ok (.ireturn, 1) := by decide +kernel
theorem dX8_restore_0 : decode cX8_restore 0 = .ok (.aload_n 0, 1) := by decide +kernel
theorem dX8_restore_1 : decode cX8_restore 1 = .ok (.getfield 70, 3) := by decide +kernel
theorem dX8_restore_4 : decode cX8_restore 4 = .ok (.aload_n 0, 1) := by decide +kernel
theorem dX8_restore_5 : decode cX8_restore 5 = .ok (.getfield 128, 3) := by decide +kernel
theorem dX8_restore_8 : decode cX8_restore 8 = .ok (.if_icmp .eq 6, 3) := by decide +kernel
theorem dX8_restore_11 : decode cX8_restore 11 = .ok (.bipush (-103), 2) := by decide +kernel
theorem dX8_restore_13 : decode cX8_restore 13 = .ok (.ireturn, 1) := by decide +kernel
theorem dX8_restore_14 : decode cX8_restore 14 = .ok (.aload_n 0, 1) := by decide +kernel
theorem dX8_restore_15 : decode cX8_restore 15 = .ok (.getfield 58, 3) := by decide +kernel
theorem dX8_restore_18 : decode cX8_restore 18 = .ok (.aload_n 0, 1) := by decide +kernel
theorem dX8_restore_19 : decode cX8_restore 19 = .ok (.getfield 13, 3) := by decide +kernel
theorem dX8_restore_22 : decode cX8_restore 22 = .ok (.invokestatic 252, 3) := by decide +kernel
theorem dX8_restore_25 : decode cX8_restore 25 = .ok (.aload_n 0, 1) := by decide +kernel
theorem dX8_restore_26 : decode cX8_restore 26 = .ok (.getfield 61, 3) := by decide +kernel
theorem dX8_restore_29 : decode cX8_restore 29 = .ok (.aload_n 0, 1) := by decide +kernel
theorem dX8_restore_30 : decode cX8_restore 30 = .ok (.getfield 16, 3) := by decide +kernel
theorem dX8_restore_33 : decode cX8_restore 33 = .ok (.invokestatic 252, 3) := by decide +kernel
theorem dX8_restore_36 : decode cX8_restore 36 = .ok (.aload_n 0, 1) := by decide +kernel
theorem dX8_restore_37 : decode cX8_restore 37 = .ok (.getfield 64, 3) := by decide +kernel
theorem dX8_restore_40 : decode cX8_restore 40 = .ok (.aload_n 0, 1) := by decide +kernel
theorem dX8_restore_41 : decode cX8_restore 41 = .ok (.getfield 19, 3) := by decide +kernel
theorem dX8_restore_44 : decode cX8_restore 44 = .ok (.invokestatic 252, 3) := by decide +kernel
theorem dX8_restore_47 : decode cX8_restore 47 = .ok (.aload_n 0, 1) := by decide +kernel
theorem dX8_restore_48 : decode cX8_restore 48 = .ok (.getfield 67, 3) := by decide +kernel
theorem dX8_restore_51 : decode cX8_restore 51 = .ok (.aload_n 0, 1) := by decide +kernel
theorem dX8_restore_52 : decode cX8_restore 52 = .ok (.getfield 49, 3) := by decide +kernel
theorem dX8_restore_55 : decode cX8_restore 55 = .ok (.invokestatic 252, 3) := by decide +kernel
theorem dX8_restore_58 : decode cX8_restore 58 = .ok (.aload_n 0, 1) := by decide +kernel
theorem dX8_restore_59 : decode cX8_restore 59 = .ok (.aload_n 0, 1) := by decide +kernel
theorem dX8_restore_60 : decode cX8_restore 60 = .ok (.getfield 293, 3) := by decide +kernel
theorem dX8_restore_63 : decode cX8_restore 63 = .ok (.putfield 119, 3) := by decide +kernel
theorem dX8_restore_66 : decode cX8_restore 66 = .ok (.aload_n 0, 1) := by decide +kernel
theorem dX8_restore_67 : decode cX8_restore 67 = .ok (.aload_n 0, 1) := by decide +kernel
theorem dX8_restore_68 : decode cX8_restore 68 = .ok (.getfield 296, 3) := by decide +kernel
theorem dX8_restore_71 : decode cX8_restore 71 = .ok (.putfield 122, 3) := by decide +kernel
theorem dX8_restore_74 : decode cX8_restore 74 = .ok (.aload_n 0, 1) := by decide +kernel
theorem dX8_restore_75 : decode cX8_restore 75 = .ok (.aload_n 0, 1) := by decide +kernel
theorem dX8_restore_76 : decode cX8_restore 76 = .ok (.getfield 299, 3) := by decide +kernel
theorem dX8_restore_79 : decode cX8_restore 79 = .ok (.putfield 125, 3) := by decide +kernel
theorem dX8_restore_82 : decode cX8_restore 82 = .ok (.aload_n 0, 1) := by decide +kernel
theorem dX8_restore_83 : decode cX8_restore 83 = .ok (.getfield 119, 3) := by decide +kernel
theorem dX8_restore_86 : decode cX8_restore 86 = .ok (.ireturn, 1) := by decide +kernel
theorem dX8_say_0 : decode cX8_say 0 = .ok (.aload_n 0, 1) := by decide +kernel
theorem dX8_say_1 : decode cX8_say 1 = .ok (.ldc2_w 308, 3) := by decide +kernel
theorem dX8_say_4 : decode cX8_say 4 = .ok (.aload_n 0, 1) := by decide +kernel
theorem dX8_say_5 : decode cX8_say 5 = .ok (.getfield 310, 3) := by decide +kernel
theorem dX8_say_8 : decode cX8_say 8 = .ok (.lmul, 1) := by decide +kernel
theorem dX8_say_9 : decode cX8_say 9 = .ok (.lload_n 1, 1) := by decide +kernel
theorem dX8_say_10 : decode cX8_say 10 = .ok (.ladd, 1) := by decide +kernel
theorem dX8_say_11 : decode cX8_say 11 = .ok (.putfield 310, 3) := by decide +kernel
theorem dX8_say_14 : decode cX8_say 14 = .ok (.return_, 1) := by decide +kernel
theorem dX8_sayPage_0 : decode cX8_sayPage 0 = .ok (.iconst 0, 1) := by decide +kernel
theorem dX8_sayPage_1 : decode cX8_sayPage 1 = .ok (.istore_n 1, 1) := by decide +kernel
theorem dX8_sayPage_2 : decode cX8_sayPage 2 = .ok (.iload_n 1, 1) := by decide +kernel
theorem dX8_sayPage_3 : decode cX8_sayPage 3 = .ok (.aload_n 0, 1) := by decide +kernel
theorem dX8_sayPage_4 : decode cX8_sayPage 4 = .ok (.getfield 119, 3) := by decide +kernel
theorem dX8_sayPage_7 : decode cX8_sayPage 7 = .ok (.if_icmp .ge 34, 3) := by decide +kernel
theorem dX8_sayPage_10 : decode cX8_sayPage 10 = .ok (.iconst 0, 1) := by decide +kernel
theorem dX8_sayPage_11 : decode cX8_sayPage 11 = .ok (.istore_n 2, 1) := by decide +kernel
theorem dX8_sayPage_12 : decode cX8_sayPage 12 = .ok (.iload_n 2, 1) := by decide +kernel
theorem dX8_sayPage_13 : decode cX8_sayPage 13 = .ok (.bipush 10, 2) := by decide +kernel
theorem dX8_sayPage_15 : decode cX8_sayPage 15 = .ok (.if_icmp .ge 20, 3) := by decide +kernel
theorem dX8_sayPage_18 : decode cX8_sayPage 18 = .ok (.aload_n 0, 1) := by decide +kernel
theorem dX8_sayPage_19 : decode cX8_sayPage 19 = .ok (.aload_n 0, 1) := by decide +kernel
theorem dX8_sayPage_20 : decode cX8_sayPage 20 = .ok (.iload_n 1, 1) := by decide +kernel
theorem dX8_sayPage_21 : decode cX8_sayPage 21 = .ok (.iload_n 2, 1) := by decide +kernel
theorem dX8_sayPage_22 : decode cX8_sayPage 22 = .ok (.invokevirtual 216, 3) := by decide +kernel
theorem dX8_sayPage_25 : decode cX8_sayPage 25 = .ok (.i2l, 1) := by decide +kernel
theorem dX8_sayPage_26 : decode cX8_sayPage 26 = .ok (.invokevirtual 314, 3) := by decide +kernel
theorem dX8_sayPage_29 : decode cX8_sayPage 29 = .ok (.iinc 2 1, 3) := by decide +kernel
theorem dX8_sayPage_32 : decode cX8_sayPage 32 = .ok (.goto (-20), 3) := by decide +kernel
theorem dX8_sayPage_35 : decode cX8_sayPage 35 = .ok (.iinc 1 1, 3) := by decide +kernel
theorem dX8_sayPage_38 : decode cX8_sayPage 38 = .ok (.goto (-36), 3) := by decide +kernel
theorem dX8_sayPage_41 : decode cX8_sayPage 41 = .ok (.aload_n 0, 1) := by decide +kernel
theorem dX8_sayPage_42 : decode cX8_sayPage 42 = .ok (.invokevirtual 201, 3) := by decide +kernel
theorem dX8_sayPage_45 : decode cX8_sayPage 45 = .ok (.iconst 0, 1) := by decide +kernel
theorem dX8_sayPage_46 : decode cX8_sayPage 46 = .ok (.istore_n 1, 1) := by decide +kernel
theorem dX8_sayPage_47 : decode cX8_sayPage 47 = .ok (.iload_n 1, 1) := by decide +kernel
theorem dX8_sayPage_48 : decode cX8_sayPage 48 = .ok (.aload_n 0, 1) := by decide +kernel
theorem dX8_sayPage_49 : decode cX8_sayPage 49 = .ok (.getfield 119, 3) := by decide +kernel
theorem dX8_sayPage_52 : decode cX8_sayPage 52 = .ok (.if_icmp .ge 20, 3) := by decide +kernel
theorem dX8_sayPage_55 : decode cX8_sayPage 55 = .ok (.aload_n 0, 1) := by decide +kernel
theorem dX8_sayPage_56 : decode cX8_sayPage 56 = .ok (.aload_n 0, 1) := by decide +kernel
theorem dX8_sayPage_57 : decode cX8_sayPage 57 = .ok (.getfield 25, 3) := by decide +kernel
theorem dX8_sayPage_60 : decode cX8_sayPage 60 = .ok (.iload_n 1, 1) := by decide +kernel
theorem dX8_sayPage_61 : decode cX8_sayPage 61 = .ok (.iaload, 1) := by decide +kernel
theorem dX8_sayPage_62 : decode cX8_sayPage 62 = .ok (.i2l, 1) := by decide +kernel
theorem dX8_sayPage_63 : decode cX8_sayPage 63 = .ok (.invokevirtual 314, 3) := by decide +kernel
theorem dX8_sayPage_66 : decode cX8_sayPage 66 = .ok (.iinc 1 1, 3) := by decide +kernel
theorem dX8_sayPage_69 : decode cX8_sayPage 69 = .ok (.goto (-22), 3) := by decide +kernel
theorem dX8_sayPage_72 : decode cX8_sayPage 72 = .ok (.iconst 0, 1) := by decide +kernel
theorem dX8_sayPage_73 : decode cX8_sayPage 73 = .ok (.istore_n 1, 1) := by decide +kernel
theorem dX8_sayPage_74 : decode cX8_sayPage 74 = .ok (.iload_n 1, 1) := by decide +kernel
theorem dX8_sayPage_75 : decode cX8_sayPage 75 = .ok (.iconst 5, 1) := by decide +kernel
theorem dX8_sayPage_76 : decode cX8_sayPage 76 = .ok (.aload_n 0, 1) := by decide +kernel
theorem dX8_sayPage_77 : decode cX8_sayPage 77 = .ok (.getfield 182, 3) := by decide +kernel
theorem dX8_sayPage_80 : decode cX8_sayPage 80 = .ok (.imul, 1) := by decide +kernel
theorem dX8_sayPage_81 : decode cX8_sayPage 81 = .ok (.if_icmp .ge 20, 3) := by decide +kernel
theorem dX8_sayPage_84 : decode cX8_sayPage 84 = .ok (.aload_n 0, 1) := by decide +kernel
theorem dX8_sayPage_85 : decode cX8_sayPage 85 = .ok (.aload_n 0, 1) := by decide +kernel
theorem dX8_sayPage_86 : decode cX8_sayPage 86 = .ok (.getfield 28, 3) := by decide +kernel
theorem dX8_sayPage_89 : decode cX8_sayPage 89 = .ok (.iload_n 1, 1) := by decide +kernel
theorem dX8_sayPage_90 : decode cX8_sayPage 90 = .ok (.iaload, 1) := by decide +kernel
theorem dX8_sayPage_91 : decode cX8_sayPage 91 = .ok (.i2l, 1) := by decide +kernel
theorem dX8_sayPage_92 : decode cX8_sayPage 92 = .ok (.invokevirtual 314, 3) := by decide +kernel
theorem dX8_sayPage_95 : decode cX8_sayPage 95 = .ok (.iinc 1 1, 3) := by decide +kernel
theorem dX8_sayPage_98 : decode cX8_sayPage 98 = .ok (.goto (-24), 3) := by decide +kernel
theorem dX8_sayPage_101 : decode cX8_sayPage 101 = .ok (.aload_n 0, 1) := by decide +kernel
theorem dX8_sayPage_102 : decode cX8_sayPage 102 = .ok (.aload_n 0, 1) := by decide +kernel
theorem dX8_sayPage_103 : decode cX8_sayPage 103 = .ok (.invokevirtual 262, 3) := by decide +kernel
theorem dX8_sayPage_106 : decode cX8_sayPage 106 = .ok (.i2l, 1) := by decide +kernel
theorem dX8_sayPage_107 : decode cX8_sayPage 107 = .ok (.invokevirtual 314, 3) := by decide +kernel
theorem dX8_sayPage_110 : decode cX8_sayPage 110 = .ok (.aload_n 0, 1) := by decide +kernel
theorem dX8_sayPage_111 : decode cX8_sayPage 111 = .ok (.aload_n 0, 1) := by decide +kernel
theorem dX8_sayPage_112 : decode cX8_sayPage 112 = .ok (.invokevirtual 265, 3) := by decide +kernel
theorem dX8_sayPage_115 : decode cX8_sayPage 115 = .ok (.i2l, 1) := by decide +kernel
theorem dX8_sayPage_116 : decode cX8_sayPage 116 = .ok (.invokevirtual 314, 3) := by decide +kernel
theorem dX8_sayPage_119 : decode cX8_sayPage 119 = .ok (.return_, 1) := by decide +kernel
