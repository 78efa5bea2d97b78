theorem dX8_init_0 : decode cX8_init 0 = .ok (.aload_n 0, 1) := by decide +kernel
theorem dX8_init_1 : decode cX8_init 1 = .ok (.invokespecial 1, 3) := by decide +kernel
theorem dX8_init_4 : decode cX8_init 4 = .ok (.aload_n 0, 1) := by decide +kernel
theorem dX8_init_5 : decode cX8_init 5 = .ok (.bipush 54, 2) := by decide +kernel
theorem dX8_init_7 : decode cX8_init 7 = .ok (.newarray .int, 2) := by decide +kernel
theorem dX8_init_9 : decode cX8_init 9 = .ok (.putfield 7, 3) := by decide +kernel
theorem dX8_init_12 : decode cX8_init 12 = .ok (.aload_n 0, 1) := by decide +kernel
theorem dX8_init_13 : decode cX8_init 13 = .ok (.bipush 8, 2) := by decide +kernel
theorem dX8_init_15 : decode cX8_init 15 = .ok (.newarray .int, 2) := by decide +kernel
theorem dX8_init_17 : decode cX8_init 17 = .ok (.putfield 13, 3) := by decide +kernel
theorem dX8_init_20 : decode cX8_init 20 = .ok (.aload_n 0, 1) := by decide +kernel
theorem dX8_init_21 : decode cX8_init 21 = .ok (.bipush 32, 2) := by decide +kernel
theorem dX8_init_23 : decode cX8_init 23 = .ok (.newarray .int, 2) := by decide +kernel
theorem dX8_init_25 : decode cX8_init 25 = .ok (.putfield 16, 3) := by decide +kernel
theorem dX8_init_28 : decode cX8_init 28 = .ok (.aload_n 0, 1) := by decide +kernel
theorem dX8_init_29 : decode cX8_init 29 = .ok (.iconst 4, 1) := by decide +kernel
theorem dX8_init_30 : decode cX8_init 30 = .ok (.newarray .int, 2) := by decide +kernel
theorem dX8_init_32 : decode cX8_init 32 = .ok (.putfield 19, 3) := by decide +kernel
theorem dX8_init_35 : decode cX8_init 35 = .ok (.aload_n 0, 1) := by decide +kernel
theorem dX8_init_36 : decode cX8_init 36 = .ok (.bipush 8, 2) := by decide +kernel
theorem dX8_init_38 : decode cX8_init 38 = .ok (.newarray .int, 2) := by decide +kernel
theorem dX8_init_40 : decode cX8_init 40 = .ok (.putfield 22, 3) := by decide +kernel
theorem dX8_init_43 : decode cX8_init 43 = .ok (.aload_n 0, 1) := by decide +kernel
theorem dX8_init_44 : decode cX8_init 44 = .ok (.bipush 8, 2) := by decide +kernel
theorem dX8_init_46 : decode cX8_init 46 = .ok (.newarray .int, 2) := by decide +kernel
theorem dX8_init_48 : decode cX8_init 48 = .ok (.putfield 25, 3) := by decide +kernel
theorem dX8_init_51 : decode cX8_init 51 = .ok (.aload_n 0, 1) := by decide +kernel
theorem dX8_init_52 : decode cX8_init 52 = .ok (.bipush 40, 2) := by decide +kernel
theorem dX8_init_54 : decode cX8_init 54 = .ok (.newarray .int, 2) := by decide +kernel
theorem dX8_init_56 : decode cX8_init 56 = .ok (.putfield 28, 3) := by decide +kernel
theorem dX8_init_59 : decode cX8_init 59 = .ok (.aload_n 0, 1) := by decide +kernel
theorem dX8_init_60 : decode cX8_init 60 = .ok (.bipush 8, 2) := by decide +kernel
theorem dX8_init_62 : decode cX8_init 62 = .ok (.newarray .int, 2) := by decide +kernel
theorem dX8_init_64 : decode cX8_init 64 = .ok (.putfield 31, 3) := by decide +kernel
theorem dX8_init_67 : decode cX8_init 67 = .ok (.aload_n 0, 1) := by decide +kernel
theorem dX8_init_68 : decode cX8_init 68 = .ok (.bipush 8, 2) := by decide +kernel
theorem dX8_init_70 : decode cX8_init 70 = .ok (.newarray .int, 2) := by decide +kernel
theorem dX8_init_72 : decode cX8_init 72 = .ok (.putfield 34, 3) := by decide +kernel
theorem dX8_init_75 : decode cX8_init 75 = .ok (.aload_n 0, 1) := by decide +kernel
theorem dX8_init_76 : decode cX8_init 76 = .ok (.bipush 16, 2) := by decide +kernel
theorem dX8_init_78 : decode cX8_init 78 = .ok (.newarray .int, 2) := by decide +kernel
theorem dX8_init_80 : decode cX8_init 80 = .ok (.putfield 37, 3) := by decide +kernel
theorem dX8_init_83 : decode cX8_init 83 = .ok (.aload_n 0, 1) := by decide +kernel
theorem dX8_init_84 : decode cX8_init 84 = .ok (.bipush 16, 2) := by decide +kernel
theorem dX8_init_86 : decode cX8_init 86 = .ok (.newarray .int, 2) := by decide +kernel
theorem dX8_init_88 : decode cX8_init 88 = .ok (.putfield 40, 3) := by decide +kernel
theorem dX8_init_91 : decode cX8_init 91 = .ok (.aload_n 0, 1) := by decide +kernel
theorem dX8_init_92 : decode cX8_init 92 = .ok (.bipush 8, 2) := by decide +kernel
theorem dX8_init_94 : decode cX8_init 94 = .ok (.newarray .int, 2) := by decide +kernel
theorem dX8_init_96 : decode cX8_init 96 = .ok (.putfield 43, 3) := by decide +kernel
theorem dX8_init_99 : decode cX8_init 99 = .ok (.aload_n 0, 1) := by decide +kernel
theorem dX8_init_100 : decode cX8_init 100 = .ok (.iconst 4, 1) := by decide +kernel
theorem dX8_init_101 : decode cX8_init 101 = .ok (.newarray .int, 2) := by decide +kernel
theorem dX8_init_103 : decode cX8_init 103 = .ok (.putfield 46, 3) := by decide +kernel
theorem dX8_init_106 : decode cX8_init 106 = .ok (.aload_n 0, 1) := by decide +kernel
theorem dX8_init_107 : decode cX8_init 107 = .ok (.bipush 18, 2) := by decide +kernel
theorem dX8_init_109 : decode cX8_init 109 = .ok (.newarray .int, 2) := by decide +kernel
theorem dX8_init_111 : decode cX8_init 111 = .ok (.putfield 49, 3) := by decide +kernel
theorem dX8_init_114 : decode cX8_init 114 = .ok (.aload_n 0, 1) := by decide +kernel
theorem dX8_init_115 : decode cX8_init 115 = .ok (.bipush 8, 2) := by decide +kernel
theorem dX8_init_117 : decode cX8_init 117 = .ok (.newarray .int, 2) := by decide +kernel
theorem dX8_init_119 : decode cX8_init 119 = .ok (.putfield 52, 3) := by decide +kernel
theorem dX8_init_122 : decode cX8_init 122 = .ok (.aload_n 0, 1) := by decide +kernel
theorem dX8_init_123 : decode cX8_init 123 = .ok (.bipush 32, 2) := by decide +kernel
theorem dX8_init_125 : decode cX8_init 125 = .ok (.newarray .int, 2) := by decide +kernel
theorem dX8_init_127 : decode cX8_init 127 = .ok (.putfield 55, 3) := by decide +kernel
theorem dX8_init_130 : decode cX8_init 130 = .ok (.aload_n 0, 1) := by decide +kernel
theorem dX8_init_131 : decode cX8_init 131 = .ok (.bipush 8, 2) := by decide +kernel
theorem dX8_init_133 : decode cX8_init 133 = .ok (.newarray .int, 2) := by decide +kernel
theorem dX8_init_135 : decode cX8_init 135 = .ok (.putfield 58, 3) := by decide +kernel
theorem dX8_init_138 : decode cX8_init 138 = .ok (.aload_n 0, 1) := by decide +kernel
theorem dX8_init_139 : decode cX8_init 139 = .ok (.bipush 32, 2) := by decide +kernel
theorem dX8_init_141 : decode cX8_init 141 = .ok (.newarray .int, 2) := by decide +kernel
theorem dX8_init_143 : decode cX8_init 143 = .ok (.putfield 61, 3) := by decide +kernel
theorem dX8_init_146 : decode cX8_init 146 = .ok (.aload_n 0, 1) := by decide +kernel
theorem dX8_init_147 : decode cX8_init 147 = .ok (.iconst 4, 1) := by decide +kernel
theorem dX8_init_148 : decode cX8_init 148 = .ok (.newarray .int, 2) := by decide +kernel
theorem dX8_init_150 : decode cX8_init 150 = .ok (.putfield 64, 3) := by decide +kernel
theorem dX8_init_153 : decode cX8_init 153 = .ok (.aload_n 0, 1) := by decide +kernel
theorem dX8_init_154 : decode cX8_init 154 = .ok (.bipush 18, 2) := by decide +kernel
theorem dX8_init_156 : decode cX8_init 156 = .ok (.newarray .int, 2) := by decide +kernel
theorem dX8_init_158 : decode cX8_init 158 = .ok (.putfield 67, 3) := by decide +kernel
theorem dX8_init_161 : decode cX8_init 161 = .ok (.aload_n 0, 1) := by decide +kernel
theorem dX8_init_162 : decode cX8_init 162 = .ok (.iconst (-1), 1) := by decide +kernel
theorem dX8_init_163 : decode cX8_init 163 = .ok (.putfield 70, 3) := by decide +kernel
theorem dX8_init_166 : decode cX8_init 166 = .ok (.return_, 1) := by decide +kernel
theorem dX8_in_0 : decode cX8_in 0 = .ok (.lload_n 0, 1) := by decide +kernel
theorem dX8_in_1 : decode cX8_in 1 = .ok (.lload_n 2, 1) := by decide +kernel
theorem dX8_in_2 : decode cX8_in 2 = .ok (.lcmp, 1) := by decide +kernel
theorem dX8_in_3 : decode cX8_in 3 = .ok (.ifCond .lt 14, 3) := by decide +kernel
theorem dX8_in_6 : decode cX8_in 6 = .ok (.lload_n 0, 1) := by decide +kernel
theorem dX8_in_7 : decode cX8_in 7 = .ok (.lload 4, 2) := by decide +kernel
theorem dX8_in_9 : decode cX8_in 9 = .ok (.lcmp, 1) := by decide +kernel
theorem dX8_in_10 : decode cX8_in 10 = .ok (.ifCond .gt 7, 3) := by decide +kernel
theorem dX8_in_13 : decode cX8_in 13 = .ok (.iconst 1, 1) := by decide +kernel
theorem dX8_in_14 : decode cX8_in 14 = .ok (.goto 4, 3) := by decide +kernel
theorem dX8_in_17 : decode cX8_in 17 = .ok (.iconst 0, 1) := by decide +kernel
theorem dX8_in_18 : decode cX8_in 18 = .ok (.ireturn, 1) := by decide +kernel
theorem dX8_has_0 : decode cX8_has 0 = .ok (.iload_n 0, 1) := by decide +kernel
theorem dX8_has_1 : decode cX8_has 1 = .ok (.iload_n 1, 1) := by decide +kernel
theorem dX8_has_2 : decode cX8_has 2 = .ok (.ishr, 1) := by decide +kernel
theorem dX8_has_3 : decode cX8_has 3 = .ok (.iconst 1, 1) := by decide +kernel
theorem dX8_has_4 : decode cX8_has 4 = .ok (.iand, 1) := by decide +kernel
theorem dX8_has_5 : decode cX8_has 5 = .ok (.iconst 1, 1) := by decide +kernel
theorem dX8_has_6 : decode cX8_has 6 = .ok (.if_icmp .ne 7, 3) := by decide +kernel
theorem dX8_has_9 : decode cX8_has 9 = .ok (.iconst 1, 1) := by decide +kernel
theorem dX8_has_10 : decode cX8_has 10 = .ok (.goto 4, 3) := by decide +kernel
theorem dX8_has_13 : decode cX8_has 13 = .ok (.iconst 0, 1) := by decide +kernel
theorem dX8_has_14 : decode cX8_has 14 = .ok (.ireturn, 1) := by decide +kernel
theorem dX8_copy_0 : decode cX8_copy 0 = .ok (.iconst 0, 1) := by decide +kernel
theorem dX8_copy_1 : decode cX8_copy 1 = .ok (.istore_n 2, 1) := by decide +kernel
theorem dX8_copy_2 : decode cX8_copy 2 = .ok (.iload_n 2, 1) := by decide +kernel
theorem dX8_copy_3 : decode cX8_copy 3 = .ok (.aload_n 0, 1) := by decide +kernel
theorem dX8_copy_4 : decode cX8_copy 4 = .ok (.arraylength, 1) := by decide +kernel
theorem dX8_copy_5 : decode cX8_copy 5 = .ok (.if_icmp .ge 15, 3) := by decide +kernel
theorem dX8_copy_8 : decode cX8_copy 8 = .ok (.aload_n 1, 1) := by decide +kernel
theorem dX8_copy_9 : decode cX8_copy 9 = .ok (.iload_n 2, 1) := by decide +kernel
theorem dX8_copy_10 : decode cX8_copy 10 = .ok (.aload_n 0, 1) := by decide +kernel
theorem dX8_copy_11 : decode cX8_copy 11 = .ok (.iload_n 2, 1) := by decide +kernel
theorem dX8_copy_12 : decode cX8_copy 12 = .ok (.iaload, 1) := by decide +kernel
theorem dX8_copy_13 : decode cX8_copy 13 = .ok (.iastore, 1) := by decide +kernel
theorem dX8_copy_14 : decode cX8_copy 14 = .ok (.iinc 2 1, 3) := by decide +kernel
theorem dX8_copy_17 : decode cX8_copy 17 = .ok (.goto (-15), 3) := by decide +kernel
theorem dX8_copy_20 : decode cX8_copy 20 = .ok (.return_, 1) := by decide +kernel
theorem dX8_letter_0 : decode cX8_letter 0 = .ok (.iload_n 1, 1) := by decide +kernel
theorem dX8_letter_1 : decode cX8_letter 1 = .ok (.i2l, 1) := by decide +kernel
theorem dX8_letter_2 : decode cX8_letter 2 = .ok (.lconst 1, 1) := by decide +kernel
theorem dX8_letter_3 : decode cX8_letter 3 = .ok (.ldc2_w 74, 3) := by decide +kernel
theorem dX8_letter_6 : decode cX8_letter 6 = .ok (.invokestatic 76, 3) := by decide +kernel
theorem dX8_letter_9 : decode cX8_letter 9 = .ok (.ifCond .ne 6, 3) := by decide +kernel
theorem dX8_letter_12 : decode cX8_letter 12 = .ok (.bipush (-102), 2) := by decide +kernel
theorem dX8_letter_14 : decode cX8_letter 14 = .ok (.ireturn, 1) := by decide +kernel
theorem dX8_letter_15 : decode cX8_letter 15 = .ok (.aload_n 0, 1) := by decide +kernel
theorem dX8_letter_16 : decode cX8_letter 16 = .ok (.getfield 80, 3) := by decide +kernel
theorem dX8_letter_19 : decode cX8_letter 19 = .ok (.bipush 54, 2) := by decide +kernel
theorem dX8_letter_21 : decode cX8_letter 21 = .ok (.if_icmp .ne 6, 3) := by decide +kernel
theorem dX8_letter_24 : decode cX8_letter 24 = .ok (.bipush (-104), 2) := by decide +kernel
theorem dX8_letter_26 : decode cX8_letter 26 = .ok (.ireturn, 1) := by decide +kernel
theorem dX8_letter_27 : decode cX8_letter 27 = .ok (.aload_n 0, 1) := by decide +kernel
theorem dX8_letter_28 : decode cX8_letter 28 = .ok (.getfield 7, 3) := by decide +kernel
theorem dX8_letter_31 : decode cX8_letter 31 = .ok (.aload_n 0, 1) := by decide +kernel
theorem dX8_letter_32 : decode cX8_letter 32 = .ok (.getfield 80, 3) := by decide +kernel
theorem dX8_letter_35 : decode cX8_letter 35 = .ok (.iload_n 1, 1) := by decide +kernel
theorem dX8_letter_36 : decode cX8_letter 36 = .ok (.iastore, 1) := by decide +kernel
theorem dX8_letter_37 : decode cX8_letter 37 = .ok (.aload_n 0, 1) := by decide +kernel
theorem dX8_letter_38 : decode cX8_letter 38 = .ok (.dup, 1) := by decide +kernel
theorem dX8_letter_39 : decode cX8_letter 39 = .ok (.getfield 80, 3) := by decide +kernel
theorem dX8_letter_42 : decode cX8_letter 42 = .ok (.iconst 1, 1) := by decide +kernel
theorem dX8_letter_43 : decode cX8_letter 43 = .ok (.iadd, 1) := by decide +kernel
theorem dX8_letter_44 : decode cX8_letter 44 = .ok (.putfield 80, 3) := by decide +kernel
theorem dX8_letter_47 : decode cX8_letter 47 = .ok (.aload_n 0, 1) := by decide +kernel
theorem dX8_letter_48 : decode cX8_letter 48 = .ok (.getfield 80, 3) := by decide +kernel
theorem dX8_letter_51 : decode cX8_letter 51 = .ok (.ireturn, 1) := by decide +kernel
theorem dX8_blank_0 : decode cX8_blank 0 = .ok (.aload_n 0, 1) := by decide +kernel
theorem dX8_blank_1 : decode cX8_blank 1 = .ok (.getfield 80, 3) := by decide +kernel
theorem dX8_blank_4 : decode cX8_blank 4 = .ok (.istore_n 1, 1) := by decide +kernel
theorem dX8_blank_5 : decode cX8_blank 5 = .ok (.aload_n 0, 1) := by decide +kernel
theorem dX8_blank_6 : decode cX8_blank 6 = .ok (.iconst 0, 1) := by decide +kernel
theorem dX8_blank_7 : decode cX8_blank 7 = .ok (.putfield 80, 3) := by decide +kernel
theorem dX8_blank_10 : decode cX8_blank 10 = .ok (.iload_n 1, 1) := by decide +kernel
theorem dX8_blank_11 : decode cX8_blank 11 = .ok (.ireturn, 1) := by decide +kernel
theorem dX8_kindBy_0 : decode cX8_kindBy 0 = .ok (.iload_n 0, 1) := by decide +kernel
theorem dX8_kindBy_1 : decode cX8_kindBy 1 = .ok (.lookupswitch 61 #[(98, 51), (99, 59), (102, 57), (110, 55), (116, 53)], 51) := by decide +kernel
theorem dX8_kindBy_52 : decode cX8_kindBy 52 = .ok (.iconst 0, 1) := by decide +kernel
theorem dX8_kindBy_53 : decode cX8_kindBy 53 = .ok (.ireturn, 1) := by decide +kernel
theorem dX8_kindBy_54 : decode cX8_kindBy 54 = .ok (.iconst 1, 1) := by decide +kernel
theorem dX8_kindBy_55 : decode cX8_kindBy 55 = .ok (.ireturn, 1) := by decide +kernel
theorem dX8_kindBy_56 : decode cX8_kindBy 56 = .ok (.iconst 2, 1) := by decide +kernel
theorem dX8_kindBy_57 : decode cX8_kindBy 57 = .ok (.ireturn, 1) := by decide +kernel
theorem dX8_kindBy_58 : decode cX8_kindBy 58 = .ok (.iconst 3, 1) := by decide +kernel
theorem dX8_kindBy_59 : decode cX8_kindBy 59 = .ok (.ireturn, 1) := by decide +kernel
theorem dX8_kindBy_60 : decode cX8_kindBy 60 = .ok (.iconst 4, 1) := by decide +kernel
theorem dX8_kindBy_61 : decode cX8_kindBy 61 = .ok (.ireturn, 1) := by decide +kernel
theorem dX8_kindBy_62 : decode cX8_kindBy 62 = .ok (.iconst (-1), 1) := by decide +kernel
theorem dX8_kindBy_63 : decode cX8_kindBy 63 = .ok (.ireturn, 1) := by decide +kernel
theorem dX8_isBoxSign_0 : decode cX8_isBoxSign 0 = .ok (.aload_n 0, 1) := by decide +kernel
theorem dX8_isBoxSign_1 : decode cX8_isBoxSign 1 = .ok (.getfield 7, 3) := by decide +kernel
theorem dX8_isBoxSign_4 : decode cX8_isBoxSign 4 = .ok (.iload_n 1, 1) := by decide +kernel
theorem dX8_isBoxSign_5 : decode cX8_isBoxSign 5 = .ok (.iaload, 1) := by decide +kernel
theorem dX8_isBoxSign_6 : decode cX8_isBoxSign 6 = .ok (.istore_n 2, 1) := by decide +kernel
theorem dX8_isBoxSign_7 : decode cX8_isBoxSign 7 = .ok (.iload_n 1, 1) := by decide +kernel
theorem dX8_isBoxSign_8 : decode cX8_isBoxSign 8 = .ok (.bipush 6, 2) := by decide +kernel
theorem dX8_isBoxSign_10 : decode cX8_isBoxSign 10 = .ok (.irem, 1) := by decide +kernel
theorem dX8_isBoxSign_11 : decode cX8_isBoxSign 11 = .ok (.tableswitch 79 0 4 #[33, 47, 47, 59, 59], 33) := by decide +kernel
theorem dX8_isBoxSign_44 : decode cX8_isBoxSign 44 = .ok (.iload_n 2, 1) := by decide +kernel
theorem dX8_isBoxSign_45 : decode cX8_isBoxSign 45 = .ok (.invokestatic 83, 3) := by decide +kernel
theorem dX8_isBoxSign_48 : decode cX8_isBoxSign 48 = .ok (.iconst (-1), 1) := by decide +kernel
theorem dX8_isBoxSign_49 : decode cX8_isBoxSign 49 = .ok (.if_icmp .eq 7, 3) := by decide +kernel
theorem dX8_isBoxSign_52 : decode cX8_isBoxSign 52 = .ok (.iconst 1, 1) := by decide +kernel
theorem dX8_isBoxSign_53 : decode cX8_isBoxSign 53 = .ok (.goto 4, 3) := by decide +kernel
theorem dX8_isBoxSign_56 : decode cX8_isBoxSign 56 = .ok (.iconst 0, 1) := by decide +kernel
theorem dX8_isBoxSign_57 : decode cX8_isBoxSign 57 = .ok (.ireturn, 1) := by decide +kernel
theorem dX8_isBoxSign_58 : decode cX8_isBoxSign 58 = .ok (.iload_n 2, 1) := by decide +kernel
theorem dX8_isBoxSign_59 : decode cX8_isBoxSign 59 = .ok (.i2l, 1) := by decide +kernel
theorem dX8_isBoxSign_60 : decode cX8_isBoxSign 60 = .ok (.ldc2_w 87, 3) := by decide +kernel
theorem dX8_isBoxSign_63 : decode cX8_isBoxSign 63 = .ok (.ldc2_w 89, 3) := by decide +kernel
theorem dX8_isBoxSign_66 : decode cX8_isBoxSign 66 = .ok (.invokestatic 76, 3) := by decide +kernel
theorem dX8_isBoxSign_69 : decode cX8_isBoxSign 69 = .ok (.ireturn, 1) := by decide +kernel
theorem dX8_isBoxSign_70 : decode cX8_isBoxSign 70 = .ok (.iload_n 2, 1) := by decide +kernel
theorem dX8_isBoxSign_71 : decode cX8_isBoxSign 71 = .ok (.i2l, 1) := by decide +kernel
theorem dX8_isBoxSign_72 : decode cX8_isBoxSign 72 = .ok (.aload_n 0, 1) := by decide +kernel
theorem dX8_isBoxSign_73 : decode cX8_isBoxSign 73 = .ok (.getfield 7, 3) := by decide +kernel
theorem dX8_isBoxSign_76 : decode cX8_isBoxSign 76 = .ok (.iload_n 1, 1) := by decide +kernel
theorem dX8_isBoxSign_77 : decode cX8_isBoxSign 77 = .ok (.iconst 2, 1) := by decide +kernel
theorem dX8_isBoxSign_78 : decode cX8_isBoxSign 78 = .ok (.isub, 1) := by decide +kernel
theorem dX8_isBoxSign_79 : decode cX8_isBoxSign 79 = .ok (.iaload, 1) := by decide +kernel
theorem dX8_isBoxSign_80 : decode cX8_isBoxSign 80 = .ok (.iconst 1, 1) := by decide +kernel
theorem dX8_isBoxSign_81 : decode cX8_isBoxSign 81 = .ok (.iadd, 1) := by decide +kernel
theorem dX8_isBoxSign_82 : decode cX8_isBoxSign 82 = .ok (.i2l, 1) := by decide +kernel
theorem dX8_isBoxSign_83 : decode cX8_isBoxSign 83 = .ok (.ldc2_w 91, 3) := by decide +kernel
theorem dX8_isBoxSign_86 : decode cX8_isBoxSign 86 = .ok (.invokestatic 76, 3) := by decide +kernel
theorem dX8_isBoxSign_89 : decode cX8_isBoxSign 89 = .ok (.ireturn, 1) := by decide +kernel
theorem dX8_isBoxSign_90 : decode cX8_isBoxSign 90 = .ok (.aload_n 0, 1) := by decide +kernel
theorem dX8_isBoxSign_91 : decode cX8_isBoxSign 91 = .ok (.iload_n 2, 1) := by decide +kernel
theorem dX8_isBoxSign_92 : decode cX8_isBoxSign 92 = .ok (.bipush 59, 2) := by decide +kernel
theorem dX8_isBoxSign_94 : decode cX8_isBoxSign 94 = .ok (.if_icmp .ne 7, 3) := by decide +kernel
theorem dX8_isBoxSign_97 : decode cX8_isBoxSign 97 = .ok (.iload_n 1, 1) := by decide +kernel
theorem dX8_isBoxSign_98 : decode cX8_isBoxSign 98 = .ok (.goto 4, 3) := by decide +kernel
theorem dX8_isBoxSign_101 : decode cX8_isBoxSign 101 = .ok (.iconst 0, 1) := by decide +kernel
theorem dX8_isBoxSign_102 : decode cX8_isBoxSign 102 = .ok (.putfield 93, 3) := by decide +kernel
theorem dX8_isBoxSign_105 : decode cX8_isBoxSign 105 = .ok (.iload_n 2, 1) := by decide +kernel
theorem dX8_isBoxSign_106 : decode cX8_isBoxSign 106 = .ok (.bipush 59, 2) := by decide +kernel
theorem dX8_isBoxSign_108 : decode cX8_isBoxSign 108 = .ok (.if_icmp .eq 15, 3) := by decide +kernel
theorem dX8_isBoxSign_111 : decode cX8_isBoxSign 111 = .ok (.iload_n 2, 1) := by decide +kernel
theorem dX8_isBoxSign_112 : decode cX8_isBoxSign 112 = .ok (.bipush 44, 2) := by decide +kernel
theorem dX8_isBoxSign_114 : decode cX8_isBoxSign 114 = .ok (.if_icmp .ne 13, 3) := by decide +kernel
theorem dX8_isBoxSign_117 : decode cX8_isBoxSign 117 = .ok (.iload_n 1, 1) := by decide +kernel
theorem dX8_isBoxSign_118 : decode cX8_isBoxSign 118 = .ok (.bipush 47, 2) := by decide +kernel
theorem dX8_isBoxSign_120 : decode cX8_isBoxSign 120 = .ok (.if_icmp .ge 7, 3) := by decide +kernel
theorem dX8_isBoxSign_123 : decode cX8_isBoxSign 123 = .ok (.iconst 1, 1) := by decide +kernel
theorem dX8_isBoxSign_124 : decode cX8_isBoxSign 124 = .ok (.goto 4, 3) := by decide +kernel
theorem dX8_isBoxSign_127 : decode cX8_isBoxSign 127 = .ok (.iconst 0, 1) := by decide +kernel
theorem dX8_isBoxSign_128 : decode cX8_isBoxSign 128 = .ok (.ireturn, 1) := by decide +kernel
theorem dX8_isRuleSign_0 : decode cX8_isRuleSign 0 = .ok (.iload_n 1, 1) := by decide +kernel
theorem dX8_isRuleSign_1 : decode cX8_isRuleSign 1 = .ok (.i2l, 1) := by decide +kernel
theorem dX8_isRuleSign_2 : decode cX8_isRuleSign 2 = .ok (.ldc2_w 87, 3) := by decide +kernel
theorem dX8_isRuleSign_5 : decode cX8_isRuleSign 5 = .ok (.ldc2_w 96, 3) := by decide +kernel
theorem dX8_isRuleSign_8 : decode cX8_isRuleSign 8 = .ok (.invokestatic 76, 3) := by decide +kernel
theorem dX8_isRuleSign_11 : decode cX8_isRuleSign 11 = .ok (.ifCond .eq 17, 3) := by decide +kernel
theorem dX8_isRuleSign_14 : decode cX8_isRuleSign 14 = .ok (.aload_n 0, 1) := by decide +kernel
theorem dX8_isRuleSign_15 : decode cX8_isRuleSign 15 = .ok (.getfield 98, 3) := by decide +kernel
theorem dX8_isRuleSign_18 : decode cX8_isRuleSign 18 = .ok (.iload_n 1, 1) := by decide +kernel
theorem dX8_isRuleSign_19 : decode cX8_isRuleSign 19 = .ok (.bipush 48, 2) := by decide +kernel
theorem dX8_isRuleSign_21 : decode cX8_isRuleSign 21 = .ok (.isub, 1) := by decide +kernel
theorem dX8_isRuleSign_22 : decode cX8_isRuleSign 22 = .ok (.invokestatic 101, 3) := by decide +kernel
theorem dX8_isRuleSign_25 : decode cX8_isRuleSign 25 = .ok (.ifCond .eq 5, 3) := by decide +kernel
theorem dX8_isRuleSign_28 : decode cX8_isRuleSign 28 = .ok (.iconst 0, 1) := by decide +kernel
theorem dX8_isRuleSign_29 : decode cX8_isRuleSign 29 = .ok (.ireturn, 1) := by decide +kernel
theorem dX8_isRuleSign_30 : decode cX8_isRuleSign 30 = .ok (.aload_n 0, 1) := by decide +kernel
theorem dX8_isRuleSign_31 : decode cX8_isRuleSign 31 = .ok (.dup, 1) := by decide +kernel
theorem dX8_isRuleSign_32 : decode cX8_isRuleSign 32 = .ok (.getfield 98, 3) := by decide +kernel
theorem dX8_isRuleSign_35 : decode cX8_isRuleSign 35 = .ok (.iconst 1, 1) := by decide +kernel
theorem dX8_isRuleSign_36 : decode cX8_isRuleSign 36 = .ok (.iload_n 1, 1) := by decide +kernel
theorem dX8_isRuleSign_37 : decode cX8_isRuleSign 37 = .ok (.bipush 48, 2) := by decide +kernel
theorem dX8_isRuleSign_39 : decode cX8_isRuleSign 39 = .ok (.isub, 1) := by decide +kernel
theorem dX8_isRuleSign_40 : decode cX8_isRuleSign 40 = .ok (.ishl, 1) := by decide +kernel
theorem dX8_isRuleSign_41 : decode cX8_isRuleSign 41 = .ok (.ior, 1) := by decide +kernel
theorem dX8_isRuleSign_42 : decode cX8_isRuleSign 42 = .ok (.putfield 98, 3) := by decide +kernel
theorem dX8_isRuleSign_45 : decode cX8_isRuleSign 45 = .ok (.aload_n 0, 1) := by decide +kernel
theorem dX8_isRuleSign_46 : decode cX8_isRuleSign 46 = .ok (.dup, 1) := by decide +kernel
theorem dX8_isRuleSign_47 : decode cX8_isRuleSign 47 = .ok (.getfield 105, 3) := by decide +kernel
theorem dX8_isRuleSign_50 : decode cX8_isRuleSign 50 = .ok (.iconst 1, 1) := by decide +kernel
theorem dX8_isRuleSign_51 : decode cX8_isRuleSign 51 = .ok (.iadd, 1) := by decide +kernel
theorem dX8_isRuleSign_52 : decode cX8_isRuleSign 52 = .ok (.putfield 105, 3) := by decide +kernel
theorem dX8_isRuleSign_55 : decode cX8_isRuleSign 55 = .ok (.iconst 1, 1) := by decide +kernel
theorem dX8_isRuleSign_56 : decode cX8_isRuleSign 56 = .ok (.ireturn, 1) := by decide +kernel
theorem dX8_faultOf_0 : decode cX8_faultOf 0 = .ok (.aload_n 0, 1) := by decide +kernel
theorem dX8_faultOf_1 : decode cX8_faultOf 1 = .ok (.iconst 0, 1) := by decide +kernel
theorem dX8_faultOf_2 : decode cX8_faultOf 2 = .ok (.putfield 93, 3) := by decide +kernel
theorem dX8_faultOf_5 : decode cX8_faultOf 5 = .ok (.aload_n 0, 1) := by decide +kernel
theorem dX8_faultOf_6 : decode cX8_faultOf 6 = .ok (.iconst 0, 1) := by decide +kernel
theorem dX8_faultOf_7 : decode cX8_faultOf 7 = .ok (.putfield 98, 3) := by decide +kernel
theorem dX8_faultOf_10 : decode cX8_faultOf 10 = .ok (.aload_n 0, 1) := by decide +kernel
theorem dX8_faultOf_11 : decode cX8_faultOf 11 = .ok (.iconst 0, 1) := by decide +kernel
theorem dX8_faultOf_12 : decode cX8_faultOf 12 = .ok (.putfield 105, 3) := by decide +kernel
theorem dX8_faultOf_15 : decode cX8_faultOf 15 = .ok (.iconst 0, 1) := by decide +kernel
theorem dX8_faultOf_16 : decode cX8_faultOf 16 = .ok (.istore_n 1, 1) := by decide +kernel
theorem dX8_faultOf_17 : decode cX8_faultOf 17 = .ok (.iload_n 1, 1) := by decide +kernel
theorem dX8_faultOf_18 : decode cX8_faultOf 18 = .ok (.aload_n 0, 1) := by decide +kernel
theorem dX8_faultOf_19 : decode cX8_faultOf 19 = .ok (.getfield 80, 3) := by decide +kernel
theorem dX8_faultOf_22 : decode cX8_faultOf 22 = .ok (.if_icmp .ge 40, 3) := by decide +kernel
theorem dX8_faultOf_25 : decode cX8_faultOf 25 = .ok (.aload_n 0, 1) := by decide +kernel
theorem dX8_faultOf_26 : decode cX8_faultOf 26 = .ok (.getfield 93, 3) := by decide +kernel
theorem dX8_faultOf_29 : decode cX8_faultOf 29 = .ok (.ifCond .ne 14, 3) := by decide +kernel
theorem dX8_faultOf_32 : decode cX8_faultOf 32 = .ok (.aload_n 0, 1) := by decide +kernel
theorem dX8_faultOf_33 : decode cX8_faultOf 33 = .ok (.iload_n 1, 1) := by decide +kernel
theorem dX8_faultOf_34 : decode cX8_faultOf 34 = .ok (.invokevirtual 108, 3) := by decide +kernel
theorem dX8_faultOf_37 : decode cX8_faultOf 37 = .ok (.ifCond .eq 25, 3) := by decide +kernel
theorem dX8_faultOf_40 : decode cX8_faultOf 40 = .ok (.goto 16, 3) := by decide +kernel
theorem dX8_faultOf_43 : decode cX8_faultOf 43 = .ok (.aload_n 0, 1) := by decide +kernel
theorem dX8_faultOf_44 : decode cX8_faultOf 44 = .ok (.aload_n 0, 1) := by decide +kernel
theorem dX8_faultOf_45 : decode cX8_faultOf 45 = .ok (.getfield 7, 3) := by decide +kernel
theorem dX8_faultOf_48 : decode cX8_faultOf 48 = .ok (.iload_n 1, 1) := by decide +kernel
theorem dX8_faultOf_49 : decode cX8_faultOf 49 = .ok (.iaload, 1) := by decide +kernel
theorem dX8_faultOf_50 : decode cX8_faultOf 50 = .ok (.invokevirtual 112, 3) := by decide +kernel
theorem dX8_faultOf_53 : decode cX8_faultOf 53 = .ok (.ifCond .eq 9, 3) := by decide +kernel
theorem dX8_faultOf_56 : decode cX8_faultOf 56 = .ok (.iinc 1 1, 3) := by decide +kernel
theorem dX8_faultOf_59 : decode cX8_faultOf 59 = .ok (.goto (-42), 3) := by decide +kernel
theorem dX8_faultOf_62 : decode cX8_faultOf 62 = .ok (.iload_n 1, 1) := by decide +kernel
theorem dX8_faultOf_63 : decode cX8_faultOf 63 = .ok (.ireturn, 1) := by decide +kernel
theorem dX8_fault_0 : decode cX8_fault 0 = .ok (.aload_n 0, 1) := by decide +kernel
theorem dX8_fault_1 : decode cX8_fault 1 = .ok (.invokevirtual 115, 3) := by decide +kernel
theorem dX8_fault_4 : decode cX8_fault 4 = .ok (.ireturn, 1) := by decide +kernel
theorem dX8_lacks_0 : decode cX8_lacks 0 = .ok (.aload_n 0, 1) := by decide +kernel
theorem dX8_lacks_1 : decode cX8_lacks 1 = .ok (.getfield 119, 3) := by decide +kernel
theorem dX8_lacks_4 : decode cX8_lacks 4 = .ok (.ifCond .ne 7, 3) := by decide +kernel
theorem dX8_lacks_7 : decode cX8_lacks 7 = .ok (.iconst 1, 1) := by decide +kernel
theorem dX8_lacks_8 : decode cX8_lacks 8 = .ok (.goto 4, 3) := by decide +kernel
theorem dX8_lacks_11 : decode cX8_lacks 11 = .ok (.iconst 0, 1) := by decide +kernel
theorem dX8_lacks_12 : decode cX8_lacks 12 = .ok (.ireturn, 1) := by decide +kernel
theorem dX8_isBox_0 : decode cX8_isBox 0 = .ok (.iload_n 1, 1) := by decide +kernel
theorem dX8_isBox_1 : decode cX8_isBox 1 = .ok (.i2l, 1) := by decide +kernel
theorem dX8_isBox_2 : decode cX8_isBox 2 = .ok (.lconst 0, 1) := by decide +kernel
theorem dX8_isBox_3 : decode cX8_isBox 3 = .ok (.aload_n 0, 1) := by decide +kernel
theorem dX8_isBox_4 : decode cX8_isBox 4 = .ok (.getfield 119, 3) := by decide +kernel
theorem dX8_isBox_7 : decode cX8_isBox 7 = .ok (.iconst 1, 1) := by decide +kernel
theorem dX8_isBox_8 : decode cX8_isBox 8 = .ok (.isub, 1) := by decide +kernel
theorem dX8_isBox_9 : decode cX8_isBox 9 = .ok (.i2l, 1) := by decide +kernel
theorem dX8_isBox_10 : decode cX8_isBox 10 = .ok (.invokestatic 76, 3) := by decide +kernel
theorem dX8_isBox_13 : decode cX8_isBox 13 = .ok (.ireturn, 1) := by decide +kernel
theorem dX8_gap_0 : decode cX8_gap 0 = .ok (.iload_n 2, 1) := by decide +kernel
theorem dX8_gap_1 : decode cX8_gap 1 = .ok (.iload_n 1, 1) := by decide +kernel
theorem dX8_gap_2 : decode cX8_gap 2 = .ok (.if_icmp .le 9, 3) := by decide +kernel
theorem dX8_gap_5 : decode cX8_gap 5 = .ok (.iload_n 2, 1) := by decide +kernel
theorem dX8_gap_6 : decode cX8_gap 6 = .ok (.iload_n 1, 1) := by decide +kernel
theorem dX8_gap_7 : decode cX8_gap 7 = .ok (.isub, 1) := by decide +kernel
theorem dX8_gap_8 : decode cX8_gap 8 = .ok (.goto 15, 3) := by decide +kernel
theorem dX8_gap_11 : decode cX8_gap 11 = .ok (.iload_n 0, 1) := by decide +kernel
theorem dX8_gap_12 : decode cX8_gap 12 = .ok (.iload_n 3, 1) := by decide +kernel
theorem dX8_gap_13 : decode cX8_gap 13 = .ok (.if_icmp .le 9, 3) := by decide +kernel
theorem dX8_gap_16 : decode cX8_gap 16 = .ok (.iload_n 0, 1) := by decide +kernel
theorem dX8_gap_17 : decode cX8_gap 17 = .ok (.iload_n 3, 1) := by decide +kernel
theorem dX8_gap_18 : decode cX8_gap 18 = .ok (.isub, 1) := by decide +kernel
theorem dX8_gap_19 : decode cX8_gap 19 = .ok (.goto 4, 3) := by decide +kernel
theorem dX8_gap_22 : decode cX8_gap 22 = .ok (.iconst 0, 1) := by decide +kernel
theorem dX8_gap_23 : decode cX8_gap 23 = .ok (.ireturn, 1) := by decide +kernel
theorem dX8_apart_0 : decode cX8_apart 0 = .ok (.aload_n 0, 1) := by decide +kernel
theorem dX8_apart_1 : decode cX8_apart 1 = .ok (.getfield 16, 3) := by decide +kernel
theorem dX8_apart_4 : decode cX8_apart 4 = .ok (.iconst 4, 1) := by decide +kernel
theorem dX8_apart_5 : decode cX8_apart 5 = .ok (.iload_n 1, 1) := by decide +kernel
theorem dX8_apart_6 : decode cX8_apart 6 = .ok (.imul, 1) := by decide +kernel
theorem dX8_apart_7 : decode cX8_apart 7 = .ok (.iaload, 1) := by decide +kernel
theorem dX8_apart_8 : decode cX8_apart 8 = .ok (.aload_n 0, 1) := by decide +kernel
theorem dX8_apart_9 : decode cX8_apart 9 = .ok (.getfield 16, 3) := by decide +kernel
theorem dX8_apart_12 : decode cX8_apart 12 = .ok (.iconst 4, 1) := by decide +kernel
theorem dX8_apart_13 : decode cX8_apart 13 = .ok (.iload_n 1, 1) := by decide +kernel
theorem dX8_apart_14 : decode cX8_apart 14 = .ok (.imul, 1) := by decide +kernel
theorem dX8_apart_15 : decode cX8_apart 15 = .ok (.iconst 2, 1) := by decide +kernel
theorem dX8_apart_16 : decode cX8_apart 16 = .ok (.iadd, 1) := by decide +kernel
theorem dX8_apart_17 : decode cX8_apart 17 = .ok (.iaload, 1) := by decide +kernel
theorem dX8_apart_18 : decode cX8_apart 18 = .ok (.aload_n 0, 1) := by decide +kernel
theorem dX8_apart_19 : decode cX8_apart 19 = .ok (.getfield 16, 3) := by decide +kernel
theorem dX8_apart_22 : decode cX8_apart 22 = .ok (.iconst 4, 1) := by decide +kernel
theorem dX8_apart_23 : decode cX8_apart 23 = .ok (.iload_n 2, 1) := by decide +kernel
theorem dX8_apart_24 : decode cX8_apart 24 = .ok (.imul, 1) := by decide +kernel
theorem dX8_apart_25 : decode cX8_apart 25 = .ok (.iaload, 1) := by decide +kernel
theorem dX8_apart_26 : decode cX8_apart 26 = .ok (.aload_n 0, 1) := by decide +kernel
theorem dX8_apart_27 : decode cX8_apart 27 = .ok (.getfield 16, 3) := by decide +kernel
theorem dX8_apart_30 : decode cX8_apart 30 = .ok (.iconst 4, 1) := by decide +kernel
theorem dX8_apart_31 : decode cX8_apart 31 = .ok (.iload_n 2, 1) := by decide +kernel
theorem dX8_apart_32 : decode cX8_apart 32 = .ok (.imul, 1) := by decide +kernel
theorem dX8_apart_33 : decode cX8_apart 33 = .ok (.iconst 2, 1) := by decide +kernel
theorem dX8_apart_34 : decode cX8_apart 34 = .ok (.iadd, 1) := by decide +kernel
theorem dX8_apart_35 : decode cX8_apart 35 = .ok (.iaload, 1) := by decide +kernel
theorem dX8_apart_36 : decode cX8_apart 36 = .ok (.invokestatic 131, 3) := by decide +kernel
theorem dX8_apart_39 : decode cX8_apart 39 = .ok (.istore_n 3, 1) := by decide +kernel
theorem dX8_apart_40 : decode cX8_apart 40 = .ok (.iload_n 3, 1) := by decide +kernel
theorem dX8_apart_41 : decode cX8_apart 41 = .ok (.aload_n 0, 1) := by decide +kernel
theorem dX8_apart_42 : decode cX8_apart 42 = .ok (.getfield 16, 3) := by decide +kernel
theorem dX8_apart_45 : decode cX8_apart 45 = .ok (.iconst 4, 1) := by decide +kernel
theorem dX8_apart_46 : decode cX8_apart 46 = .ok (.iload_n 1, 1) := by decide +kernel
theorem dX8_apart_47 : decode cX8_apart 47 = .ok (.imul, 1) := by decide +kernel
theorem dX8_apart_48 : decode cX8_apart 48 = .ok (.iconst 1, 1) := by decide +kernel
theorem dX8_apart_49 : decode cX8_apart 49 = .ok (.iadd, 1) := by decide +kernel
theorem dX8_apart_50 : decode cX8_apart 50 = .ok (.iaload, 1) := by decide +kernel
theorem dX8_apart_51 : decode cX8_apart 51 = .ok (.aload_n 0, 1) := by decide +kernel
theorem dX8_apart_52 : decode cX8_apart 52 = .ok (.getfield 16, 3) := by decide +kernel
theorem dX8_apart_55 : decode cX8_apart 55 = .ok (.iconst 4, 1) := by decide +kernel
theorem dX8_apart_56 : decode cX8_apart 56 = .ok (.iload_n 1, 1) := by decide +kernel
theorem dX8_apart_57 : decode cX8_apart 57 = .ok (.imul, 1) := by decide +kernel
theorem dX8_apart_58 : decode cX8_apart 58 = .ok (.iconst 3, 1) := by decide +kernel
theorem dX8_apart_59 : decode cX8_apart 59 = .ok (.iadd, 1) := by decide +kernel
theorem dX8_apart_60 : decode cX8_apart 60 = .ok (.iaload, 1) := by decide +kernel
theorem dX8_apart_61 : decode cX8_apart 61 = .ok (.aload_n 0, 1) := by decide +kernel
theorem dX8_apart_62 : decode cX8_apart 62 = .ok (.getfield 16, 3) := by decide +kernel
theorem dX8_apart_65 : decode cX8_apart 65 = .ok (.iconst 4, 1) := by decide +kernel
theorem dX8_apart_66 : decode cX8_apart 66 = .ok (.iload_n 2, 1) := by decide +kernel
theorem dX8_apart_67 : decode cX8_apart 67 = .ok (.imul, 1) := by decide +kernel
theorem dX8_apart_68 : decode cX8_apart 68 = .ok (.iconst 1, 1) := by decide +kernel
theorem dX8_apart_69 : decode cX8_apart 69 = .ok (.iadd, 1) := by decide +kernel
theorem dX8_apart_70 : decode cX8_apart 70 = .ok (.iaload, 1) := by decide +kernel
theorem dX8_apart_71 : decode cX8_apart 71 = .ok (.aload_n 0, 1) := by decide +kernel
theorem dX8_apart_72 : decode cX8_apart 72 = .ok (.getfield 16, 3) := by decide +kernel
theorem dX8_apart_75 : decode cX8_apart 75 = .ok (.iconst 4, 1) := by decide +kernel
theorem dX8_apart_76 : decode cX8_apart 76 = .ok (.iload_n 2, 1) := by decide +kernel
theorem dX8_apart_77 : decode cX8_apart 77 = .ok (.imul, 1) := by decide +kernel
theorem dX8_apart_78 : decode cX8_apart 78 = .ok (.iconst 3, 1) := by decide +kernel
theorem dX8_apart_79 : decode cX8_apart 79 = .ok (.iadd, 1) := by decide +kernel
theorem dX8_apart_80 : decode cX8_apart 80 = .ok (.iaload, 1) := by decide +kernel
theorem dX8_apart_81 : decode cX8_apart 81 = .ok (.invokestatic 131, 3) := by decide +kernel
theorem dX8_apart_84 : decode cX8_apart 84 = .ok (.iadd, 1) := by decide +kernel
theorem dX8_apart_85 : decode cX8_apart 85 = .ok (.ireturn, 1) := by decide +kernel
theorem dX8_layBound_0 : decode cX8_layBound 0 = .ok (.iload_n 1, 1) := by decide +kernel
theorem dX8_layBound_1 : decode cX8_layBound 1 = .ok (.istore_n 2, 1) := by decide +kernel
theorem dX8_layBound_2 : decode cX8_layBound 2 = .ok (.iconst 0, 1) := by decide +kernel
theorem dX8_layBound_3 : decode cX8_layBound 3 = .ok (.istore_n 3, 1) := by decide +kernel
theorem dX8_layBound_4 : decode cX8_layBound 4 = .ok (.iload_n 3, 1) := by decide +kernel
theorem dX8_layBound_5 : decode cX8_layBound 5 = .ok (.aload_n 0, 1) := by decide +kernel
theorem dX8_layBound_6 : decode cX8_layBound 6 = .ok (.getfield 119, 3) := by decide +kernel
theorem dX8_layBound_9 : decode cX8_layBound 9 = .ok (.if_icmp .ge 148, 3) := by decide +kernel
theorem dX8_layBound_12 : decode cX8_layBound 12 = .ok (.aload_n 0, 1) := by decide +kernel
theorem dX8_layBound_13 : decode cX8_layBound 13 = .ok (.getfield 22, 3) := by decide +kernel
theorem dX8_layBound_16 : decode cX8_layBound 16 = .ok (.iload_n 3, 1) := by decide +kernel
theorem dX8_layBound_17 : decode cX8_layBound 17 = .ok (.iconst (-1), 1) := by decide +kernel
theorem dX8_layBound_18 : decode cX8_layBound 18 = .ok (.iastore, 1) := by decide +kernel
theorem dX8_layBound_19 : decode cX8_layBound 19 = .ok (.iconst 0, 1) := by decide +kernel
theorem dX8_layBound_20 : decode cX8_layBound 20 = .ok (.istore 4, 2) := by decide +kernel
theorem dX8_layBound_22 : decode cX8_layBound 22 = .ok (.iconst 0, 1) := by decide +kernel
theorem dX8_layBound_23 : decode cX8_layBound 23 = .ok (.istore 5, 2) := by decide +kernel
theorem dX8_layBound_25 : decode cX8_layBound 25 = .ok (.iload 5, 2) := by decide +kernel
theorem dX8_layBound_27 : decode cX8_layBound 27 = .ok (.aload_n 0, 1) := by decide +kernel
theorem dX8_layBound_28 : decode cX8_layBound 28 = .ok (.getfield 119, 3) := by decide +kernel
theorem dX8_layBound_31 : decode cX8_layBound 31 = .ok (.if_icmp .ge 98, 3) := by decide +kernel
theorem dX8_layBound_34 : decode cX8_layBound 34 = .ok (.iload_n 1, 1) := by decide +kernel
theorem dX8_layBound_35 : decode cX8_layBound 35 = .ok (.iload_n 3, 1) := by decide +kernel
theorem dX8_layBound_36 : decode cX8_layBound 36 = .ok (.invokestatic 101, 3) := by decide +kernel
theorem dX8_layBound_39 : decode cX8_layBound 39 = .ok (.ifCond .eq 90, 3) := by decide +kernel
theorem dX8_layBound_42 : decode cX8_layBound 42 = .ok (.aload_n 0, 1) := by decide +kernel
theorem dX8_layBound_43 : decode cX8_layBound 43 = .ok (.getfield 13, 3) := by decide +kernel
theorem dX8_layBound_46 : decode cX8_layBound 46 = .ok (.iload_n 3, 1) := by decide +kernel
theorem dX8_layBound_47 : decode cX8_layBound 47 = .ok (.iaload, 1) := by decide +kernel
theorem dX8_layBound_48 : decode cX8_layBound 48 = .ok (.iconst 4, 1) := by decide +kernel
theorem dX8_layBound_49 : decode cX8_layBound 49 = .ok (.if_icmp .ne 80, 3) := by decide +kernel
theorem dX8_layBound_52 : decode cX8_layBound 52 = .ok (.iload_n 1, 1) := by decide +kernel
theorem dX8_layBound_53 : decode cX8_layBound 53 = .ok (.iload 5, 2) := by decide +kernel
theorem dX8_layBound_55 : decode cX8_layBound 55 = .ok (.invokestatic 101, 3) := by decide +kernel
theorem dX8_layBound_58 : decode cX8_layBound 58 = .ok (.ifCond .eq 18, 3) := by decide +kernel
theorem dX8_layBound_61 : decode cX8_layBound 61 = .ok (.aload_n 0, 1) := by decide +kernel
theorem dX8_layBound_62 : decode cX8_layBound 62 = .ok (.getfield 13, 3) := by decide +kernel
theorem dX8_layBound_65 : decode cX8_layBound 65 = .ok (.iload 5, 2) := by decide +kernel
theorem dX8_layBound_67 : decode cX8_layBound 67 = .ok (.iaload, 1) := by decide +kernel
theorem dX8_layBound_68 : decode cX8_layBound 68 = .ok (.iconst 3, 1) := by decide +kernel
theorem dX8_layBound_69 : decode cX8_layBound 69 = .ok (.if_icmp .ne 7, 3) := by decide +kernel
theorem dX8_layBound_72 : decode cX8_layBound 72 = .ok (.iconst 1, 1) := by decide +kernel
theorem dX8_layBound_73 : decode cX8_layBound 73 = .ok (.goto 4, 3) := by decide +kernel
theorem dX8_layBound_76 : decode cX8_layBound 76 = .ok (.iconst 0, 1) := by decide +kernel
theorem dX8_layBound_77 : decode cX8_layBound 77 = .ok (.istore 6, 2) := by decide +kernel
theorem dX8_layBound_79 : decode cX8_layBound 79 = .ok (.iload 6, 2) := by decide +kernel
theorem dX8_layBound_81 : decode cX8_layBound 81 = .ok (.ifCond .eq 42, 3) := by decide +kernel
theorem dX8_layBound_84 : decode cX8_layBound 84 = .ok (.aload_n 0, 1) := by decide +kernel
theorem dX8_layBound_85 : decode cX8_layBound 85 = .ok (.getfield 22, 3) := by decide +kernel
theorem dX8_layBound_88 : decode cX8_layBound 88 = .ok (.iload_n 3, 1) := by decide +kernel
theorem dX8_layBound_89 : decode cX8_layBound 89 = .ok (.iaload, 1) := by decide +kernel
theorem dX8_layBound_90 : decode cX8_layBound 90 = .ok (.iconst (-1), 1) := by decide +kernel
theorem dX8_layBound_91 : decode cX8_layBound 91 = .ok (.if_icmp .eq 15, 3) := by decide +kernel
theorem dX8_layBound_94 : decode cX8_layBound 94 = .ok (.aload_n 0, 1) := by decide +kernel
theorem dX8_layBound_95 : decode cX8_layBound 95 = .ok (.iload_n 3, 1) := by decide +kernel
theorem dX8_layBound_96 : decode cX8_layBound 96 = .ok (.iload 5, 2) := by decide +kernel
theorem dX8_layBound_98 : decode cX8_layBound 98 = .ok (.invokevirtual 135, 3) := by decide +kernel
theorem dX8_layBound_101 : decode cX8_layBound 101 = .ok (.iload 4, 2) := by decide +kernel
theorem dX8_layBound_103 : decode cX8_layBound 103 = .ok (.if_icmp .ge 20, 3) := by decide +kernel
theorem dX8_layBound_106 : decode cX8_layBound 106 = .ok (.aload_n 0, 1) := by decide +kernel
theorem dX8_layBound_107 : decode cX8_layBound 107 = .ok (.getfield 22, 3) := by decide +kernel
theorem dX8_layBound_110 : decode cX8_layBound 110 = .ok (.iload_n 3, 1) := by decide +kernel
theorem dX8_layBound_111 : decode cX8_layBound 111 = .ok (.iload 5, 2) := by decide +kernel
theorem dX8_layBound_113 : decode cX8_layBound 113 = .ok (.iastore, 1) := by decide +kernel
theorem dX8_layBound_114 : decode cX8_layBound 114 = .ok (.aload_n 0, 1) := by decide +kernel
theorem dX8_layBound_115 : decode cX8_layBound 115 = .ok (.iload_n 3, 1) := by decide +kernel
theorem dX8_layBound_116 : decode cX8_layBound 116 = .ok (.iload 5, 2) := by decide +kernel
theorem dX8_layBound_118 : decode cX8_layBound 118 = .ok (.invokevirtual 135, 3) := by decide +kernel
theorem dX8_layBound_121 : decode cX8_layBound 121 = .ok (.istore 4, 2) := by decide +kernel
theorem dX8_layBound_123 : decode cX8_layBound 123 = .ok (.iinc 5 1, 3) := by decide +kernel
theorem dX8_layBound_126 : decode cX8_layBound 126 = .ok (.goto (-101), 3) := by decide +kernel
theorem dX8_layBound_129 : decode cX8_layBound 129 = .ok (.iload_n 2, 1) := by decide +kernel
theorem dX8_layBound_130 : decode cX8_layBound 130 = .ok (.aload_n 0, 1) := by decide +kernel
theorem dX8_layBound_131 : decode cX8_layBound 131 = .ok (.getfield 22, 3) := by decide +kernel
theorem dX8_layBound_134 : decode cX8_layBound 134 = .ok (.iload_n 3, 1) := by decide +kernel
theorem dX8_layBound_135 : decode cX8_layBound 135 = .ok (.iaload, 1) := by decide +kernel
theorem dX8_layBound_136 : decode cX8_layBound 136 = .ok (.iconst (-1), 1) := by decide +kernel
theorem dX8_layBound_137 : decode cX8_layBound 137 = .ok (.if_icmp .ne 7, 3) := by decide +kernel
theorem dX8_layBound_140 : decode cX8_layBound 140 = .ok (.iconst (-1), 1) := by decide +kernel
theorem dX8_layBound_141 : decode cX8_layBound 141 = .ok (.goto 8, 3) := by decide +kernel
theorem dX8_layBound_144 : decode cX8_layBound 144 = .ok (.iconst 1, 1) := by decide +kernel
theorem dX8_layBound_145 : decode cX8_layBound 145 = .ok (.iload_n 3, 1) := by decide +kernel
theorem dX8_layBound_146 : decode cX8_layBound 146 = .ok (.ishl, 1) := by decide +kernel
theorem dX8_layBound_147 : decode cX8_layBound 147 = .ok (.iconst (-1), 1) := by decide +kernel
theorem dX8_layBound_148 : decode cX8_layBound 148 = .ok (.ixor, 1) := by decide +kernel
theorem dX8_layBound_149 : decode cX8_layBound 149 = .ok (.iand, 1) := by decide +kernel
theorem dX8_layBound_150 : decode cX8_layBound 150 = .ok (.istore_n 2, 1) := by decide +kernel
theorem dX8_layBound_151 : decode cX8_layBound 151 = .ok (.iinc 3 1, 3) := by decide +kernel
theorem dX8_layBound_154 : decode cX8_layBound 154 = .ok (.goto (-150), 3) := by decide +kernel
theorem dX8_layBound_157 : decode cX8_layBound 157 = .ok (.iload_n 2, 1) := by decide +kernel
theorem dX8_layBound_158 : decode cX8_layBound 158 = .ok (.ireturn, 1) := by decide +kernel
theorem dX8_isLane_0 : decode cX8_isLane 0 = .ok (.iconst 0, 1) := by decide +kernel
theorem dX8_isLane_1 : decode cX8_isLane 1 = .ok (.istore 5, 2) := by decide +kernel
theorem dX8_isLane_3 : decode cX8_isLane 3 = .ok (.iload 5, 2) := by decide +kernel
theorem dX8_isLane_5 : decode cX8_isLane 5 = .ok (.aload_n 0, 1) := by decide +kernel
theorem dX8_isLane_6 : decode cX8_isLane 6 = .ok (.getfield 119, 3) := by decide +kernel
theorem dX8_isLane_9 : decode cX8_isLane 9 = .ok (.if_icmp .ge 53, 3) := by decide +kernel
theorem dX8_isLane_12 : decode cX8_isLane 12 = .ok (.iload_n 1, 1) := by decide +kernel
theorem dX8_isLane_13 : decode cX8_isLane 13 = .ok (.iload 5, 2) := by decide +kernel
theorem dX8_isLane_15 : decode cX8_isLane 15 = .ok (.invokestatic 101, 3) := by decide +kernel
theorem dX8_isLane_18 : decode cX8_isLane 18 = .ok (.ifCond .eq 38, 3) := by decide +kernel
theorem dX8_isLane_21 : decode cX8_isLane 21 = .ok (.aload_n 0, 1) := by decide +kernel
theorem dX8_isLane_22 : decode cX8_isLane 22 = .ok (.getfield 16, 3) := by decide +kernel
theorem dX8_isLane_25 : decode cX8_isLane 25 = .ok (.iconst 4, 1) := by decide +kernel
theorem dX8_isLane_26 : decode cX8_isLane 26 = .ok (.iload 5, 2) := by decide +kernel
theorem dX8_isLane_28 : decode cX8_isLane 28 = .ok (.imul, 1) := by decide +kernel
theorem dX8_isLane_29 : decode cX8_isLane 29 = .ok (.iload_n 2, 1) := by decide +kernel
theorem dX8_isLane_30 : decode cX8_isLane 30 = .ok (.iadd, 1) := by decide +kernel
theorem dX8_isLane_31 : decode cX8_isLane 31 = .ok (.iaload, 1) := by decide +kernel
theorem dX8_isLane_32 : decode cX8_isLane 32 = .ok (.iload 4, 2) := by decide +kernel
theorem dX8_isLane_34 : decode cX8_isLane 34 = .ok (.if_icmp .ge 22, 3) := by decide +kernel
theorem dX8_isLane_37 : decode cX8_isLane 37 = .ok (.aload_n 0, 1) := by decide +kernel
theorem dX8_isLane_38 : decode cX8_isLane 38 = .ok (.getfield 16, 3) := by decide +kernel
theorem dX8_isLane_41 : decode cX8_isLane 41 = .ok (.iconst 4, 1) := by decide +kernel
theorem dX8_isLane_42 : decode cX8_isLane 42 = .ok (.iload 5, 2) := by decide +kernel
theorem dX8_isLane_44 : decode cX8_isLane 44 = .ok (.imul, 1) := by decide +kernel
theorem dX8_isLane_45 : decode cX8_isLane 45 = .ok (.iconst 2, 1) := by decide +kernel
theorem dX8_isLane_46 : decode cX8_isLane 46 = .ok (.iadd, 1) := by decide +kernel
theorem dX8_isLane_47 : decode cX8_isLane 47 = .ok (.iload_n 2, 1) := by decide +kernel
theorem dX8_isLane_48 : decode cX8_isLane 48 = .ok (.iadd, 1) := by decide +kernel
theorem dX8_isLane_49 : decode cX8_isLane 49 = .ok (.iaload, 1) := by decide +kernel
theorem dX8_isLane_50 : decode cX8_isLane 50 = .ok (.iload_n 3, 1) := by decide +kernel
theorem dX8_isLane_51 : decode cX8_isLane 51 = .ok (.if_icmp .le 5, 3) := by decide +kernel
theorem dX8_isLane_54 : decode cX8_isLane 54 = .ok (.iconst 0, 1) := by decide +kernel
theorem dX8_isLane_55 : decode cX8_isLane 55 = .ok (.ireturn, 1) := by decide +kernel
theorem dX8_isLane_56 : decode cX8_isLane 56 = .ok (.iinc 5 1, 3) := by decide +kernel
theorem dX8_isLane_59 : decode cX8_isLane 59 = .ok (.goto (-56), 3) := by decide +kernel
theorem dX8_isLane_62 : decode cX8_isLane 62 = .ok (.iconst 1, 1) := by decide +kernel
theorem dX8_isLane_63 : decode cX8_isLane 63 = .ok (.ireturn, 1) := by decide +kernel
theorem dX8_layLane_0 : decode cX8_layLane 0 = .ok (.aload_n 0, 1) := by decide +kernel
theorem dX8_layLane_1 : decode cX8_layLane 1 = .ok (.iconst (-1), 1) := by decide +kernel
theorem dX8_layLane_2 : decode cX8_layLane 2 = .ok (.putfield 142, 3) := by decide +kernel
theorem dX8_layLane_5 : decode cX8_layLane 5 = .ok (.aload_n 0, 1) := by decide +kernel
theorem dX8_layLane_6 : decode cX8_layLane 6 = .ok (.iconst (-1), 1) := by decide +kernel
theorem dX8_layLane_7 : decode cX8_layLane 7 = .ok (.putfield 145, 3) := by decide +kernel
theorem dX8_layLane_10 : decode cX8_layLane 10 = .ok (.aload_n 0, 1) := by decide +kernel
theorem dX8_layLane_11 : decode cX8_layLane 11 = .ok (.iconst 0, 1) := by decide +kernel
theorem dX8_layLane_12 : decode cX8_layLane 12 = .ok (.putfield 139, 3) := by decide +kernel
theorem dX8_layLane_15 : decode cX8_layLane 15 = .ok (.iconst 1, 1) := by decide +kernel
theorem dX8_layLane_16 : decode cX8_layLane 16 = .ok (.istore_n 2, 1) := by decide +kernel
theorem dX8_layLane_17 : decode cX8_layLane 17 = .ok (.iload_n 2, 1) := by decide +kernel
theorem dX8_layLane_18 : decode cX8_layLane 18 = .ok (.ifCond .lt 83, 3) := by decide +kernel
theorem dX8_layLane_21 : decode cX8_layLane 21 = .ok (.iconst 0, 1) := by decide +kernel
theorem dX8_layLane_22 : decode cX8_layLane 22 = .ok (.istore_n 3, 1) := by decide +kernel
theorem dX8_layLane_23 : decode cX8_layLane 23 = .ok (.iload_n 3, 1) := by decide +kernel
theorem dX8_layLane_24 : decode cX8_layLane 24 = .ok (.bipush 64, 2) := by decide +kernel
theorem dX8_layLane_26 : decode cX8_layLane 26 = .ok (.if_icmp .ge 69, 3) := by decide +kernel
theorem dX8_layLane_29 : decode cX8_layLane 29 = .ok (.iload_n 3, 1) := by decide +kernel
theorem dX8_layLane_30 : decode cX8_layLane 30 = .ok (.bipush 8, 2) := by decide +kernel
theorem dX8_layLane_32 : decode cX8_layLane 32 = .ok (.idiv, 1) := by decide +kernel
theorem dX8_layLane_33 : decode cX8_layLane 33 = .ok (.istore 4, 2) := by decide +kernel
theorem dX8_layLane_35 : decode cX8_layLane 35 = .ok (.iload_n 3, 1) := by decide +kernel
theorem dX8_layLane_36 : decode cX8_layLane 36 = .ok (.bipush 8, 2) := by decide +kernel
theorem dX8_layLane_38 : decode cX8_layLane 38 = .ok (.irem, 1) := by decide +kernel
theorem dX8_layLane_39 : decode cX8_layLane 39 = .ok (.istore 5, 2) := by decide +kernel
theorem dX8_layLane_41 : decode cX8_layLane 41 = .ok (.iload_n 1, 1) := by decide +kernel
theorem dX8_layLane_42 : decode cX8_layLane 42 = .ok (.iload 4, 2) := by decide +kernel
theorem dX8_layLane_44 : decode cX8_layLane 44 = .ok (.invokestatic 101, 3) := by decide +kernel
theorem dX8_layLane_47 : decode cX8_layLane 47 = .ok (.ifCond .eq 42, 3) := by decide +kernel
theorem dX8_layLane_50 : decode cX8_layLane 50 = .ok (.iload_n 1, 1) := by decide +kernel
theorem dX8_layLane_51 : decode cX8_layLane 51 = .ok (.iload 5, 2) := by decide +kernel
theorem dX8_layLane_53 : decode cX8_layLane 53 = .ok (.invokestatic 101, 3) := by decide +kernel
theorem dX8_layLane_56 : decode cX8_layLane 56 = .ok (.ifCond .eq 33, 3) := by decide +kernel
theorem dX8_layLane_59 : decode cX8_layLane 59 = .ok (.aload_n 0, 1) := by decide +kernel
theorem dX8_layLane_60 : decode cX8_layLane 60 = .ok (.iload_n 1, 1) := by decide +kernel
theorem dX8_layLane_61 : decode cX8_layLane 61 = .ok (.iload_n 2, 1) := by decide +kernel
theorem dX8_layLane_62 : decode cX8_layLane 62 = .ok (.aload_n 0, 1) := by decide +kernel
theorem dX8_layLane_63 : decode cX8_layLane 63 = .ok (.getfield 16, 3) := by decide +kernel
theorem dX8_layLane_66 : decode cX8_layLane 66 = .ok (.iconst 4, 1) := by decide +kernel
theorem dX8_layLane_67 : decode cX8_layLane 67 = .ok (.iload 4, 2) := by decide +kernel
theorem dX8_layLane_69 : decode cX8_layLane 69 = .ok (.imul, 1) := by decide +kernel
theorem dX8_layLane_70 : decode cX8_layLane 70 = .ok (.iconst 2, 1) := by decide +kernel
theorem dX8_layLane_71 : decode cX8_layLane 71 = .ok (.iadd, 1) := by decide +kernel
theorem dX8_layLane_72 : decode cX8_layLane 72 = .ok (.iload_n 2, 1) := by decide +kernel
theorem dX8_layLane_73 : decode cX8_layLane 73 = .ok (.iadd, 1) := by decide +kernel
theorem dX8_layLane_74 : decode cX8_layLane 74 = .ok (.iaload, 1) := by decide +kernel
theorem dX8_layLane_75 : decode cX8_layLane 75 = .ok (.aload_n 0, 1) := by decide +kernel
theorem dX8_layLane_76 : decode cX8_layLane 76 = .ok (.getfield 16, 3) := by decide +kernel
theorem dX8_layLane_79 : decode cX8_layLane 79 = .ok (.iconst 4, 1) := by decide +kernel
theorem dX8_layLane_80 : decode cX8_layLane 80 = .ok (.iload 5, 2) := by decide +kernel
theorem dX8_layLane_82 : decode cX8_layLane 82 = .ok (.imul, 1) := by decide +kernel
theorem dX8_layLane_83 : decode cX8_layLane 83 = .ok (.iload_n 2, 1) := by decide +kernel
theorem dX8_layLane_84 : decode cX8_layLane 84 = .ok (.iadd, 1) := by decide +kernel
theorem dX8_layLane_85 : decode cX8_layLane 85 = .ok (.iaload, 1) := by decide +kernel
theorem dX8_layLane_86 : decode cX8_layLane 86 = .ok (.invokevirtual 152, 3) := by decide +kernel
theorem dX8_layLane_89 : decode cX8_layLane 89 = .ok (.iinc 3 1, 3) := by decide +kernel
theorem dX8_layLane_92 : decode cX8_layLane 92 = .ok (.goto (-69), 3) := by decide +kernel
theorem dX8_layLane_95 : decode cX8_layLane 95 = .ok (.iinc 2 (-1), 3) := by decide +kernel
theorem dX8_layLane_98 : decode cX8_layLane 98 = .ok (.goto (-81), 3) := by decide +kernel
theorem dX8_layLane_101 : decode cX8_layLane 101 = .ok (.return_, 1) := by decide +kernel
theorem dX8_firstSide_0 : decode cX8_firstSide 0 = .ok (.iconst 0, 1) := by decide +kernel
theorem dX8_firstSide_1 : decode cX8_firstSide 1 = .ok (.istore_n 2, 1) := by decide +kernel
theorem dX8_firstSide_2 : decode cX8_firstSide 2 = .ok (.iconst 0, 1) := by decide +kernel
theorem dX8_firstSide_3 : decode cX8_firstSide 3 = .ok (.istore_n 3, 1) := by decide +kernel
theorem dX8_firstSide_4 : decode cX8_firstSide 4 = .ok (.iload_n 3, 1) := by decide +kernel
theorem dX8_firstSide_5 : decode cX8_firstSide 5 = .ok (.aload_n 0, 1) := by decide +kernel
theorem dX8_firstSide_6 : decode cX8_firstSide 6 = .ok (.getfield 119, 3) := by decide +kernel
theorem dX8_firstSide_9 : decode cX8_firstSide 9 = .ok (.if_icmp .ge 49, 3) := by decide +kernel
theorem dX8_firstSide_12 : decode cX8_firstSide 12 = .ok (.iload_n 2, 1) := by decide +kernel
theorem dX8_firstSide_13 : decode cX8_firstSide 13 = .ok (.iload_n 1, 1) := by decide +kernel
theorem dX8_firstSide_14 : decode cX8_firstSide 14 = .ok (.iload_n 3, 1) := by decide +kernel
theorem dX8_firstSide_15 : decode cX8_firstSide 15 = .ok (.invokestatic 101, 3) := by decide +kernel
theorem dX8_firstSide_18 : decode cX8_firstSide 18 = .ok (.ifCond .eq 31, 3) := by decide +kernel
theorem dX8_firstSide_21 : decode cX8_firstSide 21 = .ok (.aload_n 0, 1) := by decide +kernel
theorem dX8_firstSide_22 : decode cX8_firstSide 22 = .ok (.getfield 16, 3) := by decide +kernel
theorem dX8_firstSide_25 : decode cX8_firstSide 25 = .ok (.iconst 4, 1) := by decide +kernel
theorem dX8_firstSide_26 : decode cX8_firstSide 26 = .ok (.iload_n 3, 1) := by decide +kernel
theorem dX8_firstSide_27 : decode cX8_firstSide 27 = .ok (.imul, 1) := by decide +kernel
theorem dX8_firstSide_28 : decode cX8_firstSide 28 = .ok (.iconst 2, 1) := by decide +kernel
theorem dX8_firstSide_29 : decode cX8_firstSide 29 = .ok (.iadd, 1) := by decide +kernel
theorem dX8_firstSide_30 : decode cX8_firstSide 30 = .ok (.aload_n 0, 1) := by decide +kernel
theorem dX8_firstSide_31 : decode cX8_firstSide 31 = .ok (.getfield 142, 3) := by decide +kernel
theorem dX8_firstSide_34 : decode cX8_firstSide 34 = .ok (.iadd, 1) := by decide +kernel
theorem dX8_firstSide_35 : decode cX8_firstSide 35 = .ok (.iaload, 1) := by decide +kernel
theorem dX8_firstSide_36 : decode cX8_firstSide 36 = .ok (.aload_n 0, 1) := by decide +kernel
theorem dX8_firstSide_37 : decode cX8_firstSide 37 = .ok (.getfield 145, 3) := by decide +kernel
theorem dX8_firstSide_40 : decode cX8_firstSide 40 = .ok (.if_icmp .gt 9, 3) := by decide +kernel
theorem dX8_firstSide_43 : decode cX8_firstSide 43 = .ok (.iconst 1, 1) := by decide +kernel
theorem dX8_firstSide_44 : decode cX8_firstSide 44 = .ok (.iload_n 3, 1) := by decide +kernel
theorem dX8_firstSide_45 : decode cX8_firstSide 45 = .ok (.ishl, 1) := by decide +kernel
theorem dX8_firstSide_46 : decode cX8_firstSide 46 = .ok (.goto 4, 3) := by decide +kernel
theorem dX8_firstSide_49 : decode cX8_firstSide 49 = .ok (.iconst 0, 1) := by decide +kernel
theorem dX8_firstSide_50 : decode cX8_firstSide 50 = .ok (.ior, 1) := by decide +kernel
theorem dX8_firstSide_51 : decode cX8_firstSide 51 = .ok (.istore_n 2, 1) := by decide +kernel
theorem dX8_firstSide_52 : decode cX8_firstSide 52 = .ok (.iinc 3 1, 3) := by decide +kernel
theorem dX8_firstSide_55 : decode cX8_firstSide 55 = .ok (.goto (-51), 3) := by decide +kernel
theorem dX8_firstSide_58 : decode cX8_firstSide 58 = .ok (.iload_n 2, 1) := by decide +kernel
theorem dX8_firstSide_59 : decode cX8_firstSide 59 = .ok (.ireturn, 1) := by decide +kernel
theorem dX8_isSort_0 : decode cX8_isSort 0 = .ok (.iload_n 2, 1) := by decide +kernel
theorem dX8_isSort_1 : decode cX8_isSort 1 = .ok (.ifCond .ne 21, 3) := by decide +kernel
theorem dX8_isSort_4 : decode cX8_isSort 4 = .ok (.aload_n 0, 1) := by decide +kernel
theorem dX8_isSort_5 : decode cX8_isSort 5 = .ok (.getfield 13, 3) := by decide +kernel
theorem dX8_isSort_8 : decode cX8_isSort 8 = .ok (.iload_n 1, 1) := by decide +kernel
theorem dX8_isSort_9 : decode cX8_isSort 9 = .ok (.iaload, 1) := by decide +kernel
theorem dX8_isSort_10 : decode cX8_isSort 10 = .ok (.iconst 1, 1) := by decide +kernel
theorem dX8_isSort_11 : decode cX8_isSort 11 = .ok (.if_icmp .ne 7, 3) := by decide +kernel
theorem dX8_isSort_14 : decode cX8_isSort 14 = .ok (.iconst 1, 1) := by decide +kernel
theorem dX8_isSort_15 : decode cX8_isSort 15 = .ok (.goto 32, 3) := by decide +kernel
theorem dX8_isSort_18 : decode cX8_isSort 18 = .ok (.iconst 0, 1) := by decide +kernel
theorem dX8_isSort_19 : decode cX8_isSort 19 = .ok (.goto 28, 3) := by decide +kernel
theorem dX8_isSort_22 : decode cX8_isSort 22 = .ok (.aload_n 0, 1) := by decide +kernel
theorem dX8_isSort_23 : decode cX8_isSort 23 = .ok (.getfield 13, 3) := by decide +kernel
theorem dX8_isSort_26 : decode cX8_isSort 26 = .ok (.iload_n 1, 1) := by decide +kernel
theorem dX8_isSort_27 : decode cX8_isSort 27 = .ok (.iaload, 1) := by decide +kernel
theorem dX8_isSort_28 : decode cX8_isSort 28 = .ok (.iconst 2, 1) := by decide +kernel
theorem dX8_isSort_29 : decode cX8_isSort 29 = .ok (.if_icmp .eq 13, 3) := by decide +kernel
theorem dX8_isSort_32 : decode cX8_isSort 32 = .ok (.aload_n 0, 1) := by decide +kernel
theorem dX8_isSort_33 : decode cX8_isSort 33 = .ok (.getfield 13, 3) := by decide +kernel
theorem dX8_isSort_36 : decode cX8_isSort 36 = .ok (.iload_n 1, 1) := by decide +kernel
theorem dX8_isSort_37 : decode cX8_isSort 37 = .ok (.iaload, 1) := by decide +kernel
theorem dX8_isSort_38 : decode cX8_isSort 38 = .ok (.iconst 4, 1) := by decide +kernel
theorem dX8_isSort_39 : decode cX8_isSort 39 = .ok (.if_icmp .ne 7, 3) := by decide +kernel
theorem dX8_isSort_42 : decode cX8_isSort 42 = .ok (.iconst 1, 1) := by decide +kernel
theorem dX8_isSort_43 : decode cX8_isSort 43 = .ok (.goto 4, 3) := by decide +kernel
theorem dX8_isSort_46 : decode cX8_isSort 46 = .ok (.iconst 0, 1) := by decide +kernel
theorem dX8_isSort_47 : decode cX8_isSort 47 = .ok (.ireturn, 1) := by decide +kernel
theorem dX8_byRule_0 : decode cX8_byRule 0 = .ok (.iload_n 1, 1) := by decide +kernel
theorem dX8_byRule_1 : decode cX8_byRule 1 = .ok (.tableswitch 109 0 2 #[27, 57, 87], 27) := by decide +kernel
theorem dX8_byRule_28 : decode cX8_byRule 28 = .ok (.aload_n 0, 1) := by decide +kernel
theorem dX8_byRule_29 : decode cX8_byRule 29 = .ok (.iload_n 3, 1) := by decide +kernel
theorem dX8_byRule_30 : decode cX8_byRule 30 = .ok (.iconst 0, 1) := by decide +kernel
theorem dX8_byRule_31 : decode cX8_byRule 31 = .ok (.invokevirtual 156, 3) := by decide +kernel
theorem dX8_byRule_34 : decode cX8_byRule 34 = .ok (.ifCond .eq 7, 3) := by decide +kernel
theorem dX8_byRule_37 : decode cX8_byRule 37 = .ok (.iconst 1, 1) := by decide +kernel
theorem dX8_byRule_38 : decode cX8_byRule 38 = .ok (.goto 4, 3) := by decide +kernel
theorem dX8_byRule_41 : decode cX8_byRule 41 = .ok (.iconst 0, 1) := by decide +kernel
theorem dX8_byRule_42 : decode cX8_byRule 42 = .ok (.aload_n 0, 1) := by decide +kernel
theorem dX8_byRule_43 : decode cX8_byRule 43 = .ok (.iload_n 2, 1) := by decide +kernel
theorem dX8_byRule_44 : decode cX8_byRule 44 = .ok (.iconst 0, 1) := by decide +kernel
theorem dX8_byRule_45 : decode cX8_byRule 45 = .ok (.invokevirtual 156, 3) := by decide +kernel
theorem dX8_byRule_48 : decode cX8_byRule 48 = .ok (.ifCond .eq 7, 3) := by decide +kernel
theorem dX8_byRule_51 : decode cX8_byRule 51 = .ok (.iconst 1, 1) := by decide +kernel
theorem dX8_byRule_52 : decode cX8_byRule 52 = .ok (.goto 4, 3) := by decide +kernel
theorem dX8_byRule_55 : decode cX8_byRule 55 = .ok (.iconst 0, 1) := by decide +kernel
theorem dX8_byRule_56 : decode cX8_byRule 56 = .ok (.isub, 1) := by decide +kernel
theorem dX8_byRule_57 : decode cX8_byRule 57 = .ok (.ireturn, 1) := by decide +kernel
theorem dX8_byRule_58 : decode cX8_byRule 58 = .ok (.aload_n 0, 1) := by decide +kernel
theorem dX8_byRule_59 : decode cX8_byRule 59 = .ok (.iload_n 2, 1) := by decide +kernel
theorem dX8_byRule_60 : decode cX8_byRule 60 = .ok (.iconst 1, 1) := by decide +kernel
theorem dX8_byRule_61 : decode cX8_byRule 61 = .ok (.invokevirtual 156, 3) := by decide +kernel
theorem dX8_byRule_64 : decode cX8_byRule 64 = .ok (.ifCond .eq 7, 3) := by decide +kernel
theorem dX8_byRule_67 : decode cX8_byRule 67 = .ok (.iconst 1, 1) := by decide +kernel
theorem dX8_byRule_68 : decode cX8_byRule 68 = .ok (.goto 4, 3) := by decide +kernel
theorem dX8_byRule_71 : decode cX8_byRule 71 = .ok (.iconst 0, 1) := by decide +kernel
theorem dX8_byRule_72 : decode cX8_byRule 72 = .ok (.aload_n 0, 1) := by decide +kernel
theorem dX8_byRule_73 : decode cX8_byRule 73 = .ok (.iload_n 3, 1) := by decide +kernel
theorem dX8_byRule_74 : decode cX8_byRule 74 = .ok (.iconst 1, 1) := by decide +kernel
theorem dX8_byRule_75 : decode cX8_byRule 75 = .ok (.invokevirtual 156, 3) := by decide +kernel
theorem dX8_byRule_78 : decode cX8_byRule 78 = .ok (.ifCond .eq 7, 3) := by decide +kernel
theorem dX8_byRule_81 : decode cX8_byRule 81 = .ok (.iconst 1, 1) := by decide +kernel
theorem dX8_byRule_82 : decode cX8_byRule 82 = .ok (.goto 4, 3) := by decide +kernel
theorem dX8_byRule_85 : decode cX8_byRule 85 = .ok (.iconst 0, 1) := by decide +kernel
theorem dX8_byRule_86 : decode cX8_byRule 86 = .ok (.isub, 1) := by decide +kernel
theorem dX8_byRule_87 : decode cX8_byRule 87 = .ok (.ireturn, 1) := by decide +kernel
theorem dX8_byRule_88 : decode cX8_byRule 88 = .ok (.aload_n 0, 1) := by decide +kernel
theorem dX8_byRule_89 : decode cX8_byRule 89 = .ok (.getfield 16, 3) := by decide +kernel
theorem dX8_byRule_92 : decode cX8_byRule 92 = .ok (.iconst 4, 1) := by decide +kernel
theorem dX8_byRule_93 : decode cX8_byRule 93 = .ok (.iload_n 2, 1) := by decide +kernel
theorem dX8_byRule_94 : decode cX8_byRule 94 = .ok (.imul, 1) := by decide +kernel
theorem dX8_byRule_95 : decode cX8_byRule 95 = .ok (.iconst 1, 1) := by decide +kernel
theorem dX8_byRule_96 : decode cX8_byRule 96 = .ok (.iadd, 1) := by decide +kernel
theorem dX8_byRule_97 : decode cX8_byRule 97 = .ok (.iaload, 1) := by decide +kernel
theorem dX8_byRule_98 : decode cX8_byRule 98 = .ok (.aload_n 0, 1) := by decide +kernel
theorem dX8_byRule_99 : decode cX8_byRule 99 = .ok (.getfield 16, 3) := by decide +kernel
theorem dX8_byRule_102 : decode cX8_byRule 102 = .ok (.iconst 4, 1) := by decide +kernel
theorem dX8_byRule_103 : decode cX8_byRule 103 = .ok (.iload_n 3, 1) := by decide +kernel
theorem dX8_byRule_104 : decode cX8_byRule 104 = .ok (.imul, 1) := by decide +kernel
theorem dX8_byRule_105 : decode cX8_byRule 105 = .ok (.iconst 1, 1) := by decide +kernel
theorem dX8_byRule_106 : decode cX8_byRule 106 = .ok (.iadd, 1) := by decide +kernel
theorem dX8_byRule_107 : decode cX8_byRule 107 = .ok (.iaload, 1) := by decide +kernel
theorem dX8_byRule_108 : decode cX8_byRule 108 = .ok (.isub, 1) := by decide +kernel
theorem dX8_byRule_109 : decode cX8_byRule 109 = .ok (.ireturn, 1) := by decide +kernel
theorem dX8_byRule_110 : decode cX8_byRule 110 = .ok (.aload_n 0, 1) := by decide +kernel
theorem dX8_byRule_111 : decode cX8_byRule 111 = .ok (.getfield 16, 3) := by decide +kernel
theorem dX8_byRule_114 : decode cX8_byRule 114 = .ok (.iconst 4, 1) := by decide +kernel
theorem dX8_byRule_115 : decode cX8_byRule 115 = .ok (.iload_n 2, 1) := by decide +kernel
theorem dX8_byRule_116 : decode cX8_byRule 116 = .ok (.imul, 1) := by decide +kernel
theorem dX8_byRule_117 : decode cX8_byRule 117 = .ok (.iaload, 1) := by decide +kernel
theorem dX8_byRule_118 : decode cX8_byRule 118 = .ok (.aload_n 0, 1) := by decide +kernel
theorem dX8_byRule_119 : decode cX8_byRule 119 = .ok (.getfield 16, 3) := by decide +kernel
theorem dX8_byRule_122 : decode cX8_byRule 122 = .ok (.iconst 4, 1) := by decide +kernel
theorem dX8_byRule_123 : decode cX8_byRule 123 = .ok (.iload_n 3, 1) := by decide +kernel
theorem dX8_byRule_124 : decode cX8_byRule 124 = .ok (.imul, 1) := by decide +kernel
theorem dX8_byRule_125 : decode cX8_byRule 125 = .ok (.iaload, 1) := by decide +kernel
theorem dX8_byRule_126 : decode cX8_byRule 126 = .ok (.isub, 1) := by decide +kernel
theorem dX8_byRule_127 : decode cX8_byRule 127 = .ok (.ireturn, 1) := by decide +kernel
theorem dX8_isAhead_0 : decode cX8_isAhead 0 = .ok (.aload_n 0, 1) := by decide +kernel
theorem dX8_isAhead_1 : decode cX8_isAhead 1 = .ok (.iload_n 1, 1) := by decide +kernel
theorem dX8_isAhead_2 : decode cX8_isAhead 2 = .ok (.iload_n 2, 1) := by decide +kernel
theorem dX8_isAhead_3 : decode cX8_isAhead 3 = .ok (.invokevirtual 163, 3) := by decide +kernel
theorem dX8_isAhead_6 : decode cX8_isAhead 6 = .ok (.istore_n 3, 1) := by decide +kernel
theorem dX8_isAhead_7 : decode cX8_isAhead 7 = .ok (.iload_n 3, 1) := by decide +kernel
theorem dX8_isAhead_8 : decode cX8_isAhead 8 = .ok (.iconst 4, 1) := by decide +kernel
theorem dX8_isAhead_9 : decode cX8_isAhead 9 = .ok (.if_icmp .ne 16, 3) := by decide +kernel
theorem dX8_isAhead_12 : decode cX8_isAhead 12 = .ok (.iload_n 1, 1) := by decide +kernel
theorem dX8_isAhead_13 : decode cX8_isAhead 13 = .ok (.iload_n 2, 1) := by decide +kernel
theorem dX8_isAhead_14 : decode cX8_isAhead 14 = .ok (.if_icmp .ge 7, 3) := by decide +kernel
theorem dX8_isAhead_17 : decode cX8_isAhead 17 = .ok (.iconst 1, 1) := by decide +kernel
theorem dX8_isAhead_18 : decode cX8_isAhead 18 = .ok (.goto 22, 3) := by decide +kernel
theorem dX8_isAhead_21 : decode cX8_isAhead 21 = .ok (.iconst 0, 1) := by decide +kernel
theorem dX8_isAhead_22 : decode cX8_isAhead 22 = .ok (.goto 18, 3) := by decide +kernel
theorem dX8_isAhead_25 : decode cX8_isAhead 25 = .ok (.aload_n 0, 1) := by decide +kernel
theorem dX8_isAhead_26 : decode cX8_isAhead 26 = .ok (.iload_n 3, 1) := by decide +kernel
theorem dX8_isAhead_27 : decode cX8_isAhead 27 = .ok (.iload_n 1, 1) := by decide +kernel
theorem dX8_isAhead_28 : decode cX8_isAhead 28 = .ok (.iload_n 2, 1) := by decide +kernel
theorem dX8_isAhead_29 : decode cX8_isAhead 29 = .ok (.invokevirtual 159, 3) := by decide +kernel
theorem dX8_isAhead_32 : decode cX8_isAhead 32 = .ok (.ifCond .ge 7, 3) := by decide +kernel
theorem dX8_isAhead_35 : decode cX8_isAhead 35 = .ok (.iconst 1, 1) := by decide +kernel
theorem dX8_isAhead_36 : decode cX8_isAhead 36 = .ok (.goto 4, 3) := by decide +kernel
theorem dX8_isAhead_39 : decode cX8_isAhead 39 = .ok (.iconst 0, 1) := by decide +kernel
theorem dX8_isAhead_40 : decode cX8_isAhead 40 = .ok (.ireturn, 1) := by decide +kernel
theorem dX8_append_0 : decode cX8_append 0 = .ok (.aload_n 0, 1) := by decide +kernel
theorem dX8_append_1 : decode cX8_append 1 = .ok (.getfield 25, 3) := by decide +kernel
theorem dX8_append_4 : decode cX8_append 4 = .ok (.aload_n 0, 1) := by decide +kernel
theorem dX8_append_5 : decode cX8_append 5 = .ok (.getfield 166, 3) := by decide +kernel
theorem dX8_append_8 : decode cX8_append 8 = .ok (.iload_n 1, 1) := by decide +kernel
theorem dX8_append_9 : decode cX8_append 9 = .ok (.iastore, 1) := by decide +kernel
theorem dX8_append_10 : decode cX8_append 10 = .ok (.aload_n 0, 1) := by decide +kernel
theorem dX8_append_11 : decode cX8_append 11 = .ok (.dup, 1) := by decide +kernel
theorem dX8_append_12 : decode cX8_append 12 = .ok (.getfield 166, 3) := by decide +kernel
theorem dX8_append_15 : decode cX8_append 15 = .ok (.iconst 1, 1) := by decide +kernel
theorem dX8_append_16 : decode cX8_append 16 = .ok (.iadd, 1) := by decide +kernel
theorem dX8_append_17 : decode cX8_append 17 = .ok (.putfield 166, 3) := by decide +kernel
theorem dX8_append_20 : decode cX8_append 20 = .ok (.iconst 0, 1) := by decide +kernel
theorem dX8_append_21 : decode cX8_append 21 = .ok (.istore_n 2, 1) := by decide +kernel
theorem dX8_append_22 : decode cX8_append 22 = .ok (.iload_n 2, 1) := by decide +kernel
theorem dX8_append_23 : decode cX8_append 23 = .ok (.aload_n 0, 1) := by decide +kernel
theorem dX8_append_24 : decode cX8_append 24 = .ok (.getfield 119, 3) := by decide +kernel
theorem dX8_append_27 : decode cX8_append 27 = .ok (.if_icmp .ge 39, 3) := by decide +kernel
theorem dX8_append_30 : decode cX8_append 30 = .ok (.aload_n 0, 1) := by decide +kernel
theorem dX8_append_31 : decode cX8_append 31 = .ok (.getfield 22, 3) := by decide +kernel
theorem dX8_append_34 : decode cX8_append 34 = .ok (.iload_n 2, 1) := by decide +kernel
theorem dX8_append_35 : decode cX8_append 35 = .ok (.iaload, 1) := by decide +kernel
theorem dX8_append_36 : decode cX8_append 36 = .ok (.iload_n 1, 1) := by decide +kernel
theorem dX8_append_37 : decode cX8_append 37 = .ok (.if_icmp .ne 23, 3) := by decide +kernel
theorem dX8_append_40 : decode cX8_append 40 = .ok (.aload_n 0, 1) := by decide +kernel
theorem dX8_append_41 : decode cX8_append 41 = .ok (.getfield 25, 3) := by decide +kernel
theorem dX8_append_44 : decode cX8_append 44 = .ok (.aload_n 0, 1) := by decide +kernel
theorem dX8_append_45 : decode cX8_append 45 = .ok (.getfield 166, 3) := by decide +kernel
theorem dX8_append_48 : decode cX8_append 48 = .ok (.iload_n 2, 1) := by decide +kernel
theorem dX8_append_49 : decode cX8_append 49 = .ok (.iastore, 1) := by decide +kernel
theorem dX8_append_50 : decode cX8_append 50 = .ok (.aload_n 0, 1) := by decide +kernel
theorem dX8_append_51 : decode cX8_append 51 = .ok (.dup, 1) := by decide +kernel
theorem dX8_append_52 : decode cX8_append 52 = .ok (.getfield 166, 3) := by decide +kernel
theorem dX8_append_55 : decode cX8_append 55 = .ok (.iconst 1, 1) := by decide +kernel
theorem dX8_append_56 : decode cX8_append 56 = .ok (.iadd, 1) := by decide +kernel
theorem dX8_append_57 : decode cX8_append 57 = .ok (.putfield 166, 3) := by decide +kernel
theorem dX8_append_60 : decode cX8_append 60 = .ok (.iinc 2 1, 3) := by decide +kernel
theorem dX8_append_63 : decode cX8_append 63 = .ok (.goto (-41), 3) := by decide +kernel
theorem dX8_append_66 : decode cX8_append 66 = .ok (.return_, 1) := by decide +kernel
theorem dX8_layLeaf_0 : decode cX8_layLeaf 0 = .ok (.iload_n 1, 1) := by decide +kernel
theorem dX8_layLeaf_1 : decode cX8_layLeaf 1 = .ok (.istore_n 3, 1) := by decide +kernel
theorem dX8_layLeaf_2 : decode cX8_layLeaf 2 = .ok (.iload_n 3, 1) := by decide +kernel
theorem dX8_layLeaf_3 : decode cX8_layLeaf 3 = .ok (.ifCond .eq 96, 3) := by decide +kernel
theorem dX8_layLeaf_6 : decode cX8_layLeaf 6 = .ok (.iconst (-1), 1) := by decide +kernel
theorem dX8_layLeaf_7 : decode cX8_layLeaf 7 = .ok (.istore 4, 2) := by decide +kernel
theorem dX8_layLeaf_9 : decode cX8_layLeaf 9 = .ok (.iconst 0, 1) := by decide +kernel
theorem dX8_layLeaf_10 : decode cX8_layLeaf 10 = .ok (.istore 5, 2) := by decide +kernel
theorem dX8_layLeaf_12 : decode cX8_layLeaf 12 = .ok (.iload 5, 2) := by decide +kernel
theorem dX8_layLeaf_14 : decode cX8_layLeaf 14 = .ok (.aload_n 0, 1) := by decide +kernel
theorem dX8_layLeaf_15 : decode cX8_layLeaf 15 = .ok (.getfield 119, 3) := by decide +kernel
theorem dX8_layLeaf_18 : decode cX8_layLeaf 18 = .ok (.if_icmp .ge 44, 3) := by decide +kernel
theorem dX8_layLeaf_21 : decode cX8_layLeaf 21 = .ok (.iload_n 3, 1) := by decide +kernel
theorem dX8_layLeaf_22 : decode cX8_layLeaf 22 = .ok (.iload 5, 2) := by decide +kernel
theorem dX8_layLeaf_24 : decode cX8_layLeaf 24 = .ok (.invokestatic 101, 3) := by decide +kernel
theorem dX8_layLeaf_27 : decode cX8_layLeaf 27 = .ok (.ifCond .eq 25, 3) := by decide +kernel
theorem dX8_layLeaf_30 : decode cX8_layLeaf 30 = .ok (.iload 4, 2) := by decide +kernel
theorem dX8_layLeaf_32 : decode cX8_layLeaf 32 = .ok (.iconst (-1), 1) := by decide +kernel
theorem dX8_layLeaf_33 : decode cX8_layLeaf 33 = .ok (.if_icmp .eq 14, 3) := by decide +kernel
theorem dX8_layLeaf_36 : decode cX8_layLeaf 36 = .ok (.aload_n 0, 1) := by decide +kernel
theorem dX8_layLeaf_37 : decode cX8_layLeaf 37 = .ok (.iload 5, 2) := by decide +kernel
theorem dX8_layLeaf_39 : decode cX8_layLeaf 39 = .ok (.iload 4, 2) := by decide +kernel
theorem dX8_layLeaf_41 : decode cX8_layLeaf 41 = .ok (.invokevirtual 169, 3) := by decide +kernel
theorem dX8_layLeaf_44 : decode cX8_layLeaf 44 = .ok (.ifCond .eq 8, 3) := by decide +kernel
theorem dX8_layLeaf_47 : decode cX8_layLeaf 47 = .ok (.iload 5, 2) := by decide +kernel
theorem dX8_layLeaf_49 : decode cX8_layLeaf 49 = .ok (.goto 5, 3) := by decide +kernel
theorem dX8_layLeaf_52 : decode cX8_layLeaf 52 = .ok (.iload 4, 2) := by decide +kernel
theorem dX8_layLeaf_54 : decode cX8_layLeaf 54 = .ok (.istore 4, 2) := by decide +kernel
theorem dX8_layLeaf_56 : decode cX8_layLeaf 56 = .ok (.iinc 5 1, 3) := by decide +kernel
theorem dX8_layLeaf_59 : decode cX8_layLeaf 59 = .ok (.goto (-47), 3) := by decide +kernel
theorem dX8_layLeaf_62 : decode cX8_layLeaf 62 = .ok (.iload_n 3, 1) := by decide +kernel
theorem dX8_layLeaf_63 : decode cX8_layLeaf 63 = .ok (.iconst 1, 1) := by decide +kernel
theorem dX8_layLeaf_64 : decode cX8_layLeaf 64 = .ok (.iload 4, 2) := by decide +kernel
theorem dX8_layLeaf_66 : decode cX8_layLeaf 66 = .ok (.ishl, 1) := by decide +kernel
theorem dX8_layLeaf_67 : decode cX8_layLeaf 67 = .ok (.iconst (-1), 1) := by decide +kernel
theorem dX8_layLeaf_68 : decode cX8_layLeaf 68 = .ok (.ixor, 1) := by decide +kernel
theorem dX8_layLeaf_69 : decode cX8_layLeaf 69 = .ok (.iand, 1) := by decide +kernel
theorem dX8_layLeaf_70 : decode cX8_layLeaf 70 = .ok (.istore_n 3, 1) := by decide +kernel
theorem dX8_layLeaf_71 : decode cX8_layLeaf 71 = .ok (.aload_n 0, 1) := by decide +kernel
theorem dX8_layLeaf_72 : decode cX8_layLeaf 72 = .ok (.getfield 31, 3) := by decide +kernel
theorem dX8_layLeaf_75 : decode cX8_layLeaf 75 = .ok (.iload 4, 2) := by decide +kernel
theorem dX8_layLeaf_77 : decode cX8_layLeaf 77 = .ok (.aload_n 0, 1) := by decide +kernel
theorem dX8_layLeaf_78 : decode cX8_layLeaf 78 = .ok (.getfield 172, 3) := by decide +kernel
theorem dX8_layLeaf_81 : decode cX8_layLeaf 81 = .ok (.iastore, 1) := by decide +kernel
theorem dX8_layLeaf_82 : decode cX8_layLeaf 82 = .ok (.aload_n 0, 1) := by decide +kernel
theorem dX8_layLeaf_83 : decode cX8_layLeaf 83 = .ok (.getfield 34, 3) := by decide +kernel
theorem dX8_layLeaf_86 : decode cX8_layLeaf 86 = .ok (.iload 4, 2) := by decide +kernel
theorem dX8_layLeaf_88 : decode cX8_layLeaf 88 = .ok (.iload_n 2, 1) := by decide +kernel
theorem dX8_layLeaf_89 : decode cX8_layLeaf 89 = .ok (.iastore, 1) := by decide +kernel
theorem dX8_layLeaf_90 : decode cX8_layLeaf 90 = .ok (.aload_n 0, 1) := by decide +kernel
theorem dX8_layLeaf_91 : decode cX8_layLeaf 91 = .ok (.iload 4, 2) := by decide +kernel
theorem dX8_layLeaf_93 : decode cX8_layLeaf 93 = .ok (.invokevirtual 175, 3) := by decide +kernel
theorem dX8_layLeaf_96 : decode cX8_layLeaf 96 = .ok (.goto (-94), 3) := by decide +kernel
theorem dX8_layLeaf_99 : decode cX8_layLeaf 99 = .ok (.aload_n 0, 1) := by decide +kernel
theorem dX8_layLeaf_100 : decode cX8_layLeaf 100 = .ok (.dup, 1) := by decide +kernel
theorem dX8_layLeaf_101 : decode cX8_layLeaf 101 = .ok (.getfield 172, 3) := by decide +kernel
theorem dX8_layLeaf_104 : decode cX8_layLeaf 104 = .ok (.iconst 1, 1) := by decide +kernel
theorem dX8_layLeaf_105 : decode cX8_layLeaf 105 = .ok (.iadd, 1) := by decide +kernel
theorem dX8_layLeaf_106 : decode cX8_layLeaf 106 = .ok (.putfield 172, 3) := by decide +kernel
theorem dX8_layLeaf_109 : decode cX8_layLeaf 109 = .ok (.return_, 1) := by decide +kernel
theorem dX8_layOrder_0 : decode cX8_layOrder 0 = .ok (.aload_n 0, 1) := by decide +kernel
theorem dX8_layOrder_1 : decode cX8_layOrder 1 = .ok (.iload_n 1, 1) := by decide +kernel
theorem dX8_layOrder_2 : decode cX8_layOrder 2 = .ok (.invokevirtual 179, 3) := by decide +kernel
theorem dX8_layOrder_5 : decode cX8_layOrder 5 = .ok (.istore_n 2, 1) := by decide +kernel
theorem dX8_layOrder_6 : decode cX8_layOrder 6 = .ok (.aload_n 0, 1) := by decide +kernel
theorem dX8_layOrder_7 : decode cX8_layOrder 7 = .ok (.iconst 0, 1) := by decide +kernel
theorem dX8_layOrder_8 : decode cX8_layOrder 8 = .ok (.putfield 166, 3) := by decide +kernel
theorem dX8_layOrder_11 : decode cX8_layOrder 11 = .ok (.aload_n 0, 1) := by decide +kernel
theorem dX8_layOrder_12 : decode cX8_layOrder 12 = .ok (.iconst 0, 1) := by decide +kernel
theorem dX8_layOrder_13 : decode cX8_layOrder 13 = .ok (.putfield 182, 3) := by decide +kernel
theorem dX8_layOrder_16 : decode cX8_layOrder 16 = .ok (.aload_n 0, 1) := by decide +kernel
theorem dX8_layOrder_17 : decode cX8_layOrder 17 = .ok (.iconst 0, 1) := by decide +kernel
theorem dX8_layOrder_18 : decode cX8_layOrder 18 = .ok (.putfield 172, 3) := by decide +kernel
theorem dX8_layOrder_21 : decode cX8_layOrder 21 = .ok (.iconst 0, 1) := by decide +kernel
theorem dX8_layOrder_22 : decode cX8_layOrder 22 = .ok (.istore_n 3, 1) := by decide +kernel
theorem dX8_layOrder_23 : decode cX8_layOrder 23 = .ok (.iload_n 3, 1) := by decide +kernel
theorem dX8_layOrder_24 : decode cX8_layOrder 24 = .ok (.bipush 8, 2) := by decide +kernel
theorem dX8_layOrder_26 : decode cX8_layOrder 26 = .ok (.if_icmp .ge 23, 3) := by decide +kernel
theorem dX8_layOrder_29 : decode cX8_layOrder 29 = .ok (.aload_n 0, 1) := by decide +kernel
theorem dX8_layOrder_30 : decode cX8_layOrder 30 = .ok (.getfield 31, 3) := by decide +kernel
theorem dX8_layOrder_33 : decode cX8_layOrder 33 = .ok (.iload_n 3, 1) := by decide +kernel
theorem dX8_layOrder_34 : decode cX8_layOrder 34 = .ok (.iconst (-1), 1) := by decide +kernel
theorem dX8_layOrder_35 : decode cX8_layOrder 35 = .ok (.iastore, 1) := by decide +kernel
theorem dX8_layOrder_36 : decode cX8_layOrder 36 = .ok (.aload_n 0, 1) := by decide +kernel
theorem dX8_layOrder_37 : decode cX8_layOrder 37 = .ok (.getfield 34, 3) := by decide +kernel
theorem dX8_layOrder_40 : decode cX8_layOrder 40 = .ok (.iload_n 3, 1) := by decide +kernel
theorem dX8_layOrder_41 : decode cX8_layOrder 41 = .ok (.iconst (-1), 1) := by decide +kernel
theorem dX8_layOrder_42 : decode cX8_layOrder 42 = .ok (.iastore, 1) := by decide +kernel
theorem dX8_layOrder_43 : decode cX8_layOrder 43 = .ok (.iinc 3 1, 3) := by decide +kernel
theorem dX8_layOrder_46 : decode cX8_layOrder 46 = .ok (.goto (-23), 3) := by decide +kernel
theorem dX8_layOrder_49 : decode cX8_layOrder 49 = .ok (.iload_n 2, 1) := by decide +kernel
theorem dX8_layOrder_50 : decode cX8_layOrder 50 = .ok (.ifCond .ne 7, 3) := by decide +kernel
theorem dX8_layOrder_53 : decode cX8_layOrder 53 = .ok (.iconst 0, 1) := by decide +kernel
theorem dX8_layOrder_54 : decode cX8_layOrder 54 = .ok (.goto 4, 3) := by decide +kernel
theorem dX8_layOrder_57 : decode cX8_layOrder 57 = .ok (.iconst 1, 1) := by decide +kernel
theorem dX8_layOrder_58 : decode cX8_layOrder 58 = .ok (.istore_n 3, 1) := by decide +kernel
theorem dX8_layOrder_59 : decode cX8_layOrder 59 = .ok (.aload_n 0, 1) := by decide +kernel
theorem dX8_layOrder_60 : decode cX8_layOrder 60 = .ok (.getfield 37, 3) := by decide +kernel
theorem dX8_layOrder_63 : decode cX8_layOrder 63 = .ok (.iconst 0, 1) := by decide +kernel
theorem dX8_layOrder_64 : decode cX8_layOrder 64 = .ok (.iload_n 2, 1) := by decide +kernel
theorem dX8_layOrder_65 : decode cX8_layOrder 65 = .ok (.iastore, 1) := by decide +kernel
theorem dX8_layOrder_66 : decode cX8_layOrder 66 = .ok (.aload_n 0, 1) := by decide +kernel
theorem dX8_layOrder_67 : decode cX8_layOrder 67 = .ok (.getfield 40, 3) := by decide +kernel
theorem dX8_layOrder_70 : decode cX8_layOrder 70 = .ok (.iconst 0, 1) := by decide +kernel
theorem dX8_layOrder_71 : decode cX8_layOrder 71 = .ok (.iconst 0, 1) := by decide +kernel
theorem dX8_layOrder_72 : decode cX8_layOrder 72 = .ok (.iastore, 1) := by decide +kernel
theorem dX8_layOrder_73 : decode cX8_layOrder 73 = .ok (.iload_n 3, 1) := by decide +kernel
theorem dX8_layOrder_74 : decode cX8_layOrder 74 = .ok (.ifCond .le 205, 3) := by decide +kernel
theorem dX8_layOrder_77 : decode cX8_layOrder 77 = .ok (.iinc 3 (-1), 3) := by decide +kernel
theorem dX8_layOrder_80 : decode cX8_layOrder 80 = .ok (.aload_n 0, 1) := by decide +kernel
theorem dX8_layOrder_81 : decode cX8_layOrder 81 = .ok (.getfield 37, 3) := by decide +kernel
theorem dX8_layOrder_84 : decode cX8_layOrder 84 = .ok (.iload_n 3, 1) := by decide +kernel
theorem dX8_layOrder_85 : decode cX8_layOrder 85 = .ok (.iaload, 1) := by decide +kernel
theorem dX8_layOrder_86 : decode cX8_layOrder 86 = .ok (.istore 4, 2) := by decide +kernel
theorem dX8_layOrder_88 : decode cX8_layOrder 88 = .ok (.aload_n 0, 1) := by decide +kernel
theorem dX8_layOrder_89 : decode cX8_layOrder 89 = .ok (.getfield 40, 3) := by decide +kernel
theorem dX8_layOrder_92 : decode cX8_layOrder 92 = .ok (.iload_n 3, 1) := by decide +kernel
theorem dX8_layOrder_93 : decode cX8_layOrder 93 = .ok (.iaload, 1) := by decide +kernel
theorem dX8_layOrder_94 : decode cX8_layOrder 94 = .ok (.istore 5, 2) := by decide +kernel
theorem dX8_layOrder_96 : decode cX8_layOrder 96 = .ok (.aload_n 0, 1) := by decide +kernel
theorem dX8_layOrder_97 : decode cX8_layOrder 97 = .ok (.iload 4, 2) := by decide +kernel
theorem dX8_layOrder_99 : decode cX8_layOrder 99 = .ok (.invokevirtual 185, 3) := by decide +kernel
theorem dX8_layOrder_102 : decode cX8_layOrder 102 = .ok (.aload_n 0, 1) := by decide +kernel
theorem dX8_layOrder_103 : decode cX8_layOrder 103 = .ok (.getfield 139, 3) := by decide +kernel
theorem dX8_layOrder_106 : decode cX8_layOrder 106 = .ok (.ifCond .ne 14, 3) := by decide +kernel
theorem dX8_layOrder_109 : decode cX8_layOrder 109 = .ok (.aload_n 0, 1) := by decide +kernel
theorem dX8_layOrder_110 : decode cX8_layOrder 110 = .ok (.iload 4, 2) := by decide +kernel
theorem dX8_layOrder_112 : decode cX8_layOrder 112 = .ok (.iload 5, 2) := by decide +kernel
theorem dX8_layOrder_114 : decode cX8_layOrder 114 = .ok (.invokevirtual 188, 3) := by decide +kernel
theorem dX8_layOrder_117 : decode cX8_layOrder 117 = .ok (.goto 159, 3) := by decide +kernel
theorem dX8_layOrder_120 : decode cX8_layOrder 120 = .ok (.aload_n 0, 1) := by decide +kernel
theorem dX8_layOrder_121 : decode cX8_layOrder 121 = .ok (.iload 4, 2) := by decide +kernel
theorem dX8_layOrder_123 : decode cX8_layOrder 123 = .ok (.invokevirtual 192, 3) := by decide +kernel
theorem dX8_layOrder_126 : decode cX8_layOrder 126 = .ok (.istore 6, 2) := by decide +kernel
theorem dX8_layOrder_128 : decode cX8_layOrder 128 = .ok (.aload_n 0, 1) := by decide +kernel
theorem dX8_layOrder_129 : decode cX8_layOrder 129 = .ok (.getfield 28, 3) := by decide +kernel
theorem dX8_layOrder_132 : decode cX8_layOrder 132 = .ok (.iconst 5, 1) := by decide +kernel
theorem dX8_layOrder_133 : decode cX8_layOrder 133 = .ok (.aload_n 0, 1) := by decide +kernel
theorem dX8_layOrder_134 : decode cX8_layOrder 134 = .ok (.getfield 182, 3) := by decide +kernel
theorem dX8_layOrder_137 : decode cX8_layOrder 137 = .ok (.imul, 1) := by decide +kernel
theorem dX8_layOrder_138 : decode cX8_layOrder 138 = .ok (.aload_n 0, 1) := by decide +kernel
theorem dX8_layOrder_139 : decode cX8_layOrder 139 = .ok (.getfield 142, 3) := by decide +kernel
theorem dX8_layOrder_142 : decode cX8_layOrder 142 = .ok (.iastore, 1) := by decide +kernel
theorem dX8_layOrder_143 : decode cX8_layOrder 143 = .ok (.aload_n 0, 1) := by decide +kernel
theorem dX8_layOrder_144 : decode cX8_layOrder 144 = .ok (.getfield 28, 3) := by decide +kernel
theorem dX8_layOrder_147 : decode cX8_layOrder 147 = .ok (.iconst 5, 1) := by decide +kernel
theorem dX8_layOrder_148 : decode cX8_layOrder 148 = .ok (.aload_n 0, 1) := by decide +kernel
theorem dX8_layOrder_149 : decode cX8_layOrder 149 = .ok (.getfield 182, 3) := by decide +kernel
theorem dX8_layOrder_152 : decode cX8_layOrder 152 = .ok (.imul, 1) := by decide +kernel
theorem dX8_layOrder_153 : decode cX8_layOrder 153 = .ok (.iconst 1, 1) := by decide +kernel
theorem dX8_layOrder_154 : decode cX8_layOrder 154 = .ok (.iadd, 1) := by decide +kernel
theorem dX8_layOrder_155 : decode cX8_layOrder 155 = .ok (.aload_n 0, 1) := by decide +kernel
theorem dX8_layOrder_156 : decode cX8_layOrder 156 = .ok (.getfield 145, 3) := by decide +kernel
theorem dX8_layOrder_159 : decode cX8_layOrder 159 = .ok (.iastore, 1) := by decide +kernel
theorem dX8_layOrder_160 : decode cX8_layOrder 160 = .ok (.aload_n 0, 1) := by decide +kernel
theorem dX8_layOrder_161 : decode cX8_layOrder 161 = .ok (.getfield 28, 3) := by decide +kernel
theorem dX8_layOrder_164 : decode cX8_layOrder 164 = .ok (.iconst 5, 1) := by decide +kernel
theorem dX8_layOrder_165 : decode cX8_layOrder 165 = .ok (.aload_n 0, 1) := by decide +kernel
theorem dX8_layOrder_166 : decode cX8_layOrder 166 = .ok (.getfield 182, 3) := by decide +kernel
theorem dX8_layOrder_169 : decode cX8_layOrder 169 = .ok (.imul, 1) := by decide +kernel
theorem dX8_layOrder_170 : decode cX8_layOrder 170 = .ok (.iconst 2, 1) := by decide +kernel
theorem dX8_layOrder_171 : decode cX8_layOrder 171 = .ok (.iadd, 1) := by decide +kernel
theorem dX8_layOrder_172 : decode cX8_layOrder 172 = .ok (.aload_n 0, 1) := by decide +kernel
theorem dX8_layOrder_173 : decode cX8_layOrder 173 = .ok (.getfield 139, 3) := by decide +kernel
theorem dX8_layOrder_176 : decode cX8_layOrder 176 = .ok (.iastore, 1) := by decide +kernel
theorem dX8_layOrder_177 : decode cX8_layOrder 177 = .ok (.aload_n 0, 1) := by decide +kernel
theorem dX8_layOrder_178 : decode cX8_layOrder 178 = .ok (.getfield 28, 3) := by decide +kernel
theorem dX8_layOrder_181 : decode cX8_layOrder 181 = .ok (.iconst 5, 1) := by decide +kernel
theorem dX8_layOrder_182 : decode cX8_layOrder 182 = .ok (.aload_n 0, 1) := by decide +kernel
theorem dX8_layOrder_183 : decode cX8_layOrder 183 = .ok (.getfield 182, 3) := by decide +kernel
theorem dX8_layOrder_186 : decode cX8_layOrder 186 = .ok (.imul, 1) := by decide +kernel
theorem dX8_layOrder_187 : decode cX8_layOrder 187 = .ok (.iconst 3, 1) := by decide +kernel
theorem dX8_layOrder_188 : decode cX8_layOrder 188 = .ok (.iadd, 1) := by decide +kernel
theorem dX8_layOrder_189 : decode cX8_layOrder 189 = .ok (.iload 6, 2) := by decide +kernel
theorem dX8_layOrder_191 : decode cX8_layOrder 191 = .ok (.invokestatic 195, 3) := by decide +kernel
theorem dX8_layOrder_194 : decode cX8_layOrder 194 = .ok (.iastore, 1) := by decide +kernel
theorem dX8_layOrder_195 : decode cX8_layOrder 195 = .ok (.aload_n 0, 1) := by decide +kernel
theorem dX8_layOrder_196 : decode cX8_layOrder 196 = .ok (.getfield 28, 3) := by decide +kernel
theorem dX8_layOrder_199 : decode cX8_layOrder 199 = .ok (.iconst 5, 1) := by decide +kernel
theorem dX8_layOrder_200 : decode cX8_layOrder 200 = .ok (.aload_n 0, 1) := by decide +kernel
theorem dX8_layOrder_201 : decode cX8_layOrder 201 = .ok (.getfield 182, 3) := by decide +kernel
theorem dX8_layOrder_204 : decode cX8_layOrder 204 = .ok (.imul, 1) := by decide +kernel
theorem dX8_layOrder_205 : decode cX8_layOrder 205 = .ok (.iconst 4, 1) := by decide +kernel
theorem dX8_layOrder_206 : decode cX8_layOrder 206 = .ok (.iadd, 1) := by decide +kernel
theorem dX8_layOrder_207 : decode cX8_layOrder 207 = .ok (.iload 4, 2) := by decide +kernel
theorem dX8_layOrder_209 : decode cX8_layOrder 209 = .ok (.iload 6, 2) := by decide +kernel
theorem dX8_layOrder_211 : decode cX8_layOrder 211 = .ok (.iconst (-1), 1) := by decide +kernel
theorem dX8_layOrder_212 : decode cX8_layOrder 212 = .ok (.ixor, 1) := by decide +kernel
theorem dX8_layOrder_213 : decode cX8_layOrder 213 = .ok (.iand, 1) := by decide +kernel
theorem dX8_layOrder_214 : decode cX8_layOrder 214 = .ok (.invokestatic 195, 3) := by decide +kernel
theorem dX8_layOrder_217 : decode cX8_layOrder 217 = .ok (.iastore, 1) := by decide +kernel
theorem dX8_layOrder_218 : decode cX8_layOrder 218 = .ok (.aload_n 0, 1) := by decide +kernel
theorem dX8_layOrder_219 : decode cX8_layOrder 219 = .ok (.dup, 1) := by decide +kernel
theorem dX8_layOrder_220 : decode cX8_layOrder 220 = .ok (.getfield 182, 3) := by decide +kernel
theorem dX8_layOrder_223 : decode cX8_layOrder 223 = .ok (.iconst 1, 1) := by decide +kernel
theorem dX8_layOrder_224 : decode cX8_layOrder 224 = .ok (.iadd, 1) := by decide +kernel
theorem dX8_layOrder_225 : decode cX8_layOrder 225 = .ok (.putfield 182, 3) := by decide +kernel
theorem dX8_layOrder_228 : decode cX8_layOrder 228 = .ok (.aload_n 0, 1) := by decide +kernel
theorem dX8_layOrder_229 : decode cX8_layOrder 229 = .ok (.getfield 37, 3) := by decide +kernel
theorem dX8_layOrder_232 : decode cX8_layOrder 232 = .ok (.iload_n 3, 1) := by decide +kernel
theorem dX8_layOrder_233 : decode cX8_layOrder 233 = .ok (.iload 4, 2) := by decide +kernel
theorem dX8_layOrder_235 : decode cX8_layOrder 235 = .ok (.iload 6, 2) := by decide +kernel
theorem dX8_layOrder_237 : decode cX8_layOrder 237 = .ok (.iconst (-1), 1) := by decide +kernel
theorem dX8_layOrder_238 : decode cX8_layOrder 238 = .ok (.ixor, 1) := by decide +kernel
theorem dX8_layOrder_239 : decode cX8_layOrder 239 = .ok (.iand, 1) := by decide +kernel
theorem dX8_layOrder_240 : decode cX8_layOrder 240 = .ok (.iastore, 1) := by decide +kernel
theorem dX8_layOrder_241 : decode cX8_layOrder 241 = .ok (.aload_n 0, 1) := by decide +kernel
theorem dX8_layOrder_242 : decode cX8_layOrder 242 = .ok (.getfield 40, 3) := by decide +kernel
theorem dX8_layOrder_245 : decode cX8_layOrder 245 = .ok (.iload_n 3, 1) := by decide +kernel
theorem dX8_layOrder_246 : decode cX8_layOrder 246 = .ok (.iload 5, 2) := by decide +kernel
theorem dX8_layOrder_248 : decode cX8_layOrder 248 = .ok (.iconst 1, 1) := by decide +kernel
theorem dX8_layOrder_249 : decode cX8_layOrder 249 = .ok (.iadd, 1) := by decide +kernel
theorem dX8_layOrder_250 : decode cX8_layOrder 250 = .ok (.iastore, 1) := by decide +kernel
theorem dX8_layOrder_251 : decode cX8_layOrder 251 = .ok (.aload_n 0, 1) := by decide +kernel
theorem dX8_layOrder_252 : decode cX8_layOrder 252 = .ok (.getfield 37, 3) := by decide +kernel
theorem dX8_layOrder_255 : decode cX8_layOrder 255 = .ok (.iload_n 3, 1) := by decide +kernel
theorem dX8_layOrder_256 : decode cX8_layOrder 256 = .ok (.iconst 1, 1) := by decide +kernel
theorem dX8_layOrder_257 : decode cX8_layOrder 257 = .ok (.iadd, 1) := by decide +kernel
theorem dX8_layOrder_258 : decode cX8_layOrder 258 = .ok (.iload 6, 2) := by decide +kernel
theorem dX8_layOrder_260 : decode cX8_layOrder 260 = .ok (.iastore, 1) := by decide +kernel
theorem dX8_layOrder_261 : decode cX8_layOrder 261 = .ok (.aload_n 0, 1) := by decide +kernel
theorem dX8_layOrder_262 : decode cX8_layOrder 262 = .ok (.getfield 40, 3) := by decide +kernel
theorem dX8_layOrder_265 : decode cX8_layOrder 265 = .ok (.iload_n 3, 1) := by decide +kernel
theorem dX8_layOrder_266 : decode cX8_layOrder 266 = .ok (.iconst 1, 1) := by decide +kernel
theorem dX8_layOrder_267 : decode cX8_layOrder 267 = .ok (.iadd, 1) := by decide +kernel
theorem dX8_layOrder_268 : decode cX8_layOrder 268 = .ok (.iload 5, 2) := by decide +kernel
theorem dX8_layOrder_270 : decode cX8_layOrder 270 = .ok (.iconst 1, 1) := by decide +kernel
theorem dX8_layOrder_271 : decode cX8_layOrder 271 = .ok (.iadd, 1) := by decide +kernel
theorem dX8_layOrder_272 : decode cX8_layOrder 272 = .ok (.iastore, 1) := by decide +kernel
theorem dX8_layOrder_273 : decode cX8_layOrder 273 = .ok (.iinc 3 2, 3) := by decide +kernel
theorem dX8_layOrder_276 : decode cX8_layOrder 276 = .ok (.goto (-203), 3) := by decide +kernel
theorem dX8_layOrder_279 : decode cX8_layOrder 279 = .ok (.return_, 1) := by decide +kernel
theorem dX8_layAll_0 : decode cX8_layAll 0 = .ok (.aload_n 0, 1) := by decide +kernel
theorem dX8_layAll_1 : decode cX8_layAll 1 = .ok (.iconst 1, 1) := by decide +kernel
theorem dX8_layAll_2 : decode cX8_layAll 2 = .ok (.aload_n 0, 1) := by decide +kernel
theorem dX8_layAll_3 : decode cX8_layAll 3 = .ok (.getfield 119, 3) := by decide +kernel
theorem dX8_layAll_6 : decode cX8_layAll 6 = .ok (.ishl, 1) := by decide +kernel
theorem dX8_layAll_7 : decode cX8_layAll 7 = .ok (.iconst 1, 1) := by decide +kernel
theorem dX8_layAll_8 : decode cX8_layAll 8 = .ok (.isub, 1) := by decide +kernel
theorem dX8_layAll_9 : decode cX8_layAll 9 = .ok (.invokevirtual 198, 3) := by decide +kernel
theorem dX8_layAll_12 : decode cX8_layAll 12 = .ok (.return_, 1) := by decide +kernel
theorem dX8_box_0 : decode cX8_box 0 = .ok (.aload_n 0, 1) := by decide +kernel
theorem dX8_box_1 : decode cX8_box 1 = .ok (.iload_n 1, 1) := by decide +kernel
theorem dX8_box_2 : decode cX8_box 2 = .ok (.invokevirtual 213, 3) := by decide +kernel
theorem dX8_box_5 : decode cX8_box 5 = .ok (.ifCond .eq 12, 3) := by decide +kernel
theorem dX8_box_8 : decode cX8_box 8 = .ok (.aload_n 0, 1) := by decide +kernel
theorem dX8_box_9 : decode cX8_box 9 = .ok (.iload_n 1, 1) := by decide +kernel
theorem dX8_box_10 : decode cX8_box 10 = .ok (.iload_n 2, 1) := by decide +kernel
theorem dX8_box_11 : decode cX8_box 11 = .ok (.invokevirtual 216, 3) := by decide +kernel
theorem dX8_box_14 : decode cX8_box 14 = .ok (.goto 5, 3) := by decide +kernel
theorem dX8_box_17 : decode cX8_box 17 = .ok (.bipush (-101), 2) := by decide +kernel
theorem dX8_box_19 : decode cX8_box 19 = .ok (.ireturn, 1) := by decide +kernel
theorem dX8_as_0 : decode cX8_as 0 = .ok (.aload_n 0, 1) := by decide +kernel
theorem dX8_as_1 : decode cX8_as 1 = .ok (.iload_n 1, 1) := by decide +kernel
theorem dX8_as_2 : decode cX8_as 2 = .ok (.invokevirtual 213, 3) := by decide +kernel
theorem dX8_as_5 : decode cX8_as 5 = .ok (.ifCond .ne 6, 3) := by decide +kernel
theorem dX8_as_8 : decode cX8_as 8 = .ok (.bipush (-101), 2) := by decide +kernel
theorem dX8_as_10 : decode cX8_as 10 = .ok (.ireturn, 1) := by decide +kernel
theorem dX8_as_11 : decode cX8_as 11 = .ok (.iload_n 2, 1) := by decide +kernel
theorem dX8_as_12 : decode cX8_as 12 = .ok (.i2l, 1) := by decide +kernel
theorem dX8_as_13 : decode cX8_as 13 = .ok (.lconst 0, 1) := by decide +kernel
theorem dX8_as_14 : decode cX8_as 14 = .ok (.ldc2_w 219, 3) := by decide +kernel
theorem dX8_as_17 : decode cX8_as 17 = .ok (.invokestatic 76, 3) := by decide +kernel
theorem dX8_as_20 : decode cX8_as 20 = .ok (.ifCond .ne 6, 3) := by decide +kernel
theorem dX8_as_23 : decode cX8_as 23 = .ok (.bipush (-102), 2) := by decide +kernel
theorem dX8_as_25 : decode cX8_as 25 = .ok (.ireturn, 1) := by decide +kernel
theorem dX8_as_26 : decode cX8_as 26 = .ok (.iload_n 2, 1) := by decide +kernel
theorem dX8_as_27 : decode cX8_as 27 = .ok (.ifCond .eq 28, 3) := by decide +kernel
theorem dX8_as_30 : decode cX8_as 30 = .ok (.iload_n 2, 1) := by decide +kernel
theorem dX8_as_31 : decode cX8_as 31 = .ok (.aload_n 0, 1) := by decide +kernel
theorem dX8_as_32 : decode cX8_as 32 = .ok (.getfield 13, 3) := by decide +kernel
theorem dX8_as_35 : decode cX8_as 35 = .ok (.iload_n 1, 1) := by decide +kernel
theorem dX8_as_36 : decode cX8_as 36 = .ok (.iaload, 1) := by decide +kernel
theorem dX8_as_37 : decode cX8_as 37 = .ok (.if_icmp .eq 18, 3) := by decide +kernel
theorem dX8_as_40 : decode cX8_as 40 = .ok (.iload_n 2, 1) := by decide +kernel
theorem dX8_as_41 : decode cX8_as 41 = .ok (.iconst 2, 1) := by decide +kernel
theorem dX8_as_42 : decode cX8_as 42 = .ok (.if_icmp .ne 17, 3) := by decide +kernel
theorem dX8_as_45 : decode cX8_as 45 = .ok (.aload_n 0, 1) := by decide +kernel
theorem dX8_as_46 : decode cX8_as 46 = .ok (.getfield 13, 3) := by decide +kernel
theorem dX8_as_49 : decode cX8_as 49 = .ok (.iload_n 1, 1) := by decide +kernel
theorem dX8_as_50 : decode cX8_as 50 = .ok (.iaload, 1) := by decide +kernel
theorem dX8_as_51 : decode cX8_as 51 = .ok (.iconst 4, 1) := by decide +kernel
theorem dX8_as_52 : decode cX8_as 52 = .ok (.if_icmp .ne 7, 3) := by decide +kernel
theorem dX8_as_55 : decode cX8_as 55 = .ok (.iconst 1, 1) := by decide +kernel
theorem dX8_as_56 : decode cX8_as 56 = .ok (.goto 4, 3) := by decide +kernel
theorem dX8_as_59 : decode cX8_as 59 = .ok (.iconst 0, 1) := by decide +kernel
theorem dX8_as_60 : decode cX8_as 60 = .ok (.istore_n 3, 1) := by decide +kernel
theorem dX8_as_61 : decode cX8_as 61 = .ok (.iload_n 3, 1) := by decide +kernel
theorem dX8_as_62 : decode cX8_as 62 = .ok (.ifCond .eq 7, 3) := by decide +kernel
theorem dX8_as_65 : decode cX8_as 65 = .ok (.iload_n 1, 1) := by decide +kernel
theorem dX8_as_66 : decode cX8_as 66 = .ok (.goto 4, 3) := by decide +kernel
theorem dX8_as_69 : decode cX8_as 69 = .ok (.iconst (-1), 1) := by decide +kernel
theorem dX8_as_70 : decode cX8_as 70 = .ok (.ireturn, 1) := by decide +kernel
theorem dX8_cut_0 : decode cX8_cut 0 = .ok (.aload_n 0, 1) := by decide +kernel
theorem dX8_cut_1 : decode cX8_cut 1 = .ok (.invokevirtual 201, 3) := by decide +kernel
theorem dX8_cut_4 : decode cX8_cut 4 = .ok (.iload_n 1, 1) := by decide +kernel
theorem dX8_cut_5 : decode cX8_cut 5 = .ok (.i2l, 1) := by decide +kernel
theorem dX8_cut_6 : decode cX8_cut 6 = .ok (.lconst 0, 1) := by decide +kernel
theorem dX8_cut_7 : decode cX8_cut 7 = .ok (.aload_n 0, 1) := by decide +kernel
theorem dX8_cut_8 : decode cX8_cut 8 = .ok (.getfield 182, 3) := by decide +kernel
theorem dX8_cut_11 : decode cX8_cut 11 = .ok (.iconst 1, 1) := by decide +kernel
theorem dX8_cut_12 : decode cX8_cut 12 = .ok (.isub, 1) := by decide +kernel
theorem dX8_cut_13 : decode cX8_cut 13 = .ok (.i2l, 1) := by decide +kernel
theorem dX8_cut_14 : decode cX8_cut 14 = .ok (.invokestatic 76, 3) := by decide +kernel
theorem dX8_cut_17 : decode cX8_cut 17 = .ok (.ifCond .ne 6, 3) := by decide +kernel
theorem dX8_cut_20 : decode cX8_cut 20 = .ok (.bipush (-101), 2) := by decide +kernel
theorem dX8_cut_22 : decode cX8_cut 22 = .ok (.ireturn, 1) := by decide +kernel
theorem dX8_cut_23 : decode cX8_cut 23 = .ok (.iload_n 2, 1) := by decide +kernel
theorem dX8_cut_24 : decode cX8_cut 24 = .ok (.i2l, 1) := by decide +kernel
theorem dX8_cut_25 : decode cX8_cut 25 = .ok (.lconst 0, 1) := by decide +kernel
theorem dX8_cut_26 : decode cX8_cut 26 = .ok (.ldc2_w 219, 3) := by decide +kernel
theorem dX8_cut_29 : decode cX8_cut 29 = .ok (.invokestatic 76, 3) := by decide +kernel
theorem dX8_cut_32 : decode cX8_cut 32 = .ok (.ifCond .eq 16, 3) := by decide +kernel
theorem dX8_cut_35 : decode cX8_cut 35 = .ok (.aload_n 0, 1) := by decide +kernel
theorem dX8_cut_36 : decode cX8_cut 36 = .ok (.getfield 28, 3) := by decide +kernel
theorem dX8_cut_39 : decode cX8_cut 39 = .ok (.iconst 5, 1) := by decide +kernel
theorem dX8_cut_40 : decode cX8_cut 40 = .ok (.iload_n 1, 1) := by decide +kernel
theorem dX8_cut_41 : decode cX8_cut 41 = .ok (.imul, 1) := by decide +kernel
theorem dX8_cut_42 : decode cX8_cut 42 = .ok (.iload_n 2, 1) := by decide +kernel
theorem dX8_cut_43 : decode cX8_cut 43 = .ok (.iadd, 1) := by decide +kernel
theorem dX8_cut_44 : decode cX8_cut 44 = .ok (.iaload, 1) := by decide +kernel
theorem dX8_cut_45 : decode cX8_cut 45 = .ok (.goto 5, 3) := by decide +kernel
theorem dX8_cut_48 : decode cX8_cut 48 = .ok (.bipush (-102), 2) := by decide +kernel
theorem dX8_cut_50 : decode cX8_cut 50 = .ok (.ireturn, 1) := by decide +kernel
theorem dX8_laneOf_0 : decode cX8_laneOf 0 = .ok (.aload_n 0, 1) := by decide +kernel
theorem dX8_laneOf_1 : decode cX8_laneOf 1 = .ok (.iconst 1, 1) := by decide +kernel
theorem dX8_laneOf_2 : decode cX8_laneOf 2 = .ok (.aload_n 0, 1) := by decide +kernel
theorem dX8_laneOf_3 : decode cX8_laneOf 3 = .ok (.getfield 119, 3) := by decide +kernel
theorem dX8_laneOf_6 : decode cX8_laneOf 6 = .ok (.ishl, 1) := by decide +kernel
theorem dX8_laneOf_7 : decode cX8_laneOf 7 = .ok (.iconst 1, 1) := by decide +kernel
theorem dX8_laneOf_8 : decode cX8_laneOf 8 = .ok (.isub, 1) := by decide +kernel
theorem dX8_laneOf_9 : decode cX8_laneOf 9 = .ok (.invokevirtual 179, 3) := by decide +kernel
theorem dX8_laneOf_12 : decode cX8_laneOf 12 = .ok (.istore_n 2, 1) := by decide +kernel
theorem dX8_laneOf_13 : decode cX8_laneOf 13 = .ok (.iconst (-1), 1) := by decide +kernel
theorem dX8_laneOf_14 : decode cX8_laneOf 14 = .ok (.istore_n 3, 1) := by decide +kernel
theorem dX8_laneOf_15 : decode cX8_laneOf 15 = .ok (.iconst 0, 1) := by decide +kernel
theorem dX8_laneOf_16 : decode cX8_laneOf 16 = .ok (.istore 4, 2) := by decide +kernel
theorem dX8_laneOf_18 : decode cX8_laneOf 18 = .ok (.iload 4, 2) := by decide +kernel
theorem dX8_laneOf_20 : decode cX8_laneOf 20 = .ok (.iload_n 1, 1) := by decide +kernel
theorem dX8_laneOf_21 : decode cX8_laneOf 21 = .ok (.if_icmp .gt 30, 3) := by decide +kernel
theorem dX8_laneOf_24 : decode cX8_laneOf 24 = .ok (.iload 4, 2) := by decide +kernel
theorem dX8_laneOf_26 : decode cX8_laneOf 26 = .ok (.ifCond .le 12, 3) := by decide +kernel
theorem dX8_laneOf_29 : decode cX8_laneOf 29 = .ok (.iload_n 3, 1) := by decide +kernel
theorem dX8_laneOf_30 : decode cX8_laneOf 30 = .ok (.iconst (-1), 1) := by decide +kernel
theorem dX8_laneOf_31 : decode cX8_laneOf 31 = .ok (.if_icmp .ne 7, 3) := by decide +kernel
theorem dX8_laneOf_34 : decode cX8_laneOf 34 = .ok (.iconst (-1), 1) := by decide +kernel
theorem dX8_laneOf_35 : decode cX8_laneOf 35 = .ok (.goto 9, 3) := by decide +kernel
theorem dX8_laneOf_38 : decode cX8_laneOf 38 = .ok (.aload_n 0, 1) := by decide +kernel
theorem dX8_laneOf_39 : decode cX8_laneOf 39 = .ok (.iload_n 2, 1) := by decide +kernel
theorem dX8_laneOf_40 : decode cX8_laneOf 40 = .ok (.iload_n 3, 1) := by decide +kernel
theorem dX8_laneOf_41 : decode cX8_laneOf 41 = .ok (.invokevirtual 224, 3) := by decide +kernel
theorem dX8_laneOf_44 : decode cX8_laneOf 44 = .ok (.istore_n 3, 1) := by decide +kernel
theorem dX8_laneOf_45 : decode cX8_laneOf 45 = .ok (.iinc 4 1, 3) := by decide +kernel
theorem dX8_laneOf_48 : decode cX8_laneOf 48 = .ok (.goto (-30), 3) := by decide +kernel
theorem dX8_laneOf_51 : decode cX8_laneOf 51 = .ok (.iload_n 3, 1) := by decide +kernel
theorem dX8_laneOf_52 : decode cX8_laneOf 52 = .ok (.ireturn, 1) := by decide +kernel
theorem dX8_lane_0 : decode cX8_lane 0 = .ok (.iload_n 1, 1) := by decide +kernel
theorem dX8_lane_1 : decode cX8_lane 1 = .ok (.ifCond .lt 9, 3) := by decide +kernel
theorem dX8_lane_4 : decode cX8_lane 4 = .ok (.iload_n 1, 1) := by decide +kernel
theorem dX8_lane_5 : decode cX8_lane 5 = .ok (.bipush 127, 2) := by decide +kernel
theorem dX8_lane_7 : decode cX8_lane 7 = .ok (.if_icmp .le 7, 3) := by decide +kernel
theorem dX8_lane_10 : decode cX8_lane 10 = .ok (.iconst (-1), 1) := by decide +kernel
theorem dX8_lane_11 : decode cX8_lane 11 = .ok (.goto 8, 3) := by decide +kernel
theorem dX8_lane_14 : decode cX8_lane 14 = .ok (.aload_n 0, 1) := by decide +kernel
theorem dX8_lane_15 : decode cX8_lane 15 = .ok (.iload_n 1, 1) := by decide +kernel
theorem dX8_lane_16 : decode cX8_lane 16 = .ok (.invokevirtual 227, 3) := by decide +kernel
theorem dX8_lane_19 : decode cX8_lane 19 = .ok (.istore_n 3, 1) := by decide +kernel
theorem dX8_lane_20 : decode cX8_lane 20 = .ok (.iload_n 3, 1) := by decide +kernel
theorem dX8_lane_21 : decode cX8_lane 21 = .ok (.iconst (-1), 1) := by decide +kernel
theorem dX8_lane_22 : decode cX8_lane 22 = .ok (.if_icmp .ne 6, 3) := by decide +kernel
theorem dX8_lane_25 : decode cX8_lane 25 = .ok (.bipush (-101), 2) := by decide +kernel
theorem dX8_lane_27 : decode cX8_lane 27 = .ok (.ireturn, 1) := by decide +kernel
theorem dX8_lane_28 : decode cX8_lane 28 = .ok (.iload_n 2, 1) := by decide +kernel
theorem dX8_lane_29 : decode cX8_lane 29 = .ok (.tableswitch 53 0 2 #[27, 37, 43], 27) := by decide +kernel
theorem dX8_lane_56 : decode cX8_lane 56 = .ok (.iconst 1, 1) := by decide +kernel
theorem dX8_lane_57 : decode cX8_lane 57 = .ok (.iload_n 3, 1) := by decide +kernel
theorem dX8_lane_58 : decode cX8_lane 58 = .ok (.sipush 1000, 3) := by decide +kernel
theorem dX8_lane_61 : decode cX8_lane 61 = .ok (.idiv, 1) := by decide +kernel
theorem dX8_lane_62 : decode cX8_lane 62 = .ok (.iconst 2, 1) := by decide +kernel
theorem dX8_lane_63 : decode cX8_lane 63 = .ok (.irem, 1) := by decide +kernel
theorem dX8_lane_64 : decode cX8_lane 64 = .ok (.isub, 1) := by decide +kernel
theorem dX8_lane_65 : decode cX8_lane 65 = .ok (.ireturn, 1) := by decide +kernel
theorem dX8_lane_66 : decode cX8_lane 66 = .ok (.iload_n 3, 1) := by decide +kernel
theorem dX8_lane_67 : decode cX8_lane 67 = .ok (.sipush 1000, 3) := by decide +kernel
theorem dX8_lane_70 : decode cX8_lane 70 = .ok (.irem, 1) := by decide +kernel
theorem dX8_lane_71 : decode cX8_lane 71 = .ok (.ireturn, 1) := by decide +kernel
theorem dX8_lane_72 : decode cX8_lane 72 = .ok (.sipush 1000, 3) := by decide +kernel
theorem dX8_lane_75 : decode cX8_lane 75 = .ok (.iload_n 3, 1) := by decide +kernel
theorem dX8_lane_76 : decode cX8_lane 76 = .ok (.sipush 2000, 3) := by decide +kernel
theorem dX8_lane_79 : decode cX8_lane 79 = .ok (.idiv, 1) := by decide +kernel
theorem dX8_lane_80 : decode cX8_lane 80 = .ok (.isub, 1) := by decide +kernel
theorem dX8_lane_81 : decode cX8_lane 81 = .ok (.ireturn, 1) := by decide +kernel
theorem dX8_lane_82 : decode cX8_lane 82 = .ok (.bipush (-102), 2) := by decide +kernel
theorem dX8_lane_84 : decode cX8_lane 84 = .ok (.ireturn, 1) := by decide +kernel
theorem dX8_change_0 : decode cX8_change 0 = .ok (.aload_n 0, 1) := by decide +kernel
theorem dX8_change_1 : decode cX8_change 1 = .ok (.iload_n 1, 1) := by decide +kernel
theorem dX8_change_2 : decode cX8_change 2 = .ok (.invokevirtual 213, 3) := by decide +kernel
theorem dX8_change_5 : decode cX8_change 5 = .ok (.ifCond .ne 6, 3) := by decide +kernel
theorem dX8_change_8 : decode cX8_change 8 = .ok (.bipush (-101), 2) := by decide +kernel
theorem dX8_change_10 : decode cX8_change 10 = .ok (.ireturn, 1) := by decide +kernel
theorem dX8_change_11 : decode cX8_change 11 = .ok (.iload_n 2, 1) := by decide +kernel
theorem dX8_change_12 : decode cX8_change 12 = .ok (.i2l, 1) := by decide +kernel
theorem dX8_change_13 : decode cX8_change 13 = .ok (.lconst 0, 1) := by decide +kernel
theorem dX8_change_14 : decode cX8_change 14 = .ok (.ldc2_w 219, 3) := by decide +kernel
theorem dX8_change_17 : decode cX8_change 17 = .ok (.invokestatic 76, 3) := by decide +kernel
theorem dX8_change_20 : decode cX8_change 20 = .ok (.ifCond .ne 6, 3) := by decide +kernel
theorem dX8_change_23 : decode cX8_change 23 = .ok (.bipush (-102), 2) := by decide +kernel
theorem dX8_change_25 : decode cX8_change 25 = .ok (.ireturn, 1) := by decide +kernel
theorem dX8_change_26 : decode cX8_change 26 = .ok (.aload_n 0, 1) := by decide +kernel
theorem dX8_change_27 : decode cX8_change 27 = .ok (.getfield 13, 3) := by decide +kernel
theorem dX8_change_30 : decode cX8_change 30 = .ok (.iload_n 1, 1) := by decide +kernel
theorem dX8_change_31 : decode cX8_change 31 = .ok (.iaload, 1) := by decide +kernel
theorem dX8_change_32 : decode cX8_change 32 = .ok (.istore_n 3, 1) := by decide +kernel
theorem dX8_change_33 : decode cX8_change 33 = .ok (.aload_n 0, 1) := by decide +kernel
theorem dX8_change_34 : decode cX8_change 34 = .ok (.getfield 13, 3) := by decide +kernel
theorem dX8_change_37 : decode cX8_change 37 = .ok (.iload_n 1, 1) := by decide +kernel
theorem dX8_change_38 : decode cX8_change 38 = .ok (.iload_n 2, 1) := by decide +kernel
theorem dX8_change_39 : decode cX8_change 39 = .ok (.iastore, 1) := by decide +kernel
theorem dX8_change_40 : decode cX8_change 40 = .ok (.iload_n 3, 1) := by decide +kernel
theorem dX8_change_41 : decode cX8_change 41 = .ok (.ireturn, 1) := by decide +kernel
theorem dX8_isRules_0 : decode cX8_isRules 0 = .ok (.iconst 0, 1) := by decide +kernel
theorem dX8_isRules_1 : decode cX8_isRules 1 = .ok (.istore_n 1, 1) := by decide +kernel
theorem dX8_isRules_2 : decode cX8_isRules 2 = .ok (.iload_n 0, 1) := by decide +kernel
theorem dX8_isRules_3 : decode cX8_isRules 3 = .ok (.istore_n 2, 1) := by decide +kernel
theorem dX8_isRules_4 : decode cX8_isRules 4 = .ok (.iload_n 0, 1) := by decide +kernel
theorem dX8_isRules_5 : decode cX8_isRules 5 = .ok (.ifCond .le 14, 3) := by decide +kernel
theorem dX8_isRules_8 : decode cX8_isRules 8 = .ok (.iload_n 0, 1) := by decide +kernel
theorem dX8_isRules_9 : decode cX8_isRules 9 = .ok (.sipush 10000, 3) := by decide +kernel
theorem dX8_isRules_12 : decode cX8_isRules 12 = .ok (.if_icmp .ge 7, 3) := by decide +kernel
theorem dX8_isRules_15 : decode cX8_isRules 15 = .ok (.iconst 1, 1) := by decide +kernel
theorem dX8_isRules_16 : decode cX8_isRules 16 = .ok (.goto 4, 3) := by decide +kernel
theorem dX8_isRules_19 : decode cX8_isRules 19 = .ok (.iconst 0, 1) := by decide +kernel
theorem dX8_isRules_20 : decode cX8_isRules 20 = .ok (.istore_n 3, 1) := by decide +kernel
theorem dX8_isRules_21 : decode cX8_isRules 21 = .ok (.iload_n 3, 1) := by decide +kernel
theorem dX8_isRules_22 : decode cX8_isRules 22 = .ok (.ifCond .eq 56, 3) := by decide +kernel
theorem dX8_isRules_25 : decode cX8_isRules 25 = .ok (.iload_n 2, 1) := by decide +kernel
theorem dX8_isRules_26 : decode cX8_isRules 26 = .ok (.ifCond .le 52, 3) := by decide +kernel
theorem dX8_isRules_29 : decode cX8_isRules 29 = .ok (.iload_n 2, 1) := by decide +kernel
theorem dX8_isRules_30 : decode cX8_isRules 30 = .ok (.bipush 10, 2) := by decide +kernel
theorem dX8_isRules_32 : decode cX8_isRules 32 = .ok (.irem, 1) := by decide +kernel
theorem dX8_isRules_33 : decode cX8_isRules 33 = .ok (.i2l, 1) := by decide +kernel
theorem dX8_isRules_34 : decode cX8_isRules 34 = .ok (.lconst 1, 1) := by decide +kernel
theorem dX8_isRules_35 : decode cX8_isRules 35 = .ok (.ldc2_w 219, 3) := by decide +kernel
theorem dX8_isRules_38 : decode cX8_isRules 38 = .ok (.invokestatic 76, 3) := by decide +kernel
theorem dX8_isRules_41 : decode cX8_isRules 41 = .ok (.ifCond .eq 18, 3) := by decide +kernel
theorem dX8_isRules_44 : decode cX8_isRules 44 = .ok (.iload_n 1, 1) := by decide +kernel
theorem dX8_isRules_45 : decode cX8_isRules 45 = .ok (.iload_n 2, 1) := by decide +kernel
theorem dX8_isRules_46 : decode cX8_isRules 46 = .ok (.bipush 10, 2) := by decide +kernel
theorem dX8_isRules_48 : decode cX8_isRules 48 = .ok (.irem, 1) := by decide +kernel
theorem dX8_isRules_49 : decode cX8_isRules 49 = .ok (.invokestatic 101, 3) := by decide +kernel
theorem dX8_isRules_52 : decode cX8_isRules 52 = .ok (.ifCond .ne 7, 3) := by decide +kernel
theorem dX8_isRules_55 : decode cX8_isRules 55 = .ok (.iconst 1, 1) := by decide +kernel
theorem dX8_isRules_56 : decode cX8_isRules 56 = .ok (.goto 4, 3) := by decide +kernel
theorem dX8_isRules_59 : decode cX8_isRules 59 = .ok (.iconst 0, 1) := by decide +kernel
theorem dX8_isRules_60 : decode cX8_isRules 60 = .ok (.istore_n 3, 1) := by decide +kernel
theorem dX8_isRules_61 : decode cX8_isRules 61 = .ok (.iload_n 1, 1) := by decide +kernel
theorem dX8_isRules_62 : decode cX8_isRules 62 = .ok (.iconst 1, 1) := by decide +kernel
theorem dX8_isRules_63 : decode cX8_isRules 63 = .ok (.iload_n 2, 1) := by decide +kernel
theorem dX8_isRules_64 : decode cX8_isRules 64 = .ok (.bipush 10, 2) := by decide +kernel
theorem dX8_isRules_66 : decode cX8_isRules 66 = .ok (.irem, 1) := by decide +kernel
theorem dX8_isRules_67 : decode cX8_isRules 67 = .ok (.ishl, 1) := by decide +kernel
theorem dX8_isRules_68 : decode cX8_isRules 68 = .ok (.ior, 1) := by decide +kernel
theorem dX8_isRules_69 : decode cX8_isRules 69 = .ok (.istore_n 1, 1) := by decide +kernel
theorem dX8_isRules_70 : decode cX8_isRules 70 = .ok (.iload_n 2, 1) := by decide +kernel
theorem dX8_isRules_71 : decode cX8_isRules 71 = .ok (.bipush 10, 2) := by decide +kernel
theorem dX8_isRules_73 : decode cX8_isRules 73 = .ok (.idiv, 1) := by decide +kernel
theorem dX8_isRules_74 : decode cX8_isRules 74 = .ok (.istore_n 2, 1) := by decide +kernel
theorem dX8_isRules_75 : decode cX8_isRules 75 = .ok (.goto (-54), 3) := by decide +kernel
theorem dX8_isRules_78 : decode cX8_isRules 78 = .ok (.iload_n 3, 1) := by decide +kernel
theorem dX8_isRules_79 : decode cX8_isRules 79 = .ok (.ireturn, 1) := by decide +kernel
theorem dX8_greatest_0 : decode cX8_greatest 0 = .ok (.iconst 0, 1) := by decide +kernel
theorem dX8_greatest_1 : decode cX8_greatest 1 = .ok (.istore_n 1, 1) := by decide +kernel
theorem dX8_greatest_2 : decode cX8_greatest 2 = .ok (.iconst 0, 1) := by decide +kernel
theorem dX8_greatest_3 : decode cX8_greatest 3 = .ok (.istore_n 2, 1) := by decide +kernel
theorem dX8_greatest_4 : decode cX8_greatest 4 = .ok (.iload_n 2, 1) := by decide +kernel
theorem dX8_greatest_5 : decode cX8_greatest 5 = .ok (.iconst 4, 1) := by decide +kernel
theorem dX8_greatest_6 : decode cX8_greatest 6 = .ok (.aload_n 0, 1) := by decide +kernel
theorem dX8_greatest_7 : decode cX8_greatest 7 = .ok (.getfield 119, 3) := by decide +kernel
theorem dX8_greatest_10 : decode cX8_greatest 10 = .ok (.imul, 1) := by decide +kernel
theorem dX8_greatest_11 : decode cX8_greatest 11 = .ok (.if_icmp .ge 30, 3) := by decide +kernel
theorem dX8_greatest_14 : decode cX8_greatest 14 = .ok (.aload_n 0, 1) := by decide +kernel
theorem dX8_greatest_15 : decode cX8_greatest 15 = .ok (.getfield 16, 3) := by decide +kernel
theorem dX8_greatest_18 : decode cX8_greatest 18 = .ok (.iload_n 2, 1) := by decide +kernel
theorem dX8_greatest_19 : decode cX8_greatest 19 = .ok (.iaload, 1) := by decide +kernel
theorem dX8_greatest_20 : decode cX8_greatest 20 = .ok (.iload_n 1, 1) := by decide +kernel
theorem dX8_greatest_21 : decode cX8_greatest 21 = .ok (.if_icmp .le 12, 3) := by decide +kernel
theorem dX8_greatest_24 : decode cX8_greatest 24 = .ok (.aload_n 0, 1) := by decide +kernel
theorem dX8_greatest_25 : decode cX8_greatest 25 = .ok (.getfield 16, 3) := by decide +kernel
theorem dX8_greatest_28 : decode cX8_greatest 28 = .ok (.iload_n 2, 1) := by decide +kernel
theorem dX8_greatest_29 : decode cX8_greatest 29 = .ok (.iaload, 1) := by decide +kernel
theorem dX8_greatest_30 : decode cX8_greatest 30 = .ok (.goto 4, 3) := by decide +kernel
theorem dX8_greatest_33 : decode cX8_greatest 33 = .ok (.iload_n 1, 1) := by decide +kernel
theorem dX8_greatest_34 : decode cX8_greatest 34 = .ok (.istore_n 1, 1) := by decide +kernel
theorem dX8_greatest_35 : decode cX8_greatest 35 = .ok (.iinc 2 1, 3) := by decide +kernel
theorem dX8_greatest_38 : decode cX8_greatest 38 = .ok (.goto (-34), 3) := by decide +kernel
theorem dX8_greatest_41 : decode cX8_greatest 41 = .ok (.iload_n 1, 1) := by decide +kernel
theorem dX8_greatest_42 : decode cX8_greatest 42 = .ok (.ireturn, 1) := by decide +kernel
theorem dX8_keepOrder_0 : decode cX8_keepOrder 0 = .ok (.aload_n 0, 1) := by decide +kernel
theorem dX8_keepOrder_1 : decode cX8_keepOrder 1 = .ok (.invokevirtual 201, 3) := by decide +kernel
theorem dX8_keepOrder_4 : decode cX8_keepOrder 4 = .ok (.aload_n 0, 1) := by decide +kernel
theorem dX8_keepOrder_5 : decode cX8_keepOrder 5 = .ok (.getfield 25, 3) := by decide +kernel
theorem dX8_keepOrder_8 : decode cX8_keepOrder 8 = .ok (.aload_n 0, 1) := by decide +kernel
theorem dX8_keepOrder_9 : decode cX8_keepOrder 9 = .ok (.getfield 43, 3) := by decide +kernel
theorem dX8_keepOrder_12 : decode cX8_keepOrder 12 = .ok (.invokestatic 252, 3) := by decide +kernel
theorem dX8_keepOrder_15 : decode cX8_keepOrder 15 = .ok (.return_, 1) := by decide +kernel
theorem dX8_isSameOrder_0 : decode cX8_isSameOrder 0 = .ok (.iconst 0, 1) := by decide +kernel
theorem dX8_isSameOrder_1 : decode cX8_isSameOrder 1 = .ok (.istore_n 1, 1) := by decide +kernel
theorem dX8_isSameOrder_2 : decode cX8_isSameOrder 2 = .ok (.iload_n 1, 1) := by decide +kernel
theorem dX8_isSameOrder_3 : decode cX8_isSameOrder 3 = .ok (.aload_n 0, 1) := by decide +kernel
theorem dX8_isSameOrder_4 : decode cX8_isSameOrder 4 = .ok (.getfield 119, 3) := by decide +kernel
theorem dX8_isSameOrder_7 : decode cX8_isSameOrder 7 = .ok (.if_icmp .ge 26, 3) := by decide +kernel
theorem dX8_isSameOrder_10 : decode cX8_isSameOrder 10 = .ok (.aload_n 0, 1) := by decide +kernel
theorem dX8_isSameOrder_11 : decode cX8_isSameOrder 11 = .ok (.getfield 25, 3) := by decide +kernel
theorem dX8_isSameOrder_14 : decode cX8_isSameOrder 14 = .ok (.iload_n 1, 1) := by decide +kernel
theorem dX8_isSameOrder_15 : decode cX8_isSameOrder 15 = .ok (.iaload, 1) := by decide +kernel
theorem dX8_isSameOrder_16 : decode cX8_isSameOrder 16 = .ok (.aload_n 0, 1) := by decide +kernel
theorem dX8_isSameOrder_17 : decode cX8_isSameOrder 17 = .ok (.getfield 43, 3) := by decide +kernel
theorem dX8_isSameOrder_20 : decode cX8_isSameOrder 20 = .ok (.iload_n 1, 1) := by decide +kernel
theorem dX8_isSameOrder_21 : decode cX8_isSameOrder 21 = .ok (.iaload, 1) := by decide +kernel
theorem dX8_isSameOrder_22 : decode cX8_isSameOrder 22 = .ok (.if_icmp .eq 5, 3) := by decide +kernel
theorem dX8_isSameOrder_25 : decode cX8_isSameOrder 25 = .ok (.iconst 0, 1) := by decide +kernel
theorem dX8_isSameOrder_26 : decode cX8_isSameOrder 26 = .ok (.ireturn, 1) := by decide +kernel
theorem dX8_isSameOrder_27 : decode cX8_isSameOrder 27 = .ok (.iinc 1 1, 3) := by decide +kernel
theorem dX8_isSameOrder_30 : decode cX8_isSameOrder 30 = .ok (.goto (-28), 3) := by decide +kernel
theorem dX8_isSameOrder_33 : decode cX8_isSameOrder 33 = .ok (.iconst 1, 1) := by decide +kernel
theorem dX8_isSameOrder_34 : decode cX8_isSameOrder 34 = .ok (.ireturn, 1) := by decide +kernel
theorem dX8_calm_0 : decode cX8_calm 0 = .ok (.aload_n 0, 1) := by decide +kernel
theorem dX8_calm_1 : decode cX8_calm 1 = .ok (.invokevirtual 232, 3) := by decide +kernel
theorem dX8_calm_4 : decode cX8_calm 4 = .ok (.ifCond .eq 6, 3) := by decide +kernel
theorem dX8_calm_7 : decode cX8_calm 7 = .ok (.bipush (-103), 2) := by decide +kernel
theorem dX8_calm_9 : decode cX8_calm 9 = .ok (.ireturn, 1) := by decide +kernel
theorem dX8_calm_10 : decode cX8_calm 10 = .ok (.aload_n 0, 1) := by decide +kernel
theorem dX8_calm_11 : decode cX8_calm 11 = .ok (.invokevirtual 256, 3) := by decide +kernel
theorem dX8_calm_14 : decode cX8_calm 14 = .ok (.iconst 0, 1) := by decide +kernel
theorem dX8_calm_15 : decode cX8_calm 15 = .ok (.istore_n 1, 1) := by decide +kernel
theorem dX8_calm_16 : decode cX8_calm 16 = .ok (.iconst 0, 1) := by decide +kernel
theorem dX8_calm_17 : decode cX8_calm 17 = .ok (.istore_n 2, 1) := by decide +kernel
theorem dX8_calm_18 : decode cX8_calm 18 = .ok (.iload_n 2, 1) := by decide +kernel
theorem dX8_calm_19 : decode cX8_calm 19 = .ok (.iconst 4, 1) := by decide +kernel
theorem dX8_calm_20 : decode cX8_calm 20 = .ok (.aload_n 0, 1) := by decide +kernel
theorem dX8_calm_21 : decode cX8_calm 21 = .ok (.getfield 119, 3) := by decide +kernel
theorem dX8_calm_24 : decode cX8_calm 24 = .ok (.imul, 1) := by decide +kernel
theorem dX8_calm_25 : decode cX8_calm 25 = .ok (.if_icmp .ge 100, 3) := by decide +kernel
theorem dX8_calm_28 : decode cX8_calm 28 = .ok (.iload_n 2, 1) := by decide +kernel
theorem dX8_calm_29 : decode cX8_calm 29 = .ok (.iconst 4, 1) := by decide +kernel
theorem dX8_calm_30 : decode cX8_calm 30 = .ok (.irem, 1) := by decide +kernel
theorem dX8_calm_31 : decode cX8_calm 31 = .ok (.ifCond .ne 7, 3) := by decide +kernel
theorem dX8_calm_34 : decode cX8_calm 34 = .ok (.iconst (-1), 1) := by decide +kernel
theorem dX8_calm_35 : decode cX8_calm 35 = .ok (.goto 15, 3) := by decide +kernel
theorem dX8_calm_38 : decode cX8_calm 38 = .ok (.iload_n 2, 1) := by decide +kernel
theorem dX8_calm_39 : decode cX8_calm 39 = .ok (.iconst 4, 1) := by decide +kernel
theorem dX8_calm_40 : decode cX8_calm 40 = .ok (.irem, 1) := by decide +kernel
theorem dX8_calm_41 : decode cX8_calm 41 = .ok (.iconst 2, 1) := by decide +kernel
theorem dX8_calm_42 : decode cX8_calm 42 = .ok (.if_icmp .ne 7, 3) := by decide +kernel
theorem dX8_calm_45 : decode cX8_calm 45 = .ok (.iconst 1, 1) := by decide +kernel
theorem dX8_calm_46 : decode cX8_calm 46 = .ok (.goto 4, 3) := by decide +kernel
theorem dX8_calm_49 : decode cX8_calm 49 = .ok (.iconst 0, 1) := by decide +kernel
theorem dX8_calm_50 : decode cX8_calm 50 = .ok (.istore_n 3, 1) := by decide +kernel
theorem dX8_calm_51 : decode cX8_calm 51 = .ok (.iload_n 2, 1) := by decide +kernel
theorem dX8_calm_52 : decode cX8_calm 52 = .ok (.iconst 4, 1) := by decide +kernel
theorem dX8_calm_53 : decode cX8_calm 53 = .ok (.irem, 1) := by decide +kernel
theorem dX8_calm_54 : decode cX8_calm 54 = .ok (.iconst 1, 1) := by decide +kernel
theorem dX8_calm_55 : decode cX8_calm 55 = .ok (.if_icmp .ne 7, 3) := by decide +kernel
theorem dX8_calm_58 : decode cX8_calm 58 = .ok (.iconst (-1), 1) := by decide +kernel
theorem dX8_calm_59 : decode cX8_calm 59 = .ok (.goto 15, 3) := by decide +kernel
theorem dX8_calm_62 : decode cX8_calm 62 = .ok (.iload_n 2, 1) := by decide +kernel
theorem dX8_calm_63 : decode cX8_calm 63 = .ok (.iconst 4, 1) := by decide +kernel
theorem dX8_calm_64 : decode cX8_calm 64 = .ok (.irem, 1) := by decide +kernel
theorem dX8_calm_65 : decode cX8_calm 65 = .ok (.iconst 3, 1) := by decide +kernel
theorem dX8_calm_66 : decode cX8_calm 66 = .ok (.if_icmp .ne 7, 3) := by decide +kernel
theorem dX8_calm_69 : decode cX8_calm 69 = .ok (.iconst 1, 1) := by decide +kernel
theorem dX8_calm_70 : decode cX8_calm 70 = .ok (.goto 4, 3) := by decide +kernel
theorem dX8_calm_73 : decode cX8_calm 73 = .ok (.iconst 0, 1) := by decide +kernel
theorem dX8_calm_74 : decode cX8_calm 74 = .ok (.istore 4, 2) := by decide +kernel
theorem dX8_calm_76 : decode cX8_calm 76 = .ok (.aload_n 0, 1) := by decide +kernel
theorem dX8_calm_77 : decode cX8_calm 77 = .ok (.iload_n 2, 1) := by decide +kernel
theorem dX8_calm_78 : decode cX8_calm 78 = .ok (.iconst 4, 1) := by decide +kernel
theorem dX8_calm_79 : decode cX8_calm 79 = .ok (.idiv, 1) := by decide +kernel
theorem dX8_calm_80 : decode cX8_calm 80 = .ok (.iload_n 3, 1) := by decide +kernel
theorem dX8_calm_81 : decode cX8_calm 81 = .ok (.iload 4, 2) := by decide +kernel
theorem dX8_calm_83 : decode cX8_calm 83 = .ok (.invokevirtual 240, 3) := by decide +kernel
theorem dX8_calm_86 : decode cX8_calm 86 = .ok (.aload_n 0, 1) := by decide +kernel
theorem dX8_calm_87 : decode cX8_calm 87 = .ok (.invokevirtual 201, 3) := by decide +kernel
theorem dX8_calm_90 : decode cX8_calm 90 = .ok (.iload_n 1, 1) := by decide +kernel
theorem dX8_calm_91 : decode cX8_calm 91 = .ok (.aload_n 0, 1) := by decide +kernel
theorem dX8_calm_92 : decode cX8_calm 92 = .ok (.invokevirtual 259, 3) := by decide +kernel
theorem dX8_calm_95 : decode cX8_calm 95 = .ok (.ifCond .eq 7, 3) := by decide +kernel
theorem dX8_calm_98 : decode cX8_calm 98 = .ok (.iconst 1, 1) := by decide +kernel
theorem dX8_calm_99 : decode cX8_calm 99 = .ok (.goto 4, 3) := by decide +kernel
theorem dX8_calm_102 : decode cX8_calm 102 = .ok (.iconst 0, 1) := by decide +kernel
theorem dX8_calm_103 : decode cX8_calm 103 = .ok (.iadd, 1) := by decide +kernel
theorem dX8_calm_104 : decode cX8_calm 104 = .ok (.istore_n 1, 1) := by decide +kernel
theorem dX8_calm_105 : decode cX8_calm 105 = .ok (.aload_n 0, 1) := by decide +kernel
theorem dX8_calm_106 : decode cX8_calm 106 = .ok (.iload_n 2, 1) := by decide +kernel
theorem dX8_calm_107 : decode cX8_calm 107 = .ok (.iconst 4, 1) := by decide +kernel
theorem dX8_calm_108 : decode cX8_calm 108 = .ok (.idiv, 1) := by decide +kernel
theorem dX8_calm_109 : decode cX8_calm 109 = .ok (.iconst 0, 1) := by decide +kernel
theorem dX8_calm_110 : decode cX8_calm 110 = .ok (.iload_n 3, 1) := by decide +kernel
theorem dX8_calm_111 : decode cX8_calm 111 = .ok (.isub, 1) := by decide +kernel
theorem dX8_calm_112 : decode cX8_calm 112 = .ok (.iconst 0, 1) := by decide +kernel
theorem dX8_calm_113 : decode cX8_calm 113 = .ok (.iload 4, 2) := by decide +kernel
theorem dX8_calm_115 : decode cX8_calm 115 = .ok (.isub, 1) := by decide +kernel
theorem dX8_calm_116 : decode cX8_calm 116 = .ok (.invokevirtual 240, 3) := by decide +kernel
theorem dX8_calm_119 : decode cX8_calm 119 = .ok (.iinc 2 1, 3) := by decide +kernel
theorem dX8_calm_122 : decode cX8_calm 122 = .ok (.goto (-104), 3) := by decide +kernel
theorem dX8_calm_125 : decode cX8_calm 125 = .ok (.iload_n 1, 1) := by decide +kernel
theorem dX8_calm_126 : decode cX8_calm 126 = .ok (.ireturn, 1) := by decide +kernel
theorem dX8_idleOf_0 : decode cX8_idleOf 0 = .ok (.aload_n 0, 1) := by decide +kernel
theorem dX8_idleOf_1 : decode cX8_idleOf 1 = .ok (.invokevirtual 256, 3) := by decide +kernel
theorem dX8_idleOf_4 : decode cX8_idleOf 4 = .ok (.aload_n 0, 1) := by decide +kernel
theorem dX8_idleOf_5 : decode cX8_idleOf 5 = .ok (.getfield 19, 3) := by decide +kernel
theorem dX8_idleOf_8 : decode cX8_idleOf 8 = .ok (.aload_n 0, 1) := by decide +kernel
theorem dX8_idleOf_9 : decode cX8_idleOf 9 = .ok (.getfield 46, 3) := by decide +kernel
theorem dX8_idleOf_12 : decode cX8_idleOf 12 = .ok (.invokestatic 252, 3) := by decide +kernel
theorem dX8_idleOf_15 : decode cX8_idleOf 15 = .ok (.aload_n 0, 1) := by decide +kernel
theorem dX8_idleOf_16 : decode cX8_idleOf 16 = .ok (.getfield 122, 3) := by decide +kernel
theorem dX8_idleOf_19 : decode cX8_idleOf 19 = .ok (.istore_n 1, 1) := by decide +kernel
theorem dX8_idleOf_20 : decode cX8_idleOf 20 = .ok (.iconst 0, 1) := by decide +kernel
theorem dX8_idleOf_21 : decode cX8_idleOf 21 = .ok (.istore_n 2, 1) := by decide +kernel
theorem dX8_idleOf_22 : decode cX8_idleOf 22 = .ok (.iconst 0, 1) := by decide +kernel
theorem dX8_idleOf_23 : decode cX8_idleOf 23 = .ok (.istore_n 3, 1) := by decide +kernel
theorem dX8_idleOf_24 : decode cX8_idleOf 24 = .ok (.iload_n 3, 1) := by decide +kernel
theorem dX8_idleOf_25 : decode cX8_idleOf 25 = .ok (.iload_n 1, 1) := by decide +kernel
theorem dX8_idleOf_26 : decode cX8_idleOf 26 = .ok (.if_icmp .ge 92, 3) := by decide +kernel
theorem dX8_idleOf_29 : decode cX8_idleOf 29 = .ok (.iload_n 1, 1) := by decide +kernel
theorem dX8_idleOf_30 : decode cX8_idleOf 30 = .ok (.iconst 1, 1) := by decide +kernel
theorem dX8_idleOf_31 : decode cX8_idleOf 31 = .ok (.if_icmp .le 87, 3) := by decide +kernel
theorem dX8_idleOf_34 : decode cX8_idleOf 34 = .ok (.aload_n 0, 1) := by decide +kernel
theorem dX8_idleOf_35 : decode cX8_idleOf 35 = .ok (.iconst 0, 1) := by decide +kernel
theorem dX8_idleOf_36 : decode cX8_idleOf 36 = .ok (.putfield 122, 3) := by decide +kernel
theorem dX8_idleOf_39 : decode cX8_idleOf 39 = .ok (.iconst 0, 1) := by decide +kernel
theorem dX8_idleOf_40 : decode cX8_idleOf 40 = .ok (.istore 4, 2) := by decide +kernel
theorem dX8_idleOf_42 : decode cX8_idleOf 42 = .ok (.iload 4, 2) := by decide +kernel
theorem dX8_idleOf_44 : decode cX8_idleOf 44 = .ok (.iload_n 1, 1) := by decide +kernel
theorem dX8_idleOf_45 : decode cX8_idleOf 45 = .ok (.if_icmp .ge 41, 3) := by decide +kernel
theorem dX8_idleOf_48 : decode cX8_idleOf 48 = .ok (.iload 4, 2) := by decide +kernel
theorem dX8_idleOf_50 : decode cX8_idleOf 50 = .ok (.iload_n 3, 1) := by decide +kernel
theorem dX8_idleOf_51 : decode cX8_idleOf 51 = .ok (.if_icmp .eq 29, 3) := by decide +kernel
theorem dX8_idleOf_54 : decode cX8_idleOf 54 = .ok (.aload_n 0, 1) := by decide +kernel
theorem dX8_idleOf_55 : decode cX8_idleOf 55 = .ok (.getfield 19, 3) := by decide +kernel
theorem dX8_idleOf_58 : decode cX8_idleOf 58 = .ok (.aload_n 0, 1) := by decide +kernel
theorem dX8_idleOf_59 : decode cX8_idleOf 59 = .ok (.getfield 122, 3) := by decide +kernel
theorem dX8_idleOf_62 : decode cX8_idleOf 62 = .ok (.aload_n 0, 1) := by decide +kernel
theorem dX8_idleOf_63 : decode cX8_idleOf 63 = .ok (.getfield 46, 3) := by decide +kernel
theorem dX8_idleOf_66 : decode cX8_idleOf 66 = .ok (.iload 4, 2) := by decide +kernel
theorem dX8_idleOf_68 : decode cX8_idleOf 68 = .ok (.iaload, 1) := by decide +kernel
theorem dX8_idleOf_69 : decode cX8_idleOf 69 = .ok (.iastore, 1) := by decide +kernel
theorem dX8_idleOf_70 : decode cX8_idleOf 70 = .ok (.aload_n 0, 1) := by decide +kernel
theorem dX8_idleOf_71 : decode cX8_idleOf 71 = .ok (.dup, 1) := by decide +kernel
theorem dX8_idleOf_72 : decode cX8_idleOf 72 = .ok (.getfield 122, 3) := by decide +kernel
theorem dX8_idleOf_75 : decode cX8_idleOf 75 = .ok (.iconst 1, 1) := by decide +kernel
theorem dX8_idleOf_76 : decode cX8_idleOf 76 = .ok (.iadd, 1) := by decide +kernel
theorem dX8_idleOf_77 : decode cX8_idleOf 77 = .ok (.putfield 122, 3) := by decide +kernel
theorem dX8_idleOf_80 : decode cX8_idleOf 80 = .ok (.iinc 4 1, 3) := by decide +kernel
theorem dX8_idleOf_83 : decode cX8_idleOf 83 = .ok (.goto (-41), 3) := by decide +kernel
theorem dX8_idleOf_86 : decode cX8_idleOf 86 = .ok (.aload_n 0, 1) := by decide +kernel
theorem dX8_idleOf_87 : decode cX8_idleOf 87 = .ok (.invokevirtual 201, 3) := by decide +kernel
theorem dX8_idleOf_90 : decode cX8_idleOf 90 = .ok (.iload_n 2, 1) := by decide +kernel
theorem dX8_idleOf_91 : decode cX8_idleOf 91 = .ok (.aload_n 0, 1) := by decide +kernel
theorem dX8_idleOf_92 : decode cX8_idleOf 92 = .ok (.invokevirtual 259, 3) := by decide +kernel
theorem dX8_idleOf_95 : decode cX8_idleOf 95 = .ok (.ifCond .eq 14, 3) := by decide +kernel
theorem dX8_idleOf_98 : decode cX8_idleOf 98 = .ok (.iconst 1, 1) := by decide +kernel
theorem dX8_idleOf_99 : decode cX8_idleOf 99 = .ok (.aload_n 0, 1) := by decide +kernel
theorem dX8_idleOf_100 : decode cX8_idleOf 100 = .ok (.getfield 46, 3) := by decide +kernel
theorem dX8_idleOf_103 : decode cX8_idleOf 103 = .ok (.iload_n 3, 1) := by decide +kernel
theorem dX8_idleOf_104 : decode cX8_idleOf 104 = .ok (.iaload, 1) := by decide +kernel
theorem dX8_idleOf_105 : decode cX8_idleOf 105 = .ok (.ishl, 1) := by decide +kernel
theorem dX8_idleOf_106 : decode cX8_idleOf 106 = .ok (.goto 4, 3) := by decide +kernel
theorem dX8_idleOf_109 : decode cX8_idleOf 109 = .ok (.iconst 0, 1) := by decide +kernel
theorem dX8_idleOf_110 : decode cX8_idleOf 110 = .ok (.ior, 1) := by decide +kernel
theorem dX8_idleOf_111 : decode cX8_idleOf 111 = .ok (.istore_n 2, 1) := by decide +kernel
theorem dX8_idleOf_112 : decode cX8_idleOf 112 = .ok (.iinc 3 1, 3) := by decide +kernel
theorem dX8_idleOf_115 : decode cX8_idleOf 115 = .ok (.goto (-91), 3) := by decide +kernel
theorem dX8_idleOf_118 : decode cX8_idleOf 118 = .ok (.aload_n 0, 1) := by decide +kernel
theorem dX8_idleOf_119 : decode cX8_idleOf 119 = .ok (.getfield 46, 3) := by decide +kernel
theorem dX8_idleOf_122 : decode cX8_idleOf 122 = .ok (.aload_n 0, 1) := by decide +kernel
theorem dX8_idleOf_123 : decode cX8_idleOf 123 = .ok (.getfield 19, 3) := by decide +kernel
theorem dX8_idleOf_126 : decode cX8_idleOf 126 = .ok (.invokestatic 252, 3) := by decide +kernel
theorem dX8_idleOf_129 : decode cX8_idleOf 129 = .ok (.aload_n 0, 1) := by decide +kernel
theorem dX8_idleOf_130 : decode cX8_idleOf 130 = .ok (.iload_n 1, 1) := by decide +kernel
theorem dX8_idleOf_131 : decode cX8_idleOf 131 = .ok (.putfield 122, 3) := by decide +kernel
theorem dX8_idleOf_134 : decode cX8_idleOf 134 = .ok (.iload_n 2, 1) := by decide +kernel
theorem dX8_idleOf_135 : decode cX8_idleOf 135 = .ok (.ireturn, 1) := by decide +kernel
theorem dX8_idle_0 : decode cX8_idle 0 = .ok (.aload_n 0, 1) := by decide +kernel
theorem dX8_idle_1 : decode cX8_idle 1 = .ok (.invokevirtual 232, 3) := by decide +kernel
theorem dX8_idle_4 : decode cX8_idle 4 = .ok (.ifCond .eq 8, 3) := by decide +kernel
theorem dX8_idle_7 : decode cX8_idle 7 = .ok (.bipush (-103), 2) := by decide +kernel
theorem dX8_idle_9 : decode cX8_idle 9 = .ok (.goto 7, 3) := by decide +kernel
theorem dX8_idle_12 : decode cX8_idle 12 = .ok (.aload_n 0, 1) := by decide +kernel
theorem dX8_idle_13 : decode cX8_idle 13 = .ok (.invokevirtual 262, 3) := by decide +kernel
theorem dX8_idle_16 : decode cX8_idle 16 = .ok (.ireturn, 1) := by decide +kernel
theorem dX8_freeOf_0 : decode cX8_freeOf 0 = .ok (.iconst (-1), 1) := by decide +kernel
theorem dX8_freeOf_1 : decode cX8_freeOf 1 = .ok (.istore_n 1, 1) := by decide +kernel
theorem dX8_freeOf_2 : decode cX8_freeOf 2 = .ok (.iconst (-1), 1) := by decide +kernel
theorem dX8_freeOf_3 : decode cX8_freeOf 3 = .ok (.istore_n 2, 1) := by decide +kernel
theorem dX8_freeOf_4 : decode cX8_freeOf 4 = .ok (.iconst 0, 1) := by decide +kernel
theorem dX8_freeOf_5 : decode cX8_freeOf 5 = .ok (.istore_n 3, 1) := by decide +kernel
theorem dX8_freeOf_6 : decode cX8_freeOf 6 = .ok (.iload_n 3, 1) := by decide +kernel
theorem dX8_freeOf_7 : decode cX8_freeOf 7 = .ok (.aload_n 0, 1) := by decide +kernel
theorem dX8_freeOf_8 : decode cX8_freeOf 8 = .ok (.getfield 119, 3) := by decide +kernel
theorem dX8_freeOf_11 : decode cX8_freeOf 11 = .ok (.if_icmp .ge 66, 3) := by decide +kernel
theorem dX8_freeOf_14 : decode cX8_freeOf 14 = .ok (.aload_n 0, 1) := by decide +kernel
theorem dX8_freeOf_15 : decode cX8_freeOf 15 = .ok (.getfield 119, 3) := by decide +kernel
theorem dX8_freeOf_18 : decode cX8_freeOf 18 = .ok (.iconst 1, 1) := by decide +kernel
theorem dX8_freeOf_19 : decode cX8_freeOf 19 = .ok (.if_icmp .le 58, 3) := by decide +kernel
theorem dX8_freeOf_22 : decode cX8_freeOf 22 = .ok (.aload_n 0, 1) := by decide +kernel
theorem dX8_freeOf_23 : decode cX8_freeOf 23 = .ok (.iconst 1, 1) := by decide +kernel
theorem dX8_freeOf_24 : decode cX8_freeOf 24 = .ok (.aload_n 0, 1) := by decide +kernel
theorem dX8_freeOf_25 : decode cX8_freeOf 25 = .ok (.getfield 119, 3) := by decide +kernel
theorem dX8_freeOf_28 : decode cX8_freeOf 28 = .ok (.ishl, 1) := by decide +kernel
theorem dX8_freeOf_29 : decode cX8_freeOf 29 = .ok (.iconst 1, 1) := by decide +kernel
theorem dX8_freeOf_30 : decode cX8_freeOf 30 = .ok (.isub, 1) := by decide +kernel
theorem dX8_freeOf_31 : decode cX8_freeOf 31 = .ok (.iconst 1, 1) := by decide +kernel
theorem dX8_freeOf_32 : decode cX8_freeOf 32 = .ok (.iload_n 3, 1) := by decide +kernel
theorem dX8_freeOf_33 : decode cX8_freeOf 33 = .ok (.ishl, 1) := by decide +kernel
theorem dX8_freeOf_34 : decode cX8_freeOf 34 = .ok (.iconst (-1), 1) := by decide +kernel
theorem dX8_freeOf_35 : decode cX8_freeOf 35 = .ok (.ixor, 1) := by decide +kernel
theorem dX8_freeOf_36 : decode cX8_freeOf 36 = .ok (.iand, 1) := by decide +kernel
theorem dX8_freeOf_37 : decode cX8_freeOf 37 = .ok (.invokevirtual 198, 3) := by decide +kernel
theorem dX8_freeOf_40 : decode cX8_freeOf 40 = .ok (.aload_n 0, 1) := by decide +kernel
theorem dX8_freeOf_41 : decode cX8_freeOf 41 = .ok (.getfield 182, 3) := by decide +kernel
theorem dX8_freeOf_44 : decode cX8_freeOf 44 = .ok (.iload_n 2, 1) := by decide +kernel
theorem dX8_freeOf_45 : decode cX8_freeOf 45 = .ok (.if_icmp .le 7, 3) := by decide +kernel
theorem dX8_freeOf_48 : decode cX8_freeOf 48 = .ok (.iload_n 3, 1) := by decide +kernel
theorem dX8_freeOf_49 : decode cX8_freeOf 49 = .ok (.goto 4, 3) := by decide +kernel
theorem dX8_freeOf_52 : decode cX8_freeOf 52 = .ok (.iload_n 1, 1) := by decide +kernel
theorem dX8_freeOf_53 : decode cX8_freeOf 53 = .ok (.istore_n 1, 1) := by decide +kernel
theorem dX8_freeOf_54 : decode cX8_freeOf 54 = .ok (.aload_n 0, 1) := by decide +kernel
theorem dX8_freeOf_55 : decode cX8_freeOf 55 = .ok (.getfield 182, 3) := by decide +kernel
theorem dX8_freeOf_58 : decode cX8_freeOf 58 = .ok (.iload_n 2, 1) := by decide +kernel
theorem dX8_freeOf_59 : decode cX8_freeOf 59 = .ok (.if_icmp .le 10, 3) := by decide +kernel
theorem dX8_freeOf_62 : decode cX8_freeOf 62 = .ok (.aload_n 0, 1) := by decide +kernel
theorem dX8_freeOf_63 : decode cX8_freeOf 63 = .ok (.getfield 182, 3) := by decide +kernel
theorem dX8_freeOf_66 : decode cX8_freeOf 66 = .ok (.goto 4, 3) := by decide +kernel
theorem dX8_freeOf_69 : decode cX8_freeOf 69 = .ok (.iload_n 2, 1) := by decide +kernel
theorem dX8_freeOf_70 : decode cX8_freeOf 70 = .ok (.istore_n 2, 1) := by decide +kernel
theorem dX8_freeOf_71 : decode cX8_freeOf 71 = .ok (.iinc 3 1, 3) := by decide +kernel
theorem dX8_freeOf_74 : decode cX8_freeOf 74 = .ok (.goto (-68), 3) := by decide +kernel
theorem dX8_freeOf_77 : decode cX8_freeOf 77 = .ok (.iload_n 1, 1) := by decide +kernel
theorem dX8_freeOf_78 : decode cX8_freeOf 78 = .ok (.ireturn, 1) := by decide +kernel
theorem dX8_free_0 : decode cX8_free 0 = .ok (.aload_n 0, 1) := by decide +kernel
theorem dX8_free_1 : decode cX8_free 1 = .ok (.invokevirtual 232, 3) := by decide +kernel
theorem dX8_free_4 : decode cX8_free 4 = .ok (.ifCond .eq 8, 3) := by decide +kernel
theorem dX8_free_7 : decode cX8_free 7 = .ok (.bipush (-103), 2) := by decide +kernel
theorem dX8_free_9 : decode cX8_free 9 = .ok (.goto 7, 3) := by decide +kernel
theorem dX8_free_12 : decode cX8_free 12 = .ok (.aload_n 0, 1) := by decide +kernel
theorem dX8_free_13 : decode cX8_free 13 = .ok (.invokevirtual 265, 3) := by decide +kernel
theorem dX8_free_16 : decode cX8_free 16 = .ok (.ireturn, 1) := by decide +kernel
theorem dX8_forget_0 : decode cX8_forget 0 = .ok (.aload_n 0, 1) := by decide +kernel
theorem dX8_forget_1 : decode cX8_forget 1 = .ok (.getfield 125, 3) := by decide +kernel
theorem dX8_forget_4 : decode cX8_forget 4 = .ok (.istore_n 1, 1) := by decide +kernel
theorem dX8_forget_5 : decode cX8_forget 5 = .ok (.aload_n 0, 1) := by decide +kernel
theorem dX8_forget_6 : decode cX8_forget 6 = .ok (.iconst 0, 1) := by decide +kernel
theorem dX8_forget_7 : decode cX8_forget 7 = .ok (.putfield 125, 3) := by decide +kernel
theorem dX8_forget_10 : decode cX8_forget 10 = .ok (.iload_n 1, 1) := by decide +kernel
theorem dX8_forget_11 : decode cX8_forget 11 = .ok (.ireturn, 1) := by decide +kernel
theorem dX8_askOf_0 : decode cX8_askOf 0 = .ok (.aload_n 0, 1) := by decide +kernel
theorem dX8_askOf_1 : decode cX8_askOf 1 = .ok (.iload_n 1, 1) := by decide +kernel
theorem dX8_askOf_2 : decode cX8_askOf 2 = .ok (.invokevirtual 207, 3) := by decide +kernel
theorem dX8_askOf_5 : decode cX8_askOf 5 = .ok (.istore_n 2, 1) := by decide +kernel
theorem dX8_askOf_6 : decode cX8_askOf 6 = .ok (.iconst (-1), 1) := by decide +kernel
theorem dX8_askOf_7 : decode cX8_askOf 7 = .ok (.istore_n 3, 1) := by decide +kernel
theorem dX8_askOf_8 : decode cX8_askOf 8 = .ok (.bipush 6, 2) := by decide +kernel
theorem dX8_askOf_10 : decode cX8_askOf 10 = .ok (.istore 4, 2) := by decide +kernel
theorem dX8_askOf_12 : decode cX8_askOf 12 = .ok (.iconst 0, 1) := by decide +kernel
theorem dX8_askOf_13 : decode cX8_askOf 13 = .ok (.istore 5, 2) := by decide +kernel
theorem dX8_askOf_15 : decode cX8_askOf 15 = .ok (.iload 5, 2) := by decide +kernel
theorem dX8_askOf_17 : decode cX8_askOf 17 = .ok (.iconst 4, 1) := by decide +kernel
theorem dX8_askOf_18 : decode cX8_askOf 18 = .ok (.if_icmp .ge 80, 3) := by decide +kernel
theorem dX8_askOf_21 : decode cX8_askOf 21 = .ok (.iload_n 2, 1) := by decide +kernel
theorem dX8_askOf_22 : decode cX8_askOf 22 = .ok (.ifCond .eq 76, 3) := by decide +kernel
theorem dX8_askOf_25 : decode cX8_askOf 25 = .ok (.iload_n 2, 1) := by decide +kernel
theorem dX8_askOf_26 : decode cX8_askOf 26 = .ok (.iload 5, 2) := by decide +kernel
theorem dX8_askOf_28 : decode cX8_askOf 28 = .ok (.invokestatic 270, 3) := by decide +kernel
theorem dX8_askOf_31 : decode cX8_askOf 31 = .ok (.iand, 1) := by decide +kernel
theorem dX8_askOf_32 : decode cX8_askOf 32 = .ok (.invokestatic 195, 3) := by decide +kernel
theorem dX8_askOf_35 : decode cX8_askOf 35 = .ok (.istore 6, 2) := by decide +kernel
theorem dX8_askOf_37 : decode cX8_askOf 37 = .ok (.iload_n 2, 1) := by decide +kernel
theorem dX8_askOf_38 : decode cX8_askOf 38 = .ok (.invokestatic 195, 3) := by decide +kernel
theorem dX8_askOf_41 : decode cX8_askOf 41 = .ok (.iload 6, 2) := by decide +kernel
theorem dX8_askOf_43 : decode cX8_askOf 43 = .ok (.isub, 1) := by decide +kernel
theorem dX8_askOf_44 : decode cX8_askOf 44 = .ok (.istore 7, 2) := by decide +kernel
theorem dX8_askOf_46 : decode cX8_askOf 46 = .ok (.iload 6, 2) := by decide +kernel
theorem dX8_askOf_48 : decode cX8_askOf 48 = .ok (.iload 7, 2) := by decide +kernel
theorem dX8_askOf_50 : decode cX8_askOf 50 = .ok (.if_icmp .le 8, 3) := by decide +kernel
theorem dX8_askOf_53 : decode cX8_askOf 53 = .ok (.iload 6, 2) := by decide +kernel
theorem dX8_askOf_55 : decode cX8_askOf 55 = .ok (.goto 5, 3) := by decide +kernel
theorem dX8_askOf_58 : decode cX8_askOf 58 = .ok (.iload 7, 2) := by decide +kernel
theorem dX8_askOf_60 : decode cX8_askOf 60 = .ok (.istore 8, 2) := by decide +kernel
theorem dX8_askOf_62 : decode cX8_askOf 62 = .ok (.iload 8, 2) := by decide +kernel
theorem dX8_askOf_64 : decode cX8_askOf 64 = .ok (.iload 4, 2) := by decide +kernel
theorem dX8_askOf_66 : decode cX8_askOf 66 = .ok (.if_icmp .ge 8, 3) := by decide +kernel
theorem dX8_askOf_69 : decode cX8_askOf 69 = .ok (.iload 5, 2) := by decide +kernel
theorem dX8_askOf_71 : decode cX8_askOf 71 = .ok (.goto 4, 3) := by decide +kernel
theorem dX8_askOf_74 : decode cX8_askOf 74 = .ok (.iload_n 3, 1) := by decide +kernel
theorem dX8_askOf_75 : decode cX8_askOf 75 = .ok (.istore_n 3, 1) := by decide +kernel
theorem dX8_askOf_76 : decode cX8_askOf 76 = .ok (.iload 8, 2) := by decide +kernel
theorem dX8_askOf_78 : decode cX8_askOf 78 = .ok (.iload 4, 2) := by decide +kernel
theorem dX8_askOf_80 : decode cX8_askOf 80 = .ok (.if_icmp .ge 8, 3) := by decide +kernel
theorem dX8_askOf_83 : decode cX8_askOf 83 = .ok (.iload 8, 2) := by decide +kernel
theorem dX8_askOf_85 : decode cX8_askOf 85 = .ok (.goto 5, 3) := by decide +kernel
theorem dX8_askOf_88 : decode cX8_askOf 88 = .ok (.iload 4, 2) := by decide +kernel
theorem dX8_askOf_90 : decode cX8_askOf 90 = .ok (.istore 4, 2) := by decide +kernel
theorem dX8_askOf_92 : decode cX8_askOf 92 = .ok (.iinc 5 1, 3) := by decide +kernel
theorem dX8_askOf_95 : decode cX8_askOf 95 = .ok (.goto (-80), 3) := by decide +kernel
theorem dX8_askOf_98 : decode cX8_askOf 98 = .ok (.iload_n 3, 1) := by decide +kernel
theorem dX8_askOf_99 : decode cX8_askOf 99 = .ok (.ireturn, 1) := by decide +kernel
theorem dX8_draw_0 : decode cX8_draw 0 = .ok (.aload_n 0, 1) := by decide +kernel
theorem dX8_draw_1 : decode cX8_draw 1 = .ok (.ldc2_w 273, 3) := by decide +kernel
theorem dX8_draw_4 : decode cX8_draw 4 = .ok (.aload_n 0, 1) := by decide +kernel
theorem dX8_draw_5 : decode cX8_draw 5 = .ok (.getfield 275, 3) := by decide +kernel
theorem dX8_draw_8 : decode cX8_draw 8 = .ok (.i2l, 1) := by decide +kernel
theorem dX8_draw_9 : decode cX8_draw 9 = .ok (.lmul, 1) := by decide +kernel
theorem dX8_draw_10 : decode cX8_draw 10 = .ok (.ldc2_w 278, 3) := by decide +kernel
theorem dX8_draw_13 : decode cX8_draw 13 = .ok (.ladd, 1) := by decide +kernel
theorem dX8_draw_14 : decode cX8_draw 14 = .ok (.ldc2_w 280, 3) := by decide +kernel
theorem dX8_draw_17 : decode cX8_draw 17 = .ok (.land, 1) := by decide +kernel
theorem dX8_draw_18 : decode cX8_draw 18 = .ok (.l2i, 1) := by decide +kernel
theorem dX8_draw_19 : decode cX8_draw 19 = .ok (.putfield 275, 3) := by decide +kernel
theorem dX8_draw_22 : decode cX8_draw 22 = .ok (.aload_n 0, 1) := by decide +kernel
theorem dX8_draw_23 : decode cX8_draw 23 = .ok (.getfield 275, 3) := by decide +kernel
theorem dX8_draw_26 : decode cX8_draw 26 = .ok (.ldc_w 282, 3) := by decide +kernel
theorem dX8_draw_29 : decode cX8_draw 29 = .ok (.idiv, 1) := by decide +kernel
theorem dX8_draw_30 : decode cX8_draw 30 = .ok (.iload_n 1, 1) := by decide +kernel
theorem dX8_draw_31 : decode cX8_draw 31 = .ok (.irem, 1) := by decide +kernel
theorem dX8_draw_32 : decode cX8_draw 32 = .ok (.ireturn, 1) := by decide +kernel
theorem dX8_drawBox_0 : decode cX8_drawBox 0 = .ok (.aload_n 0, 1) := by decide +kernel
theorem dX8_drawBox_1 : decode cX8_drawBox 1 = .ok (.getfield 13, 3) := by decide +kernel
theorem dX8_drawBox_4 : decode cX8_drawBox 4 = .ok (.iload_n 1, 1) := by decide +kernel
theorem dX8_drawBox_5 : decode cX8_drawBox 5 = .ok (.iconst 0, 1) := by decide +kernel
theorem dX8_drawBox_6 : decode cX8_drawBox 6 = .ok (.iastore, 1) := by decide +kernel
theorem dX8_drawBox_7 : decode cX8_drawBox 7 = .ok (.aload_n 0, 1) := by decide +kernel
theorem dX8_drawBox_8 : decode cX8_drawBox 8 = .ok (.getfield 16, 3) := by decide +kernel
theorem dX8_drawBox_11 : decode cX8_drawBox 11 = .ok (.iconst 4, 1) := by decide +kernel
theorem dX8_drawBox_12 : decode cX8_drawBox 12 = .ok (.iload_n 1, 1) := by decide +kernel
theorem dX8_drawBox_13 : decode cX8_drawBox 13 = .ok (.imul, 1) := by decide +kernel
theorem dX8_drawBox_14 : decode cX8_drawBox 14 = .ok (.aload_n 0, 1) := by decide +kernel
theorem dX8_drawBox_15 : decode cX8_drawBox 15 = .ok (.bipush 8, 2) := by decide +kernel
theorem dX8_drawBox_17 : decode cX8_drawBox 17 = .ok (.invokevirtual 283, 3) := by decide +kernel
theorem dX8_drawBox_20 : decode cX8_drawBox 20 = .ok (.iastore, 1) := by decide +kernel
theorem dX8_drawBox_21 : decode cX8_drawBox 21 = .ok (.aload_n 0, 1) := by decide +kernel
theorem dX8_drawBox_22 : decode cX8_drawBox 22 = .ok (.getfield 16, 3) := by decide +kernel
theorem dX8_drawBox_25 : decode cX8_drawBox 25 = .ok (.iconst 4, 1) := by decide +kernel
theorem dX8_drawBox_26 : decode cX8_drawBox 26 = .ok (.iload_n 1, 1) := by decide +kernel
theorem dX8_drawBox_27 : decode cX8_drawBox 27 = .ok (.imul, 1) := by decide +kernel
theorem dX8_drawBox_28 : decode cX8_drawBox 28 = .ok (.iconst 1, 1) := by decide +kernel
theorem dX8_drawBox_29 : decode cX8_drawBox 29 = .ok (.iadd, 1) := by decide +kernel
theorem dX8_drawBox_30 : decode cX8_drawBox 30 = .ok (.aload_n 0, 1) := by decide +kernel
theorem dX8_drawBox_31 : decode cX8_drawBox 31 = .ok (.bipush 8, 2) := by decide +kernel
theorem dX8_drawBox_33 : decode cX8_drawBox 33 = .ok (.invokevirtual 283, 3) := by decide +kernel
theorem dX8_drawBox_36 : decode cX8_drawBox 36 = .ok (.iastore, 1) := by decide +kernel
theorem dX8_drawBox_37 : decode cX8_drawBox 37 = .ok (.aload_n 0, 1) := by decide +kernel
theorem dX8_drawBox_38 : decode cX8_drawBox 38 = .ok (.getfield 16, 3) := by decide +kernel
theorem dX8_drawBox_41 : decode cX8_drawBox 41 = .ok (.iconst 4, 1) := by decide +kernel
theorem dX8_drawBox_42 : decode cX8_drawBox 42 = .ok (.iload_n 1, 1) := by decide +kernel
theorem dX8_drawBox_43 : decode cX8_drawBox 43 = .ok (.imul, 1) := by decide +kernel
theorem dX8_drawBox_44 : decode cX8_drawBox 44 = .ok (.iconst 2, 1) := by decide +kernel
theorem dX8_drawBox_45 : decode cX8_drawBox 45 = .ok (.iadd, 1) := by decide +kernel
theorem dX8_drawBox_46 : decode cX8_drawBox 46 = .ok (.aload_n 0, 1) := by decide +kernel
theorem dX8_drawBox_47 : decode cX8_drawBox 47 = .ok (.getfield 16, 3) := by decide +kernel
theorem dX8_drawBox_50 : decode cX8_drawBox 50 = .ok (.iconst 4, 1) := by decide +kernel
theorem dX8_drawBox_51 : decode cX8_drawBox 51 = .ok (.iload_n 1, 1) := by decide +kernel
theorem dX8_drawBox_52 : decode cX8_drawBox 52 = .ok (.imul, 1) := by decide +kernel
theorem dX8_drawBox_53 : decode cX8_drawBox 53 = .ok (.iaload, 1) := by decide +kernel
theorem dX8_drawBox_54 : decode cX8_drawBox 54 = .ok (.iconst 1, 1) := by decide +kernel
theorem dX8_drawBox_55 : decode cX8_drawBox 55 = .ok (.iadd, 1) := by decide +kernel
theorem dX8_drawBox_56 : decode cX8_drawBox 56 = .ok (.aload_n 0, 1) := by decide +kernel
theorem dX8_drawBox_57 : decode cX8_drawBox 57 = .ok (.iconst 3, 1) := by decide +kernel
theorem dX8_drawBox_58 : decode cX8_drawBox 58 = .ok (.invokevirtual 283, 3) := by decide +kernel
theorem dX8_drawBox_61 : decode cX8_drawBox 61 = .ok (.iadd, 1) := by decide +kernel
theorem dX8_drawBox_62 : decode cX8_drawBox 62 = .ok (.iastore, 1) := by decide +kernel
theorem dX8_drawBox_63 : decode cX8_drawBox 63 = .ok (.aload_n 0, 1) := by decide +kernel
theorem dX8_drawBox_64 : decode cX8_drawBox 64 = .ok (.getfield 16, 3) := by decide +kernel
theorem dX8_drawBox_67 : decode cX8_drawBox 67 = .ok (.iconst 4, 1) := by decide +kernel
theorem dX8_drawBox_68 : decode cX8_drawBox 68 = .ok (.iload_n 1, 1) := by decide +kernel
theorem dX8_drawBox_69 : decode cX8_drawBox 69 = .ok (.imul, 1) := by decide +kernel
theorem dX8_drawBox_70 : decode cX8_drawBox 70 = .ok (.iconst 3, 1) := by decide +kernel
theorem dX8_drawBox_71 : decode cX8_drawBox 71 = .ok (.iadd, 1) := by decide +kernel
theorem dX8_drawBox_72 : decode cX8_drawBox 72 = .ok (.aload_n 0, 1) := by decide +kernel
theorem dX8_drawBox_73 : decode cX8_drawBox 73 = .ok (.getfield 16, 3) := by decide +kernel
theorem dX8_drawBox_76 : decode cX8_drawBox 76 = .ok (.iconst 4, 1) := by decide +kernel
theorem dX8_drawBox_77 : decode cX8_drawBox 77 = .ok (.iload_n 1, 1) := by decide +kernel
theorem dX8_drawBox_78 : decode cX8_drawBox 78 = .ok (.imul, 1) := by decide +kernel
theorem dX8_drawBox_79 : decode cX8_drawBox 79 = .ok (.iconst 1, 1) := by decide +kernel
theorem dX8_drawBox_80 : decode cX8_drawBox 80 = .ok (.iadd, 1) := by decide +kernel
theorem dX8_drawBox_81 : decode cX8_drawBox 81 = .ok (.iaload, 1) := by decide +kernel
theorem dX8_drawBox_82 : decode cX8_drawBox 82 = .ok (.iconst 1, 1) := by decide +kernel
theorem dX8_drawBox_83 : decode cX8_drawBox 83 = .ok (.iadd, 1) := by decide +kernel
theorem dX8_drawBox_84 : decode cX8_drawBox 84 = .ok (.aload_n 0, 1) := by decide +kernel
theorem dX8_drawBox_85 : decode cX8_drawBox 85 = .ok (.iconst 3, 1) := by decide +kernel
theorem dX8_drawBox_86 : decode cX8_drawBox 86 = .ok (.invokevirtual 283, 3) := by decide +kernel
theorem dX8_drawBox_89 : decode cX8_drawBox 89 = .ok (.iadd, 1) := by decide +kernel
theorem dX8_drawBox_90 : decode cX8_drawBox 90 = .ok (.iastore, 1) := by decide +kernel
theorem dX8_drawBox_91 : decode cX8_drawBox 91 = .ok (.return_, 1) := by decide +kernel
theorem dX8_drawn_0 : decode cX8_drawn 0 = .ok (.iload_n 1, 1) := by decide +kernel
theorem dX8_drawn_1 : decode cX8_drawn 1 = .ok (.i2l, 1) := by decide +kernel
theorem dX8_drawn_2 : decode cX8_drawn 2 = .ok (.lconst 1, 1) := by decide +kernel
theorem dX8_drawn_3 : decode cX8_drawn 3 = .ok (.ldc2_w 286, 3) := by decide +kernel
theorem dX8_drawn_6 : decode cX8_drawn 6 = .ok (.invokestatic 76, 3) := by decide +kernel
theorem dX8_drawn_9 : decode cX8_drawn 9 = .ok (.ifCond .eq 19, 3) := by decide +kernel
theorem dX8_drawn_12 : decode cX8_drawn 12 = .ok (.iload_n 2, 1) := by decide +kernel
theorem dX8_drawn_13 : decode cX8_drawn 13 = .ok (.ifCond .lt 15, 3) := by decide +kernel
theorem dX8_drawn_16 : decode cX8_drawn 16 = .ok (.iload_n 3, 1) := by decide +kernel
theorem dX8_drawn_17 : decode cX8_drawn 17 = .ok (.i2l, 1) := by decide +kernel
theorem dX8_drawn_18 : decode cX8_drawn 18 = .ok (.lconst 0, 1) := by decide +kernel
theorem dX8_drawn_19 : decode cX8_drawn 19 = .ok (.ldc2_w 288, 3) := by decide +kernel
theorem dX8_drawn_22 : decode cX8_drawn 22 = .ok (.invokestatic 76, 3) := by decide +kernel
theorem dX8_drawn_25 : decode cX8_drawn 25 = .ok (.ifCond .ne 6, 3) := by decide +kernel
theorem dX8_drawn_28 : decode cX8_drawn 28 = .ok (.bipush (-102), 2) := by decide +kernel
theorem dX8_drawn_30 : decode cX8_drawn 30 = .ok (.ireturn, 1) := by decide +kernel
theorem dX8_drawn_31 : decode cX8_drawn 31 = .ok (.aload_n 0, 1) := by decide +kernel
theorem dX8_drawn_32 : decode cX8_drawn 32 = .ok (.getfield 13, 3) := by decide +kernel
theorem dX8_drawn_35 : decode cX8_drawn 35 = .ok (.aload_n 0, 1) := by decide +kernel
theorem dX8_drawn_36 : decode cX8_drawn 36 = .ok (.getfield 52, 3) := by decide +kernel
theorem dX8_drawn_39 : decode cX8_drawn 39 = .ok (.invokestatic 252, 3) := by decide +kernel
theorem dX8_drawn_42 : decode cX8_drawn 42 = .ok (.aload_n 0, 1) := by decide +kernel
theorem dX8_drawn_43 : decode cX8_drawn 43 = .ok (.getfield 16, 3) := by decide +kernel
theorem dX8_drawn_46 : decode cX8_drawn 46 = .ok (.aload_n 0, 1) := by decide +kernel
theorem dX8_drawn_47 : decode cX8_drawn 47 = .ok (.getfield 55, 3) := by decide +kernel
theorem dX8_drawn_50 : decode cX8_drawn 50 = .ok (.invokestatic 252, 3) := by decide +kernel
theorem dX8_drawn_53 : decode cX8_drawn 53 = .ok (.aload_n 0, 1) := by decide +kernel
theorem dX8_drawn_54 : decode cX8_drawn 54 = .ok (.getfield 19, 3) := by decide +kernel
theorem dX8_drawn_57 : decode cX8_drawn 57 = .ok (.aload_n 0, 1) := by decide +kernel
theorem dX8_drawn_58 : decode cX8_drawn 58 = .ok (.getfield 46, 3) := by decide +kernel
theorem dX8_drawn_61 : decode cX8_drawn 61 = .ok (.invokestatic 252, 3) := by decide +kernel
theorem dX8_drawn_64 : decode cX8_drawn 64 = .ok (.aload_n 0, 1) := by decide +kernel
theorem dX8_drawn_65 : decode cX8_drawn 65 = .ok (.getfield 119, 3) := by decide +kernel
theorem dX8_drawn_68 : decode cX8_drawn 68 = .ok (.istore 4, 2) := by decide +kernel
theorem dX8_drawn_70 : decode cX8_drawn 70 = .ok (.aload_n 0, 1) := by decide +kernel
theorem dX8_drawn_71 : decode cX8_drawn 71 = .ok (.getfield 122, 3) := by decide +kernel
theorem dX8_drawn_74 : decode cX8_drawn 74 = .ok (.istore 5, 2) := by decide +kernel
theorem dX8_drawn_76 : decode cX8_drawn 76 = .ok (.aload_n 0, 1) := by decide +kernel
theorem dX8_drawn_77 : decode cX8_drawn 77 = .ok (.iconst 5, 1) := by decide +kernel
theorem dX8_drawn_78 : decode cX8_drawn 78 = .ok (.putfield 119, 3) := by decide +kernel
theorem dX8_drawn_81 : decode cX8_drawn 81 = .ok (.aload_n 0, 1) := by decide +kernel
theorem dX8_drawn_82 : decode cX8_drawn 82 = .ok (.iconst 2, 1) := by decide +kernel
theorem dX8_drawn_83 : decode cX8_drawn 83 = .ok (.putfield 122, 3) := by decide +kernel
theorem dX8_drawn_86 : decode cX8_drawn 86 = .ok (.aload_n 0, 1) := by decide +kernel
theorem dX8_drawn_87 : decode cX8_drawn 87 = .ok (.getfield 19, 3) := by decide +kernel
theorem dX8_drawn_90 : decode cX8_drawn 90 = .ok (.iconst 0, 1) := by decide +kernel
theorem dX8_drawn_91 : decode cX8_drawn 91 = .ok (.iconst 2, 1) := by decide +kernel
theorem dX8_drawn_92 : decode cX8_drawn 92 = .ok (.iastore, 1) := by decide +kernel
theorem dX8_drawn_93 : decode cX8_drawn 93 = .ok (.aload_n 0, 1) := by decide +kernel
theorem dX8_drawn_94 : decode cX8_drawn 94 = .ok (.getfield 19, 3) := by decide +kernel
theorem dX8_drawn_97 : decode cX8_drawn 97 = .ok (.iconst 1, 1) := by decide +kernel
theorem dX8_drawn_98 : decode cX8_drawn 98 = .ok (.iconst 3, 1) := by decide +kernel
theorem dX8_drawn_99 : decode cX8_drawn 99 = .ok (.iastore, 1) := by decide +kernel
theorem dX8_drawn_100 : decode cX8_drawn 100 = .ok (.aload_n 0, 1) := by decide +kernel
theorem dX8_drawn_101 : decode cX8_drawn 101 = .ok (.iload_n 2, 1) := by decide +kernel
theorem dX8_drawn_102 : decode cX8_drawn 102 = .ok (.putfield 275, 3) := by decide +kernel
theorem dX8_drawn_105 : decode cX8_drawn 105 = .ok (.iconst 0, 1) := by decide +kernel
theorem dX8_drawn_106 : decode cX8_drawn 106 = .ok (.istore 6, 2) := by decide +kernel
theorem dX8_drawn_108 : decode cX8_drawn 108 = .ok (.iconst 0, 1) := by decide +kernel
theorem dX8_drawn_109 : decode cX8_drawn 109 = .ok (.istore 7, 2) := by decide +kernel
theorem dX8_drawn_111 : decode cX8_drawn 111 = .ok (.iconst 0, 1) := by decide +kernel
theorem dX8_drawn_112 : decode cX8_drawn 112 = .ok (.istore 8, 2) := by decide +kernel
theorem dX8_drawn_114 : decode cX8_drawn 114 = .ok (.iload 8, 2) := by decide +kernel
theorem dX8_drawn_116 : decode cX8_drawn 116 = .ok (.iload_n 1, 1) := by decide +kernel
theorem dX8_drawn_117 : decode cX8_drawn 117 = .ok (.if_icmp .ge 100, 3) := by decide +kernel
theorem dX8_drawn_120 : decode cX8_drawn 120 = .ok (.iconst 1, 1) := by decide +kernel
theorem dX8_drawn_121 : decode cX8_drawn 121 = .ok (.istore 9, 2) := by decide +kernel
theorem dX8_drawn_123 : decode cX8_drawn 123 = .ok (.iconst 0, 1) := by decide +kernel
theorem dX8_drawn_124 : decode cX8_drawn 124 = .ok (.istore 10, 2) := by decide +kernel
theorem dX8_drawn_126 : decode cX8_drawn 126 = .ok (.iload 10, 2) := by decide +kernel
theorem dX8_drawn_128 : decode cX8_drawn 128 = .ok (.iconst 5, 1) := by decide +kernel
theorem dX8_drawn_129 : decode cX8_drawn 129 = .ok (.if_icmp .ge 15, 3) := by decide +kernel
theorem dX8_drawn_132 : decode cX8_drawn 132 = .ok (.aload_n 0, 1) := by decide +kernel
theorem dX8_drawn_133 : decode cX8_drawn 133 = .ok (.iload 10, 2) := by decide +kernel
theorem dX8_drawn_135 : decode cX8_drawn 135 = .ok (.invokevirtual 290, 3) := by decide +kernel
theorem dX8_drawn_138 : decode cX8_drawn 138 = .ok (.iinc 10 1, 3) := by decide +kernel
theorem dX8_drawn_141 : decode cX8_drawn 141 = .ok (.goto (-15), 3) := by decide +kernel
theorem dX8_drawn_144 : decode cX8_drawn 144 = .ok (.aload_n 0, 1) := by decide +kernel
theorem dX8_drawn_145 : decode cX8_drawn 145 = .ok (.invokevirtual 201, 3) := by decide +kernel
theorem dX8_drawn_148 : decode cX8_drawn 148 = .ok (.iload 6, 2) := by decide +kernel
theorem dX8_drawn_150 : decode cX8_drawn 150 = .ok (.aload_n 0, 1) := by decide +kernel
theorem dX8_drawn_151 : decode cX8_drawn 151 = .ok (.getfield 182, 3) := by decide +kernel
theorem dX8_drawn_154 : decode cX8_drawn 154 = .ok (.iadd, 1) := by decide +kernel
theorem dX8_drawn_155 : decode cX8_drawn 155 = .ok (.istore 6, 2) := by decide +kernel
theorem dX8_drawn_157 : decode cX8_drawn 157 = .ok (.iconst 0, 1) := by decide +kernel
theorem dX8_drawn_158 : decode cX8_drawn 158 = .ok (.istore 10, 2) := by decide +kernel
theorem dX8_drawn_160 : decode cX8_drawn 160 = .ok (.iload 10, 2) := by decide +kernel
theorem dX8_drawn_162 : decode cX8_drawn 162 = .ok (.iconst 5, 1) := by decide +kernel
theorem dX8_drawn_163 : decode cX8_drawn 163 = .ok (.if_icmp .ge 33, 3) := by decide +kernel
theorem dX8_drawn_166 : decode cX8_drawn 166 = .ok (.iload 9, 2) := by decide +kernel
theorem dX8_drawn_168 : decode cX8_drawn 168 = .ok (.ifCond .eq 19, 3) := by decide +kernel
theorem dX8_drawn_171 : decode cX8_drawn 171 = .ok (.aload_n 0, 1) := by decide +kernel
theorem dX8_drawn_172 : decode cX8_drawn 172 = .ok (.getfield 25, 3) := by decide +kernel
theorem dX8_drawn_175 : decode cX8_drawn 175 = .ok (.iload 10, 2) := by decide +kernel
theorem dX8_drawn_177 : decode cX8_drawn 177 = .ok (.iaload, 1) := by decide +kernel
theorem dX8_drawn_178 : decode cX8_drawn 178 = .ok (.iload 10, 2) := by decide +kernel
theorem dX8_drawn_180 : decode cX8_drawn 180 = .ok (.if_icmp .ne 7, 3) := by decide +kernel
theorem dX8_drawn_183 : decode cX8_drawn 183 = .ok (.iconst 1, 1) := by decide +kernel
theorem dX8_drawn_184 : decode cX8_drawn 184 = .ok (.goto 4, 3) := by decide +kernel
theorem dX8_drawn_187 : decode cX8_drawn 187 = .ok (.iconst 0, 1) := by decide +kernel
theorem dX8_drawn_188 : decode cX8_drawn 188 = .ok (.istore 9, 2) := by decide +kernel
theorem dX8_drawn_190 : decode cX8_drawn 190 = .ok (.iinc 10 1, 3) := by decide +kernel
theorem dX8_drawn_193 : decode cX8_drawn 193 = .ok (.goto (-33), 3) := by decide +kernel
theorem dX8_drawn_196 : decode cX8_drawn 196 = .ok (.iload 7, 2) := by decide +kernel
theorem dX8_drawn_198 : decode cX8_drawn 198 = .ok (.iload 9, 2) := by decide +kernel
theorem dX8_drawn_200 : decode cX8_drawn 200 = .ok (.ifCond .eq 7, 3) := by decide +kernel
theorem dX8_drawn_203 : decode cX8_drawn 203 = .ok (.iconst 1, 1) := by decide +kernel
theorem dX8_drawn_204 : decode cX8_drawn 204 = .ok (.goto 4, 3) := by decide +kernel
theorem dX8_drawn_207 : decode cX8_drawn 207 = .ok (.iconst 0, 1) := by decide +kernel
theorem dX8_drawn_208 : decode cX8_drawn 208 = .ok (.iadd, 1) := by decide +kernel
theorem dX8_drawn_209 : decode cX8_drawn 209 = .ok (.istore 7, 2) := by decide +kernel
theorem dX8_drawn_211 : decode cX8_drawn 211 = .ok (.iinc 8 1, 3) := by decide +kernel
theorem dX8_drawn_214 : decode cX8_drawn 214 = .ok (.goto (-100), 3) := by decide +kernel
theorem dX8_drawn_217 : decode cX8_drawn 217 = .ok (.aload_n 0, 1) := by decide +kernel
theorem dX8_drawn_218 : decode cX8_drawn 218 = .ok (.iload 4, 2) := by decide +kernel
theorem dX8_drawn_220 : decode cX8_drawn 220 = .ok (.putfield 119, 3) := by decide +kernel
theorem dX8_drawn_223 : decode cX8_drawn 223 = .ok (.aload_n 0, 1) := by decide +kernel
theorem dX8_drawn_224 : decode cX8_drawn 224 = .ok (.iload 5, 2) := by decide +kernel
theorem dX8_drawn_226 : decode cX8_drawn 226 = .ok (.putfield 122, 3) := by decide +kernel
theorem dX8_drawn_229 : decode cX8_drawn 229 = .ok (.aload_n 0, 1) := by decide +kernel
theorem dX8_drawn_230 : decode cX8_drawn 230 = .ok (.getfield 52, 3) := by decide +kernel
theorem dX8_drawn_233 : decode cX8_drawn 233 = .ok (.aload_n 0, 1) := by decide +kernel
theorem dX8_drawn_234 : decode cX8_drawn 234 = .ok (.getfield 13, 3) := by decide +kernel
theorem dX8_drawn_237 : decode cX8_drawn 237 = .ok (.invokestatic 252, 3) := by decide +kernel
theorem dX8_drawn_240 : decode cX8_drawn 240 = .ok (.aload_n 0, 1) := by decide +kernel
theorem dX8_drawn_241 : decode cX8_drawn 241 = .ok (.getfield 55, 3) := by decide +kernel
theorem dX8_drawn_244 : decode cX8_drawn 244 = .ok (.aload_n 0, 1) := by decide +kernel
theorem dX8_drawn_245 : decode cX8_drawn 245 = .ok (.getfield 16, 3) := by decide +kernel
theorem dX8_drawn_248 : decode cX8_drawn 248 = .ok (.invokestatic 252, 3) := by decide +kernel
theorem dX8_drawn_251 : decode cX8_drawn 251 = .ok (.aload_n 0, 1) := by decide +kernel
theorem dX8_drawn_252 : decode cX8_drawn 252 = .ok (.getfield 46, 3) := by decide +kernel
theorem dX8_drawn_255 : decode cX8_drawn 255 = .ok (.aload_n 0, 1) := by decide +kernel
theorem dX8_drawn_256 : decode cX8_drawn 256 = .ok (.getfield 19, 3) := by decide +kernel
theorem dX8_drawn_259 : decode cX8_drawn 259 = .ok (.invokestatic 252, 3) := by decide +kernel
theorem dX8_drawn_262 : decode cX8_drawn 262 = .ok (.iload_n 3, 1) := by decide +kernel
theorem dX8_drawn_263 : decode cX8_drawn 263 = .ok (.ifCond .ne 8, 3) := by decide +kernel
theorem dX8_drawn_266 : decode cX8_drawn 266 = .ok (.iload 6, 2) := by decide +kernel
theorem dX8_drawn_268 : decode cX8_drawn 268 = .ok (.goto 17, 3) := by decide +kernel
theorem dX8_drawn_271 : decode cX8_drawn 271 = .ok (.iload_n 3, 1) := by decide +kernel
theorem dX8_drawn_272 : decode cX8_drawn 272 = .ok (.iconst 1, 1) := by decide +kernel
theorem dX8_drawn_273 : decode cX8_drawn 273 = .ok (.if_icmp .ne 8, 3) := by decide +kernel
theorem dX8_drawn_276 : decode cX8_drawn 276 = .ok (.iload 7, 2) := by decide +kernel
theorem dX8_drawn_278 : decode cX8_drawn 278 = .ok (.goto 7, 3) := by decide +kernel
theorem dX8_drawn_281 : decode cX8_drawn 281 = .ok (.aload_n 0, 1) := by decide +kernel
theorem dX8_drawn_282 : decode cX8_drawn 282 = .ok (.getfield 275, 3) := by decide +kernel
theorem dX8_drawn_285 : decode cX8_drawn 285 = .ok (.ireturn, 1) := by decide +kernel
theorem dX8_image_0 : decode cX8_image 0 = .ok (.aload_n 0, 1) := by decide +kernel
theorem dX8_image_1 : decode cX8_image 1 = .ok (.invokevirtual 232, 3) := by decide +kernel
theorem dX8_image_4 : decode cX8_image 4 = .ok (.ifCond .eq 6, 3) := by decide +kernel
theorem dX8_image_7 : decode cX8_image 7 = .ok (.bipush (-103), 2) := by decide +kernel
theorem dX8_image_9 : decode cX8_image 9 = .ok (.ireturn, 1) := by decide +kernel
theorem dX8_image_10 : decode cX8_image 10 = .ok (.aload_n 0, 1) := by decide +kernel
theorem dX8_image_11 : decode cX8_image 11 = .ok (.getfield 13, 3) := by decide +kernel
theorem dX8_image_14 : decode cX8_image 14 = .ok (.aload_n 0, 1) := by decide +kernel
theorem dX8_image_15 : decode cX8_image 15 = .ok (.getfield 58, 3) := by decide +kernel
theorem dX8_image_18 : decode cX8_image 18 = .ok (.invokestatic 252, 3) := by decide +kernel
theorem dX8_image_21 : decode cX8_image 21 = .ok (.aload_n 0, 1) := by decide +kernel
theorem dX8_image_22 : decode cX8_image 22 = .ok (.getfield 16, 3) := by decide +kernel
theorem dX8_image_25 : decode cX8_image 25 = .ok (.aload_n 0, 1) := by decide +kernel
theorem dX8_image_26 : decode cX8_image 26 = .ok (.getfield 61, 3) := by decide +kernel
theorem dX8_image_29 : decode cX8_image 29 = .ok (.invokestatic 252, 3) := by decide +kernel
theorem dX8_image_32 : decode cX8_image 32 = .ok (.aload_n 0, 1) := by decide +kernel
theorem dX8_image_33 : decode cX8_image 33 = .ok (.getfield 19, 3) := by decide +kernel
theorem dX8_image_36 : decode cX8_image 36 = .ok (.aload_n 0, 1) := by decide +kernel
theorem dX8_image_37 : decode cX8_image 37 = .ok (.getfield 64, 3) := by decide +kernel
theorem dX8_image_40 : decode cX8_image 40 = .ok (.invokestatic 252, 3) := by decide +kernel
theorem dX8_image_43 : decode cX8_image 43 = .ok (.aload_n 0, 1) := by decide +kernel
theorem dX8_image_44 : decode cX8_image 44 = .ok (.getfield 49, 3) := by decide +kernel
theorem dX8_image_47 : decode cX8_image 47 = .ok (.aload_n 0, 1) := by decide +kernel
theorem dX8_image_48 : decode cX8_image 48 = .ok (.getfield 67, 3) := by decide +kernel
theorem dX8_image_51 : decode cX8_image 51 = .ok (.invokestatic 252, 3) := by decide +kernel
theorem dX8_image_54 : decode cX8_image 54 = .ok (.aload_n 0, 1) := by decide +kernel
theorem dX8_image_55 : decode cX8_image 55 = .ok (.aload_n 0, 1) := by decide +kernel
theorem dX8_image_56 : decode cX8_image 56 = .ok (.getfield 119, 3) := by decide +kernel
theorem dX8_image_59 : decode cX8_image 59 = .ok (.putfield 293, 3) := by decide +kernel
theorem dX8_image_62 : decode cX8_image 62 = .ok (.aload_n 0, 1) := by decide +kernel
theorem dX8_image_63 : decode cX8_image 63 = .ok (.aload_n 0, 1) := by decide +kernel
theorem dX8_image_64 : decode cX8_image 64 = .ok (.getfield 122, 3) := by decide +kernel
theorem dX8_image_67 : decode cX8_image 67 = .ok (.putfield 296, 3) := by decide +kernel
theorem dX8_image_70 : decode cX8_image 70 = .ok (.aload_n 0, 1) := by decide +kernel
theorem dX8_image_71 : decode cX8_image 71 = .ok (.aload_n 0, 1) := by decide +kernel
theorem dX8_image_72 : decode cX8_image 72 = .ok (.getfield 125, 3) := by decide +kernel
theorem dX8_image_75 : decode cX8_image 75 = .ok (.putfield 299, 3) := by decide +kernel
theorem dX8_image_78 : decode cX8_image 78 = .ok (.aload_n 0, 1) := by decide +kernel
theorem dX8_image_79 : decode cX8_image 79 = .ok (.aload_n 0, 1) := by decide +kernel
theorem dX8_image_80 : decode cX8_image 80 = .ok (.getfield 128, 3) := by decide +kernel
theorem dX8_image_83 : decode cX8_image 83 = .ok (.putfield 70, 3) := by decide +kernel
theorem dX8_image_86 : decode cX8_image 86 = .ok (.aload_n 0, 1) := by decide +kernel
theorem dX8_image_87 : decode cX8_image 87 = .ok (.getfield 119, 3) := by decide +kernel
theorem dX8_image_90 : decode cX8_image 90 = .ok (.ireturn, 1) := by decide +kernel
theorem dX8_boundMany_0 : decode cX8_boundMany 0 = .ok (.iconst 0, 1) := by decide +kernel
theorem dX8_boundMany_1 : decode cX8_boundMany 1 = .ok (.istore_n 1, 1) := by decide +kernel
theorem dX8_boundMany_2 : decode cX8_boundMany 2 = .ok (.iconst 0, 1) := by decide +kernel
theorem dX8_boundMany_3 : decode cX8_boundMany 3 = .ok (.istore_n 2, 1) := by decide +kernel
theorem dX8_boundMany_4 : decode cX8_boundMany 4 = .ok (.iload_n 2, 1) := by decide +kernel
theorem dX8_boundMany_5 : decode cX8_boundMany 5 = .ok (.aload_n 0, 1) := by decide +kernel
theorem dX8_boundMany_6 : decode cX8_boundMany 6 = .ok (.getfield 119, 3) := by decide +kernel
theorem dX8_boundMany_9 : decode cX8_boundMany 9 = .ok (.if_icmp .ge 27, 3) := by decide +kernel
theorem dX8_boundMany_12 : decode cX8_boundMany 12 = .ok (.iload_n 1, 1) := by decide +kernel
theorem dX8_boundMany_13 : decode cX8_boundMany 13 = .ok (.aload_n 0, 1) := by decide +kernel
theorem dX8_boundMany_14 : decode cX8_boundMany 14 = .ok (.getfield 22, 3) := by decide +kernel
theorem dX8_boundMany_17 : decode cX8_boundMany 17 = .ok (.iload_n 2, 1) := by decide +kernel
theorem dX8_boundMany_18 : decode cX8_boundMany 18 = .ok (.iaload, 1) := by decide +kernel
theorem dX8_boundMany_19 : decode cX8_boundMany 19 = .ok (.iconst (-1), 1) := by decide +kernel
theorem dX8_boundMany_20 : decode cX8_boundMany 20 = .ok (.if_icmp .ne 7, 3) := by decide +kernel
theorem dX8_boundMany_23 : decode cX8_boundMany 23 = .ok (.iconst 0, 1) := by decide +kernel
theorem dX8_boundMany_24 : decode cX8_boundMany 24 = .ok (.goto 4, 3) := by decide +kernel
theorem dX8_boundMany_27 : decode cX8_boundMany 27 = .ok (.iconst 1, 1) := by decide +kernel
theorem dX8_boundMany_28 : decode cX8_boundMany 28 = .ok (.iadd, 1) := by decide +kernel
theorem dX8_boundMany_29 : decode cX8_boundMany 29 = .ok (.istore_n 1, 1) := by decide +kernel
theorem dX8_boundMany_30 : decode cX8_boundMany 30 = .ok (.iinc 2 1, 3) := by decide +kernel
theorem dX8_boundMany_33 : decode cX8_boundMany 33 = .ok (.goto (-29), 3) := by decide +kernel
theorem dX8_boundMany_36 : decode cX8_boundMany 36 = .ok (.iload_n 1, 1) := by decide +kernel
theorem dX8_boundMany_37 : decode cX8_boundMany 37 = .ok (.ireturn, 1) := by decide +kernel
theorem dX8_countOf_0 : decode cX8_countOf 0 = .ok (.aload_n 0, 1) := by decide +kernel
theorem dX8_countOf_1 : decode cX8_countOf 1 = .ok (.invokevirtual 201, 3) := by decide +kernel
theorem dX8_countOf_4 : decode cX8_countOf 4 = .ok (.iload_n 1, 1) := by decide +kernel
theorem dX8_countOf_5 : decode cX8_countOf 5 = .ok (.tableswitch 87 0 7 #[47, 52, 57, 62, 67, 72, 77, 82], 47) := by decide +kernel
theorem dX8_countOf_52 : decode cX8_countOf 52 = .ok (.aload_n 0, 1) := by decide +kernel
theorem dX8_countOf_53 : decode cX8_countOf 53 = .ok (.getfield 119, 3) := by decide +kernel
theorem dX8_countOf_56 : decode cX8_countOf 56 = .ok (.ireturn, 1) := by decide +kernel
theorem dX8_countOf_57 : decode cX8_countOf 57 = .ok (.aload_n 0, 1) := by decide +kernel
theorem dX8_countOf_58 : decode cX8_countOf 58 = .ok (.getfield 182, 3) := by decide +kernel
theorem dX8_countOf_61 : decode cX8_countOf 61 = .ok (.ireturn, 1) := by decide +kernel
theorem dX8_countOf_62 : decode cX8_countOf 62 = .ok (.aload_n 0, 1) := by decide +kernel
theorem dX8_countOf_63 : decode cX8_countOf 63 = .ok (.getfield 172, 3) := by decide +kernel
theorem dX8_countOf_66 : decode cX8_countOf 66 = .ok (.ireturn, 1) := by decide +kernel
theorem dX8_countOf_67 : decode cX8_countOf 67 = .ok (.aload_n 0, 1) := by decide +kernel
theorem dX8_countOf_68 : decode cX8_countOf 68 = .ok (.getfield 122, 3) := by decide +kernel
theorem dX8_countOf_71 : decode cX8_countOf 71 = .ok (.ireturn, 1) := by decide +kernel
theorem dX8_countOf_72 : decode cX8_countOf 72 = .ok (.aload_n 0, 1) := by decide +kernel
theorem dX8_countOf_73 : decode cX8_countOf 73 = .ok (.invokevirtual 302, 3) := by decide +kernel
theorem dX8_countOf_76 : decode cX8_countOf 76 = .ok (.ireturn, 1) := by decide +kernel
theorem dX8_countOf_77 : decode cX8_countOf 77 = .ok (.aload_n 0, 1) := by decide +kernel
theorem dX8_countOf_78 : decode cX8_countOf 78 = .ok (.getfield 125, 3) := by decide +kernel
theorem dX8_countOf_81 : decode cX8_countOf 81 = .ok (.ireturn, 1) := by decide +kernel
theorem dX8_countOf_82 : decode cX8_countOf 82 = .ok (.aload_n 0, 1) := by decide +kernel
theorem dX8_countOf_83 : decode cX8_countOf 83 = .ok (.getfield 80, 3) := by decide +kernel
theorem dX8_countOf_86 : decode cX8_countOf 86 = .ok (.ireturn, 1) := by decide +kernel
theorem dX8_countOf_87 : decode cX8_countOf 87 = .ok (.aload_n 0, 1) := by decide +kernel
theorem dX8_countOf_88 : decode cX8_countOf 88 = .ok (.getfield 128, 3) := by decide +kernel
theorem dX8_countOf_91 : decode cX8_countOf 91 = .ok (.ireturn, 1) := by decide +kernel
theorem dX8_countOf_92 : decode cX8_countOf 92 = .ok (.bipush (-102), 2) := by decide +kernel
theorem dX8_countOf_94 : decode cX8_countOf 94 = .ok (.ireturn, 1) := by decide +kernel
theorem dX8_count_0 : decode cX8_count 0 = .ok (.aload_n 0, 1) := by decide +kernel
theorem dX8_count_1 : decode cX8_count 1 = .ok (.iload_n 1, 1) := by decide +kernel
theorem dX8_count_2 : decode cX8_count 2 = .ok (.invokevirtual 305, 3) := by decide +kernel
theorem dX8_count_5 : decode cX8_count 5 = .ok (.ireturn, 1) := by decide +kernel
theorem dX8_digest_0 : decode cX8_digest 0 = .ok (.aload_n 0, 1) := by decide +kernel
theorem dX8_digest_1 : decode cX8_digest 1 = .ok (.ldc2_w 318, 3) := by decide +kernel
theorem dX8_digest_4 : decode cX8_digest 4 = .ok (.putfield 310, 3) := by decide +kernel
theorem dX8_digest_7 : decode cX8_digest 7 = .ok (.aload_n 0, 1) := by decide +kernel
theorem dX8_digest_8 : decode cX8_digest 8 = .ok (.invokevirtual 232, 3) := by decide +kernel
theorem dX8_digest_11 : decode cX8_digest 11 = .ok (.ifCond .ne 7, 3) := by decide +kernel
theorem dX8_digest_14 : decode cX8_digest 14 = .ok (.aload_n 0, 1) := by decide +kernel
theorem dX8_digest_15 : decode cX8_digest 15 = .ok (.invokevirtual 320, 3) := by decide +kernel
theorem dX8_digest_18 : decode cX8_digest 18 = .ok (.iconst 0, 1) := by decide +kernel
theorem dX8_digest_19 : decode cX8_digest 19 = .ok (.istore_n 1, 1) := by decide +kernel
theorem dX8_digest_20 : decode cX8_digest 20 = .ok (.iload_n 1, 1) := by decide +kernel
theorem dX8_digest_21 : decode cX8_digest 21 = .ok (.aload_n 0, 1) := by decide +kernel
theorem dX8_digest_22 : decode cX8_digest 22 = .ok (.getfield 80, 3) := by decide +kernel
theorem dX8_digest_25 : decode cX8_digest 25 = .ok (.if_icmp .ge 20, 3) := by decide +kernel
theorem dX8_digest_28 : decode cX8_digest 28 = .ok (.aload_n 0, 1) := by decide +kernel
theorem dX8_digest_29 : decode cX8_digest 29 = .ok (.aload_n 0, 1) := by decide +kernel
theorem dX8_digest_30 : decode cX8_digest 30 = .ok (.getfield 7, 3) := by decide +kernel
theorem dX8_digest_33 : decode cX8_digest 33 = .ok (.iload_n 1, 1) := by decide +kernel
theorem dX8_digest_34 : decode cX8_digest 34 = .ok (.iaload, 1) := by decide +kernel
theorem dX8_digest_35 : decode cX8_digest 35 = .ok (.i2l, 1) := by decide +kernel
theorem dX8_digest_36 : decode cX8_digest 36 = .ok (.invokevirtual 314, 3) := by decide +kernel
theorem dX8_digest_39 : decode cX8_digest 39 = .ok (.iinc 1 1, 3) := by decide +kernel
theorem dX8_digest_42 : decode cX8_digest 42 = .ok (.goto (-22), 3) := by decide +kernel
theorem dX8_digest_45 : decode cX8_digest 45 = .ok (.iconst 0, 1) := by decide +kernel
theorem dX8_digest_46 : decode cX8_digest 46 = .ok (.istore_n 1, 1) := by decide +kernel
theorem dX8_digest_47 : decode cX8_digest 47 = .ok (.iload_n 1, 1) := by decide +kernel
theorem dX8_digest_48 : decode cX8_digest 48 = .ok (.bipush 8, 2) := by decide +kernel
theorem dX8_digest_50 : decode cX8_digest 50 = .ok (.if_icmp .ge 19, 3) := by decide +kernel
theorem dX8_digest_53 : decode cX8_digest 53 = .ok (.aload_n 0, 1) := by decide +kernel
theorem dX8_digest_54 : decode cX8_digest 54 = .ok (.aload_n 0, 1) := by decide +kernel
theorem dX8_digest_55 : decode cX8_digest 55 = .ok (.iload_n 1, 1) := by decide +kernel
theorem dX8_digest_56 : decode cX8_digest 56 = .ok (.invokevirtual 305, 3) := by decide +kernel
theorem dX8_digest_59 : decode cX8_digest 59 = .ok (.i2l, 1) := by decide +kernel
theorem dX8_digest_60 : decode cX8_digest 60 = .ok (.invokevirtual 314, 3) := by decide +kernel
theorem dX8_digest_63 : decode cX8_digest 63 = .ok (.iinc 1 1, 3) := by decide +kernel
theorem dX8_digest_66 : decode cX8_digest 66 = .ok (.goto (-19), 3) := by decide +kernel
theorem dX8_digest_69 : decode cX8_digest 69 = .ok (.aload_n 0, 1) := by decide +kernel
theorem dX8_digest_70 : decode cX8_digest 70 = .ok (.getfield 310, 3) := by decide +kernel
theorem dX8_digest_73 : decode cX8_digest 73 = .ok (.lreturn, 1) := by decide +kernel
