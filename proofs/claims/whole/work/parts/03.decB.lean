theorem dX7_init_0 : decode cX7_init 0 = .ok (.aload_n 0, 1) := by decide +kernel
theorem dX7_init_1 : decode cX7_init 1 = .ok (.invokespecial 3, 3) := by decide +kernel
theorem dX7_init_4 : decode cX7_init 4 = .ok (.aload_n 0, 1) := by decide +kernel
theorem dX7_init_5 : decode cX7_init 5 = .ok (.new 9, 3) := by decide +kernel
theorem dX7_init_8 : decode cX7_init 8 = .ok (.dup, 1) := by decide +kernel
theorem dX7_init_9 : decode cX7_init 9 = .ok (.invokespecial 11, 3) := by decide +kernel
theorem dX7_init_12 : decode cX7_init 12 = .ok (.putfield 12, 3) := by decide +kernel
theorem dX7_init_15 : decode cX7_init 15 = .ok (.aload_n 0, 1) := by decide +kernel
theorem dX7_init_16 : decode cX7_init 16 = .ok (.new 16, 3) := by decide +kernel
theorem dX7_init_19 : decode cX7_init 19 = .ok (.dup, 1) := by decide +kernel
theorem dX7_init_20 : decode cX7_init 20 = .ok (.invokespecial 18, 3) := by decide +kernel
theorem dX7_init_23 : decode cX7_init 23 = .ok (.putfield 19, 3) := by decide +kernel
theorem dX7_init_26 : decode cX7_init 26 = .ok (.aload_n 0, 1) := by decide +kernel
theorem dX7_init_27 : decode cX7_init 27 = .ok (.new 23, 3) := by decide +kernel
theorem dX7_init_30 : decode cX7_init 30 = .ok (.dup, 1) := by decide +kernel
theorem dX7_init_31 : decode cX7_init 31 = .ok (.invokespecial 25, 3) := by decide +kernel
theorem dX7_init_34 : decode cX7_init 34 = .ok (.putfield 26, 3) := by decide +kernel
theorem dX7_init_37 : decode cX7_init 37 = .ok (.aload_n 0, 1) := by decide +kernel
theorem dX7_init_38 : decode cX7_init 38 = .ok (.new 30, 3) := by decide +kernel
theorem dX7_init_41 : decode cX7_init 41 = .ok (.dup, 1) := by decide +kernel
theorem dX7_init_42 : decode cX7_init 42 = .ok (.invokespecial 32, 3) := by decide +kernel
theorem dX7_init_45 : decode cX7_init 45 = .ok (.putfield 33, 3) := by decide +kernel
theorem dX7_init_48 : decode cX7_init 48 = .ok (.aload_n 0, 1) := by decide +kernel
theorem dX7_init_49 : decode cX7_init 49 = .ok (.new 23, 3) := by decide +kernel
theorem dX7_init_52 : decode cX7_init 52 = .ok (.dup, 1) := by decide +kernel
theorem dX7_init_53 : decode cX7_init 53 = .ok (.invokespecial 25, 3) := by decide +kernel
theorem dX7_init_56 : decode cX7_init 56 = .ok (.putfield 37, 3) := by decide +kernel
theorem dX7_init_59 : decode cX7_init 59 = .ok (.aload_n 0, 1) := by decide +kernel
theorem dX7_init_60 : decode cX7_init 60 = .ok (.new 16, 3) := by decide +kernel
theorem dX7_init_63 : decode cX7_init 63 = .ok (.dup, 1) := by decide +kernel
theorem dX7_init_64 : decode cX7_init 64 = .ok (.invokespecial 18, 3) := by decide +kernel
theorem dX7_init_67 : decode cX7_init 67 = .ok (.putfield 40, 3) := by decide +kernel
theorem dX7_init_70 : decode cX7_init 70 = .ok (.aload_n 0, 1) := by decide +kernel
theorem dX7_init_71 : decode cX7_init 71 = .ok (.new 43, 3) := by decide +kernel
theorem dX7_init_74 : decode cX7_init 74 = .ok (.dup, 1) := by decide +kernel
theorem dX7_init_75 : decode cX7_init 75 = .ok (.invokespecial 45, 3) := by decide +kernel
theorem dX7_init_78 : decode cX7_init 78 = .ok (.putfield 46, 3) := by decide +kernel
theorem dX7_init_81 : decode cX7_init 81 = .ok (.return_, 1) := by decide +kernel
theorem dX7_letter_0 : decode cX7_letter 0 = .ok (.iload_n 1, 1) := by decide +kernel
theorem dX7_letter_1 : decode cX7_letter 1 = .ok (.iconst 1, 1) := by decide +kernel
theorem dX7_letter_2 : decode cX7_letter 2 = .ok (.if_icmp .lt 9, 3) := by decide +kernel
theorem dX7_letter_5 : decode cX7_letter 5 = .ok (.iload_n 1, 1) := by decide +kernel
theorem dX7_letter_6 : decode cX7_letter 6 = .ok (.bipush 126, 2) := by decide +kernel
theorem dX7_letter_8 : decode cX7_letter 8 = .ok (.if_icmp .le 6, 3) := by decide +kernel
theorem dX7_letter_11 : decode cX7_letter 11 = .ok (.bipush (-102), 2) := by decide +kernel
theorem dX7_letter_13 : decode cX7_letter 13 = .ok (.ireturn, 1) := by decide +kernel
theorem dX7_letter_14 : decode cX7_letter 14 = .ok (.aload_n 0, 1) := by decide +kernel
theorem dX7_letter_15 : decode cX7_letter 15 = .ok (.getfield 12, 3) := by decide +kernel
theorem dX7_letter_18 : decode cX7_letter 18 = .ok (.getfield 50, 3) := by decide +kernel
theorem dX7_letter_21 : decode cX7_letter 21 = .ok (.bipush 54, 2) := by decide +kernel
theorem dX7_letter_23 : decode cX7_letter 23 = .ok (.if_icmp .lt 6, 3) := by decide +kernel
theorem dX7_letter_26 : decode cX7_letter 26 = .ok (.bipush (-104), 2) := by decide +kernel
theorem dX7_letter_28 : decode cX7_letter 28 = .ok (.ireturn, 1) := by decide +kernel
theorem dX7_letter_29 : decode cX7_letter 29 = .ok (.aload_n 0, 1) := by decide +kernel
theorem dX7_letter_30 : decode cX7_letter 30 = .ok (.getfield 12, 3) := by decide +kernel
theorem dX7_letter_33 : decode cX7_letter 33 = .ok (.iload_n 1, 1) := by decide +kernel
theorem dX7_letter_34 : decode cX7_letter 34 = .ok (.invokevirtual 54, 3) := by decide +kernel
theorem dX7_letter_37 : decode cX7_letter 37 = .ok (.aload_n 0, 1) := by decide +kernel
theorem dX7_letter_38 : decode cX7_letter 38 = .ok (.getfield 12, 3) := by decide +kernel
theorem dX7_letter_41 : decode cX7_letter 41 = .ok (.getfield 50, 3) := by decide +kernel
theorem dX7_letter_44 : decode cX7_letter 44 = .ok (.ireturn, 1) := by decide +kernel
theorem dX7_blank_0 : decode cX7_blank 0 = .ok (.aload_n 0, 1) := by decide +kernel
theorem dX7_blank_1 : decode cX7_blank 1 = .ok (.getfield 12, 3) := by decide +kernel
theorem dX7_blank_4 : decode cX7_blank 4 = .ok (.getfield 50, 3) := by decide +kernel
theorem dX7_blank_7 : decode cX7_blank 7 = .ok (.istore_n 1, 1) := by decide +kernel
theorem dX7_blank_8 : decode cX7_blank 8 = .ok (.aload_n 0, 1) := by decide +kernel
theorem dX7_blank_9 : decode cX7_blank 9 = .ok (.getfield 12, 3) := by decide +kernel
theorem dX7_blank_12 : decode cX7_blank 12 = .ok (.invokevirtual 58, 3) := by decide +kernel
theorem dX7_blank_15 : decode cX7_blank 15 = .ok (.iload_n 1, 1) := by decide +kernel
theorem dX7_blank_16 : decode cX7_blank 16 = .ok (.ireturn, 1) := by decide +kernel
theorem dX7_fault_0 : decode cX7_fault 0 = .ok (.aload_n 0, 1) := by decide +kernel
theorem dX7_fault_1 : decode cX7_fault 1 = .ok (.getfield 12, 3) := by decide +kernel
theorem dX7_fault_4 : decode cX7_fault 4 = .ok (.invokevirtual 61, 3) := by decide +kernel
theorem dX7_fault_7 : decode cX7_fault 7 = .ok (.ireturn, 1) := by decide +kernel
theorem dX7_page_0 : decode cX7_page 0 = .ok (.aload_n 0, 1) := by decide +kernel
theorem dX7_page_1 : decode cX7_page 1 = .ok (.getfield 12, 3) := by decide +kernel
theorem dX7_page_4 : decode cX7_page 4 = .ok (.invokevirtual 65, 3) := by decide +kernel
theorem dX7_page_7 : decode cX7_page 7 = .ok (.ifCond .ne 6, 3) := by decide +kernel
theorem dX7_page_10 : decode cX7_page 10 = .ok (.bipush (-103), 2) := by decide +kernel
theorem dX7_page_12 : decode cX7_page 12 = .ok (.ireturn, 1) := by decide +kernel
theorem dX7_page_13 : decode cX7_page 13 = .ok (.aload_n 0, 1) := by decide +kernel
theorem dX7_page_14 : decode cX7_page 14 = .ok (.getfield 12, 3) := by decide +kernel
theorem dX7_page_17 : decode cX7_page 17 = .ok (.aload_n 0, 1) := by decide +kernel
theorem dX7_page_18 : decode cX7_page 18 = .ok (.getfield 19, 3) := by decide +kernel
theorem dX7_page_21 : decode cX7_page 21 = .ok (.getfield 69, 3) := by decide +kernel
theorem dX7_page_24 : decode cX7_page 24 = .ok (.invokevirtual 72, 3) := by decide +kernel
theorem dX7_page_27 : decode cX7_page 27 = .ok (.aload_n 0, 1) := by decide +kernel
theorem dX7_page_28 : decode cX7_page 28 = .ok (.getfield 19, 3) := by decide +kernel
theorem dX7_page_31 : decode cX7_page 31 = .ok (.invokevirtual 76, 3) := by decide +kernel
theorem dX7_page_34 : decode cX7_page 34 = .ok (.aload_n 0, 1) := by decide +kernel
theorem dX7_page_35 : decode cX7_page 35 = .ok (.getfield 12, 3) := by decide +kernel
theorem dX7_page_38 : decode cX7_page 38 = .ok (.invokevirtual 58, 3) := by decide +kernel
theorem dX7_page_41 : decode cX7_page 41 = .ok (.aload_n 0, 1) := by decide +kernel
theorem dX7_page_42 : decode cX7_page 42 = .ok (.getfield 26, 3) := by decide +kernel
theorem dX7_page_45 : decode cX7_page 45 = .ok (.invokevirtual 79, 3) := by decide +kernel
theorem dX7_page_48 : decode cX7_page 48 = .ok (.aload_n 0, 1) := by decide +kernel
theorem dX7_page_49 : decode cX7_page 49 = .ok (.iconst 0, 1) := by decide +kernel
theorem dX7_page_50 : decode cX7_page 50 = .ok (.putfield 80, 3) := by decide +kernel
theorem dX7_page_53 : decode cX7_page 53 = .ok (.aload_n 0, 1) := by decide +kernel
theorem dX7_page_54 : decode cX7_page 54 = .ok (.dup, 1) := by decide +kernel
theorem dX7_page_55 : decode cX7_page 55 = .ok (.getfield 84, 3) := by decide +kernel
theorem dX7_page_58 : decode cX7_page 58 = .ok (.iconst 1, 1) := by decide +kernel
theorem dX7_page_59 : decode cX7_page 59 = .ok (.iadd, 1) := by decide +kernel
theorem dX7_page_60 : decode cX7_page 60 = .ok (.putfield 84, 3) := by decide +kernel
theorem dX7_page_63 : decode cX7_page 63 = .ok (.aload_n 0, 1) := by decide +kernel
theorem dX7_page_64 : decode cX7_page 64 = .ok (.getfield 19, 3) := by decide +kernel
theorem dX7_page_67 : decode cX7_page 67 = .ok (.getfield 69, 3) := by decide +kernel
theorem dX7_page_70 : decode cX7_page 70 = .ok (.getfield 87, 3) := by decide +kernel
theorem dX7_page_73 : decode cX7_page 73 = .ok (.ireturn, 1) := by decide +kernel
theorem dX7_box_0 : decode cX7_box 0 = .ok (.aload_n 0, 1) := by decide +kernel
theorem dX7_box_1 : decode cX7_box 1 = .ok (.getfield 19, 3) := by decide +kernel
theorem dX7_box_4 : decode cX7_box 4 = .ok (.getfield 69, 3) := by decide +kernel
theorem dX7_box_7 : decode cX7_box 7 = .ok (.astore_n 3, 1) := by decide +kernel
theorem dX7_box_8 : decode cX7_box 8 = .ok (.aload_n 3, 1) := by decide +kernel
theorem dX7_box_9 : decode cX7_box 9 = .ok (.iload_n 1, 1) := by decide +kernel
theorem dX7_box_10 : decode cX7_box 10 = .ok (.invokevirtual 90, 3) := by decide +kernel
theorem dX7_box_13 : decode cX7_box 13 = .ok (.ifCond .ne 6, 3) := by decide +kernel
theorem dX7_box_16 : decode cX7_box 16 = .ok (.bipush (-101), 2) := by decide +kernel
theorem dX7_box_18 : decode cX7_box 18 = .ok (.ireturn, 1) := by decide +kernel
theorem dX7_box_19 : decode cX7_box 19 = .ok (.iload_n 2, 1) := by decide +kernel
theorem dX7_box_20 : decode cX7_box 20 = .ok (.tableswitch 139 0 9 #[56, 63, 70, 77, 84, 91, 101, 111, 121, 130], 56) := by decide +kernel
theorem dX7_box_76 : decode cX7_box 76 = .ok (.aload_n 3, 1) := by decide +kernel
theorem dX7_box_77 : decode cX7_box 77 = .ok (.getfield 94, 3) := by decide +kernel
theorem dX7_box_80 : decode cX7_box 80 = .ok (.iload_n 1, 1) := by decide +kernel
theorem dX7_box_81 : decode cX7_box 81 = .ok (.iaload, 1) := by decide +kernel
theorem dX7_box_82 : decode cX7_box 82 = .ok (.ireturn, 1) := by decide +kernel
theorem dX7_box_83 : decode cX7_box 83 = .ok (.aload_n 3, 1) := by decide +kernel
theorem dX7_box_84 : decode cX7_box 84 = .ok (.getfield 98, 3) := by decide +kernel
theorem dX7_box_87 : decode cX7_box 87 = .ok (.iload_n 1, 1) := by decide +kernel
theorem dX7_box_88 : decode cX7_box 88 = .ok (.iaload, 1) := by decide +kernel
theorem dX7_box_89 : decode cX7_box 89 = .ok (.ireturn, 1) := by decide +kernel
theorem dX7_box_90 : decode cX7_box 90 = .ok (.aload_n 3, 1) := by decide +kernel
theorem dX7_box_91 : decode cX7_box 91 = .ok (.getfield 101, 3) := by decide +kernel
theorem dX7_box_94 : decode cX7_box 94 = .ok (.iload_n 1, 1) := by decide +kernel
theorem dX7_box_95 : decode cX7_box 95 = .ok (.iaload, 1) := by decide +kernel
theorem dX7_box_96 : decode cX7_box 96 = .ok (.ireturn, 1) := by decide +kernel
theorem dX7_box_97 : decode cX7_box 97 = .ok (.aload_n 3, 1) := by decide +kernel
theorem dX7_box_98 : decode cX7_box 98 = .ok (.getfield 104, 3) := by decide +kernel
theorem dX7_box_101 : decode cX7_box 101 = .ok (.iload_n 1, 1) := by decide +kernel
theorem dX7_box_102 : decode cX7_box 102 = .ok (.iaload, 1) := by decide +kernel
theorem dX7_box_103 : decode cX7_box 103 = .ok (.ireturn, 1) := by decide +kernel
theorem dX7_box_104 : decode cX7_box 104 = .ok (.aload_n 3, 1) := by decide +kernel
theorem dX7_box_105 : decode cX7_box 105 = .ok (.getfield 107, 3) := by decide +kernel
theorem dX7_box_108 : decode cX7_box 108 = .ok (.iload_n 1, 1) := by decide +kernel
theorem dX7_box_109 : decode cX7_box 109 = .ok (.iaload, 1) := by decide +kernel
theorem dX7_box_110 : decode cX7_box 110 = .ok (.ireturn, 1) := by decide +kernel
theorem dX7_box_111 : decode cX7_box 111 = .ok (.aload_n 0, 1) := by decide +kernel
theorem dX7_box_112 : decode cX7_box 112 = .ok (.getfield 19, 3) := by decide +kernel
theorem dX7_box_115 : decode cX7_box 115 = .ok (.getfield 110, 3) := by decide +kernel
theorem dX7_box_118 : decode cX7_box 118 = .ok (.iload_n 1, 1) := by decide +kernel
theorem dX7_box_119 : decode cX7_box 119 = .ok (.iaload, 1) := by decide +kernel
theorem dX7_box_120 : decode cX7_box 120 = .ok (.ireturn, 1) := by decide +kernel
theorem dX7_box_121 : decode cX7_box 121 = .ok (.aload_n 0, 1) := by decide +kernel
theorem dX7_box_122 : decode cX7_box 122 = .ok (.getfield 19, 3) := by decide +kernel
theorem dX7_box_125 : decode cX7_box 125 = .ok (.getfield 113, 3) := by decide +kernel
theorem dX7_box_128 : decode cX7_box 128 = .ok (.iload_n 1, 1) := by decide +kernel
theorem dX7_box_129 : decode cX7_box 129 = .ok (.iaload, 1) := by decide +kernel
theorem dX7_box_130 : decode cX7_box 130 = .ok (.ireturn, 1) := by decide +kernel
theorem dX7_box_131 : decode cX7_box 131 = .ok (.aload_n 0, 1) := by decide +kernel
theorem dX7_box_132 : decode cX7_box 132 = .ok (.getfield 19, 3) := by decide +kernel
theorem dX7_box_135 : decode cX7_box 135 = .ok (.getfield 116, 3) := by decide +kernel
theorem dX7_box_138 : decode cX7_box 138 = .ok (.iload_n 1, 1) := by decide +kernel
theorem dX7_box_139 : decode cX7_box 139 = .ok (.iaload, 1) := by decide +kernel
theorem dX7_box_140 : decode cX7_box 140 = .ok (.ireturn, 1) := by decide +kernel
theorem dX7_box_141 : decode cX7_box 141 = .ok (.aload_n 0, 1) := by decide +kernel
theorem dX7_box_142 : decode cX7_box 142 = .ok (.getfield 26, 3) := by decide +kernel
theorem dX7_box_145 : decode cX7_box 145 = .ok (.iload_n 1, 1) := by decide +kernel
theorem dX7_box_146 : decode cX7_box 146 = .ok (.invokevirtual 119, 3) := by decide +kernel
theorem dX7_box_149 : decode cX7_box 149 = .ok (.ireturn, 1) := by decide +kernel
theorem dX7_box_150 : decode cX7_box 150 = .ok (.aload_n 0, 1) := by decide +kernel
theorem dX7_box_151 : decode cX7_box 151 = .ok (.getfield 26, 3) := by decide +kernel
theorem dX7_box_154 : decode cX7_box 154 = .ok (.iload_n 1, 1) := by decide +kernel
theorem dX7_box_155 : decode cX7_box 155 = .ok (.invokevirtual 123, 3) := by decide +kernel
theorem dX7_box_158 : decode cX7_box 158 = .ok (.ireturn, 1) := by decide +kernel
theorem dX7_box_159 : decode cX7_box 159 = .ok (.bipush (-102), 2) := by decide +kernel
theorem dX7_box_161 : decode cX7_box 161 = .ok (.ireturn, 1) := by decide +kernel
theorem dX7_as_0 : decode cX7_as 0 = .ok (.aload_n 0, 1) := by decide +kernel
theorem dX7_as_1 : decode cX7_as 1 = .ok (.getfield 19, 3) := by decide +kernel
theorem dX7_as_4 : decode cX7_as 4 = .ok (.getfield 69, 3) := by decide +kernel
theorem dX7_as_7 : decode cX7_as 7 = .ok (.iload_n 1, 1) := by decide +kernel
theorem dX7_as_8 : decode cX7_as 8 = .ok (.invokevirtual 90, 3) := by decide +kernel
theorem dX7_as_11 : decode cX7_as 11 = .ok (.ifCond .ne 6, 3) := by decide +kernel
theorem dX7_as_14 : decode cX7_as 14 = .ok (.bipush (-101), 2) := by decide +kernel
theorem dX7_as_16 : decode cX7_as 16 = .ok (.ireturn, 1) := by decide +kernel
theorem dX7_as_17 : decode cX7_as 17 = .ok (.iload_n 2, 1) := by decide +kernel
theorem dX7_as_18 : decode cX7_as 18 = .ok (.invokestatic 126, 3) := by decide +kernel
theorem dX7_as_21 : decode cX7_as 21 = .ok (.ifCond .ne 6, 3) := by decide +kernel
theorem dX7_as_24 : decode cX7_as 24 = .ok (.bipush (-102), 2) := by decide +kernel
theorem dX7_as_26 : decode cX7_as 26 = .ok (.ireturn, 1) := by decide +kernel
theorem dX7_as_27 : decode cX7_as 27 = .ok (.aload_n 0, 1) := by decide +kernel
theorem dX7_as_28 : decode cX7_as 28 = .ok (.getfield 19, 3) := by decide +kernel
theorem dX7_as_31 : decode cX7_as 31 = .ok (.getfield 69, 3) := by decide +kernel
theorem dX7_as_34 : decode cX7_as 34 = .ok (.iload_n 1, 1) := by decide +kernel
theorem dX7_as_35 : decode cX7_as 35 = .ok (.iload_n 2, 1) := by decide +kernel
theorem dX7_as_36 : decode cX7_as 36 = .ok (.invokevirtual 129, 3) := by decide +kernel
theorem dX7_as_39 : decode cX7_as 39 = .ok (.ifCond .eq 7, 3) := by decide +kernel
theorem dX7_as_42 : decode cX7_as 42 = .ok (.iload_n 1, 1) := by decide +kernel
theorem dX7_as_43 : decode cX7_as 43 = .ok (.goto 4, 3) := by decide +kernel
theorem dX7_as_46 : decode cX7_as 46 = .ok (.iconst (-1), 1) := by decide +kernel
theorem dX7_as_47 : decode cX7_as 47 = .ok (.ireturn, 1) := by decide +kernel
theorem dX7_order_0 : decode cX7_order 0 = .ok (.iload_n 1, 1) := by decide +kernel
theorem dX7_order_1 : decode cX7_order 1 = .ok (.ifCond .lt 26, 3) := by decide +kernel
theorem dX7_order_4 : decode cX7_order 4 = .ok (.iload_n 1, 1) := by decide +kernel
theorem dX7_order_5 : decode cX7_order 5 = .ok (.aload_n 0, 1) := by decide +kernel
theorem dX7_order_6 : decode cX7_order 6 = .ok (.getfield 19, 3) := by decide +kernel
theorem dX7_order_9 : decode cX7_order 9 = .ok (.getfield 133, 3) := by decide +kernel
theorem dX7_order_12 : decode cX7_order 12 = .ok (.if_icmp .ge 15, 3) := by decide +kernel
theorem dX7_order_15 : decode cX7_order 15 = .ok (.aload_n 0, 1) := by decide +kernel
theorem dX7_order_16 : decode cX7_order 16 = .ok (.getfield 19, 3) := by decide +kernel
theorem dX7_order_19 : decode cX7_order 19 = .ok (.getfield 136, 3) := by decide +kernel
theorem dX7_order_22 : decode cX7_order 22 = .ok (.iload_n 1, 1) := by decide +kernel
theorem dX7_order_23 : decode cX7_order 23 = .ok (.iaload, 1) := by decide +kernel
theorem dX7_order_24 : decode cX7_order 24 = .ok (.goto 5, 3) := by decide +kernel
theorem dX7_order_27 : decode cX7_order 27 = .ok (.bipush (-101), 2) := by decide +kernel
theorem dX7_order_29 : decode cX7_order 29 = .ok (.ireturn, 1) := by decide +kernel
theorem dX7_cut_0 : decode cX7_cut 0 = .ok (.aload_n 0, 1) := by decide +kernel
theorem dX7_cut_1 : decode cX7_cut 1 = .ok (.getfield 19, 3) := by decide +kernel
theorem dX7_cut_4 : decode cX7_cut 4 = .ok (.getfield 139, 3) := by decide +kernel
theorem dX7_cut_7 : decode cX7_cut 7 = .ok (.astore_n 3, 1) := by decide +kernel
theorem dX7_cut_8 : decode cX7_cut 8 = .ok (.iload_n 1, 1) := by decide +kernel
theorem dX7_cut_9 : decode cX7_cut 9 = .ok (.ifCond .lt 11, 3) := by decide +kernel
theorem dX7_cut_12 : decode cX7_cut 12 = .ok (.iload_n 1, 1) := by decide +kernel
theorem dX7_cut_13 : decode cX7_cut 13 = .ok (.aload_n 3, 1) := by decide +kernel
theorem dX7_cut_14 : decode cX7_cut 14 = .ok (.getfield 143, 3) := by decide +kernel
theorem dX7_cut_17 : decode cX7_cut 17 = .ok (.if_icmp .lt 6, 3) := by decide +kernel
theorem dX7_cut_20 : decode cX7_cut 20 = .ok (.bipush (-101), 2) := by decide +kernel
theorem dX7_cut_22 : decode cX7_cut 22 = .ok (.ireturn, 1) := by decide +kernel
theorem dX7_cut_23 : decode cX7_cut 23 = .ok (.iload_n 2, 1) := by decide +kernel
theorem dX7_cut_24 : decode cX7_cut 24 = .ok (.tableswitch 71 0 4 #[36, 43, 50, 57, 64], 36) := by decide +kernel
theorem dX7_cut_60 : decode cX7_cut 60 = .ok (.aload_n 3, 1) := by decide +kernel
theorem dX7_cut_61 : decode cX7_cut 61 = .ok (.getfield 146, 3) := by decide +kernel
theorem dX7_cut_64 : decode cX7_cut 64 = .ok (.iload_n 1, 1) := by decide +kernel
theorem dX7_cut_65 : decode cX7_cut 65 = .ok (.iaload, 1) := by decide +kernel
theorem dX7_cut_66 : decode cX7_cut 66 = .ok (.ireturn, 1) := by decide +kernel
theorem dX7_cut_67 : decode cX7_cut 67 = .ok (.aload_n 3, 1) := by decide +kernel
theorem dX7_cut_68 : decode cX7_cut 68 = .ok (.getfield 149, 3) := by decide +kernel
theorem dX7_cut_71 : decode cX7_cut 71 = .ok (.iload_n 1, 1) := by decide +kernel
theorem dX7_cut_72 : decode cX7_cut 72 = .ok (.iaload, 1) := by decide +kernel
theorem dX7_cut_73 : decode cX7_cut 73 = .ok (.ireturn, 1) := by decide +kernel
theorem dX7_cut_74 : decode cX7_cut 74 = .ok (.aload_n 3, 1) := by decide +kernel
theorem dX7_cut_75 : decode cX7_cut 75 = .ok (.getfield 152, 3) := by decide +kernel
theorem dX7_cut_78 : decode cX7_cut 78 = .ok (.iload_n 1, 1) := by decide +kernel
theorem dX7_cut_79 : decode cX7_cut 79 = .ok (.iaload, 1) := by decide +kernel
theorem dX7_cut_80 : decode cX7_cut 80 = .ok (.ireturn, 1) := by decide +kernel
theorem dX7_cut_81 : decode cX7_cut 81 = .ok (.aload_n 3, 1) := by decide +kernel
theorem dX7_cut_82 : decode cX7_cut 82 = .ok (.getfield 155, 3) := by decide +kernel
theorem dX7_cut_85 : decode cX7_cut 85 = .ok (.iload_n 1, 1) := by decide +kernel
theorem dX7_cut_86 : decode cX7_cut 86 = .ok (.iaload, 1) := by decide +kernel
theorem dX7_cut_87 : decode cX7_cut 87 = .ok (.ireturn, 1) := by decide +kernel
theorem dX7_cut_88 : decode cX7_cut 88 = .ok (.aload_n 3, 1) := by decide +kernel
theorem dX7_cut_89 : decode cX7_cut 89 = .ok (.getfield 158, 3) := by decide +kernel
theorem dX7_cut_92 : decode cX7_cut 92 = .ok (.iload_n 1, 1) := by decide +kernel
theorem dX7_cut_93 : decode cX7_cut 93 = .ok (.iaload, 1) := by decide +kernel
theorem dX7_cut_94 : decode cX7_cut 94 = .ok (.ireturn, 1) := by decide +kernel
theorem dX7_cut_95 : decode cX7_cut 95 = .ok (.bipush (-102), 2) := by decide +kernel
theorem dX7_cut_97 : decode cX7_cut 97 = .ok (.ireturn, 1) := by decide +kernel
theorem dX7_lane_0 : decode cX7_lane 0 = .ok (.aload_n 0, 1) := by decide +kernel
theorem dX7_lane_1 : decode cX7_lane 1 = .ok (.getfield 19, 3) := by decide +kernel
theorem dX7_lane_4 : decode cX7_lane 4 = .ok (.iconst 0, 1) := by decide +kernel
theorem dX7_lane_5 : decode cX7_lane 5 = .ok (.aload_n 0, 1) := by decide +kernel
theorem dX7_lane_6 : decode cX7_lane 6 = .ok (.getfield 19, 3) := by decide +kernel
theorem dX7_lane_9 : decode cX7_lane 9 = .ok (.getfield 161, 3) := by decide +kernel
theorem dX7_lane_12 : decode cX7_lane 12 = .ok (.invokevirtual 164, 3) := by decide +kernel
theorem dX7_lane_15 : decode cX7_lane 15 = .ok (.aload_n 0, 1) := by decide +kernel
theorem dX7_lane_16 : decode cX7_lane 16 = .ok (.getfield 19, 3) := by decide +kernel
theorem dX7_lane_19 : decode cX7_lane 19 = .ok (.getfield 168, 3) := by decide +kernel
theorem dX7_lane_22 : decode cX7_lane 22 = .ok (.astore_n 3, 1) := by decide +kernel
theorem dX7_lane_23 : decode cX7_lane 23 = .ok (.iload_n 1, 1) := by decide +kernel
theorem dX7_lane_24 : decode cX7_lane 24 = .ok (.ifCond .lt 11, 3) := by decide +kernel
theorem dX7_lane_27 : decode cX7_lane 27 = .ok (.iload_n 1, 1) := by decide +kernel
theorem dX7_lane_28 : decode cX7_lane 28 = .ok (.aload_n 3, 1) := by decide +kernel
theorem dX7_lane_29 : decode cX7_lane 29 = .ok (.getfield 172, 3) := by decide +kernel
theorem dX7_lane_32 : decode cX7_lane 32 = .ok (.if_icmp .lt 6, 3) := by decide +kernel
theorem dX7_lane_35 : decode cX7_lane 35 = .ok (.bipush (-101), 2) := by decide +kernel
theorem dX7_lane_37 : decode cX7_lane 37 = .ok (.ireturn, 1) := by decide +kernel
theorem dX7_lane_38 : decode cX7_lane 38 = .ok (.iload_n 2, 1) := by decide +kernel
theorem dX7_lane_39 : decode cX7_lane 39 = .ok (.tableswitch 46 0 2 #[25, 32, 39], 25) := by decide +kernel
theorem dX7_lane_64 : decode cX7_lane 64 = .ok (.aload_n 3, 1) := by decide +kernel
theorem dX7_lane_65 : decode cX7_lane 65 = .ok (.getfield 175, 3) := by decide +kernel
theorem dX7_lane_68 : decode cX7_lane 68 = .ok (.iload_n 1, 1) := by decide +kernel
theorem dX7_lane_69 : decode cX7_lane 69 = .ok (.iaload, 1) := by decide +kernel
theorem dX7_lane_70 : decode cX7_lane 70 = .ok (.ireturn, 1) := by decide +kernel
theorem dX7_lane_71 : decode cX7_lane 71 = .ok (.aload_n 3, 1) := by decide +kernel
theorem dX7_lane_72 : decode cX7_lane 72 = .ok (.getfield 176, 3) := by decide +kernel
theorem dX7_lane_75 : decode cX7_lane 75 = .ok (.iload_n 1, 1) := by decide +kernel
theorem dX7_lane_76 : decode cX7_lane 76 = .ok (.iaload, 1) := by decide +kernel
theorem dX7_lane_77 : decode cX7_lane 77 = .ok (.ireturn, 1) := by decide +kernel
theorem dX7_lane_78 : decode cX7_lane 78 = .ok (.aload_n 3, 1) := by decide +kernel
theorem dX7_lane_79 : decode cX7_lane 79 = .ok (.getfield 177, 3) := by decide +kernel
theorem dX7_lane_82 : decode cX7_lane 82 = .ok (.iload_n 1, 1) := by decide +kernel
theorem dX7_lane_83 : decode cX7_lane 83 = .ok (.iaload, 1) := by decide +kernel
theorem dX7_lane_84 : decode cX7_lane 84 = .ok (.ireturn, 1) := by decide +kernel
theorem dX7_lane_85 : decode cX7_lane 85 = .ok (.bipush (-102), 2) := by decide +kernel
theorem dX7_lane_87 : decode cX7_lane 87 = .ok (.ireturn, 1) := by decide +kernel
theorem dX7_why_0 : decode cX7_why 0 = .ok (.aload_n 0, 1) := by decide +kernel
theorem dX7_why_1 : decode cX7_why 1 = .ok (.getfield 19, 3) := by decide +kernel
theorem dX7_why_4 : decode cX7_why 4 = .ok (.getfield 69, 3) := by decide +kernel
theorem dX7_why_7 : decode cX7_why 7 = .ok (.iload_n 1, 1) := by decide +kernel
theorem dX7_why_8 : decode cX7_why 8 = .ok (.invokevirtual 90, 3) := by decide +kernel
theorem dX7_why_11 : decode cX7_why 11 = .ok (.ifCond .eq 22, 3) := by decide +kernel
theorem dX7_why_14 : decode cX7_why 14 = .ok (.aload_n 0, 1) := by decide +kernel
theorem dX7_why_15 : decode cX7_why 15 = .ok (.getfield 19, 3) := by decide +kernel
theorem dX7_why_18 : decode cX7_why 18 = .ok (.getfield 69, 3) := by decide +kernel
theorem dX7_why_21 : decode cX7_why 21 = .ok (.iload_n 2, 1) := by decide +kernel
theorem dX7_why_22 : decode cX7_why 22 = .ok (.invokevirtual 90, 3) := by decide +kernel
theorem dX7_why_25 : decode cX7_why 25 = .ok (.ifCond .eq 8, 3) := by decide +kernel
theorem dX7_why_28 : decode cX7_why 28 = .ok (.iload_n 1, 1) := by decide +kernel
theorem dX7_why_29 : decode cX7_why 29 = .ok (.iload_n 2, 1) := by decide +kernel
theorem dX7_why_30 : decode cX7_why 30 = .ok (.if_icmp .ne 6, 3) := by decide +kernel
theorem dX7_why_33 : decode cX7_why 33 = .ok (.bipush (-101), 2) := by decide +kernel
theorem dX7_why_35 : decode cX7_why 35 = .ok (.ireturn, 1) := by decide +kernel
theorem dX7_why_36 : decode cX7_why 36 = .ok (.aload_n 0, 1) := by decide +kernel
theorem dX7_why_37 : decode cX7_why 37 = .ok (.getfield 19, 3) := by decide +kernel
theorem dX7_why_40 : decode cX7_why 40 = .ok (.getfield 110, 3) := by decide +kernel
theorem dX7_why_43 : decode cX7_why 43 = .ok (.iload_n 1, 1) := by decide +kernel
theorem dX7_why_44 : decode cX7_why 44 = .ok (.iaload, 1) := by decide +kernel
theorem dX7_why_45 : decode cX7_why 45 = .ok (.aload_n 0, 1) := by decide +kernel
theorem dX7_why_46 : decode cX7_why 46 = .ok (.getfield 19, 3) := by decide +kernel
theorem dX7_why_49 : decode cX7_why 49 = .ok (.getfield 110, 3) := by decide +kernel
theorem dX7_why_52 : decode cX7_why 52 = .ok (.iload_n 2, 1) := by decide +kernel
theorem dX7_why_53 : decode cX7_why 53 = .ok (.iaload, 1) := by decide +kernel
theorem dX7_why_54 : decode cX7_why 54 = .ok (.if_icmp .ge 7, 3) := by decide +kernel
theorem dX7_why_57 : decode cX7_why 57 = .ok (.iload_n 1, 1) := by decide +kernel
theorem dX7_why_58 : decode cX7_why 58 = .ok (.goto 4, 3) := by decide +kernel
theorem dX7_why_61 : decode cX7_why 61 = .ok (.iload_n 2, 1) := by decide +kernel
theorem dX7_why_62 : decode cX7_why 62 = .ok (.istore_n 3, 1) := by decide +kernel
theorem dX7_why_63 : decode cX7_why 63 = .ok (.bipush 10, 2) := by decide +kernel
theorem dX7_why_65 : decode cX7_why 65 = .ok (.iload_n 3, 1) := by decide +kernel
theorem dX7_why_66 : decode cX7_why 66 = .ok (.imul, 1) := by decide +kernel
theorem dX7_why_67 : decode cX7_why 67 = .ok (.aload_n 0, 1) := by decide +kernel
theorem dX7_why_68 : decode cX7_why 68 = .ok (.getfield 19, 3) := by decide +kernel
theorem dX7_why_71 : decode cX7_why 71 = .ok (.iload_n 1, 1) := by decide +kernel
theorem dX7_why_72 : decode cX7_why 72 = .ok (.iload_n 2, 1) := by decide +kernel
theorem dX7_why_73 : decode cX7_why 73 = .ok (.invokevirtual 178, 3) := by decide +kernel
theorem dX7_why_76 : decode cX7_why 76 = .ok (.iadd, 1) := by decide +kernel
theorem dX7_why_77 : decode cX7_why 77 = .ok (.ireturn, 1) := by decide +kernel
theorem dX7_put_0 : decode cX7_put 0 = .ok (.iload_n 1, 1) := by decide +kernel
theorem dX7_put_1 : decode cX7_put 1 = .ok (.ifCond .lt 21, 3) := by decide +kernel
theorem dX7_put_4 : decode cX7_put 4 = .ok (.iload_n 1, 1) := by decide +kernel
theorem dX7_put_5 : decode cX7_put 5 = .ok (.sipush 900, 3) := by decide +kernel
theorem dX7_put_8 : decode cX7_put 8 = .ok (.if_icmp .gt 14, 3) := by decide +kernel
theorem dX7_put_11 : decode cX7_put 11 = .ok (.iload_n 2, 1) := by decide +kernel
theorem dX7_put_12 : decode cX7_put 12 = .ok (.ifCond .lt 10, 3) := by decide +kernel
theorem dX7_put_15 : decode cX7_put 15 = .ok (.iload_n 2, 1) := by decide +kernel
theorem dX7_put_16 : decode cX7_put 16 = .ok (.sipush 900, 3) := by decide +kernel
theorem dX7_put_19 : decode cX7_put 19 = .ok (.if_icmp .le 6, 3) := by decide +kernel
theorem dX7_put_22 : decode cX7_put 22 = .ok (.bipush (-102), 2) := by decide +kernel
theorem dX7_put_24 : decode cX7_put 24 = .ok (.ireturn, 1) := by decide +kernel
theorem dX7_put_25 : decode cX7_put 25 = .ok (.aload_n 0, 1) := by decide +kernel
theorem dX7_put_26 : decode cX7_put 26 = .ok (.invokevirtual 182, 3) := by decide +kernel
theorem dX7_put_29 : decode cX7_put 29 = .ok (.ifCond .eq 6, 3) := by decide +kernel
theorem dX7_put_32 : decode cX7_put 32 = .ok (.bipush (-103), 2) := by decide +kernel
theorem dX7_put_34 : decode cX7_put 34 = .ok (.ireturn, 1) := by decide +kernel
theorem dX7_put_35 : decode cX7_put 35 = .ok (.aload_n 0, 1) := by decide +kernel
theorem dX7_put_36 : decode cX7_put 36 = .ok (.getfield 19, 3) := by decide +kernel
theorem dX7_put_39 : decode cX7_put 39 = .ok (.getfield 69, 3) := by decide +kernel
theorem dX7_put_42 : decode cX7_put 42 = .ok (.getfield 87, 3) := by decide +kernel
theorem dX7_put_45 : decode cX7_put 45 = .ok (.bipush 8, 2) := by decide +kernel
theorem dX7_put_47 : decode cX7_put 47 = .ok (.if_icmp .lt 6, 3) := by decide +kernel
theorem dX7_put_50 : decode cX7_put 50 = .ok (.bipush (-104), 2) := by decide +kernel
theorem dX7_put_52 : decode cX7_put 52 = .ok (.ireturn, 1) := by decide +kernel
theorem dX7_put_53 : decode cX7_put 53 = .ok (.aload_n 0, 1) := by decide +kernel
theorem dX7_put_54 : decode cX7_put 54 = .ok (.getfield 19, 3) := by decide +kernel
theorem dX7_put_57 : decode cX7_put 57 = .ok (.getfield 69, 3) := by decide +kernel
theorem dX7_put_60 : decode cX7_put 60 = .ok (.iconst 0, 1) := by decide +kernel
theorem dX7_put_61 : decode cX7_put 61 = .ok (.iload_n 1, 1) := by decide +kernel
theorem dX7_put_62 : decode cX7_put 62 = .ok (.iload_n 2, 1) := by decide +kernel
theorem dX7_put_63 : decode cX7_put 63 = .ok (.iload_n 1, 1) := by decide +kernel
theorem dX7_put_64 : decode cX7_put 64 = .ok (.iconst 2, 1) := by decide +kernel
theorem dX7_put_65 : decode cX7_put 65 = .ok (.iadd, 1) := by decide +kernel
theorem dX7_put_66 : decode cX7_put 66 = .ok (.iload_n 2, 1) := by decide +kernel
theorem dX7_put_67 : decode cX7_put 67 = .ok (.iconst 2, 1) := by decide +kernel
theorem dX7_put_68 : decode cX7_put 68 = .ok (.iadd, 1) := by decide +kernel
theorem dX7_put_69 : decode cX7_put 69 = .ok (.invokevirtual 185, 3) := by decide +kernel
theorem dX7_put_72 : decode cX7_put 72 = .ok (.aload_n 0, 1) := by decide +kernel
theorem dX7_put_73 : decode cX7_put 73 = .ok (.getfield 19, 3) := by decide +kernel
theorem dX7_put_76 : decode cX7_put 76 = .ok (.invokevirtual 76, 3) := by decide +kernel
theorem dX7_put_79 : decode cX7_put 79 = .ok (.aload_n 0, 1) := by decide +kernel
theorem dX7_put_80 : decode cX7_put 80 = .ok (.getfield 19, 3) := by decide +kernel
theorem dX7_put_83 : decode cX7_put 83 = .ok (.getfield 69, 3) := by decide +kernel
theorem dX7_put_86 : decode cX7_put 86 = .ok (.getfield 87, 3) := by decide +kernel
theorem dX7_put_89 : decode cX7_put 89 = .ok (.ireturn, 1) := by decide +kernel
theorem dX7_take_0 : decode cX7_take 0 = .ok (.aload_n 0, 1) := by decide +kernel
theorem dX7_take_1 : decode cX7_take 1 = .ok (.getfield 19, 3) := by decide +kernel
theorem dX7_take_4 : decode cX7_take 4 = .ok (.getfield 69, 3) := by decide +kernel
theorem dX7_take_7 : decode cX7_take 7 = .ok (.iload_n 1, 1) := by decide +kernel
theorem dX7_take_8 : decode cX7_take 8 = .ok (.invokevirtual 90, 3) := by decide +kernel
theorem dX7_take_11 : decode cX7_take 11 = .ok (.ifCond .ne 6, 3) := by decide +kernel
theorem dX7_take_14 : decode cX7_take 14 = .ok (.bipush (-101), 2) := by decide +kernel
theorem dX7_take_16 : decode cX7_take 16 = .ok (.ireturn, 1) := by decide +kernel
theorem dX7_take_17 : decode cX7_take 17 = .ok (.aload_n 0, 1) := by decide +kernel
theorem dX7_take_18 : decode cX7_take 18 = .ok (.getfield 19, 3) := by decide +kernel
theorem dX7_take_21 : decode cX7_take 21 = .ok (.getfield 69, 3) := by decide +kernel
theorem dX7_take_24 : decode cX7_take 24 = .ok (.getfield 87, 3) := by decide +kernel
theorem dX7_take_27 : decode cX7_take 27 = .ok (.iconst 1, 1) := by decide +kernel
theorem dX7_take_28 : decode cX7_take 28 = .ok (.if_icmp .ne 6, 3) := by decide +kernel
theorem dX7_take_31 : decode cX7_take 31 = .ok (.bipush (-103), 2) := by decide +kernel
theorem dX7_take_33 : decode cX7_take 33 = .ok (.ireturn, 1) := by decide +kernel
theorem dX7_take_34 : decode cX7_take 34 = .ok (.aload_n 0, 1) := by decide +kernel
theorem dX7_take_35 : decode cX7_take 35 = .ok (.getfield 19, 3) := by decide +kernel
theorem dX7_take_38 : decode cX7_take 38 = .ok (.getfield 69, 3) := by decide +kernel
theorem dX7_take_41 : decode cX7_take 41 = .ok (.iload_n 1, 1) := by decide +kernel
theorem dX7_take_42 : decode cX7_take 42 = .ok (.invokevirtual 188, 3) := by decide +kernel
theorem dX7_take_45 : decode cX7_take 45 = .ok (.aload_n 0, 1) := by decide +kernel
theorem dX7_take_46 : decode cX7_take 46 = .ok (.getfield 19, 3) := by decide +kernel
theorem dX7_take_49 : decode cX7_take 49 = .ok (.invokevirtual 76, 3) := by decide +kernel
theorem dX7_take_52 : decode cX7_take 52 = .ok (.aload_n 0, 1) := by decide +kernel
theorem dX7_take_53 : decode cX7_take 53 = .ok (.getfield 19, 3) := by decide +kernel
theorem dX7_take_56 : decode cX7_take 56 = .ok (.getfield 69, 3) := by decide +kernel
theorem dX7_take_59 : decode cX7_take 59 = .ok (.getfield 87, 3) := by decide +kernel
theorem dX7_take_62 : decode cX7_take 62 = .ok (.ireturn, 1) := by decide +kernel
theorem dX7_move_0 : decode cX7_move 0 = .ok (.aload_n 0, 1) := by decide +kernel
theorem dX7_move_1 : decode cX7_move 1 = .ok (.getfield 19, 3) := by decide +kernel
theorem dX7_move_4 : decode cX7_move 4 = .ok (.getfield 69, 3) := by decide +kernel
theorem dX7_move_7 : decode cX7_move 7 = .ok (.iload_n 1, 1) := by decide +kernel
theorem dX7_move_8 : decode cX7_move 8 = .ok (.invokevirtual 90, 3) := by decide +kernel
theorem dX7_move_11 : decode cX7_move 11 = .ok (.ifCond .ne 6, 3) := by decide +kernel
theorem dX7_move_14 : decode cX7_move 14 = .ok (.bipush (-101), 2) := by decide +kernel
theorem dX7_move_16 : decode cX7_move 16 = .ok (.ireturn, 1) := by decide +kernel
theorem dX7_move_17 : decode cX7_move 17 = .ok (.iload_n 2, 1) := by decide +kernel
theorem dX7_move_18 : decode cX7_move 18 = .ok (.invokestatic 191, 3) := by decide +kernel
theorem dX7_move_21 : decode cX7_move 21 = .ok (.ifCond .eq 26, 3) := by decide +kernel
theorem dX7_move_24 : decode cX7_move 24 = .ok (.iload_n 3, 1) := by decide +kernel
theorem dX7_move_25 : decode cX7_move 25 = .ok (.invokestatic 191, 3) := by decide +kernel
theorem dX7_move_28 : decode cX7_move 28 = .ok (.ifCond .eq 19, 3) := by decide +kernel
theorem dX7_move_31 : decode cX7_move 31 = .ok (.aload_n 0, 1) := by decide +kernel
theorem dX7_move_32 : decode cX7_move 32 = .ok (.getfield 19, 3) := by decide +kernel
theorem dX7_move_35 : decode cX7_move 35 = .ok (.getfield 69, 3) := by decide +kernel
theorem dX7_move_38 : decode cX7_move 38 = .ok (.iload_n 1, 1) := by decide +kernel
theorem dX7_move_39 : decode cX7_move 39 = .ok (.iload_n 2, 1) := by decide +kernel
theorem dX7_move_40 : decode cX7_move 40 = .ok (.iload_n 3, 1) := by decide +kernel
theorem dX7_move_41 : decode cX7_move 41 = .ok (.invokevirtual 194, 3) := by decide +kernel
theorem dX7_move_44 : decode cX7_move 44 = .ok (.ifCond .ne 6, 3) := by decide +kernel
theorem dX7_move_47 : decode cX7_move 47 = .ok (.bipush (-102), 2) := by decide +kernel
theorem dX7_move_49 : decode cX7_move 49 = .ok (.ireturn, 1) := by decide +kernel
theorem dX7_move_50 : decode cX7_move 50 = .ok (.aload_n 0, 1) := by decide +kernel
theorem dX7_move_51 : decode cX7_move 51 = .ok (.getfield 19, 3) := by decide +kernel
theorem dX7_move_54 : decode cX7_move 54 = .ok (.getfield 69, 3) := by decide +kernel
theorem dX7_move_57 : decode cX7_move 57 = .ok (.iload_n 1, 1) := by decide +kernel
theorem dX7_move_58 : decode cX7_move 58 = .ok (.iload_n 2, 1) := by decide +kernel
theorem dX7_move_59 : decode cX7_move 59 = .ok (.iload_n 3, 1) := by decide +kernel
theorem dX7_move_60 : decode cX7_move 60 = .ok (.invokevirtual 198, 3) := by decide +kernel
theorem dX7_move_63 : decode cX7_move 63 = .ok (.aload_n 0, 1) := by decide +kernel
theorem dX7_move_64 : decode cX7_move 64 = .ok (.getfield 19, 3) := by decide +kernel
theorem dX7_move_67 : decode cX7_move 67 = .ok (.invokevirtual 76, 3) := by decide +kernel
theorem dX7_move_70 : decode cX7_move 70 = .ok (.aload_n 0, 1) := by decide +kernel
theorem dX7_move_71 : decode cX7_move 71 = .ok (.getfield 19, 3) := by decide +kernel
theorem dX7_move_74 : decode cX7_move 74 = .ok (.getfield 139, 3) := by decide +kernel
theorem dX7_move_77 : decode cX7_move 77 = .ok (.getfield 143, 3) := by decide +kernel
theorem dX7_move_80 : decode cX7_move 80 = .ok (.ireturn, 1) := by decide +kernel
theorem dX7_change_0 : decode cX7_change 0 = .ok (.aload_n 0, 1) := by decide +kernel
theorem dX7_change_1 : decode cX7_change 1 = .ok (.getfield 19, 3) := by decide +kernel
theorem dX7_change_4 : decode cX7_change 4 = .ok (.getfield 69, 3) := by decide +kernel
theorem dX7_change_7 : decode cX7_change 7 = .ok (.iload_n 1, 1) := by decide +kernel
theorem dX7_change_8 : decode cX7_change 8 = .ok (.invokevirtual 90, 3) := by decide +kernel
theorem dX7_change_11 : decode cX7_change 11 = .ok (.ifCond .ne 6, 3) := by decide +kernel
theorem dX7_change_14 : decode cX7_change 14 = .ok (.bipush (-101), 2) := by decide +kernel
theorem dX7_change_16 : decode cX7_change 16 = .ok (.ireturn, 1) := by decide +kernel
theorem dX7_change_17 : decode cX7_change 17 = .ok (.iload_n 2, 1) := by decide +kernel
theorem dX7_change_18 : decode cX7_change 18 = .ok (.invokestatic 126, 3) := by decide +kernel
theorem dX7_change_21 : decode cX7_change 21 = .ok (.ifCond .ne 6, 3) := by decide +kernel
theorem dX7_change_24 : decode cX7_change 24 = .ok (.bipush (-102), 2) := by decide +kernel
theorem dX7_change_26 : decode cX7_change 26 = .ok (.ireturn, 1) := by decide +kernel
theorem dX7_change_27 : decode cX7_change 27 = .ok (.aload_n 0, 1) := by decide +kernel
theorem dX7_change_28 : decode cX7_change 28 = .ok (.getfield 19, 3) := by decide +kernel
theorem dX7_change_31 : decode cX7_change 31 = .ok (.getfield 69, 3) := by decide +kernel
theorem dX7_change_34 : decode cX7_change 34 = .ok (.getfield 94, 3) := by decide +kernel
theorem dX7_change_37 : decode cX7_change 37 = .ok (.iload_n 1, 1) := by decide +kernel
theorem dX7_change_38 : decode cX7_change 38 = .ok (.iaload, 1) := by decide +kernel
theorem dX7_change_39 : decode cX7_change 39 = .ok (.istore_n 3, 1) := by decide +kernel
theorem dX7_change_40 : decode cX7_change 40 = .ok (.aload_n 0, 1) := by decide +kernel
theorem dX7_change_41 : decode cX7_change 41 = .ok (.getfield 19, 3) := by decide +kernel
theorem dX7_change_44 : decode cX7_change 44 = .ok (.getfield 69, 3) := by decide +kernel
theorem dX7_change_47 : decode cX7_change 47 = .ok (.getfield 94, 3) := by decide +kernel
theorem dX7_change_50 : decode cX7_change 50 = .ok (.iload_n 1, 1) := by decide +kernel
theorem dX7_change_51 : decode cX7_change 51 = .ok (.iload_n 2, 1) := by decide +kernel
theorem dX7_change_52 : decode cX7_change 52 = .ok (.iastore, 1) := by decide +kernel
theorem dX7_change_53 : decode cX7_change 53 = .ok (.aload_n 0, 1) := by decide +kernel
theorem dX7_change_54 : decode cX7_change 54 = .ok (.getfield 19, 3) := by decide +kernel
theorem dX7_change_57 : decode cX7_change 57 = .ok (.invokevirtual 76, 3) := by decide +kernel
theorem dX7_change_60 : decode cX7_change 60 = .ok (.iload_n 3, 1) := by decide +kernel
theorem dX7_change_61 : decode cX7_change 61 = .ok (.ireturn, 1) := by decide +kernel
theorem dX7_rules_0 : decode cX7_rules 0 = .ok (.iload_n 1, 1) := by decide +kernel
theorem dX7_rules_1 : decode cX7_rules 1 = .ok (.invokestatic 202, 3) := by decide +kernel
theorem dX7_rules_4 : decode cX7_rules 4 = .ok (.ifCond .ne 6, 3) := by decide +kernel
theorem dX7_rules_7 : decode cX7_rules 7 = .ok (.bipush (-102), 2) := by decide +kernel
theorem dX7_rules_9 : decode cX7_rules 9 = .ok (.ireturn, 1) := by decide +kernel
theorem dX7_rules_10 : decode cX7_rules 10 = .ok (.aload_n 0, 1) := by decide +kernel
theorem dX7_rules_11 : decode cX7_rules 11 = .ok (.invokevirtual 182, 3) := by decide +kernel
theorem dX7_rules_14 : decode cX7_rules 14 = .ok (.ifCond .eq 6, 3) := by decide +kernel
theorem dX7_rules_17 : decode cX7_rules 17 = .ok (.bipush (-103), 2) := by decide +kernel
theorem dX7_rules_19 : decode cX7_rules 19 = .ok (.ireturn, 1) := by decide +kernel
theorem dX7_rules_20 : decode cX7_rules 20 = .ok (.aload_n 0, 1) := by decide +kernel
theorem dX7_rules_21 : decode cX7_rules 21 = .ok (.getfield 19, 3) := by decide +kernel
theorem dX7_rules_24 : decode cX7_rules 24 = .ok (.getfield 69, 3) := by decide +kernel
theorem dX7_rules_27 : decode cX7_rules 27 = .ok (.iload_n 1, 1) := by decide +kernel
theorem dX7_rules_28 : decode cX7_rules 28 = .ok (.invokevirtual 205, 3) := by decide +kernel
theorem dX7_rules_31 : decode cX7_rules 31 = .ok (.aload_n 0, 1) := by decide +kernel
theorem dX7_rules_32 : decode cX7_rules 32 = .ok (.getfield 19, 3) := by decide +kernel
theorem dX7_rules_35 : decode cX7_rules 35 = .ok (.invokevirtual 76, 3) := by decide +kernel
theorem dX7_rules_38 : decode cX7_rules 38 = .ok (.aload_n 0, 1) := by decide +kernel
theorem dX7_rules_39 : decode cX7_rules 39 = .ok (.getfield 19, 3) := by decide +kernel
theorem dX7_rules_42 : decode cX7_rules 42 = .ok (.getfield 69, 3) := by decide +kernel
theorem dX7_rules_45 : decode cX7_rules 45 = .ok (.getfield 208, 3) := by decide +kernel
theorem dX7_rules_48 : decode cX7_rules 48 = .ok (.ireturn, 1) := by decide +kernel
theorem dX7_scale_0 : decode cX7_scale 0 = .ok (.iload_n 1, 1) := by decide +kernel
theorem dX7_scale_1 : decode cX7_scale 1 = .ok (.iconst 1, 1) := by decide +kernel
theorem dX7_scale_2 : decode cX7_scale 2 = .ok (.if_icmp .lt 26, 3) := by decide +kernel
theorem dX7_scale_5 : decode cX7_scale 5 = .ok (.iload_n 1, 1) := by decide +kernel
theorem dX7_scale_6 : decode cX7_scale 6 = .ok (.iconst 5, 1) := by decide +kernel
theorem dX7_scale_7 : decode cX7_scale 7 = .ok (.if_icmp .gt 21, 3) := by decide +kernel
theorem dX7_scale_10 : decode cX7_scale 10 = .ok (.iload_n 1, 1) := by decide +kernel
theorem dX7_scale_11 : decode cX7_scale 11 = .ok (.aload_n 0, 1) := by decide +kernel
theorem dX7_scale_12 : decode cX7_scale 12 = .ok (.getfield 19, 3) := by decide +kernel
theorem dX7_scale_15 : decode cX7_scale 15 = .ok (.getfield 69, 3) := by decide +kernel
theorem dX7_scale_18 : decode cX7_scale 18 = .ok (.invokevirtual 211, 3) := by decide +kernel
theorem dX7_scale_21 : decode cX7_scale 21 = .ok (.imul, 1) := by decide +kernel
theorem dX7_scale_22 : decode cX7_scale 22 = .ok (.sipush 999, 3) := by decide +kernel
theorem dX7_scale_25 : decode cX7_scale 25 = .ok (.if_icmp .le 6, 3) := by decide +kernel
theorem dX7_scale_28 : decode cX7_scale 28 = .ok (.bipush (-102), 2) := by decide +kernel
theorem dX7_scale_30 : decode cX7_scale 30 = .ok (.ireturn, 1) := by decide +kernel
theorem dX7_scale_31 : decode cX7_scale 31 = .ok (.aload_n 0, 1) := by decide +kernel
theorem dX7_scale_32 : decode cX7_scale 32 = .ok (.invokevirtual 182, 3) := by decide +kernel
theorem dX7_scale_35 : decode cX7_scale 35 = .ok (.ifCond .eq 6, 3) := by decide +kernel
theorem dX7_scale_38 : decode cX7_scale 38 = .ok (.bipush (-103), 2) := by decide +kernel
theorem dX7_scale_40 : decode cX7_scale 40 = .ok (.ireturn, 1) := by decide +kernel
theorem dX7_scale_41 : decode cX7_scale 41 = .ok (.aload_n 0, 1) := by decide +kernel
theorem dX7_scale_42 : decode cX7_scale 42 = .ok (.getfield 19, 3) := by decide +kernel
theorem dX7_scale_45 : decode cX7_scale 45 = .ok (.getfield 69, 3) := by decide +kernel
theorem dX7_scale_48 : decode cX7_scale 48 = .ok (.iload_n 1, 1) := by decide +kernel
theorem dX7_scale_49 : decode cX7_scale 49 = .ok (.invokevirtual 214, 3) := by decide +kernel
theorem dX7_scale_52 : decode cX7_scale 52 = .ok (.aload_n 0, 1) := by decide +kernel
theorem dX7_scale_53 : decode cX7_scale 53 = .ok (.getfield 19, 3) := by decide +kernel
theorem dX7_scale_56 : decode cX7_scale 56 = .ok (.invokevirtual 76, 3) := by decide +kernel
theorem dX7_scale_59 : decode cX7_scale 59 = .ok (.aload_n 0, 1) := by decide +kernel
theorem dX7_scale_60 : decode cX7_scale 60 = .ok (.getfield 19, 3) := by decide +kernel
theorem dX7_scale_63 : decode cX7_scale 63 = .ok (.getfield 69, 3) := by decide +kernel
theorem dX7_scale_66 : decode cX7_scale 66 = .ok (.invokevirtual 211, 3) := by decide +kernel
theorem dX7_scale_69 : decode cX7_scale 69 = .ok (.ireturn, 1) := by decide +kernel
theorem dX7_without_0 : decode cX7_without 0 = .ok (.aload_n 0, 1) := by decide +kernel
theorem dX7_without_1 : decode cX7_without 1 = .ok (.getfield 19, 3) := by decide +kernel
theorem dX7_without_4 : decode cX7_without 4 = .ok (.getfield 69, 3) := by decide +kernel
theorem dX7_without_7 : decode cX7_without 7 = .ok (.iload_n 1, 1) := by decide +kernel
theorem dX7_without_8 : decode cX7_without 8 = .ok (.invokevirtual 90, 3) := by decide +kernel
theorem dX7_without_11 : decode cX7_without 11 = .ok (.ifCond .ne 6, 3) := by decide +kernel
theorem dX7_without_14 : decode cX7_without 14 = .ok (.bipush (-101), 2) := by decide +kernel
theorem dX7_without_16 : decode cX7_without 16 = .ok (.ireturn, 1) := by decide +kernel
theorem dX7_without_17 : decode cX7_without 17 = .ok (.aload_n 0, 1) := by decide +kernel
theorem dX7_without_18 : decode cX7_without 18 = .ok (.getfield 40, 3) := by decide +kernel
theorem dX7_without_21 : decode cX7_without 21 = .ok (.getfield 69, 3) := by decide +kernel
theorem dX7_without_24 : decode cX7_without 24 = .ok (.aload_n 0, 1) := by decide +kernel
theorem dX7_without_25 : decode cX7_without 25 = .ok (.getfield 19, 3) := by decide +kernel
theorem dX7_without_28 : decode cX7_without 28 = .ok (.getfield 69, 3) := by decide +kernel
theorem dX7_without_31 : decode cX7_without 31 = .ok (.iload_n 1, 1) := by decide +kernel
theorem dX7_without_32 : decode cX7_without 32 = .ok (.invokevirtual 217, 3) := by decide +kernel
theorem dX7_without_35 : decode cX7_without 35 = .ok (.aload_n 0, 1) := by decide +kernel
theorem dX7_without_36 : decode cX7_without 36 = .ok (.getfield 40, 3) := by decide +kernel
theorem dX7_without_39 : decode cX7_without 39 = .ok (.invokevirtual 76, 3) := by decide +kernel
theorem dX7_without_42 : decode cX7_without 42 = .ok (.iconst 0, 1) := by decide +kernel
theorem dX7_without_43 : decode cX7_without 43 = .ok (.istore_n 2, 1) := by decide +kernel
theorem dX7_without_44 : decode cX7_without 44 = .ok (.iconst 0, 1) := by decide +kernel
theorem dX7_without_45 : decode cX7_without 45 = .ok (.istore_n 3, 1) := by decide +kernel
theorem dX7_without_46 : decode cX7_without 46 = .ok (.iload_n 3, 1) := by decide +kernel
theorem dX7_without_47 : decode cX7_without 47 = .ok (.aload_n 0, 1) := by decide +kernel
theorem dX7_without_48 : decode cX7_without 48 = .ok (.getfield 40, 3) := by decide +kernel
theorem dX7_without_51 : decode cX7_without 51 = .ok (.getfield 133, 3) := by decide +kernel
theorem dX7_without_54 : decode cX7_without 54 = .ok (.if_icmp .ge 108, 3) := by decide +kernel
theorem dX7_without_57 : decode cX7_without 57 = .ok (.iload_n 3, 1) := by decide +kernel
theorem dX7_without_58 : decode cX7_without 58 = .ok (.iconst 1, 1) := by decide +kernel
theorem dX7_without_59 : decode cX7_without 59 = .ok (.iadd, 1) := by decide +kernel
theorem dX7_without_60 : decode cX7_without 60 = .ok (.aload_n 0, 1) := by decide +kernel
theorem dX7_without_61 : decode cX7_without 61 = .ok (.getfield 19, 3) := by decide +kernel
theorem dX7_without_64 : decode cX7_without 64 = .ok (.getfield 133, 3) := by decide +kernel
theorem dX7_without_67 : decode cX7_without 67 = .ok (.if_icmp .ge 95, 3) := by decide +kernel
theorem dX7_without_70 : decode cX7_without 70 = .ok (.aload_n 0, 1) := by decide +kernel
theorem dX7_without_71 : decode cX7_without 71 = .ok (.getfield 40, 3) := by decide +kernel
theorem dX7_without_74 : decode cX7_without 74 = .ok (.getfield 136, 3) := by decide +kernel
theorem dX7_without_77 : decode cX7_without 77 = .ok (.iload_n 3, 1) := by decide +kernel
theorem dX7_without_78 : decode cX7_without 78 = .ok (.iaload, 1) := by decide +kernel
theorem dX7_without_79 : decode cX7_without 79 = .ok (.iload_n 1, 1) := by decide +kernel
theorem dX7_without_80 : decode cX7_without 80 = .ok (.if_icmp .ge 15, 3) := by decide +kernel
theorem dX7_without_83 : decode cX7_without 83 = .ok (.aload_n 0, 1) := by decide +kernel
theorem dX7_without_84 : decode cX7_without 84 = .ok (.getfield 40, 3) := by decide +kernel
theorem dX7_without_87 : decode cX7_without 87 = .ok (.getfield 136, 3) := by decide +kernel
theorem dX7_without_90 : decode cX7_without 90 = .ok (.iload_n 3, 1) := by decide +kernel
theorem dX7_without_91 : decode cX7_without 91 = .ok (.iaload, 1) := by decide +kernel
theorem dX7_without_92 : decode cX7_without 92 = .ok (.goto 14, 3) := by decide +kernel
theorem dX7_without_95 : decode cX7_without 95 = .ok (.aload_n 0, 1) := by decide +kernel
theorem dX7_without_96 : decode cX7_without 96 = .ok (.getfield 40, 3) := by decide +kernel
theorem dX7_without_99 : decode cX7_without 99 = .ok (.getfield 136, 3) := by decide +kernel
theorem dX7_without_102 : decode cX7_without 102 = .ok (.iload_n 3, 1) := by decide +kernel
theorem dX7_without_103 : decode cX7_without 103 = .ok (.iaload, 1) := by decide +kernel
theorem dX7_without_104 : decode cX7_without 104 = .ok (.iconst 1, 1) := by decide +kernel
theorem dX7_without_105 : decode cX7_without 105 = .ok (.iadd, 1) := by decide +kernel
theorem dX7_without_106 : decode cX7_without 106 = .ok (.istore 4, 2) := by decide +kernel
theorem dX7_without_108 : decode cX7_without 108 = .ok (.iload_n 3, 1) := by decide +kernel
theorem dX7_without_109 : decode cX7_without 109 = .ok (.aload_n 0, 1) := by decide +kernel
theorem dX7_without_110 : decode cX7_without 110 = .ok (.getfield 19, 3) := by decide +kernel
theorem dX7_without_113 : decode cX7_without 113 = .ok (.getfield 110, 3) := by decide +kernel
theorem dX7_without_116 : decode cX7_without 116 = .ok (.iload_n 1, 1) := by decide +kernel
theorem dX7_without_117 : decode cX7_without 117 = .ok (.iaload, 1) := by decide +kernel
theorem dX7_without_118 : decode cX7_without 118 = .ok (.if_icmp .ge 15, 3) := by decide +kernel
theorem dX7_without_121 : decode cX7_without 121 = .ok (.aload_n 0, 1) := by decide +kernel
theorem dX7_without_122 : decode cX7_without 122 = .ok (.getfield 19, 3) := by decide +kernel
theorem dX7_without_125 : decode cX7_without 125 = .ok (.getfield 136, 3) := by decide +kernel
theorem dX7_without_128 : decode cX7_without 128 = .ok (.iload_n 3, 1) := by decide +kernel
theorem dX7_without_129 : decode cX7_without 129 = .ok (.iaload, 1) := by decide +kernel
theorem dX7_without_130 : decode cX7_without 130 = .ok (.goto 14, 3) := by decide +kernel
theorem dX7_without_133 : decode cX7_without 133 = .ok (.aload_n 0, 1) := by decide +kernel
theorem dX7_without_134 : decode cX7_without 134 = .ok (.getfield 19, 3) := by decide +kernel
theorem dX7_without_137 : decode cX7_without 137 = .ok (.getfield 136, 3) := by decide +kernel
theorem dX7_without_140 : decode cX7_without 140 = .ok (.iload_n 3, 1) := by decide +kernel
theorem dX7_without_141 : decode cX7_without 141 = .ok (.iconst 1, 1) := by decide +kernel
theorem dX7_without_142 : decode cX7_without 142 = .ok (.iadd, 1) := by decide +kernel
theorem dX7_without_143 : decode cX7_without 143 = .ok (.iaload, 1) := by decide +kernel
theorem dX7_without_144 : decode cX7_without 144 = .ok (.istore 5, 2) := by decide +kernel
theorem dX7_without_146 : decode cX7_without 146 = .ok (.iload 4, 2) := by decide +kernel
theorem dX7_without_148 : decode cX7_without 148 = .ok (.iload 5, 2) := by decide +kernel
theorem dX7_without_150 : decode cX7_without 150 = .ok (.if_icmp .eq 6, 3) := by decide +kernel
theorem dX7_without_153 : decode cX7_without 153 = .ok (.iinc 2 1, 3) := by decide +kernel
theorem dX7_without_156 : decode cX7_without 156 = .ok (.iinc 3 1, 3) := by decide +kernel
theorem dX7_without_159 : decode cX7_without 159 = .ok (.goto (-113), 3) := by decide +kernel
theorem dX7_without_162 : decode cX7_without 162 = .ok (.iload_n 2, 1) := by decide +kernel
theorem dX7_without_163 : decode cX7_without 163 = .ok (.ireturn, 1) := by decide +kernel
theorem dX7_calm_0 : decode cX7_calm 0 = .ok (.aload_n 0, 1) := by decide +kernel
theorem dX7_calm_1 : decode cX7_calm 1 = .ok (.invokevirtual 182, 3) := by decide +kernel
theorem dX7_calm_4 : decode cX7_calm 4 = .ok (.ifCond .eq 6, 3) := by decide +kernel
theorem dX7_calm_7 : decode cX7_calm 7 = .ok (.bipush (-103), 2) := by decide +kernel
theorem dX7_calm_9 : decode cX7_calm 9 = .ok (.ireturn, 1) := by decide +kernel
theorem dX7_calm_10 : decode cX7_calm 10 = .ok (.iconst 0, 1) := by decide +kernel
theorem dX7_calm_11 : decode cX7_calm 11 = .ok (.istore_n 1, 1) := by decide +kernel
theorem dX7_calm_12 : decode cX7_calm 12 = .ok (.iconst 0, 1) := by decide +kernel
theorem dX7_calm_13 : decode cX7_calm 13 = .ok (.istore_n 2, 1) := by decide +kernel
theorem dX7_calm_14 : decode cX7_calm 14 = .ok (.iload_n 2, 1) := by decide +kernel
theorem dX7_calm_15 : decode cX7_calm 15 = .ok (.aload_n 0, 1) := by decide +kernel
theorem dX7_calm_16 : decode cX7_calm 16 = .ok (.getfield 19, 3) := by decide +kernel
theorem dX7_calm_19 : decode cX7_calm 19 = .ok (.getfield 69, 3) := by decide +kernel
theorem dX7_calm_22 : decode cX7_calm 22 = .ok (.getfield 87, 3) := by decide +kernel
theorem dX7_calm_25 : decode cX7_calm 25 = .ok (.if_icmp .ge 87, 3) := by decide +kernel
theorem dX7_calm_28 : decode cX7_calm 28 = .ok (.iconst 0, 1) := by decide +kernel
theorem dX7_calm_29 : decode cX7_calm 29 = .ok (.istore_n 3, 1) := by decide +kernel
theorem dX7_calm_30 : decode cX7_calm 30 = .ok (.iload_n 3, 1) := by decide +kernel
theorem dX7_calm_31 : decode cX7_calm 31 = .ok (.getstatic 221, 3) := by decide +kernel
theorem dX7_calm_34 : decode cX7_calm 34 = .ok (.arraylength, 1) := by decide +kernel
theorem dX7_calm_35 : decode cX7_calm 35 = .ok (.if_icmp .ge 71, 3) := by decide +kernel
theorem dX7_calm_38 : decode cX7_calm 38 = .ok (.aload_n 0, 1) := by decide +kernel
theorem dX7_calm_39 : decode cX7_calm 39 = .ok (.getfield 40, 3) := by decide +kernel
theorem dX7_calm_42 : decode cX7_calm 42 = .ok (.getfield 69, 3) := by decide +kernel
theorem dX7_calm_45 : decode cX7_calm 45 = .ok (.aload_n 0, 1) := by decide +kernel
theorem dX7_calm_46 : decode cX7_calm 46 = .ok (.getfield 19, 3) := by decide +kernel
theorem dX7_calm_49 : decode cX7_calm 49 = .ok (.getfield 69, 3) := by decide +kernel
theorem dX7_calm_52 : decode cX7_calm 52 = .ok (.invokevirtual 224, 3) := by decide +kernel
theorem dX7_calm_55 : decode cX7_calm 55 = .ok (.aload_n 0, 1) := by decide +kernel
theorem dX7_calm_56 : decode cX7_calm 56 = .ok (.getfield 40, 3) := by decide +kernel
theorem dX7_calm_59 : decode cX7_calm 59 = .ok (.getfield 69, 3) := by decide +kernel
theorem dX7_calm_62 : decode cX7_calm 62 = .ok (.iload_n 2, 1) := by decide +kernel
theorem dX7_calm_63 : decode cX7_calm 63 = .ok (.getstatic 221, 3) := by decide +kernel
theorem dX7_calm_66 : decode cX7_calm 66 = .ok (.iload_n 3, 1) := by decide +kernel
theorem dX7_calm_67 : decode cX7_calm 67 = .ok (.iaload, 1) := by decide +kernel
theorem dX7_calm_68 : decode cX7_calm 68 = .ok (.getstatic 227, 3) := by decide +kernel
theorem dX7_calm_71 : decode cX7_calm 71 = .ok (.iload_n 3, 1) := by decide +kernel
theorem dX7_calm_72 : decode cX7_calm 72 = .ok (.iaload, 1) := by decide +kernel
theorem dX7_calm_73 : decode cX7_calm 73 = .ok (.invokevirtual 198, 3) := by decide +kernel
theorem dX7_calm_76 : decode cX7_calm 76 = .ok (.aload_n 0, 1) := by decide +kernel
theorem dX7_calm_77 : decode cX7_calm 77 = .ok (.getfield 40, 3) := by decide +kernel
theorem dX7_calm_80 : decode cX7_calm 80 = .ok (.invokevirtual 76, 3) := by decide +kernel
theorem dX7_calm_83 : decode cX7_calm 83 = .ok (.aload_n 0, 1) := by decide +kernel
theorem dX7_calm_84 : decode cX7_calm 84 = .ok (.getfield 40, 3) := by decide +kernel
theorem dX7_calm_87 : decode cX7_calm 87 = .ok (.aload_n 0, 1) := by decide +kernel
theorem dX7_calm_88 : decode cX7_calm 88 = .ok (.getfield 19, 3) := by decide +kernel
theorem dX7_calm_91 : decode cX7_calm 91 = .ok (.invokevirtual 230, 3) := by decide +kernel
theorem dX7_calm_94 : decode cX7_calm 94 = .ok (.ifCond .eq 6, 3) := by decide +kernel
theorem dX7_calm_97 : decode cX7_calm 97 = .ok (.iinc 1 1, 3) := by decide +kernel
theorem dX7_calm_100 : decode cX7_calm 100 = .ok (.iinc 3 1, 3) := by decide +kernel
theorem dX7_calm_103 : decode cX7_calm 103 = .ok (.goto (-73), 3) := by decide +kernel
theorem dX7_calm_106 : decode cX7_calm 106 = .ok (.iinc 2 1, 3) := by decide +kernel
theorem dX7_calm_109 : decode cX7_calm 109 = .ok (.goto (-95), 3) := by decide +kernel
theorem dX7_calm_112 : decode cX7_calm 112 = .ok (.iload_n 1, 1) := by decide +kernel
theorem dX7_calm_113 : decode cX7_calm 113 = .ok (.ireturn, 1) := by decide +kernel
theorem dX7_idle_0 : decode cX7_idle 0 = .ok (.aload_n 0, 1) := by decide +kernel
theorem dX7_idle_1 : decode cX7_idle 1 = .ok (.invokevirtual 182, 3) := by decide +kernel
theorem dX7_idle_4 : decode cX7_idle 4 = .ok (.ifCond .eq 6, 3) := by decide +kernel
theorem dX7_idle_7 : decode cX7_idle 7 = .ok (.bipush (-103), 2) := by decide +kernel
theorem dX7_idle_9 : decode cX7_idle 9 = .ok (.ireturn, 1) := by decide +kernel
theorem dX7_idle_10 : decode cX7_idle 10 = .ok (.aload_n 0, 1) := by decide +kernel
theorem dX7_idle_11 : decode cX7_idle 11 = .ok (.getfield 19, 3) := by decide +kernel
theorem dX7_idle_14 : decode cX7_idle 14 = .ok (.getfield 69, 3) := by decide +kernel
theorem dX7_idle_17 : decode cX7_idle 17 = .ok (.astore_n 1, 1) := by decide +kernel
theorem dX7_idle_18 : decode cX7_idle 18 = .ok (.aload_n 1, 1) := by decide +kernel
theorem dX7_idle_19 : decode cX7_idle 19 = .ok (.getfield 208, 3) := by decide +kernel
theorem dX7_idle_22 : decode cX7_idle 22 = .ok (.iconst 1, 1) := by decide +kernel
theorem dX7_idle_23 : decode cX7_idle 23 = .ok (.if_icmp .ne 5, 3) := by decide +kernel
theorem dX7_idle_26 : decode cX7_idle 26 = .ok (.iconst 0, 1) := by decide +kernel
theorem dX7_idle_27 : decode cX7_idle 27 = .ok (.ireturn, 1) := by decide +kernel
theorem dX7_idle_28 : decode cX7_idle 28 = .ok (.iconst 0, 1) := by decide +kernel
theorem dX7_idle_29 : decode cX7_idle 29 = .ok (.istore_n 2, 1) := by decide +kernel
theorem dX7_idle_30 : decode cX7_idle 30 = .ok (.iconst 0, 1) := by decide +kernel
theorem dX7_idle_31 : decode cX7_idle 31 = .ok (.istore_n 3, 1) := by decide +kernel
theorem dX7_idle_32 : decode cX7_idle 32 = .ok (.iload_n 3, 1) := by decide +kernel
theorem dX7_idle_33 : decode cX7_idle 33 = .ok (.aload_n 1, 1) := by decide +kernel
theorem dX7_idle_34 : decode cX7_idle 34 = .ok (.getfield 208, 3) := by decide +kernel
theorem dX7_idle_37 : decode cX7_idle 37 = .ok (.if_icmp .ge 63, 3) := by decide +kernel
theorem dX7_idle_40 : decode cX7_idle 40 = .ok (.aload_n 0, 1) := by decide +kernel
theorem dX7_idle_41 : decode cX7_idle 41 = .ok (.getfield 40, 3) := by decide +kernel
theorem dX7_idle_44 : decode cX7_idle 44 = .ok (.getfield 69, 3) := by decide +kernel
theorem dX7_idle_47 : decode cX7_idle 47 = .ok (.aload_n 1, 1) := by decide +kernel
theorem dX7_idle_48 : decode cX7_idle 48 = .ok (.invokevirtual 224, 3) := by decide +kernel
theorem dX7_idle_51 : decode cX7_idle 51 = .ok (.aload_n 0, 1) := by decide +kernel
theorem dX7_idle_52 : decode cX7_idle 52 = .ok (.getfield 40, 3) := by decide +kernel
theorem dX7_idle_55 : decode cX7_idle 55 = .ok (.getfield 69, 3) := by decide +kernel
theorem dX7_idle_58 : decode cX7_idle 58 = .ok (.iload_n 3, 1) := by decide +kernel
theorem dX7_idle_59 : decode cX7_idle 59 = .ok (.invokevirtual 234, 3) := by decide +kernel
theorem dX7_idle_62 : decode cX7_idle 62 = .ok (.aload_n 0, 1) := by decide +kernel
theorem dX7_idle_63 : decode cX7_idle 63 = .ok (.getfield 40, 3) := by decide +kernel
theorem dX7_idle_66 : decode cX7_idle 66 = .ok (.invokevirtual 76, 3) := by decide +kernel
theorem dX7_idle_69 : decode cX7_idle 69 = .ok (.aload_n 0, 1) := by decide +kernel
theorem dX7_idle_70 : decode cX7_idle 70 = .ok (.getfield 40, 3) := by decide +kernel
theorem dX7_idle_73 : decode cX7_idle 73 = .ok (.aload_n 0, 1) := by decide +kernel
theorem dX7_idle_74 : decode cX7_idle 74 = .ok (.getfield 19, 3) := by decide +kernel
theorem dX7_idle_77 : decode cX7_idle 77 = .ok (.invokevirtual 230, 3) := by decide +kernel
theorem dX7_idle_80 : decode cX7_idle 80 = .ok (.ifCond .eq 14, 3) := by decide +kernel
theorem dX7_idle_83 : decode cX7_idle 83 = .ok (.iload_n 2, 1) := by decide +kernel
theorem dX7_idle_84 : decode cX7_idle 84 = .ok (.iconst 1, 1) := by decide +kernel
theorem dX7_idle_85 : decode cX7_idle 85 = .ok (.aload_n 1, 1) := by decide +kernel
theorem dX7_idle_86 : decode cX7_idle 86 = .ok (.getfield 237, 3) := by decide +kernel
theorem dX7_idle_89 : decode cX7_idle 89 = .ok (.iload_n 3, 1) := by decide +kernel
theorem dX7_idle_90 : decode cX7_idle 90 = .ok (.iaload, 1) := by decide +kernel
theorem dX7_idle_91 : decode cX7_idle 91 = .ok (.ishl, 1) := by decide +kernel
theorem dX7_idle_92 : decode cX7_idle 92 = .ok (.ior, 1) := by decide +kernel
theorem dX7_idle_93 : decode cX7_idle 93 = .ok (.istore_n 2, 1) := by decide +kernel
theorem dX7_idle_94 : decode cX7_idle 94 = .ok (.iinc 3 1, 3) := by decide +kernel
theorem dX7_idle_97 : decode cX7_idle 97 = .ok (.goto (-65), 3) := by decide +kernel
theorem dX7_idle_100 : decode cX7_idle 100 = .ok (.iload_n 2, 1) := by decide +kernel
theorem dX7_idle_101 : decode cX7_idle 101 = .ok (.ireturn, 1) := by decide +kernel
theorem dX7_free_0 : decode cX7_free 0 = .ok (.aload_n 0, 1) := by decide +kernel
theorem dX7_free_1 : decode cX7_free 1 = .ok (.invokevirtual 182, 3) := by decide +kernel
theorem dX7_free_4 : decode cX7_free 4 = .ok (.ifCond .eq 6, 3) := by decide +kernel
theorem dX7_free_7 : decode cX7_free 7 = .ok (.bipush (-103), 2) := by decide +kernel
theorem dX7_free_9 : decode cX7_free 9 = .ok (.ireturn, 1) := by decide +kernel
theorem dX7_free_10 : decode cX7_free 10 = .ok (.aload_n 0, 1) := by decide +kernel
theorem dX7_free_11 : decode cX7_free 11 = .ok (.getfield 19, 3) := by decide +kernel
theorem dX7_free_14 : decode cX7_free 14 = .ok (.getfield 69, 3) := by decide +kernel
theorem dX7_free_17 : decode cX7_free 17 = .ok (.getfield 87, 3) := by decide +kernel
theorem dX7_free_20 : decode cX7_free 20 = .ok (.iconst 1, 1) := by decide +kernel
theorem dX7_free_21 : decode cX7_free 21 = .ok (.if_icmp .ne 5, 3) := by decide +kernel
theorem dX7_free_24 : decode cX7_free 24 = .ok (.iconst (-1), 1) := by decide +kernel
theorem dX7_free_25 : decode cX7_free 25 = .ok (.ireturn, 1) := by decide +kernel
theorem dX7_free_26 : decode cX7_free 26 = .ok (.iconst (-1), 1) := by decide +kernel
theorem dX7_free_27 : decode cX7_free 27 = .ok (.istore_n 1, 1) := by decide +kernel
theorem dX7_free_28 : decode cX7_free 28 = .ok (.iconst (-1), 1) := by decide +kernel
theorem dX7_free_29 : decode cX7_free 29 = .ok (.istore_n 2, 1) := by decide +kernel
theorem dX7_free_30 : decode cX7_free 30 = .ok (.iconst 0, 1) := by decide +kernel
theorem dX7_free_31 : decode cX7_free 31 = .ok (.istore_n 3, 1) := by decide +kernel
theorem dX7_free_32 : decode cX7_free 32 = .ok (.iload_n 3, 1) := by decide +kernel
theorem dX7_free_33 : decode cX7_free 33 = .ok (.aload_n 0, 1) := by decide +kernel
theorem dX7_free_34 : decode cX7_free 34 = .ok (.getfield 19, 3) := by decide +kernel
theorem dX7_free_37 : decode cX7_free 37 = .ok (.getfield 69, 3) := by decide +kernel
theorem dX7_free_40 : decode cX7_free 40 = .ok (.getfield 87, 3) := by decide +kernel
theorem dX7_free_43 : decode cX7_free 43 = .ok (.if_icmp .ge 61, 3) := by decide +kernel
theorem dX7_free_46 : decode cX7_free 46 = .ok (.aload_n 0, 1) := by decide +kernel
theorem dX7_free_47 : decode cX7_free 47 = .ok (.getfield 40, 3) := by decide +kernel
theorem dX7_free_50 : decode cX7_free 50 = .ok (.getfield 69, 3) := by decide +kernel
theorem dX7_free_53 : decode cX7_free 53 = .ok (.aload_n 0, 1) := by decide +kernel
theorem dX7_free_54 : decode cX7_free 54 = .ok (.getfield 19, 3) := by decide +kernel
theorem dX7_free_57 : decode cX7_free 57 = .ok (.getfield 69, 3) := by decide +kernel
theorem dX7_free_60 : decode cX7_free 60 = .ok (.iload_n 3, 1) := by decide +kernel
theorem dX7_free_61 : decode cX7_free 61 = .ok (.invokevirtual 217, 3) := by decide +kernel
theorem dX7_free_64 : decode cX7_free 64 = .ok (.aload_n 0, 1) := by decide +kernel
theorem dX7_free_65 : decode cX7_free 65 = .ok (.getfield 40, 3) := by decide +kernel
theorem dX7_free_68 : decode cX7_free 68 = .ok (.invokevirtual 76, 3) := by decide +kernel
theorem dX7_free_71 : decode cX7_free 71 = .ok (.aload_n 0, 1) := by decide +kernel
theorem dX7_free_72 : decode cX7_free 72 = .ok (.getfield 40, 3) := by decide +kernel
theorem dX7_free_75 : decode cX7_free 75 = .ok (.getfield 139, 3) := by decide +kernel
theorem dX7_free_78 : decode cX7_free 78 = .ok (.getfield 143, 3) := by decide +kernel
theorem dX7_free_81 : decode cX7_free 81 = .ok (.iload_n 2, 1) := by decide +kernel
theorem dX7_free_82 : decode cX7_free 82 = .ok (.if_icmp .le 16, 3) := by decide +kernel
theorem dX7_free_85 : decode cX7_free 85 = .ok (.aload_n 0, 1) := by decide +kernel
theorem dX7_free_86 : decode cX7_free 86 = .ok (.getfield 40, 3) := by decide +kernel
theorem dX7_free_89 : decode cX7_free 89 = .ok (.getfield 139, 3) := by decide +kernel
theorem dX7_free_92 : decode cX7_free 92 = .ok (.getfield 143, 3) := by decide +kernel
theorem dX7_free_95 : decode cX7_free 95 = .ok (.istore_n 2, 1) := by decide +kernel
theorem dX7_free_96 : decode cX7_free 96 = .ok (.iload_n 3, 1) := by decide +kernel
theorem dX7_free_97 : decode cX7_free 97 = .ok (.istore_n 1, 1) := by decide +kernel
theorem dX7_free_98 : decode cX7_free 98 = .ok (.iinc 3 1, 3) := by decide +kernel
theorem dX7_free_101 : decode cX7_free 101 = .ok (.goto (-69), 3) := by decide +kernel
theorem dX7_free_104 : decode cX7_free 104 = .ok (.iload_n 1, 1) := by decide +kernel
theorem dX7_free_105 : decode cX7_free 105 = .ok (.ireturn, 1) := by decide +kernel
theorem dX7_see_0 : decode cX7_see 0 = .ok (.aload_n 0, 1) := by decide +kernel
theorem dX7_see_1 : decode cX7_see 1 = .ok (.getfield 19, 3) := by decide +kernel
theorem dX7_see_4 : decode cX7_see 4 = .ok (.getfield 69, 3) := by decide +kernel
theorem dX7_see_7 : decode cX7_see 7 = .ok (.iload_n 1, 1) := by decide +kernel
theorem dX7_see_8 : decode cX7_see 8 = .ok (.invokevirtual 90, 3) := by decide +kernel
theorem dX7_see_11 : decode cX7_see 11 = .ok (.ifCond .ne 6, 3) := by decide +kernel
theorem dX7_see_14 : decode cX7_see 14 = .ok (.bipush (-101), 2) := by decide +kernel
theorem dX7_see_16 : decode cX7_see 16 = .ok (.ireturn, 1) := by decide +kernel
theorem dX7_see_17 : decode cX7_see 17 = .ok (.iload_n 2, 1) := by decide +kernel
theorem dX7_see_18 : decode cX7_see 18 = .ok (.ifCond .lt 8, 3) := by decide +kernel
theorem dX7_see_21 : decode cX7_see 21 = .ok (.iload_n 2, 1) := by decide +kernel
theorem dX7_see_22 : decode cX7_see 22 = .ok (.iconst 4, 1) := by decide +kernel
theorem dX7_see_23 : decode cX7_see 23 = .ok (.if_icmp .lt 6, 3) := by decide +kernel
theorem dX7_see_26 : decode cX7_see 26 = .ok (.bipush (-102), 2) := by decide +kernel
theorem dX7_see_28 : decode cX7_see 28 = .ok (.ireturn, 1) := by decide +kernel
theorem dX7_see_29 : decode cX7_see 29 = .ok (.aload_n 0, 1) := by decide +kernel
theorem dX7_see_30 : decode cX7_see 30 = .ok (.getfield 26, 3) := by decide +kernel
theorem dX7_see_33 : decode cX7_see 33 = .ok (.getfield 240, 3) := by decide +kernel
theorem dX7_see_36 : decode cX7_see 36 = .ok (.bipush 6, 2) := by decide +kernel
theorem dX7_see_38 : decode cX7_see 38 = .ok (.if_icmp .lt 6, 3) := by decide +kernel
theorem dX7_see_41 : decode cX7_see 41 = .ok (.bipush (-104), 2) := by decide +kernel
theorem dX7_see_43 : decode cX7_see 43 = .ok (.ireturn, 1) := by decide +kernel
theorem dX7_see_44 : decode cX7_see 44 = .ok (.aload_n 0, 1) := by decide +kernel
theorem dX7_see_45 : decode cX7_see 45 = .ok (.getfield 26, 3) := by decide +kernel
theorem dX7_see_48 : decode cX7_see 48 = .ok (.iload_n 1, 1) := by decide +kernel
theorem dX7_see_49 : decode cX7_see 49 = .ok (.iload_n 2, 1) := by decide +kernel
theorem dX7_see_50 : decode cX7_see 50 = .ok (.iload_n 3, 1) := by decide +kernel
theorem dX7_see_51 : decode cX7_see 51 = .ok (.invokevirtual 241, 3) := by decide +kernel
theorem dX7_see_54 : decode cX7_see 54 = .ok (.aload_n 0, 1) := by decide +kernel
theorem dX7_see_55 : decode cX7_see 55 = .ok (.getfield 26, 3) := by decide +kernel
theorem dX7_see_58 : decode cX7_see 58 = .ok (.getfield 240, 3) := by decide +kernel
theorem dX7_see_61 : decode cX7_see 61 = .ok (.ireturn, 1) := by decide +kernel
theorem dX7_forget_0 : decode cX7_forget 0 = .ok (.aload_n 0, 1) := by decide +kernel
theorem dX7_forget_1 : decode cX7_forget 1 = .ok (.getfield 26, 3) := by decide +kernel
theorem dX7_forget_4 : decode cX7_forget 4 = .ok (.getfield 240, 3) := by decide +kernel
theorem dX7_forget_7 : decode cX7_forget 7 = .ok (.istore_n 1, 1) := by decide +kernel
theorem dX7_forget_8 : decode cX7_forget 8 = .ok (.aload_n 0, 1) := by decide +kernel
theorem dX7_forget_9 : decode cX7_forget 9 = .ok (.getfield 26, 3) := by decide +kernel
theorem dX7_forget_12 : decode cX7_forget 12 = .ok (.invokevirtual 79, 3) := by decide +kernel
theorem dX7_forget_15 : decode cX7_forget 15 = .ok (.iload_n 1, 1) := by decide +kernel
theorem dX7_forget_16 : decode cX7_forget 16 = .ok (.ireturn, 1) := by decide +kernel
theorem dX7_drawn_0 : decode cX7_drawn 0 = .ok (.iload_n 1, 1) := by decide +kernel
theorem dX7_drawn_1 : decode cX7_drawn 1 = .ok (.iconst 1, 1) := by decide +kernel
theorem dX7_drawn_2 : decode cX7_drawn 2 = .ok (.if_icmp .lt 22, 3) := by decide +kernel
theorem dX7_drawn_5 : decode cX7_drawn 5 = .ok (.iload_n 1, 1) := by decide +kernel
theorem dX7_drawn_6 : decode cX7_drawn 6 = .ok (.bipush 20, 2) := by decide +kernel
theorem dX7_drawn_8 : decode cX7_drawn 8 = .ok (.if_icmp .gt 16, 3) := by decide +kernel
theorem dX7_drawn_11 : decode cX7_drawn 11 = .ok (.iload_n 2, 1) := by decide +kernel
theorem dX7_drawn_12 : decode cX7_drawn 12 = .ok (.ifCond .lt 12, 3) := by decide +kernel
theorem dX7_drawn_15 : decode cX7_drawn 15 = .ok (.iload_n 3, 1) := by decide +kernel
theorem dX7_drawn_16 : decode cX7_drawn 16 = .ok (.ifCond .lt 8, 3) := by decide +kernel
theorem dX7_drawn_19 : decode cX7_drawn 19 = .ok (.iload_n 3, 1) := by decide +kernel
theorem dX7_drawn_20 : decode cX7_drawn 20 = .ok (.iconst 2, 1) := by decide +kernel
theorem dX7_drawn_21 : decode cX7_drawn 21 = .ok (.if_icmp .le 6, 3) := by decide +kernel
theorem dX7_drawn_24 : decode cX7_drawn 24 = .ok (.bipush (-102), 2) := by decide +kernel
theorem dX7_drawn_26 : decode cX7_drawn 26 = .ok (.ireturn, 1) := by decide +kernel
theorem dX7_drawn_27 : decode cX7_drawn 27 = .ok (.aload_n 0, 1) := by decide +kernel
theorem dX7_drawn_28 : decode cX7_drawn 28 = .ok (.getfield 46, 3) := by decide +kernel
theorem dX7_drawn_31 : decode cX7_drawn 31 = .ok (.iload_n 2, 1) := by decide +kernel
theorem dX7_drawn_32 : decode cX7_drawn 32 = .ok (.putfield 244, 3) := by decide +kernel
theorem dX7_drawn_35 : decode cX7_drawn 35 = .ok (.iconst 0, 1) := by decide +kernel
theorem dX7_drawn_36 : decode cX7_drawn 36 = .ok (.istore 4, 2) := by decide +kernel
theorem dX7_drawn_38 : decode cX7_drawn 38 = .ok (.iconst 0, 1) := by decide +kernel
theorem dX7_drawn_39 : decode cX7_drawn 39 = .ok (.istore 5, 2) := by decide +kernel
theorem dX7_drawn_41 : decode cX7_drawn 41 = .ok (.iconst 0, 1) := by decide +kernel
theorem dX7_drawn_42 : decode cX7_drawn 42 = .ok (.istore 6, 2) := by decide +kernel
theorem dX7_drawn_44 : decode cX7_drawn 44 = .ok (.iload 6, 2) := by decide +kernel
theorem dX7_drawn_46 : decode cX7_drawn 46 = .ok (.iload_n 1, 1) := by decide +kernel
theorem dX7_drawn_47 : decode cX7_drawn 47 = .ok (.if_icmp .ge 58, 3) := by decide +kernel
theorem dX7_drawn_50 : decode cX7_drawn 50 = .ok (.aload_n 0, 1) := by decide +kernel
theorem dX7_drawn_51 : decode cX7_drawn 51 = .ok (.getfield 46, 3) := by decide +kernel
theorem dX7_drawn_54 : decode cX7_drawn 54 = .ok (.aload_n 0, 1) := by decide +kernel
theorem dX7_drawn_55 : decode cX7_drawn 55 = .ok (.getfield 40, 3) := by decide +kernel
theorem dX7_drawn_58 : decode cX7_drawn 58 = .ok (.getfield 69, 3) := by decide +kernel
theorem dX7_drawn_61 : decode cX7_drawn 61 = .ok (.invokevirtual 247, 3) := by decide +kernel
theorem dX7_drawn_64 : decode cX7_drawn 64 = .ok (.aload_n 0, 1) := by decide +kernel
theorem dX7_drawn_65 : decode cX7_drawn 65 = .ok (.getfield 40, 3) := by decide +kernel
theorem dX7_drawn_68 : decode cX7_drawn 68 = .ok (.invokevirtual 76, 3) := by decide +kernel
theorem dX7_drawn_71 : decode cX7_drawn 71 = .ok (.iload 4, 2) := by decide +kernel
theorem dX7_drawn_73 : decode cX7_drawn 73 = .ok (.aload_n 0, 1) := by decide +kernel
theorem dX7_drawn_74 : decode cX7_drawn 74 = .ok (.getfield 40, 3) := by decide +kernel
theorem dX7_drawn_77 : decode cX7_drawn 77 = .ok (.getfield 139, 3) := by decide +kernel
theorem dX7_drawn_80 : decode cX7_drawn 80 = .ok (.getfield 143, 3) := by decide +kernel
theorem dX7_drawn_83 : decode cX7_drawn 83 = .ok (.iadd, 1) := by decide +kernel
theorem dX7_drawn_84 : decode cX7_drawn 84 = .ok (.istore 4, 2) := by decide +kernel
theorem dX7_drawn_86 : decode cX7_drawn 86 = .ok (.aload_n 0, 1) := by decide +kernel
theorem dX7_drawn_87 : decode cX7_drawn 87 = .ok (.getfield 40, 3) := by decide +kernel
theorem dX7_drawn_90 : decode cX7_drawn 90 = .ok (.invokevirtual 250, 3) := by decide +kernel
theorem dX7_drawn_93 : decode cX7_drawn 93 = .ok (.ifCond .eq 6, 3) := by decide +kernel
theorem dX7_drawn_96 : decode cX7_drawn 96 = .ok (.iinc 5 1, 3) := by decide +kernel
theorem dX7_drawn_99 : decode cX7_drawn 99 = .ok (.iinc 6 1, 3) := by decide +kernel
theorem dX7_drawn_102 : decode cX7_drawn 102 = .ok (.goto (-58), 3) := by decide +kernel
theorem dX7_drawn_105 : decode cX7_drawn 105 = .ok (.iload_n 3, 1) := by decide +kernel
theorem dX7_drawn_106 : decode cX7_drawn 106 = .ok (.lookupswitch 32 #[(0, 26), (1, 29)], 26) := by decide +kernel
theorem dX7_drawn_132 : decode cX7_drawn 132 = .ok (.iload 4, 2) := by decide +kernel
theorem dX7_drawn_134 : decode cX7_drawn 134 = .ok (.ireturn, 1) := by decide +kernel
theorem dX7_drawn_135 : decode cX7_drawn 135 = .ok (.iload 5, 2) := by decide +kernel
theorem dX7_drawn_137 : decode cX7_drawn 137 = .ok (.ireturn, 1) := by decide +kernel
theorem dX7_drawn_138 : decode cX7_drawn 138 = .ok (.aload_n 0, 1) := by decide +kernel
theorem dX7_drawn_139 : decode cX7_drawn 139 = .ok (.getfield 46, 3) := by decide +kernel
theorem dX7_drawn_142 : decode cX7_drawn 142 = .ok (.getfield 244, 3) := by decide +kernel
theorem dX7_drawn_145 : decode cX7_drawn 145 = .ok (.ireturn, 1) := by decide +kernel
theorem dX7_image_0 : decode cX7_image 0 = .ok (.aload_n 0, 1) := by decide +kernel
theorem dX7_image_1 : decode cX7_image 1 = .ok (.invokevirtual 182, 3) := by decide +kernel
theorem dX7_image_4 : decode cX7_image 4 = .ok (.ifCond .eq 6, 3) := by decide +kernel
theorem dX7_image_7 : decode cX7_image 7 = .ok (.bipush (-103), 2) := by decide +kernel
theorem dX7_image_9 : decode cX7_image 9 = .ok (.ireturn, 1) := by decide +kernel
theorem dX7_image_10 : decode cX7_image 10 = .ok (.aload_n 0, 1) := by decide +kernel
theorem dX7_image_11 : decode cX7_image 11 = .ok (.getfield 33, 3) := by decide +kernel
theorem dX7_image_14 : decode cX7_image 14 = .ok (.aload_n 0, 1) := by decide +kernel
theorem dX7_image_15 : decode cX7_image 15 = .ok (.getfield 19, 3) := by decide +kernel
theorem dX7_image_18 : decode cX7_image 18 = .ok (.getfield 69, 3) := by decide +kernel
theorem dX7_image_21 : decode cX7_image 21 = .ok (.invokevirtual 224, 3) := by decide +kernel
theorem dX7_image_24 : decode cX7_image 24 = .ok (.aload_n 0, 1) := by decide +kernel
theorem dX7_image_25 : decode cX7_image 25 = .ok (.getfield 37, 3) := by decide +kernel
theorem dX7_image_28 : decode cX7_image 28 = .ok (.aload_n 0, 1) := by decide +kernel
theorem dX7_image_29 : decode cX7_image 29 = .ok (.getfield 26, 3) := by decide +kernel
theorem dX7_image_32 : decode cX7_image 32 = .ok (.invokevirtual 253, 3) := by decide +kernel
theorem dX7_image_35 : decode cX7_image 35 = .ok (.aload_n 0, 1) := by decide +kernel
theorem dX7_image_36 : decode cX7_image 36 = .ok (.iconst 1, 1) := by decide +kernel
theorem dX7_image_37 : decode cX7_image 37 = .ok (.putfield 80, 3) := by decide +kernel
theorem dX7_image_40 : decode cX7_image 40 = .ok (.aload_n 0, 1) := by decide +kernel
theorem dX7_image_41 : decode cX7_image 41 = .ok (.getfield 33, 3) := by decide +kernel
theorem dX7_image_44 : decode cX7_image 44 = .ok (.getfield 87, 3) := by decide +kernel
theorem dX7_image_47 : decode cX7_image 47 = .ok (.ireturn, 1) := by decide +kernel
theorem dX7_restore_0 : decode cX7_restore 0 = .ok (.aload_n 0, 1) := by decide +kernel
theorem dX7_restore_1 : decode cX7_restore 1 = .ok (.getfield 80, 3) := by decide +kernel
theorem dX7_restore_4 : decode cX7_restore 4 = .ok (.ifCond .ne 6, 3) := by decide +kernel
theorem dX7_restore_7 : decode cX7_restore 7 = .ok (.bipush (-103), 2) := by decide +kernel
theorem dX7_restore_9 : decode cX7_restore 9 = .ok (.ireturn, 1) := by decide +kernel
theorem dX7_restore_10 : decode cX7_restore 10 = .ok (.aload_n 0, 1) := by decide +kernel
theorem dX7_restore_11 : decode cX7_restore 11 = .ok (.getfield 19, 3) := by decide +kernel
theorem dX7_restore_14 : decode cX7_restore 14 = .ok (.getfield 69, 3) := by decide +kernel
theorem dX7_restore_17 : decode cX7_restore 17 = .ok (.aload_n 0, 1) := by decide +kernel
theorem dX7_restore_18 : decode cX7_restore 18 = .ok (.getfield 33, 3) := by decide +kernel
theorem dX7_restore_21 : decode cX7_restore 21 = .ok (.invokevirtual 224, 3) := by decide +kernel
theorem dX7_restore_24 : decode cX7_restore 24 = .ok (.aload_n 0, 1) := by decide +kernel
theorem dX7_restore_25 : decode cX7_restore 25 = .ok (.getfield 19, 3) := by decide +kernel
theorem dX7_restore_28 : decode cX7_restore 28 = .ok (.invokevirtual 76, 3) := by decide +kernel
theorem dX7_restore_31 : decode cX7_restore 31 = .ok (.aload_n 0, 1) := by decide +kernel
theorem dX7_restore_32 : decode cX7_restore 32 = .ok (.getfield 26, 3) := by decide +kernel
theorem dX7_restore_35 : decode cX7_restore 35 = .ok (.aload_n 0, 1) := by decide +kernel
theorem dX7_restore_36 : decode cX7_restore 36 = .ok (.getfield 37, 3) := by decide +kernel
theorem dX7_restore_39 : decode cX7_restore 39 = .ok (.invokevirtual 253, 3) := by decide +kernel
theorem dX7_restore_42 : decode cX7_restore 42 = .ok (.aload_n 0, 1) := by decide +kernel
theorem dX7_restore_43 : decode cX7_restore 43 = .ok (.getfield 19, 3) := by decide +kernel
theorem dX7_restore_46 : decode cX7_restore 46 = .ok (.getfield 69, 3) := by decide +kernel
theorem dX7_restore_49 : decode cX7_restore 49 = .ok (.getfield 87, 3) := by decide +kernel
theorem dX7_restore_52 : decode cX7_restore 52 = .ok (.ireturn, 1) := by decide +kernel
theorem dX7_count_0 : decode cX7_count 0 = .ok (.iload_n 1, 1) := by decide +kernel
theorem dX7_count_1 : decode cX7_count 1 = .ok (.tableswitch 128 0 7 #[47, 58, 69, 77, 88, 107, 115, 123], 47) := by decide +kernel
theorem dX7_count_48 : decode cX7_count 48 = .ok (.aload_n 0, 1) := by decide +kernel
theorem dX7_count_49 : decode cX7_count 49 = .ok (.getfield 19, 3) := by decide +kernel
theorem dX7_count_52 : decode cX7_count 52 = .ok (.getfield 69, 3) := by decide +kernel
theorem dX7_count_55 : decode cX7_count 55 = .ok (.getfield 87, 3) := by decide +kernel
theorem dX7_count_58 : decode cX7_count 58 = .ok (.ireturn, 1) := by decide +kernel
theorem dX7_count_59 : decode cX7_count 59 = .ok (.aload_n 0, 1) := by decide +kernel
theorem dX7_count_60 : decode cX7_count 60 = .ok (.getfield 19, 3) := by decide +kernel
theorem dX7_count_63 : decode cX7_count 63 = .ok (.getfield 139, 3) := by decide +kernel
theorem dX7_count_66 : decode cX7_count 66 = .ok (.getfield 143, 3) := by decide +kernel
theorem dX7_count_69 : decode cX7_count 69 = .ok (.ireturn, 1) := by decide +kernel
theorem dX7_count_70 : decode cX7_count 70 = .ok (.aload_n 0, 1) := by decide +kernel
theorem dX7_count_71 : decode cX7_count 71 = .ok (.getfield 19, 3) := by decide +kernel
theorem dX7_count_74 : decode cX7_count 74 = .ok (.getfield 256, 3) := by decide +kernel
theorem dX7_count_77 : decode cX7_count 77 = .ok (.ireturn, 1) := by decide +kernel
theorem dX7_count_78 : decode cX7_count 78 = .ok (.aload_n 0, 1) := by decide +kernel
theorem dX7_count_79 : decode cX7_count 79 = .ok (.getfield 19, 3) := by decide +kernel
theorem dX7_count_82 : decode cX7_count 82 = .ok (.getfield 69, 3) := by decide +kernel
theorem dX7_count_85 : decode cX7_count 85 = .ok (.getfield 208, 3) := by decide +kernel
theorem dX7_count_88 : decode cX7_count 88 = .ok (.ireturn, 1) := by decide +kernel
theorem dX7_count_89 : decode cX7_count 89 = .ok (.aload_n 0, 1) := by decide +kernel
theorem dX7_count_90 : decode cX7_count 90 = .ok (.getfield 19, 3) := by decide +kernel
theorem dX7_count_93 : decode cX7_count 93 = .ok (.getfield 69, 3) := by decide +kernel
theorem dX7_count_96 : decode cX7_count 96 = .ok (.getfield 87, 3) := by decide +kernel
theorem dX7_count_99 : decode cX7_count 99 = .ok (.aload_n 0, 1) := by decide +kernel
theorem dX7_count_100 : decode cX7_count 100 = .ok (.getfield 19, 3) := by decide +kernel
theorem dX7_count_103 : decode cX7_count 103 = .ok (.getfield 161, 3) := by decide +kernel
theorem dX7_count_106 : decode cX7_count 106 = .ok (.isub, 1) := by decide +kernel
theorem dX7_count_107 : decode cX7_count 107 = .ok (.ireturn, 1) := by decide +kernel
theorem dX7_count_108 : decode cX7_count 108 = .ok (.aload_n 0, 1) := by decide +kernel
theorem dX7_count_109 : decode cX7_count 109 = .ok (.getfield 26, 3) := by decide +kernel
theorem dX7_count_112 : decode cX7_count 112 = .ok (.getfield 240, 3) := by decide +kernel
theorem dX7_count_115 : decode cX7_count 115 = .ok (.ireturn, 1) := by decide +kernel
theorem dX7_count_116 : decode cX7_count 116 = .ok (.aload_n 0, 1) := by decide +kernel
theorem dX7_count_117 : decode cX7_count 117 = .ok (.getfield 12, 3) := by decide +kernel
theorem dX7_count_120 : decode cX7_count 120 = .ok (.getfield 50, 3) := by decide +kernel
theorem dX7_count_123 : decode cX7_count 123 = .ok (.ireturn, 1) := by decide +kernel
theorem dX7_count_124 : decode cX7_count 124 = .ok (.aload_n 0, 1) := by decide +kernel
theorem dX7_count_125 : decode cX7_count 125 = .ok (.getfield 84, 3) := by decide +kernel
theorem dX7_count_128 : decode cX7_count 128 = .ok (.ireturn, 1) := by decide +kernel
theorem dX7_count_129 : decode cX7_count 129 = .ok (.bipush (-102), 2) := by decide +kernel
theorem dX7_count_131 : decode cX7_count 131 = .ok (.ireturn, 1) := by decide +kernel
theorem dX7_digest_0 : decode cX7_digest 0 = .ok (.ldc2_w 259, 3) := by decide +kernel
theorem dX7_digest_3 : decode cX7_digest 3 = .ok (.lstore_n 1, 1) := by decide +kernel
theorem dX7_digest_4 : decode cX7_digest 4 = .ok (.iconst 0, 1) := by decide +kernel
theorem dX7_digest_5 : decode cX7_digest 5 = .ok (.istore_n 3, 1) := by decide +kernel
theorem dX7_digest_6 : decode cX7_digest 6 = .ok (.iload_n 3, 1) := by decide +kernel
theorem dX7_digest_7 : decode cX7_digest 7 = .ok (.aload_n 0, 1) := by decide +kernel
theorem dX7_digest_8 : decode cX7_digest 8 = .ok (.getfield 19, 3) := by decide +kernel
theorem dX7_digest_11 : decode cX7_digest 11 = .ok (.getfield 69, 3) := by decide +kernel
theorem dX7_digest_14 : decode cX7_digest 14 = .ok (.getfield 87, 3) := by decide +kernel
theorem dX7_digest_17 : decode cX7_digest 17 = .ok (.if_icmp .ge 40, 3) := by decide +kernel
theorem dX7_digest_20 : decode cX7_digest 20 = .ok (.iconst 0, 1) := by decide +kernel
theorem dX7_digest_21 : decode cX7_digest 21 = .ok (.istore 4, 2) := by decide +kernel
theorem dX7_digest_23 : decode cX7_digest 23 = .ok (.iload 4, 2) := by decide +kernel
theorem dX7_digest_25 : decode cX7_digest 25 = .ok (.bipush 9, 2) := by decide +kernel
theorem dX7_digest_27 : decode cX7_digest 27 = .ok (.if_icmp .gt 24, 3) := by decide +kernel
theorem dX7_digest_30 : decode cX7_digest 30 = .ok (.ldc2_w 261, 3) := by decide +kernel
theorem dX7_digest_33 : decode cX7_digest 33 = .ok (.lload_n 1, 1) := by decide +kernel
theorem dX7_digest_34 : decode cX7_digest 34 = .ok (.lmul, 1) := by decide +kernel
theorem dX7_digest_35 : decode cX7_digest 35 = .ok (.aload_n 0, 1) := by decide +kernel
theorem dX7_digest_36 : decode cX7_digest 36 = .ok (.iload_n 3, 1) := by decide +kernel
theorem dX7_digest_37 : decode cX7_digest 37 = .ok (.iload 4, 2) := by decide +kernel
theorem dX7_digest_39 : decode cX7_digest 39 = .ok (.invokevirtual 263, 3) := by decide +kernel
theorem dX7_digest_42 : decode cX7_digest 42 = .ok (.i2l, 1) := by decide +kernel
theorem dX7_digest_43 : decode cX7_digest 43 = .ok (.ladd, 1) := by decide +kernel
theorem dX7_digest_44 : decode cX7_digest 44 = .ok (.lstore_n 1, 1) := by decide +kernel
theorem dX7_digest_45 : decode cX7_digest 45 = .ok (.iinc 4 1, 3) := by decide +kernel
theorem dX7_digest_48 : decode cX7_digest 48 = .ok (.goto (-25), 3) := by decide +kernel
theorem dX7_digest_51 : decode cX7_digest 51 = .ok (.iinc 3 1, 3) := by decide +kernel
theorem dX7_digest_54 : decode cX7_digest 54 = .ok (.goto (-48), 3) := by decide +kernel
theorem dX7_digest_57 : decode cX7_digest 57 = .ok (.iconst 0, 1) := by decide +kernel
theorem dX7_digest_58 : decode cX7_digest 58 = .ok (.istore_n 3, 1) := by decide +kernel
theorem dX7_digest_59 : decode cX7_digest 59 = .ok (.iload_n 3, 1) := by decide +kernel
theorem dX7_digest_60 : decode cX7_digest 60 = .ok (.aload_n 0, 1) := by decide +kernel
theorem dX7_digest_61 : decode cX7_digest 61 = .ok (.getfield 19, 3) := by decide +kernel
theorem dX7_digest_64 : decode cX7_digest 64 = .ok (.getfield 133, 3) := by decide +kernel
theorem dX7_digest_67 : decode cX7_digest 67 = .ok (.if_icmp .ge 22, 3) := by decide +kernel
theorem dX7_digest_70 : decode cX7_digest 70 = .ok (.ldc2_w 261, 3) := by decide +kernel
theorem dX7_digest_73 : decode cX7_digest 73 = .ok (.lload_n 1, 1) := by decide +kernel
theorem dX7_digest_74 : decode cX7_digest 74 = .ok (.lmul, 1) := by decide +kernel
theorem dX7_digest_75 : decode cX7_digest 75 = .ok (.aload_n 0, 1) := by decide +kernel
theorem dX7_digest_76 : decode cX7_digest 76 = .ok (.iload_n 3, 1) := by decide +kernel
theorem dX7_digest_77 : decode cX7_digest 77 = .ok (.invokevirtual 266, 3) := by decide +kernel
theorem dX7_digest_80 : decode cX7_digest 80 = .ok (.i2l, 1) := by decide +kernel
theorem dX7_digest_81 : decode cX7_digest 81 = .ok (.ladd, 1) := by decide +kernel
theorem dX7_digest_82 : decode cX7_digest 82 = .ok (.lstore_n 1, 1) := by decide +kernel
theorem dX7_digest_83 : decode cX7_digest 83 = .ok (.iinc 3 1, 3) := by decide +kernel
theorem dX7_digest_86 : decode cX7_digest 86 = .ok (.goto (-27), 3) := by decide +kernel
theorem dX7_digest_89 : decode cX7_digest 89 = .ok (.iconst 0, 1) := by decide +kernel
theorem dX7_digest_90 : decode cX7_digest 90 = .ok (.istore_n 3, 1) := by decide +kernel
theorem dX7_digest_91 : decode cX7_digest 91 = .ok (.iload_n 3, 1) := by decide +kernel
theorem dX7_digest_92 : decode cX7_digest 92 = .ok (.aload_n 0, 1) := by decide +kernel
theorem dX7_digest_93 : decode cX7_digest 93 = .ok (.getfield 19, 3) := by decide +kernel
theorem dX7_digest_96 : decode cX7_digest 96 = .ok (.getfield 139, 3) := by decide +kernel
theorem dX7_digest_99 : decode cX7_digest 99 = .ok (.getfield 143, 3) := by decide +kernel
theorem dX7_digest_102 : decode cX7_digest 102 = .ok (.if_icmp .ge 39, 3) := by decide +kernel
theorem dX7_digest_105 : decode cX7_digest 105 = .ok (.iconst 0, 1) := by decide +kernel
theorem dX7_digest_106 : decode cX7_digest 106 = .ok (.istore 4, 2) := by decide +kernel
theorem dX7_digest_108 : decode cX7_digest 108 = .ok (.iload 4, 2) := by decide +kernel
theorem dX7_digest_110 : decode cX7_digest 110 = .ok (.iconst 4, 1) := by decide +kernel
theorem dX7_digest_111 : decode cX7_digest 111 = .ok (.if_icmp .gt 24, 3) := by decide +kernel
theorem dX7_digest_114 : decode cX7_digest 114 = .ok (.ldc2_w 261, 3) := by decide +kernel
theorem dX7_digest_117 : decode cX7_digest 117 = .ok (.lload_n 1, 1) := by decide +kernel
theorem dX7_digest_118 : decode cX7_digest 118 = .ok (.lmul, 1) := by decide +kernel
theorem dX7_digest_119 : decode cX7_digest 119 = .ok (.aload_n 0, 1) := by decide +kernel
theorem dX7_digest_120 : decode cX7_digest 120 = .ok (.iload_n 3, 1) := by decide +kernel
theorem dX7_digest_121 : decode cX7_digest 121 = .ok (.iload 4, 2) := by decide +kernel
theorem dX7_digest_123 : decode cX7_digest 123 = .ok (.invokevirtual 268, 3) := by decide +kernel
theorem dX7_digest_126 : decode cX7_digest 126 = .ok (.i2l, 1) := by decide +kernel
theorem dX7_digest_127 : decode cX7_digest 127 = .ok (.ladd, 1) := by decide +kernel
theorem dX7_digest_128 : decode cX7_digest 128 = .ok (.lstore_n 1, 1) := by decide +kernel
theorem dX7_digest_129 : decode cX7_digest 129 = .ok (.iinc 4 1, 3) := by decide +kernel
theorem dX7_digest_132 : decode cX7_digest 132 = .ok (.goto (-24), 3) := by decide +kernel
theorem dX7_digest_135 : decode cX7_digest 135 = .ok (.iinc 3 1, 3) := by decide +kernel
theorem dX7_digest_138 : decode cX7_digest 138 = .ok (.goto (-47), 3) := by decide +kernel
theorem dX7_digest_141 : decode cX7_digest 141 = .ok (.aload_n 0, 1) := by decide +kernel
theorem dX7_digest_142 : decode cX7_digest 142 = .ok (.invokevirtual 182, 3) := by decide +kernel
theorem dX7_digest_145 : decode cX7_digest 145 = .ok (.ifCond .ne 27, 3) := by decide +kernel
theorem dX7_digest_148 : decode cX7_digest 148 = .ok (.ldc2_w 261, 3) := by decide +kernel
theorem dX7_digest_151 : decode cX7_digest 151 = .ok (.lload_n 1, 1) := by decide +kernel
theorem dX7_digest_152 : decode cX7_digest 152 = .ok (.lmul, 1) := by decide +kernel
theorem dX7_digest_153 : decode cX7_digest 153 = .ok (.aload_n 0, 1) := by decide +kernel
theorem dX7_digest_154 : decode cX7_digest 154 = .ok (.invokevirtual 271, 3) := by decide +kernel
theorem dX7_digest_157 : decode cX7_digest 157 = .ok (.i2l, 1) := by decide +kernel
theorem dX7_digest_158 : decode cX7_digest 158 = .ok (.ladd, 1) := by decide +kernel
theorem dX7_digest_159 : decode cX7_digest 159 = .ok (.lstore_n 1, 1) := by decide +kernel
theorem dX7_digest_160 : decode cX7_digest 160 = .ok (.ldc2_w 261, 3) := by decide +kernel
theorem dX7_digest_163 : decode cX7_digest 163 = .ok (.lload_n 1, 1) := by decide +kernel
theorem dX7_digest_164 : decode cX7_digest 164 = .ok (.lmul, 1) := by decide +kernel
theorem dX7_digest_165 : decode cX7_digest 165 = .ok (.aload_n 0, 1) := by decide +kernel
theorem dX7_digest_166 : decode cX7_digest 166 = .ok (.invokevirtual 274, 3) := by decide +kernel
theorem dX7_digest_169 : decode cX7_digest 169 = .ok (.i2l, 1) := by decide +kernel
theorem dX7_digest_170 : decode cX7_digest 170 = .ok (.ladd, 1) := by decide +kernel
theorem dX7_digest_171 : decode cX7_digest 171 = .ok (.lstore_n 1, 1) := by decide +kernel
theorem dX7_digest_172 : decode cX7_digest 172 = .ok (.iconst 0, 1) := by decide +kernel
theorem dX7_digest_173 : decode cX7_digest 173 = .ok (.istore_n 3, 1) := by decide +kernel
theorem dX7_digest_174 : decode cX7_digest 174 = .ok (.iload_n 3, 1) := by decide +kernel
theorem dX7_digest_175 : decode cX7_digest 175 = .ok (.aload_n 0, 1) := by decide +kernel
theorem dX7_digest_176 : decode cX7_digest 176 = .ok (.getfield 12, 3) := by decide +kernel
theorem dX7_digest_179 : decode cX7_digest 179 = .ok (.getfield 50, 3) := by decide +kernel
theorem dX7_digest_182 : decode cX7_digest 182 = .ok (.if_icmp .ge 26, 3) := by decide +kernel
theorem dX7_digest_185 : decode cX7_digest 185 = .ok (.ldc2_w 261, 3) := by decide +kernel
theorem dX7_digest_188 : decode cX7_digest 188 = .ok (.lload_n 1, 1) := by decide +kernel
theorem dX7_digest_189 : decode cX7_digest 189 = .ok (.lmul, 1) := by decide +kernel
theorem dX7_digest_190 : decode cX7_digest 190 = .ok (.aload_n 0, 1) := by decide +kernel
theorem dX7_digest_191 : decode cX7_digest 191 = .ok (.getfield 12, 3) := by decide +kernel
theorem dX7_digest_194 : decode cX7_digest 194 = .ok (.getfield 277, 3) := by decide +kernel
theorem dX7_digest_197 : decode cX7_digest 197 = .ok (.iload_n 3, 1) := by decide +kernel
theorem dX7_digest_198 : decode cX7_digest 198 = .ok (.iaload, 1) := by decide +kernel
theorem dX7_digest_199 : decode cX7_digest 199 = .ok (.i2l, 1) := by decide +kernel
theorem dX7_digest_200 : decode cX7_digest 200 = .ok (.ladd, 1) := by decide +kernel
theorem dX7_digest_201 : decode cX7_digest 201 = .ok (.lstore_n 1, 1) := by decide +kernel
theorem dX7_digest_202 : decode cX7_digest 202 = .ok (.iinc 3 1, 3) := by decide +kernel
theorem dX7_digest_205 : decode cX7_digest 205 = .ok (.goto (-31), 3) := by decide +kernel
theorem dX7_digest_208 : decode cX7_digest 208 = .ok (.iconst 0, 1) := by decide +kernel
theorem dX7_digest_209 : decode cX7_digest 209 = .ok (.istore_n 3, 1) := by decide +kernel
theorem dX7_digest_210 : decode cX7_digest 210 = .ok (.iload_n 3, 1) := by decide +kernel
theorem dX7_digest_211 : decode cX7_digest 211 = .ok (.bipush 7, 2) := by decide +kernel
theorem dX7_digest_213 : decode cX7_digest 213 = .ok (.if_icmp .gt 22, 3) := by decide +kernel
theorem dX7_digest_216 : decode cX7_digest 216 = .ok (.ldc2_w 261, 3) := by decide +kernel
theorem dX7_digest_219 : decode cX7_digest 219 = .ok (.lload_n 1, 1) := by decide +kernel
theorem dX7_digest_220 : decode cX7_digest 220 = .ok (.lmul, 1) := by decide +kernel
theorem dX7_digest_221 : decode cX7_digest 221 = .ok (.aload_n 0, 1) := by decide +kernel
theorem dX7_digest_222 : decode cX7_digest 222 = .ok (.iload_n 3, 1) := by decide +kernel
theorem dX7_digest_223 : decode cX7_digest 223 = .ok (.invokevirtual 280, 3) := by decide +kernel
theorem dX7_digest_226 : decode cX7_digest 226 = .ok (.i2l, 1) := by decide +kernel
theorem dX7_digest_227 : decode cX7_digest 227 = .ok (.ladd, 1) := by decide +kernel
theorem dX7_digest_228 : decode cX7_digest 228 = .ok (.lstore_n 1, 1) := by decide +kernel
theorem dX7_digest_229 : decode cX7_digest 229 = .ok (.iinc 3 1, 3) := by decide +kernel
theorem dX7_digest_232 : decode cX7_digest 232 = .ok (.goto (-22), 3) := by decide +kernel
theorem dX7_digest_235 : decode cX7_digest 235 = .ok (.lload_n 1, 1) := by decide +kernel
theorem dX7_digest_236 : decode cX7_digest 236 = .ok (.lreturn, 1) := by decide +kernel
theorem dX7_hasNoPage_0 : decode cX7_hasNoPage 0 = .ok (.aload_n 0, 1) := by decide +kernel
theorem dX7_hasNoPage_1 : decode cX7_hasNoPage 1 = .ok (.getfield 19, 3) := by decide +kernel
theorem dX7_hasNoPage_4 : decode cX7_hasNoPage 4 = .ok (.getfield 69, 3) := by decide +kernel
theorem dX7_hasNoPage_7 : decode cX7_hasNoPage 7 = .ok (.getfield 87, 3) := by decide +kernel
theorem dX7_hasNoPage_10 : decode cX7_hasNoPage 10 = .ok (.ifCond .ne 7, 3) := by decide +kernel
theorem dX7_hasNoPage_13 : decode cX7_hasNoPage 13 = .ok (.iconst 1, 1) := by decide +kernel
theorem dX7_hasNoPage_14 : decode cX7_hasNoPage 14 = .ok (.goto 4, 3) := by decide +kernel
theorem dX7_hasNoPage_17 : decode cX7_hasNoPage 17 = .ok (.iconst 0, 1) := by decide +kernel
theorem dX7_hasNoPage_18 : decode cX7_hasNoPage 18 = .ok (.ireturn, 1) := by decide +kernel
theorem dX7_isKind_0 : decode cX7_isKind 0 = .ok (.iload_n 0, 1) := by decide +kernel
theorem dX7_isKind_1 : decode cX7_isKind 1 = .ok (.ifCond .lt 12, 3) := by decide +kernel
theorem dX7_isKind_4 : decode cX7_isKind 4 = .ok (.iload_n 0, 1) := by decide +kernel
theorem dX7_isKind_5 : decode cX7_isKind 5 = .ok (.iconst 5, 1) := by decide +kernel
theorem dX7_isKind_6 : decode cX7_isKind 6 = .ok (.if_icmp .ge 7, 3) := by decide +kernel
theorem dX7_isKind_9 : decode cX7_isKind 9 = .ok (.iconst 1, 1) := by decide +kernel
theorem dX7_isKind_10 : decode cX7_isKind 10 = .ok (.goto 4, 3) := by decide +kernel
theorem dX7_isKind_13 : decode cX7_isKind 13 = .ok (.iconst 0, 1) := by decide +kernel
theorem dX7_isKind_14 : decode cX7_isKind 14 = .ok (.ireturn, 1) := by decide +kernel
theorem dX7_isStep_0 : decode cX7_isStep 0 = .ok (.iload_n 0, 1) := by decide +kernel
theorem dX7_isStep_1 : decode cX7_isStep 1 = .ok (.bipush (-9), 2) := by decide +kernel
theorem dX7_isStep_3 : decode cX7_isStep 3 = .ok (.if_icmp .lt 13, 3) := by decide +kernel
theorem dX7_isStep_6 : decode cX7_isStep 6 = .ok (.iload_n 0, 1) := by decide +kernel
theorem dX7_isStep_7 : decode cX7_isStep 7 = .ok (.bipush 9, 2) := by decide +kernel
theorem dX7_isStep_9 : decode cX7_isStep 9 = .ok (.if_icmp .gt 7, 3) := by decide +kernel
theorem dX7_isStep_12 : decode cX7_isStep 12 = .ok (.iconst 1, 1) := by decide +kernel
theorem dX7_isStep_13 : decode cX7_isStep 13 = .ok (.goto 4, 3) := by decide +kernel
theorem dX7_isStep_16 : decode cX7_isStep 16 = .ok (.iconst 0, 1) := by decide +kernel
theorem dX7_isStep_17 : decode cX7_isStep 17 = .ok (.ireturn, 1) := by decide +kernel
theorem dX7_areRules_0 : decode cX7_areRules 0 = .ok (.iload_n 0, 1) := by decide +kernel
theorem dX7_areRules_1 : decode cX7_areRules 1 = .ok (.iconst 1, 1) := by decide +kernel
theorem dX7_areRules_2 : decode cX7_areRules 2 = .ok (.if_icmp .lt 10, 3) := by decide +kernel
theorem dX7_areRules_5 : decode cX7_areRules 5 = .ok (.iload_n 0, 1) := by decide +kernel
theorem dX7_areRules_6 : decode cX7_areRules 6 = .ok (.sipush 9999, 3) := by decide +kernel
theorem dX7_areRules_9 : decode cX7_areRules 9 = .ok (.if_icmp .le 5, 3) := by decide +kernel
theorem dX7_areRules_12 : decode cX7_areRules 12 = .ok (.iconst 0, 1) := by decide +kernel
theorem dX7_areRules_13 : decode cX7_areRules 13 = .ok (.ireturn, 1) := by decide +kernel
theorem dX7_areRules_14 : decode cX7_areRules 14 = .ok (.iconst 0, 1) := by decide +kernel
theorem dX7_areRules_15 : decode cX7_areRules 15 = .ok (.istore_n 1, 1) := by decide +kernel
theorem dX7_areRules_16 : decode cX7_areRules 16 = .ok (.iload_n 0, 1) := by decide +kernel
theorem dX7_areRules_17 : decode cX7_areRules 17 = .ok (.istore_n 2, 1) := by decide +kernel
theorem dX7_areRules_18 : decode cX7_areRules 18 = .ok (.iload_n 2, 1) := by decide +kernel
theorem dX7_areRules_19 : decode cX7_areRules 19 = .ok (.ifCond .le 45, 3) := by decide +kernel
theorem dX7_areRules_22 : decode cX7_areRules 22 = .ok (.iload_n 2, 1) := by decide +kernel
theorem dX7_areRules_23 : decode cX7_areRules 23 = .ok (.bipush 10, 2) := by decide +kernel
theorem dX7_areRules_25 : decode cX7_areRules 25 = .ok (.irem, 1) := by decide +kernel
theorem dX7_areRules_26 : decode cX7_areRules 26 = .ok (.istore_n 3, 1) := by decide +kernel
theorem dX7_areRules_27 : decode cX7_areRules 27 = .ok (.iconst 1, 1) := by decide +kernel
theorem dX7_areRules_28 : decode cX7_areRules 28 = .ok (.iload_n 3, 1) := by decide +kernel
theorem dX7_areRules_29 : decode cX7_areRules 29 = .ok (.ishl, 1) := by decide +kernel
theorem dX7_areRules_30 : decode cX7_areRules 30 = .ok (.istore 4, 2) := by decide +kernel
theorem dX7_areRules_32 : decode cX7_areRules 32 = .ok (.iload_n 3, 1) := by decide +kernel
theorem dX7_areRules_33 : decode cX7_areRules 33 = .ok (.iconst 1, 1) := by decide +kernel
theorem dX7_areRules_34 : decode cX7_areRules 34 = .ok (.if_icmp .lt 15, 3) := by decide +kernel
theorem dX7_areRules_37 : decode cX7_areRules 37 = .ok (.iload_n 3, 1) := by decide +kernel
theorem dX7_areRules_38 : decode cX7_areRules 38 = .ok (.iconst 4, 1) := by decide +kernel
theorem dX7_areRules_39 : decode cX7_areRules 39 = .ok (.if_icmp .gt 10, 3) := by decide +kernel
theorem dX7_areRules_42 : decode cX7_areRules 42 = .ok (.iload_n 1, 1) := by decide +kernel
theorem dX7_areRules_43 : decode cX7_areRules 43 = .ok (.iload 4, 2) := by decide +kernel
theorem dX7_areRules_45 : decode cX7_areRules 45 = .ok (.iand, 1) := by decide +kernel
theorem dX7_areRules_46 : decode cX7_areRules 46 = .ok (.ifCond .eq 5, 3) := by decide +kernel
theorem dX7_areRules_49 : decode cX7_areRules 49 = .ok (.iconst 0, 1) := by decide +kernel
theorem dX7_areRules_50 : decode cX7_areRules 50 = .ok (.ireturn, 1) := by decide +kernel
theorem dX7_areRules_51 : decode cX7_areRules 51 = .ok (.iload_n 1, 1) := by decide +kernel
theorem dX7_areRules_52 : decode cX7_areRules 52 = .ok (.iload 4, 2) := by decide +kernel
theorem dX7_areRules_54 : decode cX7_areRules 54 = .ok (.ior, 1) := by decide +kernel
theorem dX7_areRules_55 : decode cX7_areRules 55 = .ok (.istore_n 1, 1) := by decide +kernel
theorem dX7_areRules_56 : decode cX7_areRules 56 = .ok (.iload_n 2, 1) := by decide +kernel
theorem dX7_areRules_57 : decode cX7_areRules 57 = .ok (.bipush 10, 2) := by decide +kernel
theorem dX7_areRules_59 : decode cX7_areRules 59 = .ok (.idiv, 1) := by decide +kernel
theorem dX7_areRules_60 : decode cX7_areRules 60 = .ok (.istore_n 2, 1) := by decide +kernel
theorem dX7_areRules_61 : decode cX7_areRules 61 = .ok (.goto (-43), 3) := by decide +kernel
theorem dX7_areRules_64 : decode cX7_areRules 64 = .ok (.iconst 1, 1) := by decide +kernel
theorem dX7_areRules_65 : decode cX7_areRules 65 = .ok (.ireturn, 1) := by decide +kernel
