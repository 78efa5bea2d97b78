theorem dX0_init_0 : decode cX0_init 0 = .ok (.aload_n 0, 1) := by decide +kernel
theorem dX0_init_1 : decode cX0_init 1 = .ok (.invokespecial 3, 3) := by decide +kernel
theorem dX0_init_4 : decode cX0_init 4 = .ok (.aload_n 0, 1) := by decide +kernel
theorem dX0_init_5 : decode cX0_init 5 = .ok (.bipush 7, 2) := by decide +kernel
theorem dX0_init_7 : decode cX0_init 7 = .ok (.newarray .int, 2) := by decide +kernel
theorem dX0_init_9 : decode cX0_init 9 = .ok (.putfield 9, 3) := by decide +kernel
theorem dX0_init_12 : decode cX0_init 12 = .ok (.aload_n 0, 1) := by decide +kernel
theorem dX0_init_13 : decode cX0_init 13 = .ok (.bipush 7, 2) := by decide +kernel
theorem dX0_init_15 : decode cX0_init 15 = .ok (.newarray .int, 2) := by decide +kernel
theorem dX0_init_17 : decode cX0_init 17 = .ok (.putfield 15, 3) := by decide +kernel
theorem dX0_init_20 : decode cX0_init 20 = .ok (.aload_n 0, 1) := by decide +kernel
theorem dX0_init_21 : decode cX0_init 21 = .ok (.bipush 7, 2) := by decide +kernel
theorem dX0_init_23 : decode cX0_init 23 = .ok (.newarray .int, 2) := by decide +kernel
theorem dX0_init_25 : decode cX0_init 25 = .ok (.putfield 18, 3) := by decide +kernel
theorem dX0_init_28 : decode cX0_init 28 = .ok (.aload_n 0, 1) := by decide +kernel
theorem dX0_init_29 : decode cX0_init 29 = .ok (.bipush 7, 2) := by decide +kernel
theorem dX0_init_31 : decode cX0_init 31 = .ok (.newarray .int, 2) := by decide +kernel
theorem dX0_init_33 : decode cX0_init 33 = .ok (.putfield 21, 3) := by decide +kernel
theorem dX0_init_36 : decode cX0_init 36 = .ok (.aload_n 0, 1) := by decide +kernel
theorem dX0_init_37 : decode cX0_init 37 = .ok (.bipush 7, 2) := by decide +kernel
theorem dX0_init_39 : decode cX0_init 39 = .ok (.newarray .int, 2) := by decide +kernel
theorem dX0_init_41 : decode cX0_init 41 = .ok (.putfield 24, 3) := by decide +kernel
theorem dX0_init_44 : decode cX0_init 44 = .ok (.return_, 1) := by decide +kernel
theorem dX0_clear_0 : decode cX0_clear 0 = .ok (.aload_n 0, 1) := by decide +kernel
theorem dX0_clear_1 : decode cX0_clear 1 = .ok (.iconst 0, 1) := by decide +kernel
theorem dX0_clear_2 : decode cX0_clear 2 = .ok (.putfield 27, 3) := by decide +kernel
theorem dX0_clear_5 : decode cX0_clear 5 = .ok (.return_, 1) := by decide +kernel
theorem dX0_add_0 : decode cX0_add 0 = .ok (.aload_n 0, 1) := by decide +kernel
theorem dX0_add_1 : decode cX0_add 1 = .ok (.getfield 27, 3) := by decide +kernel
theorem dX0_add_4 : decode cX0_add 4 = .ok (.bipush 7, 2) := by decide +kernel
theorem dX0_add_6 : decode cX0_add 6 = .ok (.if_icmp .ge 65, 3) := by decide +kernel
theorem dX0_add_9 : decode cX0_add 9 = .ok (.aload_n 0, 1) := by decide +kernel
theorem dX0_add_10 : decode cX0_add 10 = .ok (.getfield 9, 3) := by decide +kernel
theorem dX0_add_13 : decode cX0_add 13 = .ok (.aload_n 0, 1) := by decide +kernel
theorem dX0_add_14 : decode cX0_add 14 = .ok (.getfield 27, 3) := by decide +kernel
theorem dX0_add_17 : decode cX0_add 17 = .ok (.iload_n 1, 1) := by decide +kernel
theorem dX0_add_18 : decode cX0_add 18 = .ok (.iastore, 1) := by decide +kernel
theorem dX0_add_19 : decode cX0_add 19 = .ok (.aload_n 0, 1) := by decide +kernel
theorem dX0_add_20 : decode cX0_add 20 = .ok (.getfield 15, 3) := by decide +kernel
theorem dX0_add_23 : decode cX0_add 23 = .ok (.aload_n 0, 1) := by decide +kernel
theorem dX0_add_24 : decode cX0_add 24 = .ok (.getfield 27, 3) := by decide +kernel
theorem dX0_add_27 : decode cX0_add 27 = .ok (.iload_n 2, 1) := by decide +kernel
theorem dX0_add_28 : decode cX0_add 28 = .ok (.iastore, 1) := by decide +kernel
theorem dX0_add_29 : decode cX0_add 29 = .ok (.aload_n 0, 1) := by decide +kernel
theorem dX0_add_30 : decode cX0_add 30 = .ok (.getfield 18, 3) := by decide +kernel
theorem dX0_add_33 : decode cX0_add 33 = .ok (.aload_n 0, 1) := by decide +kernel
theorem dX0_add_34 : decode cX0_add 34 = .ok (.getfield 27, 3) := by decide +kernel
theorem dX0_add_37 : decode cX0_add 37 = .ok (.iload_n 3, 1) := by decide +kernel
theorem dX0_add_38 : decode cX0_add 38 = .ok (.iastore, 1) := by decide +kernel
theorem dX0_add_39 : decode cX0_add 39 = .ok (.aload_n 0, 1) := by decide +kernel
theorem dX0_add_40 : decode cX0_add 40 = .ok (.getfield 21, 3) := by decide +kernel
theorem dX0_add_43 : decode cX0_add 43 = .ok (.aload_n 0, 1) := by decide +kernel
theorem dX0_add_44 : decode cX0_add 44 = .ok (.getfield 27, 3) := by decide +kernel
theorem dX0_add_47 : decode cX0_add 47 = .ok (.iload 4, 2) := by decide +kernel
theorem dX0_add_49 : decode cX0_add 49 = .ok (.iastore, 1) := by decide +kernel
theorem dX0_add_50 : decode cX0_add 50 = .ok (.aload_n 0, 1) := by decide +kernel
theorem dX0_add_51 : decode cX0_add 51 = .ok (.getfield 24, 3) := by decide +kernel
theorem dX0_add_54 : decode cX0_add 54 = .ok (.aload_n 0, 1) := by decide +kernel
theorem dX0_add_55 : decode cX0_add 55 = .ok (.getfield 27, 3) := by decide +kernel
theorem dX0_add_58 : decode cX0_add 58 = .ok (.iload 5, 2) := by decide +kernel
theorem dX0_add_60 : decode cX0_add 60 = .ok (.iastore, 1) := by decide +kernel
theorem dX0_add_61 : decode cX0_add 61 = .ok (.aload_n 0, 1) := by decide +kernel
theorem dX0_add_62 : decode cX0_add 62 = .ok (.dup, 1) := by decide +kernel
theorem dX0_add_63 : decode cX0_add 63 = .ok (.getfield 27, 3) := by decide +kernel
theorem dX0_add_66 : decode cX0_add 66 = .ok (.iconst 1, 1) := by decide +kernel
theorem dX0_add_67 : decode cX0_add 67 = .ok (.iadd, 1) := by decide +kernel
theorem dX0_add_68 : decode cX0_add 68 = .ok (.putfield 27, 3) := by decide +kernel
theorem dX0_add_71 : decode cX0_add 71 = .ok (.return_, 1) := by decide +kernel
theorem dX1_init_0 : decode cX1_init 0 = .ok (.aload_n 0, 1) := by decide +kernel
theorem dX1_init_1 : decode cX1_init 1 = .ok (.invokespecial 3, 3) := by decide +kernel
theorem dX1_init_4 : decode cX1_init 4 = .ok (.return_, 1) := by decide +kernel
theorem dX1_drawTo_0 : decode cX1_drawTo 0 = .ok (.aload_n 1, 1) := by decide +kernel
theorem dX1_drawTo_1 : decode cX1_drawTo 1 = .ok (.invokevirtual 9, 3) := by decide +kernel
theorem dX1_drawTo_4 : decode cX1_drawTo 4 = .ok (.iconst 0, 1) := by decide +kernel
theorem dX1_drawTo_5 : decode cX1_drawTo 5 = .ok (.istore_n 2, 1) := by decide +kernel
theorem dX1_drawTo_6 : decode cX1_drawTo 6 = .ok (.iload_n 2, 1) := by decide +kernel
theorem dX1_drawTo_7 : decode cX1_drawTo 7 = .ok (.iconst 5, 1) := by decide +kernel
theorem dX1_drawTo_8 : decode cX1_drawTo 8 = .ok (.if_icmp .ge 53, 3) := by decide +kernel
theorem dX1_drawTo_11 : decode cX1_drawTo 11 = .ok (.aload_n 0, 1) := by decide +kernel
theorem dX1_drawTo_12 : decode cX1_drawTo 12 = .ok (.invokevirtual 16, 3) := by decide +kernel
theorem dX1_drawTo_15 : decode cX1_drawTo 15 = .ok (.istore_n 3, 1) := by decide +kernel
theorem dX1_drawTo_16 : decode cX1_drawTo 16 = .ok (.aload_n 0, 1) := by decide +kernel
theorem dX1_drawTo_17 : decode cX1_drawTo 17 = .ok (.invokevirtual 16, 3) := by decide +kernel
theorem dX1_drawTo_20 : decode cX1_drawTo 20 = .ok (.istore 4, 2) := by decide +kernel
theorem dX1_drawTo_22 : decode cX1_drawTo 22 = .ok (.iload_n 3, 1) := by decide +kernel
theorem dX1_drawTo_23 : decode cX1_drawTo 23 = .ok (.iconst 1, 1) := by decide +kernel
theorem dX1_drawTo_24 : decode cX1_drawTo 24 = .ok (.iadd, 1) := by decide +kernel
theorem dX1_drawTo_25 : decode cX1_drawTo 25 = .ok (.aload_n 0, 1) := by decide +kernel
theorem dX1_drawTo_26 : decode cX1_drawTo 26 = .ok (.invokevirtual 20, 3) := by decide +kernel
theorem dX1_drawTo_29 : decode cX1_drawTo 29 = .ok (.iadd, 1) := by decide +kernel
theorem dX1_drawTo_30 : decode cX1_drawTo 30 = .ok (.istore 5, 2) := by decide +kernel
theorem dX1_drawTo_32 : decode cX1_drawTo 32 = .ok (.iload 4, 2) := by decide +kernel
theorem dX1_drawTo_34 : decode cX1_drawTo 34 = .ok (.iconst 1, 1) := by decide +kernel
theorem dX1_drawTo_35 : decode cX1_drawTo 35 = .ok (.iadd, 1) := by decide +kernel
theorem dX1_drawTo_36 : decode cX1_drawTo 36 = .ok (.aload_n 0, 1) := by decide +kernel
theorem dX1_drawTo_37 : decode cX1_drawTo 37 = .ok (.invokevirtual 20, 3) := by decide +kernel
theorem dX1_drawTo_40 : decode cX1_drawTo 40 = .ok (.iadd, 1) := by decide +kernel
theorem dX1_drawTo_41 : decode cX1_drawTo 41 = .ok (.istore 6, 2) := by decide +kernel
theorem dX1_drawTo_43 : decode cX1_drawTo 43 = .ok (.aload_n 1, 1) := by decide +kernel
theorem dX1_drawTo_44 : decode cX1_drawTo 44 = .ok (.iconst 0, 1) := by decide +kernel
theorem dX1_drawTo_45 : decode cX1_drawTo 45 = .ok (.iload_n 3, 1) := by decide +kernel
theorem dX1_drawTo_46 : decode cX1_drawTo 46 = .ok (.iload 4, 2) := by decide +kernel
theorem dX1_drawTo_48 : decode cX1_drawTo 48 = .ok (.iload 5, 2) := by decide +kernel
theorem dX1_drawTo_50 : decode cX1_drawTo 50 = .ok (.iload 6, 2) := by decide +kernel
theorem dX1_drawTo_52 : decode cX1_drawTo 52 = .ok (.invokevirtual 23, 3) := by decide +kernel
theorem dX1_drawTo_55 : decode cX1_drawTo 55 = .ok (.iinc 2 1, 3) := by decide +kernel
theorem dX1_drawTo_58 : decode cX1_drawTo 58 = .ok (.goto (-52), 3) := by decide +kernel
theorem dX1_drawTo_61 : decode cX1_drawTo 61 = .ok (.aload_n 1, 1) := by decide +kernel
theorem dX1_drawTo_62 : decode cX1_drawTo 62 = .ok (.iconst 2, 1) := by decide +kernel
theorem dX1_drawTo_63 : decode cX1_drawTo 63 = .ok (.invokevirtual 27, 3) := by decide +kernel
theorem dX1_drawTo_66 : decode cX1_drawTo 66 = .ok (.aload_n 1, 1) := by decide +kernel
theorem dX1_drawTo_67 : decode cX1_drawTo 67 = .ok (.iconst 3, 1) := by decide +kernel
theorem dX1_drawTo_68 : decode cX1_drawTo 68 = .ok (.invokevirtual 27, 3) := by decide +kernel
theorem dX1_drawTo_71 : decode cX1_drawTo 71 = .ok (.return_, 1) := by decide +kernel
theorem dX1_ofEight_0 : decode cX1_ofEight 0 = .ok (.aload_n 0, 1) := by decide +kernel
theorem dX1_ofEight_1 : decode cX1_ofEight 1 = .ok (.invokevirtual 31, 3) := by decide +kernel
theorem dX1_ofEight_4 : decode cX1_ofEight 4 = .ok (.aload_n 0, 1) := by decide +kernel
theorem dX1_ofEight_5 : decode cX1_ofEight 5 = .ok (.getfield 34, 3) := by decide +kernel
theorem dX1_ofEight_8 : decode cX1_ofEight 8 = .ok (.ldc 38, 2) := by decide +kernel
theorem dX1_ofEight_10 : decode cX1_ofEight 10 = .ok (.idiv, 1) := by decide +kernel
theorem dX1_ofEight_11 : decode cX1_ofEight 11 = .ok (.bipush 8, 2) := by decide +kernel
theorem dX1_ofEight_13 : decode cX1_ofEight 13 = .ok (.irem, 1) := by decide +kernel
theorem dX1_ofEight_14 : decode cX1_ofEight 14 = .ok (.ireturn, 1) := by decide +kernel
theorem dX1_ofThree_0 : decode cX1_ofThree 0 = .ok (.aload_n 0, 1) := by decide +kernel
theorem dX1_ofThree_1 : decode cX1_ofThree 1 = .ok (.invokevirtual 31, 3) := by decide +kernel
theorem dX1_ofThree_4 : decode cX1_ofThree 4 = .ok (.aload_n 0, 1) := by decide +kernel
theorem dX1_ofThree_5 : decode cX1_ofThree 5 = .ok (.getfield 34, 3) := by decide +kernel
theorem dX1_ofThree_8 : decode cX1_ofThree 8 = .ok (.ldc 38, 2) := by decide +kernel
theorem dX1_ofThree_10 : decode cX1_ofThree 10 = .ok (.idiv, 1) := by decide +kernel
theorem dX1_ofThree_11 : decode cX1_ofThree 11 = .ok (.iconst 3, 1) := by decide +kernel
theorem dX1_ofThree_12 : decode cX1_ofThree 12 = .ok (.irem, 1) := by decide +kernel
theorem dX1_ofThree_13 : decode cX1_ofThree 13 = .ok (.ireturn, 1) := by decide +kernel
theorem dX1_step_0 : decode cX1_step 0 = .ok (.aload_n 0, 1) := by decide +kernel
theorem dX1_step_1 : decode cX1_step 1 = .ok (.ldc 39, 2) := by decide +kernel
theorem dX1_step_3 : decode cX1_step 3 = .ok (.aload_n 0, 1) := by decide +kernel
theorem dX1_step_4 : decode cX1_step 4 = .ok (.getfield 34, 3) := by decide +kernel
theorem dX1_step_7 : decode cX1_step 7 = .ok (.imul, 1) := by decide +kernel
theorem dX1_step_8 : decode cX1_step 8 = .ok (.sipush 12345, 3) := by decide +kernel
theorem dX1_step_11 : decode cX1_step 11 = .ok (.iadd, 1) := by decide +kernel
theorem dX1_step_12 : decode cX1_step 12 = .ok (.ldc 40, 2) := by decide +kernel
theorem dX1_step_14 : decode cX1_step 14 = .ok (.iand, 1) := by decide +kernel
theorem dX1_step_15 : decode cX1_step 15 = .ok (.putfield 34, 3) := by decide +kernel
theorem dX1_step_18 : decode cX1_step 18 = .ok (.return_, 1) := by decide +kernel
theorem dX2_init_0 : decode cX2_init 0 = .ok (.aload_n 0, 1) := by decide +kernel
theorem dX2_init_1 : decode cX2_init 1 = .ok (.invokespecial 3, 3) := by decide +kernel
theorem dX2_init_4 : decode cX2_init 4 = .ok (.aload_n 0, 1) := by decide +kernel
theorem dX2_init_5 : decode cX2_init 5 = .ok (.bipush 14, 2) := by decide +kernel
theorem dX2_init_7 : decode cX2_init 7 = .ok (.newarray .int, 2) := by decide +kernel
theorem dX2_init_9 : decode cX2_init 9 = .ok (.putfield 9, 3) := by decide +kernel
theorem dX2_init_12 : decode cX2_init 12 = .ok (.aload_n 0, 1) := by decide +kernel
theorem dX2_init_13 : decode cX2_init 13 = .ok (.bipush 14, 2) := by decide +kernel
theorem dX2_init_15 : decode cX2_init 15 = .ok (.newarray .int, 2) := by decide +kernel
theorem dX2_init_17 : decode cX2_init 17 = .ok (.putfield 15, 3) := by decide +kernel
theorem dX2_init_20 : decode cX2_init 20 = .ok (.aload_n 0, 1) := by decide +kernel
theorem dX2_init_21 : decode cX2_init 21 = .ok (.bipush 14, 2) := by decide +kernel
theorem dX2_init_23 : decode cX2_init 23 = .ok (.newarray .int, 2) := by decide +kernel
theorem dX2_init_25 : decode cX2_init 25 = .ok (.putfield 18, 3) := by decide +kernel
theorem dX2_init_28 : decode cX2_init 28 = .ok (.return_, 1) := by decide +kernel
theorem dX2_clear_0 : decode cX2_clear 0 = .ok (.aload_n 0, 1) := by decide +kernel
theorem dX2_clear_1 : decode cX2_clear 1 = .ok (.iconst 0, 1) := by decide +kernel
theorem dX2_clear_2 : decode cX2_clear 2 = .ok (.putfield 21, 3) := by decide +kernel
theorem dX2_clear_5 : decode cX2_clear 5 = .ok (.return_, 1) := by decide +kernel
theorem dX2_has_0 : decode cX2_has 0 = .ok (.iconst 0, 1) := by decide +kernel
theorem dX2_has_1 : decode cX2_has 1 = .ok (.istore_n 3, 1) := by decide +kernel
theorem dX2_has_2 : decode cX2_has 2 = .ok (.iload_n 3, 1) := by decide +kernel
theorem dX2_has_3 : decode cX2_has 3 = .ok (.aload_n 0, 1) := by decide +kernel
theorem dX2_has_4 : decode cX2_has 4 = .ok (.getfield 21, 3) := by decide +kernel
theorem dX2_has_7 : decode cX2_has 7 = .ok (.if_icmp .ge 31, 3) := by decide +kernel
theorem dX2_has_10 : decode cX2_has 10 = .ok (.aload_n 0, 1) := by decide +kernel
theorem dX2_has_11 : decode cX2_has 11 = .ok (.getfield 9, 3) := by decide +kernel
theorem dX2_has_14 : decode cX2_has 14 = .ok (.iload_n 3, 1) := by decide +kernel
theorem dX2_has_15 : decode cX2_has 15 = .ok (.iaload, 1) := by decide +kernel
theorem dX2_has_16 : decode cX2_has 16 = .ok (.iload_n 1, 1) := by decide +kernel
theorem dX2_has_17 : decode cX2_has 17 = .ok (.if_icmp .ne 15, 3) := by decide +kernel
theorem dX2_has_20 : decode cX2_has 20 = .ok (.aload_n 0, 1) := by decide +kernel
theorem dX2_has_21 : decode cX2_has 21 = .ok (.getfield 15, 3) := by decide +kernel
theorem dX2_has_24 : decode cX2_has 24 = .ok (.iload_n 3, 1) := by decide +kernel
theorem dX2_has_25 : decode cX2_has 25 = .ok (.iaload, 1) := by decide +kernel
theorem dX2_has_26 : decode cX2_has 26 = .ok (.iload_n 2, 1) := by decide +kernel
theorem dX2_has_27 : decode cX2_has 27 = .ok (.if_icmp .ne 5, 3) := by decide +kernel
theorem dX2_has_30 : decode cX2_has 30 = .ok (.iconst 1, 1) := by decide +kernel
theorem dX2_has_31 : decode cX2_has 31 = .ok (.ireturn, 1) := by decide +kernel
theorem dX2_has_32 : decode cX2_has 32 = .ok (.iinc 3 1, 3) := by decide +kernel
theorem dX2_has_35 : decode cX2_has 35 = .ok (.goto (-33), 3) := by decide +kernel
theorem dX2_has_38 : decode cX2_has 38 = .ok (.iconst 0, 1) := by decide +kernel
theorem dX2_has_39 : decode cX2_has 39 = .ok (.ireturn, 1) := by decide +kernel
theorem dX2_add_0 : decode cX2_add 0 = .ok (.aload_n 0, 1) := by decide +kernel
theorem dX2_add_1 : decode cX2_add 1 = .ok (.getfield 21, 3) := by decide +kernel
theorem dX2_add_4 : decode cX2_add 4 = .ok (.bipush 14, 2) := by decide +kernel
theorem dX2_add_6 : decode cX2_add 6 = .ok (.if_icmp .lt 4, 3) := by decide +kernel
theorem dX2_add_9 : decode cX2_add 9 = .ok (.return_, 1) := by decide +kernel
theorem dX2_add_10 : decode cX2_add 10 = .ok (.aload_n 0, 1) := by decide +kernel
theorem dX2_add_11 : decode cX2_add 11 = .ok (.getfield 21, 3) := by decide +kernel
theorem dX2_add_14 : decode cX2_add 14 = .ok (.istore 4, 2) := by decide +kernel
theorem dX2_add_16 : decode cX2_add 16 = .ok (.iload 4, 2) := by decide +kernel
theorem dX2_add_18 : decode cX2_add 18 = .ok (.ifCond .le 71, 3) := by decide +kernel
theorem dX2_add_21 : decode cX2_add 21 = .ok (.aload_n 0, 1) := by decide +kernel
theorem dX2_add_22 : decode cX2_add 22 = .ok (.iload 4, 2) := by decide +kernel
theorem dX2_add_24 : decode cX2_add 24 = .ok (.iconst 1, 1) := by decide +kernel
theorem dX2_add_25 : decode cX2_add 25 = .ok (.isub, 1) := by decide +kernel
theorem dX2_add_26 : decode cX2_add 26 = .ok (.iload_n 1, 1) := by decide +kernel
theorem dX2_add_27 : decode cX2_add 27 = .ok (.iload_n 2, 1) := by decide +kernel
theorem dX2_add_28 : decode cX2_add 28 = .ok (.iload_n 3, 1) := by decide +kernel
theorem dX2_add_29 : decode cX2_add 29 = .ok (.invokevirtual 25, 3) := by decide +kernel
theorem dX2_add_32 : decode cX2_add 32 = .ok (.ifCond .eq 57, 3) := by decide +kernel
theorem dX2_add_35 : decode cX2_add 35 = .ok (.aload_n 0, 1) := by decide +kernel
theorem dX2_add_36 : decode cX2_add 36 = .ok (.getfield 9, 3) := by decide +kernel
theorem dX2_add_39 : decode cX2_add 39 = .ok (.iload 4, 2) := by decide +kernel
theorem dX2_add_41 : decode cX2_add 41 = .ok (.aload_n 0, 1) := by decide +kernel
theorem dX2_add_42 : decode cX2_add 42 = .ok (.getfield 9, 3) := by decide +kernel
theorem dX2_add_45 : decode cX2_add 45 = .ok (.iload 4, 2) := by decide +kernel
theorem dX2_add_47 : decode cX2_add 47 = .ok (.iconst 1, 1) := by decide +kernel
theorem dX2_add_48 : decode cX2_add 48 = .ok (.isub, 1) := by decide +kernel
theorem dX2_add_49 : decode cX2_add 49 = .ok (.iaload, 1) := by decide +kernel
theorem dX2_add_50 : decode cX2_add 50 = .ok (.iastore, 1) := by decide +kernel
theorem dX2_add_51 : decode cX2_add 51 = .ok (.aload_n 0, 1) := by decide +kernel
theorem dX2_add_52 : decode cX2_add 52 = .ok (.getfield 15, 3) := by decide +kernel
theorem dX2_add_55 : decode cX2_add 55 = .ok (.iload 4, 2) := by decide +kernel
theorem dX2_add_57 : decode cX2_add 57 = .ok (.aload_n 0, 1) := by decide +kernel
theorem dX2_add_58 : decode cX2_add 58 = .ok (.getfield 15, 3) := by decide +kernel
theorem dX2_add_61 : decode cX2_add 61 = .ok (.iload 4, 2) := by decide +kernel
theorem dX2_add_63 : decode cX2_add 63 = .ok (.iconst 1, 1) := by decide +kernel
theorem dX2_add_64 : decode cX2_add 64 = .ok (.isub, 1) := by decide +kernel
theorem dX2_add_65 : decode cX2_add 65 = .ok (.iaload, 1) := by decide +kernel
theorem dX2_add_66 : decode cX2_add 66 = .ok (.iastore, 1) := by decide +kernel
theorem dX2_add_67 : decode cX2_add 67 = .ok (.aload_n 0, 1) := by decide +kernel
theorem dX2_add_68 : decode cX2_add 68 = .ok (.getfield 18, 3) := by decide +kernel
theorem dX2_add_71 : decode cX2_add 71 = .ok (.iload 4, 2) := by decide +kernel
theorem dX2_add_73 : decode cX2_add 73 = .ok (.aload_n 0, 1) := by decide +kernel
theorem dX2_add_74 : decode cX2_add 74 = .ok (.getfield 18, 3) := by decide +kernel
theorem dX2_add_77 : decode cX2_add 77 = .ok (.iload 4, 2) := by decide +kernel
theorem dX2_add_79 : decode cX2_add 79 = .ok (.iconst 1, 1) := by decide +kernel
theorem dX2_add_80 : decode cX2_add 80 = .ok (.isub, 1) := by decide +kernel
theorem dX2_add_81 : decode cX2_add 81 = .ok (.iaload, 1) := by decide +kernel
theorem dX2_add_82 : decode cX2_add 82 = .ok (.iastore, 1) := by decide +kernel
theorem dX2_add_83 : decode cX2_add 83 = .ok (.iinc 4 (-1), 3) := by decide +kernel
theorem dX2_add_86 : decode cX2_add 86 = .ok (.goto (-70), 3) := by decide +kernel
theorem dX2_add_89 : decode cX2_add 89 = .ok (.aload_n 0, 1) := by decide +kernel
theorem dX2_add_90 : decode cX2_add 90 = .ok (.getfield 9, 3) := by decide +kernel
theorem dX2_add_93 : decode cX2_add 93 = .ok (.iload 4, 2) := by decide +kernel
theorem dX2_add_95 : decode cX2_add 95 = .ok (.iload_n 1, 1) := by decide +kernel
theorem dX2_add_96 : decode cX2_add 96 = .ok (.iastore, 1) := by decide +kernel
theorem dX2_add_97 : decode cX2_add 97 = .ok (.aload_n 0, 1) := by decide +kernel
theorem dX2_add_98 : decode cX2_add 98 = .ok (.getfield 15, 3) := by decide +kernel
theorem dX2_add_101 : decode cX2_add 101 = .ok (.iload 4, 2) := by decide +kernel
theorem dX2_add_103 : decode cX2_add 103 = .ok (.iload_n 2, 1) := by decide +kernel
theorem dX2_add_104 : decode cX2_add 104 = .ok (.iastore, 1) := by decide +kernel
theorem dX2_add_105 : decode cX2_add 105 = .ok (.aload_n 0, 1) := by decide +kernel
theorem dX2_add_106 : decode cX2_add 106 = .ok (.getfield 18, 3) := by decide +kernel
theorem dX2_add_109 : decode cX2_add 109 = .ok (.iload 4, 2) := by decide +kernel
theorem dX2_add_111 : decode cX2_add 111 = .ok (.iload_n 3, 1) := by decide +kernel
theorem dX2_add_112 : decode cX2_add 112 = .ok (.iastore, 1) := by decide +kernel
theorem dX2_add_113 : decode cX2_add 113 = .ok (.aload_n 0, 1) := by decide +kernel
theorem dX2_add_114 : decode cX2_add 114 = .ok (.dup, 1) := by decide +kernel
theorem dX2_add_115 : decode cX2_add 115 = .ok (.getfield 21, 3) := by decide +kernel
theorem dX2_add_118 : decode cX2_add 118 = .ok (.iconst 1, 1) := by decide +kernel
theorem dX2_add_119 : decode cX2_add 119 = .ok (.iadd, 1) := by decide +kernel
theorem dX2_add_120 : decode cX2_add 120 = .ok (.putfield 21, 3) := by decide +kernel
theorem dX2_add_123 : decode cX2_add 123 = .ok (.return_, 1) := by decide +kernel
theorem dX2_isBehind_0 : decode cX2_isBehind 0 = .ok (.aload_n 0, 1) := by decide +kernel
theorem dX2_isBehind_1 : decode cX2_isBehind 1 = .ok (.getfield 18, 3) := by decide +kernel
theorem dX2_isBehind_4 : decode cX2_isBehind 4 = .ok (.iload_n 1, 1) := by decide +kernel
theorem dX2_isBehind_5 : decode cX2_isBehind 5 = .ok (.iaload, 1) := by decide +kernel
theorem dX2_isBehind_6 : decode cX2_isBehind 6 = .ok (.iload 4, 2) := by decide +kernel
theorem dX2_isBehind_8 : decode cX2_isBehind 8 = .ok (.if_icmp .eq 20, 3) := by decide +kernel
theorem dX2_isBehind_11 : decode cX2_isBehind 11 = .ok (.aload_n 0, 1) := by decide +kernel
theorem dX2_isBehind_12 : decode cX2_isBehind 12 = .ok (.getfield 18, 3) := by decide +kernel
theorem dX2_isBehind_15 : decode cX2_isBehind 15 = .ok (.iload_n 1, 1) := by decide +kernel
theorem dX2_isBehind_16 : decode cX2_isBehind 16 = .ok (.iaload, 1) := by decide +kernel
theorem dX2_isBehind_17 : decode cX2_isBehind 17 = .ok (.iload 4, 2) := by decide +kernel
theorem dX2_isBehind_19 : decode cX2_isBehind 19 = .ok (.if_icmp .ge 7, 3) := by decide +kernel
theorem dX2_isBehind_22 : decode cX2_isBehind 22 = .ok (.iconst 1, 1) := by decide +kernel
theorem dX2_isBehind_23 : decode cX2_isBehind 23 = .ok (.goto 4, 3) := by decide +kernel
theorem dX2_isBehind_26 : decode cX2_isBehind 26 = .ok (.iconst 0, 1) := by decide +kernel
theorem dX2_isBehind_27 : decode cX2_isBehind 27 = .ok (.ireturn, 1) := by decide +kernel
theorem dX2_isBehind_28 : decode cX2_isBehind 28 = .ok (.aload_n 0, 1) := by decide +kernel
theorem dX2_isBehind_29 : decode cX2_isBehind 29 = .ok (.getfield 9, 3) := by decide +kernel
theorem dX2_isBehind_32 : decode cX2_isBehind 32 = .ok (.iload_n 1, 1) := by decide +kernel
theorem dX2_isBehind_33 : decode cX2_isBehind 33 = .ok (.iaload, 1) := by decide +kernel
theorem dX2_isBehind_34 : decode cX2_isBehind 34 = .ok (.iload_n 2, 1) := by decide +kernel
theorem dX2_isBehind_35 : decode cX2_isBehind 35 = .ok (.if_icmp .eq 16, 3) := by decide +kernel
theorem dX2_isBehind_38 : decode cX2_isBehind 38 = .ok (.iload_n 2, 1) := by decide +kernel
theorem dX2_isBehind_39 : decode cX2_isBehind 39 = .ok (.iconst 1, 1) := by decide +kernel
theorem dX2_isBehind_40 : decode cX2_isBehind 40 = .ok (.if_icmp .ne 7, 3) := by decide +kernel
theorem dX2_isBehind_43 : decode cX2_isBehind 43 = .ok (.iconst 1, 1) := by decide +kernel
theorem dX2_isBehind_44 : decode cX2_isBehind 44 = .ok (.goto 22, 3) := by decide +kernel
theorem dX2_isBehind_47 : decode cX2_isBehind 47 = .ok (.iconst 0, 1) := by decide +kernel
theorem dX2_isBehind_48 : decode cX2_isBehind 48 = .ok (.goto 18, 3) := by decide +kernel
theorem dX2_isBehind_51 : decode cX2_isBehind 51 = .ok (.aload_n 0, 1) := by decide +kernel
theorem dX2_isBehind_52 : decode cX2_isBehind 52 = .ok (.getfield 15, 3) := by decide +kernel
theorem dX2_isBehind_55 : decode cX2_isBehind 55 = .ok (.iload_n 1, 1) := by decide +kernel
theorem dX2_isBehind_56 : decode cX2_isBehind 56 = .ok (.iaload, 1) := by decide +kernel
theorem dX2_isBehind_57 : decode cX2_isBehind 57 = .ok (.iload_n 3, 1) := by decide +kernel
theorem dX2_isBehind_58 : decode cX2_isBehind 58 = .ok (.if_icmp .le 7, 3) := by decide +kernel
theorem dX2_isBehind_61 : decode cX2_isBehind 61 = .ok (.iconst 1, 1) := by decide +kernel
theorem dX2_isBehind_62 : decode cX2_isBehind 62 = .ok (.goto 4, 3) := by decide +kernel
theorem dX2_isBehind_65 : decode cX2_isBehind 65 = .ok (.iconst 0, 1) := by decide +kernel
theorem dX2_isBehind_66 : decode cX2_isBehind 66 = .ok (.ireturn, 1) := by decide +kernel
theorem dX3_init_0 : decode cX3_init 0 = .ok (.aload_n 0, 1) := by decide +kernel
theorem dX3_init_1 : decode cX3_init 1 = .ok (.invokespecial 3, 3) := by decide +kernel
theorem dX3_init_4 : decode cX3_init 4 = .ok (.aload_n 0, 1) := by decide +kernel
theorem dX3_init_5 : decode cX3_init 5 = .ok (.new 9, 3) := by decide +kernel
theorem dX3_init_8 : decode cX3_init 8 = .ok (.dup, 1) := by decide +kernel
theorem dX3_init_9 : decode cX3_init 9 = .ok (.invokespecial 11, 3) := by decide +kernel
theorem dX3_init_12 : decode cX3_init 12 = .ok (.putfield 12, 3) := by decide +kernel
theorem dX3_init_15 : decode cX3_init 15 = .ok (.aload_n 0, 1) := by decide +kernel
theorem dX3_init_16 : decode cX3_init 16 = .ok (.bipush 8, 2) := by decide +kernel
theorem dX3_init_18 : decode cX3_init 18 = .ok (.newarray .int, 2) := by decide +kernel
theorem dX3_init_20 : decode cX3_init 20 = .ok (.putfield 18, 3) := by decide +kernel
theorem dX3_init_23 : decode cX3_init 23 = .ok (.aload_n 0, 1) := by decide +kernel
theorem dX3_init_24 : decode cX3_init 24 = .ok (.bipush 8, 2) := by decide +kernel
theorem dX3_init_26 : decode cX3_init 26 = .ok (.newarray .int, 2) := by decide +kernel
theorem dX3_init_28 : decode cX3_init 28 = .ok (.putfield 22, 3) := by decide +kernel
theorem dX3_init_31 : decode cX3_init 31 = .ok (.aload_n 0, 1) := by decide +kernel
theorem dX3_init_32 : decode cX3_init 32 = .ok (.bipush 8, 2) := by decide +kernel
theorem dX3_init_34 : decode cX3_init 34 = .ok (.newarray .int, 2) := by decide +kernel
theorem dX3_init_36 : decode cX3_init 36 = .ok (.putfield 25, 3) := by decide +kernel
theorem dX3_init_39 : decode cX3_init 39 = .ok (.aload_n 0, 1) := by decide +kernel
theorem dX3_init_40 : decode cX3_init 40 = .ok (.bipush 8, 2) := by decide +kernel
theorem dX3_init_42 : decode cX3_init 42 = .ok (.newarray .int, 2) := by decide +kernel
theorem dX3_init_44 : decode cX3_init 44 = .ok (.putfield 28, 3) := by decide +kernel
theorem dX3_init_47 : decode cX3_init 47 = .ok (.aload_n 0, 1) := by decide +kernel
theorem dX3_init_48 : decode cX3_init 48 = .ok (.bipush 8, 2) := by decide +kernel
theorem dX3_init_50 : decode cX3_init 50 = .ok (.newarray .int, 2) := by decide +kernel
theorem dX3_init_52 : decode cX3_init 52 = .ok (.putfield 31, 3) := by decide +kernel
theorem dX3_init_55 : decode cX3_init 55 = .ok (.aload_n 0, 1) := by decide +kernel
theorem dX3_init_56 : decode cX3_init 56 = .ok (.new 34, 3) := by decide +kernel
theorem dX3_init_59 : decode cX3_init 59 = .ok (.dup, 1) := by decide +kernel
theorem dX3_init_60 : decode cX3_init 60 = .ok (.invokespecial 36, 3) := by decide +kernel
theorem dX3_init_63 : decode cX3_init 63 = .ok (.putfield 37, 3) := by decide +kernel
theorem dX3_init_66 : decode cX3_init 66 = .ok (.aload_n 0, 1) := by decide +kernel
theorem dX3_init_67 : decode cX3_init 67 = .ok (.new 41, 3) := by decide +kernel
theorem dX3_init_70 : decode cX3_init 70 = .ok (.dup, 1) := by decide +kernel
theorem dX3_init_71 : decode cX3_init 71 = .ok (.invokespecial 43, 3) := by decide +kernel
theorem dX3_init_74 : decode cX3_init 74 = .ok (.putfield 44, 3) := by decide +kernel
theorem dX3_init_77 : decode cX3_init 77 = .ok (.aload_n 0, 1) := by decide +kernel
theorem dX3_init_78 : decode cX3_init 78 = .ok (.bipush 8, 2) := by decide +kernel
theorem dX3_init_80 : decode cX3_init 80 = .ok (.newarray .int, 2) := by decide +kernel
theorem dX3_init_82 : decode cX3_init 82 = .ok (.putfield 48, 3) := by decide +kernel
theorem dX3_init_85 : decode cX3_init 85 = .ok (.aload_n 0, 1) := by decide +kernel
theorem dX3_init_86 : decode cX3_init 86 = .ok (.bipush 8, 2) := by decide +kernel
theorem dX3_init_88 : decode cX3_init 88 = .ok (.newarray .int, 2) := by decide +kernel
theorem dX3_init_90 : decode cX3_init 90 = .ok (.putfield 51, 3) := by decide +kernel
theorem dX3_init_93 : decode cX3_init 93 = .ok (.return_, 1) := by decide +kernel
theorem dX3_renew_0 : decode cX3_renew 0 = .ok (.aload_n 0, 1) := by decide +kernel
theorem dX3_renew_1 : decode cX3_renew 1 = .ok (.getfield 37, 3) := by decide +kernel
theorem dX3_renew_4 : decode cX3_renew 4 = .ok (.invokevirtual 54, 3) := by decide +kernel
theorem dX3_renew_7 : decode cX3_renew 7 = .ok (.aload_n 0, 1) := by decide +kernel
theorem dX3_renew_8 : decode cX3_renew 8 = .ok (.iconst 0, 1) := by decide +kernel
theorem dX3_renew_9 : decode cX3_renew 9 = .ok (.putfield 57, 3) := by decide +kernel
theorem dX3_renew_12 : decode cX3_renew 12 = .ok (.aload_n 0, 1) := by decide +kernel
theorem dX3_renew_13 : decode cX3_renew 13 = .ok (.iconst 0, 1) := by decide +kernel
theorem dX3_renew_14 : decode cX3_renew 14 = .ok (.putfield 61, 3) := by decide +kernel
theorem dX3_renew_17 : decode cX3_renew 17 = .ok (.iconst 0, 1) := by decide +kernel
theorem dX3_renew_18 : decode cX3_renew 18 = .ok (.istore_n 1, 1) := by decide +kernel
theorem dX3_renew_19 : decode cX3_renew 19 = .ok (.iload_n 1, 1) := by decide +kernel
theorem dX3_renew_20 : decode cX3_renew 20 = .ok (.aload_n 0, 1) := by decide +kernel
theorem dX3_renew_21 : decode cX3_renew 21 = .ok (.getfield 12, 3) := by decide +kernel
theorem dX3_renew_24 : decode cX3_renew 24 = .ok (.getfield 64, 3) := by decide +kernel
theorem dX3_renew_27 : decode cX3_renew 27 = .ok (.if_icmp .ge 74, 3) := by decide +kernel
theorem dX3_renew_30 : decode cX3_renew 30 = .ok (.aload_n 0, 1) := by decide +kernel
theorem dX3_renew_31 : decode cX3_renew 31 = .ok (.getfield 25, 3) := by decide +kernel
theorem dX3_renew_34 : decode cX3_renew 34 = .ok (.iload_n 1, 1) := by decide +kernel
theorem dX3_renew_35 : decode cX3_renew 35 = .ok (.aload_n 0, 1) := by decide +kernel
theorem dX3_renew_36 : decode cX3_renew 36 = .ok (.getfield 12, 3) := by decide +kernel
theorem dX3_renew_39 : decode cX3_renew 39 = .ok (.getfield 67, 3) := by decide +kernel
theorem dX3_renew_42 : decode cX3_renew 42 = .ok (.iload_n 1, 1) := by decide +kernel
theorem dX3_renew_43 : decode cX3_renew 43 = .ok (.iaload, 1) := by decide +kernel
theorem dX3_renew_44 : decode cX3_renew 44 = .ok (.iconst 4, 1) := by decide +kernel
theorem dX3_renew_45 : decode cX3_renew 45 = .ok (.if_icmp .ne 11, 3) := by decide +kernel
theorem dX3_renew_48 : decode cX3_renew 48 = .ok (.aload_n 0, 1) := by decide +kernel
theorem dX3_renew_49 : decode cX3_renew 49 = .ok (.iload_n 1, 1) := by decide +kernel
theorem dX3_renew_50 : decode cX3_renew 50 = .ok (.invokevirtual 70, 3) := by decide +kernel
theorem dX3_renew_53 : decode cX3_renew 53 = .ok (.goto 4, 3) := by decide +kernel
theorem dX3_renew_56 : decode cX3_renew 56 = .ok (.iconst (-1), 1) := by decide +kernel
theorem dX3_renew_57 : decode cX3_renew 57 = .ok (.iastore, 1) := by decide +kernel
theorem dX3_renew_58 : decode cX3_renew 58 = .ok (.aload_n 0, 1) := by decide +kernel
theorem dX3_renew_59 : decode cX3_renew 59 = .ok (.getfield 28, 3) := by decide +kernel
theorem dX3_renew_62 : decode cX3_renew 62 = .ok (.iload_n 1, 1) := by decide +kernel
theorem dX3_renew_63 : decode cX3_renew 63 = .ok (.iconst (-1), 1) := by decide +kernel
theorem dX3_renew_64 : decode cX3_renew 64 = .ok (.iastore, 1) := by decide +kernel
theorem dX3_renew_65 : decode cX3_renew 65 = .ok (.aload_n 0, 1) := by decide +kernel
theorem dX3_renew_66 : decode cX3_renew 66 = .ok (.getfield 25, 3) := by decide +kernel
theorem dX3_renew_69 : decode cX3_renew 69 = .ok (.iload_n 1, 1) := by decide +kernel
theorem dX3_renew_70 : decode cX3_renew 70 = .ok (.iaload, 1) := by decide +kernel
theorem dX3_renew_71 : decode cX3_renew 71 = .ok (.iconst (-1), 1) := by decide +kernel
theorem dX3_renew_72 : decode cX3_renew 72 = .ok (.if_icmp .ne 23, 3) := by decide +kernel
theorem dX3_renew_75 : decode cX3_renew 75 = .ok (.aload_n 0, 1) := by decide +kernel
theorem dX3_renew_76 : decode cX3_renew 76 = .ok (.getfield 48, 3) := by decide +kernel
theorem dX3_renew_79 : decode cX3_renew 79 = .ok (.aload_n 0, 1) := by decide +kernel
theorem dX3_renew_80 : decode cX3_renew 80 = .ok (.getfield 61, 3) := by decide +kernel
theorem dX3_renew_83 : decode cX3_renew 83 = .ok (.iload_n 1, 1) := by decide +kernel
theorem dX3_renew_84 : decode cX3_renew 84 = .ok (.iastore, 1) := by decide +kernel
theorem dX3_renew_85 : decode cX3_renew 85 = .ok (.aload_n 0, 1) := by decide +kernel
theorem dX3_renew_86 : decode cX3_renew 86 = .ok (.dup, 1) := by decide +kernel
theorem dX3_renew_87 : decode cX3_renew 87 = .ok (.getfield 61, 3) := by decide +kernel
theorem dX3_renew_90 : decode cX3_renew 90 = .ok (.iconst 1, 1) := by decide +kernel
theorem dX3_renew_91 : decode cX3_renew 91 = .ok (.iadd, 1) := by decide +kernel
theorem dX3_renew_92 : decode cX3_renew 92 = .ok (.putfield 61, 3) := by decide +kernel
theorem dX3_renew_95 : decode cX3_renew 95 = .ok (.iinc 1 1, 3) := by decide +kernel
theorem dX3_renew_98 : decode cX3_renew 98 = .ok (.goto (-79), 3) := by decide +kernel
theorem dX3_renew_101 : decode cX3_renew 101 = .ok (.aload_n 0, 1) := by decide +kernel
theorem dX3_renew_102 : decode cX3_renew 102 = .ok (.getfield 61, 3) := by decide +kernel
theorem dX3_renew_105 : decode cX3_renew 105 = .ok (.ifCond .le 13, 3) := by decide +kernel
theorem dX3_renew_108 : decode cX3_renew 108 = .ok (.aload_n 0, 1) := by decide +kernel
theorem dX3_renew_109 : decode cX3_renew 109 = .ok (.iconst 0, 1) := by decide +kernel
theorem dX3_renew_110 : decode cX3_renew 110 = .ok (.aload_n 0, 1) := by decide +kernel
theorem dX3_renew_111 : decode cX3_renew 111 = .ok (.getfield 61, 3) := by decide +kernel
theorem dX3_renew_114 : decode cX3_renew 114 = .ok (.iconst 0, 1) := by decide +kernel
theorem dX3_renew_115 : decode cX3_renew 115 = .ok (.invokevirtual 74, 3) := by decide +kernel
theorem dX3_renew_118 : decode cX3_renew 118 = .ok (.aload_n 0, 1) := by decide +kernel
theorem dX3_renew_119 : decode cX3_renew 119 = .ok (.invokevirtual 78, 3) := by decide +kernel
theorem dX3_renew_122 : decode cX3_renew 122 = .ok (.return_, 1) := by decide +kernel
theorem dX3_reason_0 : decode cX3_reason 0 = .ok (.aload_n 0, 1) := by decide +kernel
theorem dX3_reason_1 : decode cX3_reason 1 = .ok (.getfield 25, 3) := by decide +kernel
theorem dX3_reason_4 : decode cX3_reason 4 = .ok (.iload_n 1, 1) := by decide +kernel
theorem dX3_reason_5 : decode cX3_reason 5 = .ok (.iaload, 1) := by decide +kernel
theorem dX3_reason_6 : decode cX3_reason 6 = .ok (.iconst (-1), 1) := by decide +kernel
theorem dX3_reason_7 : decode cX3_reason 7 = .ok (.if_icmp .ne 13, 3) := by decide +kernel
theorem dX3_reason_10 : decode cX3_reason 10 = .ok (.aload_n 0, 1) := by decide +kernel
theorem dX3_reason_11 : decode cX3_reason 11 = .ok (.getfield 25, 3) := by decide +kernel
theorem dX3_reason_14 : decode cX3_reason 14 = .ok (.iload_n 2, 1) := by decide +kernel
theorem dX3_reason_15 : decode cX3_reason 15 = .ok (.iaload, 1) := by decide +kernel
theorem dX3_reason_16 : decode cX3_reason 16 = .ok (.iconst (-1), 1) := by decide +kernel
theorem dX3_reason_17 : decode cX3_reason 17 = .ok (.if_icmp .eq 6, 3) := by decide +kernel
theorem dX3_reason_20 : decode cX3_reason 20 = .ok (.bipush 6, 2) := by decide +kernel
theorem dX3_reason_22 : decode cX3_reason 22 = .ok (.ireturn, 1) := by decide +kernel
theorem dX3_reason_23 : decode cX3_reason 23 = .ok (.aload_n 0, 1) := by decide +kernel
theorem dX3_reason_24 : decode cX3_reason 24 = .ok (.getfield 31, 3) := by decide +kernel
theorem dX3_reason_27 : decode cX3_reason 27 = .ok (.iload_n 1, 1) := by decide +kernel
theorem dX3_reason_28 : decode cX3_reason 28 = .ok (.iaload, 1) := by decide +kernel
theorem dX3_reason_29 : decode cX3_reason 29 = .ok (.aload_n 0, 1) := by decide +kernel
theorem dX3_reason_30 : decode cX3_reason 30 = .ok (.getfield 31, 3) := by decide +kernel
theorem dX3_reason_33 : decode cX3_reason 33 = .ok (.iload_n 2, 1) := by decide +kernel
theorem dX3_reason_34 : decode cX3_reason 34 = .ok (.iaload, 1) := by decide +kernel
theorem dX3_reason_35 : decode cX3_reason 35 = .ok (.if_icmp .eq 5, 3) := by decide +kernel
theorem dX3_reason_38 : decode cX3_reason 38 = .ok (.iconst 5, 1) := by decide +kernel
theorem dX3_reason_39 : decode cX3_reason 39 = .ok (.ireturn, 1) := by decide +kernel
theorem dX3_reason_40 : decode cX3_reason 40 = .ok (.aload_n 0, 1) := by decide +kernel
theorem dX3_reason_41 : decode cX3_reason 41 = .ok (.getfield 12, 3) := by decide +kernel
theorem dX3_reason_44 : decode cX3_reason 44 = .ok (.iload_n 1, 1) := by decide +kernel
theorem dX3_reason_45 : decode cX3_reason 45 = .ok (.iload_n 2, 1) := by decide +kernel
theorem dX3_reason_46 : decode cX3_reason 46 = .ok (.invokevirtual 81, 3) := by decide +kernel
theorem dX3_reason_49 : decode cX3_reason 49 = .ok (.istore_n 3, 1) := by decide +kernel
theorem dX3_reason_50 : decode cX3_reason 50 = .ok (.iload_n 3, 1) := by decide +kernel
theorem dX3_reason_51 : decode cX3_reason 51 = .ok (.iconst (-1), 1) := by decide +kernel
theorem dX3_reason_52 : decode cX3_reason 52 = .ok (.if_icmp .ne 7, 3) := by decide +kernel
theorem dX3_reason_55 : decode cX3_reason 55 = .ok (.iconst 4, 1) := by decide +kernel
theorem dX3_reason_56 : decode cX3_reason 56 = .ok (.goto 4, 3) := by decide +kernel
theorem dX3_reason_59 : decode cX3_reason 59 = .ok (.iload_n 3, 1) := by decide +kernel
theorem dX3_reason_60 : decode cX3_reason 60 = .ok (.ireturn, 1) := by decide +kernel
theorem dX3_isOrderedLike_0 : decode cX3_isOrderedLike 0 = .ok (.aload_n 0, 1) := by decide +kernel
theorem dX3_isOrderedLike_1 : decode cX3_isOrderedLike 1 = .ok (.getfield 85, 3) := by decide +kernel
theorem dX3_isOrderedLike_4 : decode cX3_isOrderedLike 4 = .ok (.aload_n 1, 1) := by decide +kernel
theorem dX3_isOrderedLike_5 : decode cX3_isOrderedLike 5 = .ok (.getfield 85, 3) := by decide +kernel
theorem dX3_isOrderedLike_8 : decode cX3_isOrderedLike 8 = .ok (.if_icmp .eq 5, 3) := by decide +kernel
theorem dX3_isOrderedLike_11 : decode cX3_isOrderedLike 11 = .ok (.iconst 0, 1) := by decide +kernel
theorem dX3_isOrderedLike_12 : decode cX3_isOrderedLike 12 = .ok (.ireturn, 1) := by decide +kernel
theorem dX3_isOrderedLike_13 : decode cX3_isOrderedLike 13 = .ok (.iconst 0, 1) := by decide +kernel
theorem dX3_isOrderedLike_14 : decode cX3_isOrderedLike 14 = .ok (.istore_n 2, 1) := by decide +kernel
theorem dX3_isOrderedLike_15 : decode cX3_isOrderedLike 15 = .ok (.iload_n 2, 1) := by decide +kernel
theorem dX3_isOrderedLike_16 : decode cX3_isOrderedLike 16 = .ok (.aload_n 0, 1) := by decide +kernel
theorem dX3_isOrderedLike_17 : decode cX3_isOrderedLike 17 = .ok (.getfield 85, 3) := by decide +kernel
theorem dX3_isOrderedLike_20 : decode cX3_isOrderedLike 20 = .ok (.if_icmp .ge 26, 3) := by decide +kernel
theorem dX3_isOrderedLike_23 : decode cX3_isOrderedLike 23 = .ok (.aload_n 0, 1) := by decide +kernel
theorem dX3_isOrderedLike_24 : decode cX3_isOrderedLike 24 = .ok (.getfield 18, 3) := by decide +kernel
theorem dX3_isOrderedLike_27 : decode cX3_isOrderedLike 27 = .ok (.iload_n 2, 1) := by decide +kernel
theorem dX3_isOrderedLike_28 : decode cX3_isOrderedLike 28 = .ok (.iaload, 1) := by decide +kernel
theorem dX3_isOrderedLike_29 : decode cX3_isOrderedLike 29 = .ok (.aload_n 1, 1) := by decide +kernel
theorem dX3_isOrderedLike_30 : decode cX3_isOrderedLike 30 = .ok (.getfield 18, 3) := by decide +kernel
theorem dX3_isOrderedLike_33 : decode cX3_isOrderedLike 33 = .ok (.iload_n 2, 1) := by decide +kernel
theorem dX3_isOrderedLike_34 : decode cX3_isOrderedLike 34 = .ok (.iaload, 1) := by decide +kernel
theorem dX3_isOrderedLike_35 : decode cX3_isOrderedLike 35 = .ok (.if_icmp .eq 5, 3) := by decide +kernel
theorem dX3_isOrderedLike_38 : decode cX3_isOrderedLike 38 = .ok (.iconst 0, 1) := by decide +kernel
theorem dX3_isOrderedLike_39 : decode cX3_isOrderedLike 39 = .ok (.ireturn, 1) := by decide +kernel
theorem dX3_isOrderedLike_40 : decode cX3_isOrderedLike 40 = .ok (.iinc 2 1, 3) := by decide +kernel
theorem dX3_isOrderedLike_43 : decode cX3_isOrderedLike 43 = .ok (.goto (-28), 3) := by decide +kernel
theorem dX3_isOrderedLike_46 : decode cX3_isOrderedLike 46 = .ok (.iconst 1, 1) := by decide +kernel
theorem dX3_isOrderedLike_47 : decode cX3_isOrderedLike 47 = .ok (.ireturn, 1) := by decide +kernel
theorem dX3_isByNumber_0 : decode cX3_isByNumber 0 = .ok (.iconst 0, 1) := by decide +kernel
theorem dX3_isByNumber_1 : decode cX3_isByNumber 1 = .ok (.istore_n 1, 1) := by decide +kernel
theorem dX3_isByNumber_2 : decode cX3_isByNumber 2 = .ok (.iload_n 1, 1) := by decide +kernel
theorem dX3_isByNumber_3 : decode cX3_isByNumber 3 = .ok (.aload_n 0, 1) := by decide +kernel
theorem dX3_isByNumber_4 : decode cX3_isByNumber 4 = .ok (.getfield 85, 3) := by decide +kernel
theorem dX3_isByNumber_7 : decode cX3_isByNumber 7 = .ok (.if_icmp .ge 21, 3) := by decide +kernel
theorem dX3_isByNumber_10 : decode cX3_isByNumber 10 = .ok (.aload_n 0, 1) := by decide +kernel
theorem dX3_isByNumber_11 : decode cX3_isByNumber 11 = .ok (.getfield 18, 3) := by decide +kernel
theorem dX3_isByNumber_14 : decode cX3_isByNumber 14 = .ok (.iload_n 1, 1) := by decide +kernel
theorem dX3_isByNumber_15 : decode cX3_isByNumber 15 = .ok (.iaload, 1) := by decide +kernel
theorem dX3_isByNumber_16 : decode cX3_isByNumber 16 = .ok (.iload_n 1, 1) := by decide +kernel
theorem dX3_isByNumber_17 : decode cX3_isByNumber 17 = .ok (.if_icmp .eq 5, 3) := by decide +kernel
theorem dX3_isByNumber_20 : decode cX3_isByNumber 20 = .ok (.iconst 0, 1) := by decide +kernel
theorem dX3_isByNumber_21 : decode cX3_isByNumber 21 = .ok (.ireturn, 1) := by decide +kernel
theorem dX3_isByNumber_22 : decode cX3_isByNumber 22 = .ok (.iinc 1 1, 3) := by decide +kernel
theorem dX3_isByNumber_25 : decode cX3_isByNumber 25 = .ok (.goto (-23), 3) := by decide +kernel
theorem dX3_isByNumber_28 : decode cX3_isByNumber 28 = .ok (.iconst 1, 1) := by decide +kernel
theorem dX3_isByNumber_29 : decode cX3_isByNumber 29 = .ok (.ireturn, 1) := by decide +kernel
theorem dX3_gatherLanes_0 : decode cX3_gatherLanes 0 = .ok (.aload_n 0, 1) := by decide +kernel
theorem dX3_gatherLanes_1 : decode cX3_gatherLanes 1 = .ok (.getfield 44, 3) := by decide +kernel
theorem dX3_gatherLanes_4 : decode cX3_gatherLanes 4 = .ok (.invokevirtual 88, 3) := by decide +kernel
theorem dX3_gatherLanes_7 : decode cX3_gatherLanes 7 = .ok (.aload_n 0, 1) := by decide +kernel
theorem dX3_gatherLanes_8 : decode cX3_gatherLanes 8 = .ok (.iconst 1, 1) := by decide +kernel
theorem dX3_gatherLanes_9 : decode cX3_gatherLanes 9 = .ok (.aload_n 0, 1) := by decide +kernel
theorem dX3_gatherLanes_10 : decode cX3_gatherLanes 10 = .ok (.getfield 12, 3) := by decide +kernel
theorem dX3_gatherLanes_13 : decode cX3_gatherLanes 13 = .ok (.getfield 89, 3) := by decide +kernel
theorem dX3_gatherLanes_16 : decode cX3_gatherLanes 16 = .ok (.aload_n 0, 1) := by decide +kernel
theorem dX3_gatherLanes_17 : decode cX3_gatherLanes 17 = .ok (.getfield 12, 3) := by decide +kernel
theorem dX3_gatherLanes_20 : decode cX3_gatherLanes 20 = .ok (.getfield 92, 3) := by decide +kernel
theorem dX3_gatherLanes_23 : decode cX3_gatherLanes 23 = .ok (.iload_n 1, 1) := by decide +kernel
theorem dX3_gatherLanes_24 : decode cX3_gatherLanes 24 = .ok (.iload_n 2, 1) := by decide +kernel
theorem dX3_gatherLanes_25 : decode cX3_gatherLanes 25 = .ok (.invokevirtual 95, 3) := by decide +kernel
theorem dX3_gatherLanes_28 : decode cX3_gatherLanes 28 = .ok (.aload_n 0, 1) := by decide +kernel
theorem dX3_gatherLanes_29 : decode cX3_gatherLanes 29 = .ok (.iconst 0, 1) := by decide +kernel
theorem dX3_gatherLanes_30 : decode cX3_gatherLanes 30 = .ok (.aload_n 0, 1) := by decide +kernel
theorem dX3_gatherLanes_31 : decode cX3_gatherLanes 31 = .ok (.getfield 12, 3) := by decide +kernel
theorem dX3_gatherLanes_34 : decode cX3_gatherLanes 34 = .ok (.getfield 99, 3) := by decide +kernel
theorem dX3_gatherLanes_37 : decode cX3_gatherLanes 37 = .ok (.aload_n 0, 1) := by decide +kernel
theorem dX3_gatherLanes_38 : decode cX3_gatherLanes 38 = .ok (.getfield 12, 3) := by decide +kernel
theorem dX3_gatherLanes_41 : decode cX3_gatherLanes 41 = .ok (.getfield 102, 3) := by decide +kernel
theorem dX3_gatherLanes_44 : decode cX3_gatherLanes 44 = .ok (.iload_n 1, 1) := by decide +kernel
theorem dX3_gatherLanes_45 : decode cX3_gatherLanes 45 = .ok (.iload_n 2, 1) := by decide +kernel
theorem dX3_gatherLanes_46 : decode cX3_gatherLanes 46 = .ok (.invokevirtual 95, 3) := by decide +kernel
theorem dX3_gatherLanes_49 : decode cX3_gatherLanes 49 = .ok (.return_, 1) := by decide +kernel
theorem dX3_gatherLanesOf_0 : decode cX3_gatherLanesOf 0 = .ok (.iload 4, 2) := by decide +kernel
theorem dX3_gatherLanesOf_2 : decode cX3_gatherLanesOf 2 = .ok (.istore 6, 2) := by decide +kernel
theorem dX3_gatherLanesOf_4 : decode cX3_gatherLanesOf 4 = .ok (.iload 6, 2) := by decide +kernel
theorem dX3_gatherLanesOf_6 : decode cX3_gatherLanesOf 6 = .ok (.iload 5, 2) := by decide +kernel
theorem dX3_gatherLanesOf_8 : decode cX3_gatherLanesOf 8 = .ok (.if_icmp .ge 69, 3) := by decide +kernel
theorem dX3_gatherLanesOf_11 : decode cX3_gatherLanesOf 11 = .ok (.aload_n 3, 1) := by decide +kernel
theorem dX3_gatherLanesOf_12 : decode cX3_gatherLanesOf 12 = .ok (.aload_n 0, 1) := by decide +kernel
theorem dX3_gatherLanesOf_13 : decode cX3_gatherLanesOf 13 = .ok (.getfield 48, 3) := by decide +kernel
theorem dX3_gatherLanesOf_16 : decode cX3_gatherLanesOf 16 = .ok (.iload 6, 2) := by decide +kernel
theorem dX3_gatherLanesOf_18 : decode cX3_gatherLanesOf 18 = .ok (.iaload, 1) := by decide +kernel
theorem dX3_gatherLanesOf_19 : decode cX3_gatherLanesOf 19 = .ok (.iaload, 1) := by decide +kernel
theorem dX3_gatherLanesOf_20 : decode cX3_gatherLanesOf 20 = .ok (.istore 7, 2) := by decide +kernel
theorem dX3_gatherLanesOf_22 : decode cX3_gatherLanesOf 22 = .ok (.aload_n 0, 1) := by decide +kernel
theorem dX3_gatherLanesOf_23 : decode cX3_gatherLanesOf 23 = .ok (.aload_n 2, 1) := by decide +kernel
theorem dX3_gatherLanesOf_24 : decode cX3_gatherLanesOf 24 = .ok (.aload_n 3, 1) := by decide +kernel
theorem dX3_gatherLanesOf_25 : decode cX3_gatherLanesOf 25 = .ok (.iload 7, 2) := by decide +kernel
theorem dX3_gatherLanesOf_27 : decode cX3_gatherLanesOf 27 = .ok (.iload 4, 2) := by decide +kernel
theorem dX3_gatherLanesOf_29 : decode cX3_gatherLanesOf 29 = .ok (.iload 5, 2) := by decide +kernel
theorem dX3_gatherLanesOf_31 : decode cX3_gatherLanesOf 31 = .ok (.invokevirtual 105, 3) := by decide +kernel
theorem dX3_gatherLanesOf_34 : decode cX3_gatherLanesOf 34 = .ok (.istore 8, 2) := by decide +kernel
theorem dX3_gatherLanesOf_36 : decode cX3_gatherLanesOf 36 = .ok (.iload 8, 2) := by decide +kernel
theorem dX3_gatherLanesOf_38 : decode cX3_gatherLanesOf 38 = .ok (.iload 7, 2) := by decide +kernel
theorem dX3_gatherLanesOf_40 : decode cX3_gatherLanesOf 40 = .ok (.if_icmp .le 31, 3) := by decide +kernel
theorem dX3_gatherLanesOf_43 : decode cX3_gatherLanesOf 43 = .ok (.aload_n 0, 1) := by decide +kernel
theorem dX3_gatherLanesOf_44 : decode cX3_gatherLanesOf 44 = .ok (.getfield 44, 3) := by decide +kernel
theorem dX3_gatherLanesOf_47 : decode cX3_gatherLanesOf 47 = .ok (.iload_n 1, 1) := by decide +kernel
theorem dX3_gatherLanesOf_48 : decode cX3_gatherLanesOf 48 = .ok (.iload 7, 2) := by decide +kernel
theorem dX3_gatherLanesOf_50 : decode cX3_gatherLanesOf 50 = .ok (.invokevirtual 109, 3) := by decide +kernel
theorem dX3_gatherLanesOf_53 : decode cX3_gatherLanesOf 53 = .ok (.ifCond .ne 18, 3) := by decide +kernel
theorem dX3_gatherLanesOf_56 : decode cX3_gatherLanesOf 56 = .ok (.aload_n 0, 1) := by decide +kernel
theorem dX3_gatherLanesOf_57 : decode cX3_gatherLanesOf 57 = .ok (.getfield 44, 3) := by decide +kernel
theorem dX3_gatherLanesOf_60 : decode cX3_gatherLanesOf 60 = .ok (.iload_n 1, 1) := by decide +kernel
theorem dX3_gatherLanesOf_61 : decode cX3_gatherLanesOf 61 = .ok (.iload 7, 2) := by decide +kernel
theorem dX3_gatherLanesOf_63 : decode cX3_gatherLanesOf 63 = .ok (.iload 8, 2) := by decide +kernel
theorem dX3_gatherLanesOf_65 : decode cX3_gatherLanesOf 65 = .ok (.iload 7, 2) := by decide +kernel
theorem dX3_gatherLanesOf_67 : decode cX3_gatherLanesOf 67 = .ok (.isub, 1) := by decide +kernel
theorem dX3_gatherLanesOf_68 : decode cX3_gatherLanesOf 68 = .ok (.invokevirtual 113, 3) := by decide +kernel
theorem dX3_gatherLanesOf_71 : decode cX3_gatherLanesOf 71 = .ok (.iinc 6 1, 3) := by decide +kernel
theorem dX3_gatherLanesOf_74 : decode cX3_gatherLanesOf 74 = .ok (.goto (-70), 3) := by decide +kernel
theorem dX3_gatherLanesOf_77 : decode cX3_gatherLanesOf 77 = .ok (.return_, 1) := by decide +kernel
theorem dX3_nextBegin_0 : decode cX3_nextBegin 0 = .ok (.iconst 0, 1) := by decide +kernel
theorem dX3_nextBegin_1 : decode cX3_nextBegin 1 = .ok (.istore 6, 2) := by decide +kernel
theorem dX3_nextBegin_3 : decode cX3_nextBegin 3 = .ok (.iload_n 3, 1) := by decide +kernel
theorem dX3_nextBegin_4 : decode cX3_nextBegin 4 = .ok (.istore 7, 2) := by decide +kernel
theorem dX3_nextBegin_6 : decode cX3_nextBegin 6 = .ok (.iload 4, 2) := by decide +kernel
theorem dX3_nextBegin_8 : decode cX3_nextBegin 8 = .ok (.istore 8, 2) := by decide +kernel
theorem dX3_nextBegin_10 : decode cX3_nextBegin 10 = .ok (.iload 8, 2) := by decide +kernel
theorem dX3_nextBegin_12 : decode cX3_nextBegin 12 = .ok (.iload 5, 2) := by decide +kernel
theorem dX3_nextBegin_14 : decode cX3_nextBegin 14 = .ok (.if_icmp .ge 49, 3) := by decide +kernel
theorem dX3_nextBegin_17 : decode cX3_nextBegin 17 = .ok (.aload_n 0, 1) := by decide +kernel
theorem dX3_nextBegin_18 : decode cX3_nextBegin 18 = .ok (.getfield 48, 3) := by decide +kernel
theorem dX3_nextBegin_21 : decode cX3_nextBegin 21 = .ok (.iload 8, 2) := by decide +kernel
theorem dX3_nextBegin_23 : decode cX3_nextBegin 23 = .ok (.iaload, 1) := by decide +kernel
theorem dX3_nextBegin_24 : decode cX3_nextBegin 24 = .ok (.istore 9, 2) := by decide +kernel
theorem dX3_nextBegin_26 : decode cX3_nextBegin 26 = .ok (.aload_n 2, 1) := by decide +kernel
theorem dX3_nextBegin_27 : decode cX3_nextBegin 27 = .ok (.iload 9, 2) := by decide +kernel
theorem dX3_nextBegin_29 : decode cX3_nextBegin 29 = .ok (.iaload, 1) := by decide +kernel
theorem dX3_nextBegin_30 : decode cX3_nextBegin 30 = .ok (.iload_n 3, 1) := by decide +kernel
theorem dX3_nextBegin_31 : decode cX3_nextBegin 31 = .ok (.if_icmp .le 26, 3) := by decide +kernel
theorem dX3_nextBegin_34 : decode cX3_nextBegin 34 = .ok (.iload 6, 2) := by decide +kernel
theorem dX3_nextBegin_36 : decode cX3_nextBegin 36 = .ok (.ifCond .eq 12, 3) := by decide +kernel
theorem dX3_nextBegin_39 : decode cX3_nextBegin 39 = .ok (.aload_n 1, 1) := by decide +kernel
theorem dX3_nextBegin_40 : decode cX3_nextBegin 40 = .ok (.iload 9, 2) := by decide +kernel
theorem dX3_nextBegin_42 : decode cX3_nextBegin 42 = .ok (.iaload, 1) := by decide +kernel
theorem dX3_nextBegin_43 : decode cX3_nextBegin 43 = .ok (.iload 7, 2) := by decide +kernel
theorem dX3_nextBegin_45 : decode cX3_nextBegin 45 = .ok (.if_icmp .ge 12, 3) := by decide +kernel
theorem dX3_nextBegin_48 : decode cX3_nextBegin 48 = .ok (.iconst 1, 1) := by decide +kernel
theorem dX3_nextBegin_49 : decode cX3_nextBegin 49 = .ok (.istore 6, 2) := by decide +kernel
theorem dX3_nextBegin_51 : decode cX3_nextBegin 51 = .ok (.aload_n 1, 1) := by decide +kernel
theorem dX3_nextBegin_52 : decode cX3_nextBegin 52 = .ok (.iload 9, 2) := by decide +kernel
theorem dX3_nextBegin_54 : decode cX3_nextBegin 54 = .ok (.iaload, 1) := by decide +kernel
theorem dX3_nextBegin_55 : decode cX3_nextBegin 55 = .ok (.istore 7, 2) := by decide +kernel
theorem dX3_nextBegin_57 : decode cX3_nextBegin 57 = .ok (.iinc 8 1, 3) := by decide +kernel
theorem dX3_nextBegin_60 : decode cX3_nextBegin 60 = .ok (.goto (-50), 3) := by decide +kernel
theorem dX3_nextBegin_63 : decode cX3_nextBegin 63 = .ok (.iload 7, 2) := by decide +kernel
theorem dX3_nextBegin_65 : decode cX3_nextBegin 65 = .ok (.ireturn, 1) := by decide +kernel
theorem dX3_readPart_0 : decode cX3_readPart 0 = .ok (.aload_n 0, 1) := by decide +kernel
theorem dX3_readPart_1 : decode cX3_readPart 1 = .ok (.iload_n 1, 1) := by decide +kernel
theorem dX3_readPart_2 : decode cX3_readPart 2 = .ok (.iload_n 2, 1) := by decide +kernel
theorem dX3_readPart_3 : decode cX3_readPart 3 = .ok (.invokevirtual 116, 3) := by decide +kernel
theorem dX3_readPart_6 : decode cX3_readPart 6 = .ok (.aload_n 0, 1) := by decide +kernel
theorem dX3_readPart_7 : decode cX3_readPart 7 = .ok (.getfield 44, 3) := by decide +kernel
theorem dX3_readPart_10 : decode cX3_readPart 10 = .ok (.getfield 120, 3) := by decide +kernel
theorem dX3_readPart_13 : decode cX3_readPart 13 = .ok (.ifCond .eq 9, 3) := by decide +kernel
theorem dX3_readPart_16 : decode cX3_readPart 16 = .ok (.iload_n 3, 1) := by decide +kernel
theorem dX3_readPart_17 : decode cX3_readPart 17 = .ok (.bipush 7, 2) := by decide +kernel
theorem dX3_readPart_19 : decode cX3_readPart 19 = .ok (.if_icmp .lt 11, 3) := by decide +kernel
theorem dX3_readPart_22 : decode cX3_readPart 22 = .ok (.aload_n 0, 1) := by decide +kernel
theorem dX3_readPart_23 : decode cX3_readPart 23 = .ok (.iload_n 1, 1) := by decide +kernel
theorem dX3_readPart_24 : decode cX3_readPart 24 = .ok (.iload_n 2, 1) := by decide +kernel
theorem dX3_readPart_25 : decode cX3_readPart 25 = .ok (.iload_n 3, 1) := by decide +kernel
theorem dX3_readPart_26 : decode cX3_readPart 26 = .ok (.invokevirtual 121, 3) := by decide +kernel
theorem dX3_readPart_29 : decode cX3_readPart 29 = .ok (.return_, 1) := by decide +kernel
theorem dX3_readPart_30 : decode cX3_readPart 30 = .ok (.aload_n 0, 1) := by decide +kernel
theorem dX3_readPart_31 : decode cX3_readPart 31 = .ok (.iload_n 1, 1) := by decide +kernel
theorem dX3_readPart_32 : decode cX3_readPart 32 = .ok (.iload_n 2, 1) := by decide +kernel
theorem dX3_readPart_33 : decode cX3_readPart 33 = .ok (.invokevirtual 124, 3) := by decide +kernel
theorem dX3_readPart_36 : decode cX3_readPart 36 = .ok (.istore 4, 2) := by decide +kernel
theorem dX3_readPart_38 : decode cX3_readPart 38 = .ok (.aload_n 0, 1) := by decide +kernel
theorem dX3_readPart_39 : decode cX3_readPart 39 = .ok (.getfield 37, 3) := by decide +kernel
theorem dX3_readPart_42 : decode cX3_readPart 42 = .ok (.aload_n 0, 1) := by decide +kernel
theorem dX3_readPart_43 : decode cX3_readPart 43 = .ok (.getfield 44, 3) := by decide +kernel
theorem dX3_readPart_46 : decode cX3_readPart 46 = .ok (.getfield 127, 3) := by decide +kernel
theorem dX3_readPart_49 : decode cX3_readPart 49 = .ok (.iconst 0, 1) := by decide +kernel
theorem dX3_readPart_50 : decode cX3_readPart 50 = .ok (.iaload, 1) := by decide +kernel
theorem dX3_readPart_51 : decode cX3_readPart 51 = .ok (.aload_n 0, 1) := by decide +kernel
theorem dX3_readPart_52 : decode cX3_readPart 52 = .ok (.getfield 44, 3) := by decide +kernel
theorem dX3_readPart_55 : decode cX3_readPart 55 = .ok (.getfield 130, 3) := by decide +kernel
theorem dX3_readPart_58 : decode cX3_readPart 58 = .ok (.iconst 0, 1) := by decide +kernel
theorem dX3_readPart_59 : decode cX3_readPart 59 = .ok (.iaload, 1) := by decide +kernel
theorem dX3_readPart_60 : decode cX3_readPart 60 = .ok (.aload_n 0, 1) := by decide +kernel
theorem dX3_readPart_61 : decode cX3_readPart 61 = .ok (.getfield 44, 3) := by decide +kernel
theorem dX3_readPart_64 : decode cX3_readPart 64 = .ok (.getfield 133, 3) := by decide +kernel
theorem dX3_readPart_67 : decode cX3_readPart 67 = .ok (.iconst 0, 1) := by decide +kernel
theorem dX3_readPart_68 : decode cX3_readPart 68 = .ok (.iaload, 1) := by decide +kernel
theorem dX3_readPart_69 : decode cX3_readPart 69 = .ok (.iload 4, 2) := by decide +kernel
theorem dX3_readPart_71 : decode cX3_readPart 71 = .ok (.iload_n 1, 1) := by decide +kernel
theorem dX3_readPart_72 : decode cX3_readPart 72 = .ok (.isub, 1) := by decide +kernel
theorem dX3_readPart_73 : decode cX3_readPart 73 = .ok (.iload_n 2, 1) := by decide +kernel
theorem dX3_readPart_74 : decode cX3_readPart 74 = .ok (.iload 4, 2) := by decide +kernel
theorem dX3_readPart_76 : decode cX3_readPart 76 = .ok (.isub, 1) := by decide +kernel
theorem dX3_readPart_77 : decode cX3_readPart 77 = .ok (.invokevirtual 136, 3) := by decide +kernel
theorem dX3_readPart_80 : decode cX3_readPart 80 = .ok (.aload_n 0, 1) := by decide +kernel
theorem dX3_readPart_81 : decode cX3_readPart 81 = .ok (.iload_n 1, 1) := by decide +kernel
theorem dX3_readPart_82 : decode cX3_readPart 82 = .ok (.iload 4, 2) := by decide +kernel
theorem dX3_readPart_84 : decode cX3_readPart 84 = .ok (.iload_n 3, 1) := by decide +kernel
theorem dX3_readPart_85 : decode cX3_readPart 85 = .ok (.iconst 1, 1) := by decide +kernel
theorem dX3_readPart_86 : decode cX3_readPart 86 = .ok (.iadd, 1) := by decide +kernel
theorem dX3_readPart_87 : decode cX3_readPart 87 = .ok (.invokevirtual 74, 3) := by decide +kernel
theorem dX3_readPart_90 : decode cX3_readPart 90 = .ok (.aload_n 0, 1) := by decide +kernel
theorem dX3_readPart_91 : decode cX3_readPart 91 = .ok (.iload 4, 2) := by decide +kernel
theorem dX3_readPart_93 : decode cX3_readPart 93 = .ok (.iload_n 2, 1) := by decide +kernel
theorem dX3_readPart_94 : decode cX3_readPart 94 = .ok (.iload_n 3, 1) := by decide +kernel
theorem dX3_readPart_95 : decode cX3_readPart 95 = .ok (.iconst 1, 1) := by decide +kernel
theorem dX3_readPart_96 : decode cX3_readPart 96 = .ok (.iadd, 1) := by decide +kernel
theorem dX3_readPart_97 : decode cX3_readPart 97 = .ok (.invokevirtual 74, 3) := by decide +kernel
theorem dX3_readPart_100 : decode cX3_readPart 100 = .ok (.return_, 1) := by decide +kernel
theorem dX3_divide_0 : decode cX3_divide 0 = .ok (.aload_n 0, 1) := by decide +kernel
theorem dX3_divide_1 : decode cX3_divide 1 = .ok (.getfield 44, 3) := by decide +kernel
theorem dX3_divide_4 : decode cX3_divide 4 = .ok (.getfield 127, 3) := by decide +kernel
theorem dX3_divide_7 : decode cX3_divide 7 = .ok (.iconst 0, 1) := by decide +kernel
theorem dX3_divide_8 : decode cX3_divide 8 = .ok (.iaload, 1) := by decide +kernel
theorem dX3_divide_9 : decode cX3_divide 9 = .ok (.iconst 1, 1) := by decide +kernel
theorem dX3_divide_10 : decode cX3_divide 10 = .ok (.if_icmp .ne 13, 3) := by decide +kernel
theorem dX3_divide_13 : decode cX3_divide 13 = .ok (.aload_n 0, 1) := by decide +kernel
theorem dX3_divide_14 : decode cX3_divide 14 = .ok (.getfield 12, 3) := by decide +kernel
theorem dX3_divide_17 : decode cX3_divide 17 = .ok (.getfield 92, 3) := by decide +kernel
theorem dX3_divide_20 : decode cX3_divide 20 = .ok (.goto 10, 3) := by decide +kernel
theorem dX3_divide_23 : decode cX3_divide 23 = .ok (.aload_n 0, 1) := by decide +kernel
theorem dX3_divide_24 : decode cX3_divide 24 = .ok (.getfield 12, 3) := by decide +kernel
theorem dX3_divide_27 : decode cX3_divide 27 = .ok (.getfield 102, 3) := by decide +kernel
theorem dX3_divide_30 : decode cX3_divide 30 = .ok (.astore_n 3, 1) := by decide +kernel
theorem dX3_divide_31 : decode cX3_divide 31 = .ok (.iload_n 1, 1) := by decide +kernel
theorem dX3_divide_32 : decode cX3_divide 32 = .ok (.istore 4, 2) := by decide +kernel
theorem dX3_divide_34 : decode cX3_divide 34 = .ok (.iconst 0, 1) := by decide +kernel
theorem dX3_divide_35 : decode cX3_divide 35 = .ok (.istore 5, 2) := by decide +kernel
theorem dX3_divide_37 : decode cX3_divide 37 = .ok (.iload_n 1, 1) := by decide +kernel
theorem dX3_divide_38 : decode cX3_divide 38 = .ok (.istore 6, 2) := by decide +kernel
theorem dX3_divide_40 : decode cX3_divide 40 = .ok (.iload 6, 2) := by decide +kernel
theorem dX3_divide_42 : decode cX3_divide 42 = .ok (.iload_n 2, 1) := by decide +kernel
theorem dX3_divide_43 : decode cX3_divide 43 = .ok (.if_icmp .ge 61, 3) := by decide +kernel
theorem dX3_divide_46 : decode cX3_divide 46 = .ok (.aload_n 0, 1) := by decide +kernel
theorem dX3_divide_47 : decode cX3_divide 47 = .ok (.getfield 48, 3) := by decide +kernel
theorem dX3_divide_50 : decode cX3_divide 50 = .ok (.iload 6, 2) := by decide +kernel
theorem dX3_divide_52 : decode cX3_divide 52 = .ok (.iaload, 1) := by decide +kernel
theorem dX3_divide_53 : decode cX3_divide 53 = .ok (.istore 7, 2) := by decide +kernel
theorem dX3_divide_55 : decode cX3_divide 55 = .ok (.aload_n 3, 1) := by decide +kernel
theorem dX3_divide_56 : decode cX3_divide 56 = .ok (.iload 7, 2) := by decide +kernel
theorem dX3_divide_58 : decode cX3_divide 58 = .ok (.iaload, 1) := by decide +kernel
theorem dX3_divide_59 : decode cX3_divide 59 = .ok (.aload_n 0, 1) := by decide +kernel
theorem dX3_divide_60 : decode cX3_divide 60 = .ok (.getfield 44, 3) := by decide +kernel
theorem dX3_divide_63 : decode cX3_divide 63 = .ok (.getfield 130, 3) := by decide +kernel
theorem dX3_divide_66 : decode cX3_divide 66 = .ok (.iconst 0, 1) := by decide +kernel
theorem dX3_divide_67 : decode cX3_divide 67 = .ok (.iaload, 1) := by decide +kernel
theorem dX3_divide_68 : decode cX3_divide 68 = .ok (.if_icmp .gt 18, 3) := by decide +kernel
theorem dX3_divide_71 : decode cX3_divide 71 = .ok (.aload_n 0, 1) := by decide +kernel
theorem dX3_divide_72 : decode cX3_divide 72 = .ok (.getfield 48, 3) := by decide +kernel
theorem dX3_divide_75 : decode cX3_divide 75 = .ok (.iload 4, 2) := by decide +kernel
theorem dX3_divide_77 : decode cX3_divide 77 = .ok (.iload 7, 2) := by decide +kernel
theorem dX3_divide_79 : decode cX3_divide 79 = .ok (.iastore, 1) := by decide +kernel
theorem dX3_divide_80 : decode cX3_divide 80 = .ok (.iinc 4 1, 3) := by decide +kernel
theorem dX3_divide_83 : decode cX3_divide 83 = .ok (.goto 15, 3) := by decide +kernel
theorem dX3_divide_86 : decode cX3_divide 86 = .ok (.aload_n 0, 1) := by decide +kernel
theorem dX3_divide_87 : decode cX3_divide 87 = .ok (.getfield 51, 3) := by decide +kernel
theorem dX3_divide_90 : decode cX3_divide 90 = .ok (.iload 5, 2) := by decide +kernel
theorem dX3_divide_92 : decode cX3_divide 92 = .ok (.iload 7, 2) := by decide +kernel
theorem dX3_divide_94 : decode cX3_divide 94 = .ok (.iastore, 1) := by decide +kernel
theorem dX3_divide_95 : decode cX3_divide 95 = .ok (.iinc 5 1, 3) := by decide +kernel
theorem dX3_divide_98 : decode cX3_divide 98 = .ok (.iinc 6 1, 3) := by decide +kernel
theorem dX3_divide_101 : decode cX3_divide 101 = .ok (.goto (-61), 3) := by decide +kernel
theorem dX3_divide_104 : decode cX3_divide 104 = .ok (.aload_n 0, 1) := by decide +kernel
theorem dX3_divide_105 : decode cX3_divide 105 = .ok (.getfield 51, 3) := by decide +kernel
theorem dX3_divide_108 : decode cX3_divide 108 = .ok (.iconst 0, 1) := by decide +kernel
theorem dX3_divide_109 : decode cX3_divide 109 = .ok (.aload_n 0, 1) := by decide +kernel
theorem dX3_divide_110 : decode cX3_divide 110 = .ok (.getfield 48, 3) := by decide +kernel
theorem dX3_divide_113 : decode cX3_divide 113 = .ok (.iload 4, 2) := by decide +kernel
theorem dX3_divide_115 : decode cX3_divide 115 = .ok (.iload 5, 2) := by decide +kernel
theorem dX3_divide_117 : decode cX3_divide 117 = .ok (.invokestatic 139, 3) := by decide +kernel
theorem dX3_divide_120 : decode cX3_divide 120 = .ok (.iload 4, 2) := by decide +kernel
theorem dX3_divide_122 : decode cX3_divide 122 = .ok (.ireturn, 1) := by decide +kernel
theorem dX3_readLeaf_0 : decode cX3_readLeaf 0 = .ok (.iload_n 1, 1) := by decide +kernel
theorem dX3_readLeaf_1 : decode cX3_readLeaf 1 = .ok (.istore 4, 2) := by decide +kernel
theorem dX3_readLeaf_3 : decode cX3_readLeaf 3 = .ok (.iload 4, 2) := by decide +kernel
theorem dX3_readLeaf_5 : decode cX3_readLeaf 5 = .ok (.iload_n 2, 1) := by decide +kernel
theorem dX3_readLeaf_6 : decode cX3_readLeaf 6 = .ok (.if_icmp .ge 99, 3) := by decide +kernel
theorem dX3_readLeaf_9 : decode cX3_readLeaf 9 = .ok (.aload_n 0, 1) := by decide +kernel
theorem dX3_readLeaf_10 : decode cX3_readLeaf 10 = .ok (.getfield 48, 3) := by decide +kernel
theorem dX3_readLeaf_13 : decode cX3_readLeaf 13 = .ok (.iload 4, 2) := by decide +kernel
theorem dX3_readLeaf_15 : decode cX3_readLeaf 15 = .ok (.iaload, 1) := by decide +kernel
theorem dX3_readLeaf_16 : decode cX3_readLeaf 16 = .ok (.istore 5, 2) := by decide +kernel
theorem dX3_readLeaf_18 : decode cX3_readLeaf 18 = .ok (.aload_n 0, 1) := by decide +kernel
theorem dX3_readLeaf_19 : decode cX3_readLeaf 19 = .ok (.getfield 28, 3) := by decide +kernel
theorem dX3_readLeaf_22 : decode cX3_readLeaf 22 = .ok (.iload 5, 2) := by decide +kernel
theorem dX3_readLeaf_24 : decode cX3_readLeaf 24 = .ok (.iload_n 3, 1) := by decide +kernel
theorem dX3_readLeaf_25 : decode cX3_readLeaf 25 = .ok (.iastore, 1) := by decide +kernel
theorem dX3_readLeaf_26 : decode cX3_readLeaf 26 = .ok (.aload_n 0, 1) := by decide +kernel
theorem dX3_readLeaf_27 : decode cX3_readLeaf 27 = .ok (.getfield 31, 3) := by decide +kernel
theorem dX3_readLeaf_30 : decode cX3_readLeaf 30 = .ok (.iload 5, 2) := by decide +kernel
theorem dX3_readLeaf_32 : decode cX3_readLeaf 32 = .ok (.aload_n 0, 1) := by decide +kernel
theorem dX3_readLeaf_33 : decode cX3_readLeaf 33 = .ok (.getfield 57, 3) := by decide +kernel
theorem dX3_readLeaf_36 : decode cX3_readLeaf 36 = .ok (.iastore, 1) := by decide +kernel
theorem dX3_readLeaf_37 : decode cX3_readLeaf 37 = .ok (.iload 4, 2) := by decide +kernel
theorem dX3_readLeaf_39 : decode cX3_readLeaf 39 = .ok (.istore 6, 2) := by decide +kernel
theorem dX3_readLeaf_41 : decode cX3_readLeaf 41 = .ok (.iload 6, 2) := by decide +kernel
theorem dX3_readLeaf_43 : decode cX3_readLeaf 43 = .ok (.iload_n 1, 1) := by decide +kernel
theorem dX3_readLeaf_44 : decode cX3_readLeaf 44 = .ok (.if_icmp .le 46, 3) := by decide +kernel
theorem dX3_readLeaf_47 : decode cX3_readLeaf 47 = .ok (.aload_n 0, 1) := by decide +kernel
theorem dX3_readLeaf_48 : decode cX3_readLeaf 48 = .ok (.getfield 12, 3) := by decide +kernel
theorem dX3_readLeaf_51 : decode cX3_readLeaf 51 = .ok (.iload 5, 2) := by decide +kernel
theorem dX3_readLeaf_53 : decode cX3_readLeaf 53 = .ok (.aload_n 0, 1) := by decide +kernel
theorem dX3_readLeaf_54 : decode cX3_readLeaf 54 = .ok (.getfield 48, 3) := by decide +kernel
theorem dX3_readLeaf_57 : decode cX3_readLeaf 57 = .ok (.iload 6, 2) := by decide +kernel
theorem dX3_readLeaf_59 : decode cX3_readLeaf 59 = .ok (.iconst 1, 1) := by decide +kernel
theorem dX3_readLeaf_60 : decode cX3_readLeaf 60 = .ok (.isub, 1) := by decide +kernel
theorem dX3_readLeaf_61 : decode cX3_readLeaf 61 = .ok (.iaload, 1) := by decide +kernel
theorem dX3_readLeaf_62 : decode cX3_readLeaf 62 = .ok (.invokevirtual 145, 3) := by decide +kernel
theorem dX3_readLeaf_65 : decode cX3_readLeaf 65 = .ok (.ifCond .eq 25, 3) := by decide +kernel
theorem dX3_readLeaf_68 : decode cX3_readLeaf 68 = .ok (.aload_n 0, 1) := by decide +kernel
theorem dX3_readLeaf_69 : decode cX3_readLeaf 69 = .ok (.getfield 48, 3) := by decide +kernel
theorem dX3_readLeaf_72 : decode cX3_readLeaf 72 = .ok (.iload 6, 2) := by decide +kernel
theorem dX3_readLeaf_74 : decode cX3_readLeaf 74 = .ok (.aload_n 0, 1) := by decide +kernel
theorem dX3_readLeaf_75 : decode cX3_readLeaf 75 = .ok (.getfield 48, 3) := by decide +kernel
theorem dX3_readLeaf_78 : decode cX3_readLeaf 78 = .ok (.iload 6, 2) := by decide +kernel
theorem dX3_readLeaf_80 : decode cX3_readLeaf 80 = .ok (.iconst 1, 1) := by decide +kernel
theorem dX3_readLeaf_81 : decode cX3_readLeaf 81 = .ok (.isub, 1) := by decide +kernel
theorem dX3_readLeaf_82 : decode cX3_readLeaf 82 = .ok (.iaload, 1) := by decide +kernel
theorem dX3_readLeaf_83 : decode cX3_readLeaf 83 = .ok (.iastore, 1) := by decide +kernel
theorem dX3_readLeaf_84 : decode cX3_readLeaf 84 = .ok (.iinc 6 (-1), 3) := by decide +kernel
theorem dX3_readLeaf_87 : decode cX3_readLeaf 87 = .ok (.goto (-46), 3) := by decide +kernel
theorem dX3_readLeaf_90 : decode cX3_readLeaf 90 = .ok (.aload_n 0, 1) := by decide +kernel
theorem dX3_readLeaf_91 : decode cX3_readLeaf 91 = .ok (.getfield 48, 3) := by decide +kernel
theorem dX3_readLeaf_94 : decode cX3_readLeaf 94 = .ok (.iload 6, 2) := by decide +kernel
theorem dX3_readLeaf_96 : decode cX3_readLeaf 96 = .ok (.iload 5, 2) := by decide +kernel
theorem dX3_readLeaf_98 : decode cX3_readLeaf 98 = .ok (.iastore, 1) := by decide +kernel
theorem dX3_readLeaf_99 : decode cX3_readLeaf 99 = .ok (.iinc 4 1, 3) := by decide +kernel
theorem dX3_readLeaf_102 : decode cX3_readLeaf 102 = .ok (.goto (-99), 3) := by decide +kernel
theorem dX3_readLeaf_105 : decode cX3_readLeaf 105 = .ok (.aload_n 0, 1) := by decide +kernel
theorem dX3_readLeaf_106 : decode cX3_readLeaf 106 = .ok (.dup, 1) := by decide +kernel
theorem dX3_readLeaf_107 : decode cX3_readLeaf 107 = .ok (.getfield 57, 3) := by decide +kernel
theorem dX3_readLeaf_110 : decode cX3_readLeaf 110 = .ok (.iconst 1, 1) := by decide +kernel
theorem dX3_readLeaf_111 : decode cX3_readLeaf 111 = .ok (.iadd, 1) := by decide +kernel
theorem dX3_readLeaf_112 : decode cX3_readLeaf 112 = .ok (.putfield 57, 3) := by decide +kernel
theorem dX3_readLeaf_115 : decode cX3_readLeaf 115 = .ok (.return_, 1) := by decide +kernel
theorem dX3_nearestFigure_0 : decode cX3_nearestFigure 0 = .ok (.iconst (-1), 1) := by decide +kernel
theorem dX3_nearestFigure_1 : decode cX3_nearestFigure 1 = .ok (.istore_n 2, 1) := by decide +kernel
theorem dX3_nearestFigure_2 : decode cX3_nearestFigure 2 = .ok (.iconst 0, 1) := by decide +kernel
theorem dX3_nearestFigure_3 : decode cX3_nearestFigure 3 = .ok (.istore_n 3, 1) := by decide +kernel
theorem dX3_nearestFigure_4 : decode cX3_nearestFigure 4 = .ok (.iconst 0, 1) := by decide +kernel
theorem dX3_nearestFigure_5 : decode cX3_nearestFigure 5 = .ok (.istore 4, 2) := by decide +kernel
theorem dX3_nearestFigure_7 : decode cX3_nearestFigure 7 = .ok (.iload 4, 2) := by decide +kernel
theorem dX3_nearestFigure_9 : decode cX3_nearestFigure 9 = .ok (.aload_n 0, 1) := by decide +kernel
theorem dX3_nearestFigure_10 : decode cX3_nearestFigure 10 = .ok (.getfield 12, 3) := by decide +kernel
theorem dX3_nearestFigure_13 : decode cX3_nearestFigure 13 = .ok (.getfield 64, 3) := by decide +kernel
theorem dX3_nearestFigure_16 : decode cX3_nearestFigure 16 = .ok (.if_icmp .ge 52, 3) := by decide +kernel
theorem dX3_nearestFigure_19 : decode cX3_nearestFigure 19 = .ok (.aload_n 0, 1) := by decide +kernel
theorem dX3_nearestFigure_20 : decode cX3_nearestFigure 20 = .ok (.getfield 12, 3) := by decide +kernel
theorem dX3_nearestFigure_23 : decode cX3_nearestFigure 23 = .ok (.getfield 67, 3) := by decide +kernel
theorem dX3_nearestFigure_26 : decode cX3_nearestFigure 26 = .ok (.iload 4, 2) := by decide +kernel
theorem dX3_nearestFigure_28 : decode cX3_nearestFigure 28 = .ok (.iaload, 1) := by decide +kernel
theorem dX3_nearestFigure_29 : decode cX3_nearestFigure 29 = .ok (.iconst 3, 1) := by decide +kernel
theorem dX3_nearestFigure_30 : decode cX3_nearestFigure 30 = .ok (.if_icmp .ne 32, 3) := by decide +kernel
theorem dX3_nearestFigure_33 : decode cX3_nearestFigure 33 = .ok (.aload_n 0, 1) := by decide +kernel
theorem dX3_nearestFigure_34 : decode cX3_nearestFigure 34 = .ok (.getfield 12, 3) := by decide +kernel
theorem dX3_nearestFigure_37 : decode cX3_nearestFigure 37 = .ok (.iload_n 1, 1) := by decide +kernel
theorem dX3_nearestFigure_38 : decode cX3_nearestFigure 38 = .ok (.iload 4, 2) := by decide +kernel
theorem dX3_nearestFigure_40 : decode cX3_nearestFigure 40 = .ok (.invokevirtual 148, 3) := by decide +kernel
theorem dX3_nearestFigure_43 : decode cX3_nearestFigure 43 = .ok (.istore 5, 2) := by decide +kernel
theorem dX3_nearestFigure_45 : decode cX3_nearestFigure 45 = .ok (.iload_n 2, 1) := by decide +kernel
theorem dX3_nearestFigure_46 : decode cX3_nearestFigure 46 = .ok (.iconst (-1), 1) := by decide +kernel
theorem dX3_nearestFigure_47 : decode cX3_nearestFigure 47 = .ok (.if_icmp .eq 9, 3) := by decide +kernel
theorem dX3_nearestFigure_50 : decode cX3_nearestFigure 50 = .ok (.iload 5, 2) := by decide +kernel
theorem dX3_nearestFigure_52 : decode cX3_nearestFigure 52 = .ok (.iload_n 3, 1) := by decide +kernel
theorem dX3_nearestFigure_53 : decode cX3_nearestFigure 53 = .ok (.if_icmp .ge 9, 3) := by decide +kernel
theorem dX3_nearestFigure_56 : decode cX3_nearestFigure 56 = .ok (.iload 4, 2) := by decide +kernel
theorem dX3_nearestFigure_58 : decode cX3_nearestFigure 58 = .ok (.istore_n 2, 1) := by decide +kernel
theorem dX3_nearestFigure_59 : decode cX3_nearestFigure 59 = .ok (.iload 5, 2) := by decide +kernel
theorem dX3_nearestFigure_61 : decode cX3_nearestFigure 61 = .ok (.istore_n 3, 1) := by decide +kernel
theorem dX3_nearestFigure_62 : decode cX3_nearestFigure 62 = .ok (.iinc 4 1, 3) := by decide +kernel
theorem dX3_nearestFigure_65 : decode cX3_nearestFigure 65 = .ok (.goto (-58), 3) := by decide +kernel
theorem dX3_nearestFigure_68 : decode cX3_nearestFigure 68 = .ok (.iload_n 2, 1) := by decide +kernel
theorem dX3_nearestFigure_69 : decode cX3_nearestFigure 69 = .ok (.ireturn, 1) := by decide +kernel
theorem dX3_putInOrder_0 : decode cX3_putInOrder 0 = .ok (.aload_n 0, 1) := by decide +kernel
theorem dX3_putInOrder_1 : decode cX3_putInOrder 1 = .ok (.iconst 0, 1) := by decide +kernel
theorem dX3_putInOrder_2 : decode cX3_putInOrder 2 = .ok (.putfield 85, 3) := by decide +kernel
theorem dX3_putInOrder_5 : decode cX3_putInOrder 5 = .ok (.iconst 0, 1) := by decide +kernel
theorem dX3_putInOrder_6 : decode cX3_putInOrder 6 = .ok (.istore_n 1, 1) := by decide +kernel
theorem dX3_putInOrder_7 : decode cX3_putInOrder 7 = .ok (.iload_n 1, 1) := by decide +kernel
theorem dX3_putInOrder_8 : decode cX3_putInOrder 8 = .ok (.aload_n 0, 1) := by decide +kernel
theorem dX3_putInOrder_9 : decode cX3_putInOrder 9 = .ok (.getfield 61, 3) := by decide +kernel
theorem dX3_putInOrder_12 : decode cX3_putInOrder 12 = .ok (.if_icmp .ge 58, 3) := by decide +kernel
theorem dX3_putInOrder_15 : decode cX3_putInOrder 15 = .ok (.aload_n 0, 1) := by decide +kernel
theorem dX3_putInOrder_16 : decode cX3_putInOrder 16 = .ok (.aload_n 0, 1) := by decide +kernel
theorem dX3_putInOrder_17 : decode cX3_putInOrder 17 = .ok (.getfield 48, 3) := by decide +kernel
theorem dX3_putInOrder_20 : decode cX3_putInOrder 20 = .ok (.iload_n 1, 1) := by decide +kernel
theorem dX3_putInOrder_21 : decode cX3_putInOrder 21 = .ok (.iaload, 1) := by decide +kernel
theorem dX3_putInOrder_22 : decode cX3_putInOrder 22 = .ok (.invokevirtual 151, 3) := by decide +kernel
theorem dX3_putInOrder_25 : decode cX3_putInOrder 25 = .ok (.iconst 0, 1) := by decide +kernel
theorem dX3_putInOrder_26 : decode cX3_putInOrder 26 = .ok (.istore_n 2, 1) := by decide +kernel
theorem dX3_putInOrder_27 : decode cX3_putInOrder 27 = .ok (.iload_n 2, 1) := by decide +kernel
theorem dX3_putInOrder_28 : decode cX3_putInOrder 28 = .ok (.aload_n 0, 1) := by decide +kernel
theorem dX3_putInOrder_29 : decode cX3_putInOrder 29 = .ok (.getfield 12, 3) := by decide +kernel
theorem dX3_putInOrder_32 : decode cX3_putInOrder 32 = .ok (.getfield 64, 3) := by decide +kernel
theorem dX3_putInOrder_35 : decode cX3_putInOrder 35 = .ok (.if_icmp .ge 29, 3) := by decide +kernel
theorem dX3_putInOrder_38 : decode cX3_putInOrder 38 = .ok (.aload_n 0, 1) := by decide +kernel
theorem dX3_putInOrder_39 : decode cX3_putInOrder 39 = .ok (.getfield 25, 3) := by decide +kernel
theorem dX3_putInOrder_42 : decode cX3_putInOrder 42 = .ok (.iload_n 2, 1) := by decide +kernel
theorem dX3_putInOrder_43 : decode cX3_putInOrder 43 = .ok (.iaload, 1) := by decide +kernel
theorem dX3_putInOrder_44 : decode cX3_putInOrder 44 = .ok (.aload_n 0, 1) := by decide +kernel
theorem dX3_putInOrder_45 : decode cX3_putInOrder 45 = .ok (.getfield 48, 3) := by decide +kernel
theorem dX3_putInOrder_48 : decode cX3_putInOrder 48 = .ok (.iload_n 1, 1) := by decide +kernel
theorem dX3_putInOrder_49 : decode cX3_putInOrder 49 = .ok (.iaload, 1) := by decide +kernel
theorem dX3_putInOrder_50 : decode cX3_putInOrder 50 = .ok (.if_icmp .ne 8, 3) := by decide +kernel
theorem dX3_putInOrder_53 : decode cX3_putInOrder 53 = .ok (.aload_n 0, 1) := by decide +kernel
theorem dX3_putInOrder_54 : decode cX3_putInOrder 54 = .ok (.iload_n 2, 1) := by decide +kernel
theorem dX3_putInOrder_55 : decode cX3_putInOrder 55 = .ok (.invokevirtual 151, 3) := by decide +kernel
theorem dX3_putInOrder_58 : decode cX3_putInOrder 58 = .ok (.iinc 2 1, 3) := by decide +kernel
theorem dX3_putInOrder_61 : decode cX3_putInOrder 61 = .ok (.goto (-34), 3) := by decide +kernel
theorem dX3_putInOrder_64 : decode cX3_putInOrder 64 = .ok (.iinc 1 1, 3) := by decide +kernel
theorem dX3_putInOrder_67 : decode cX3_putInOrder 67 = .ok (.goto (-60), 3) := by decide +kernel
theorem dX3_putInOrder_70 : decode cX3_putInOrder 70 = .ok (.return_, 1) := by decide +kernel
theorem dX3_putNext_0 : decode cX3_putNext 0 = .ok (.aload_n 0, 1) := by decide +kernel
theorem dX3_putNext_1 : decode cX3_putNext 1 = .ok (.getfield 85, 3) := by decide +kernel
theorem dX3_putNext_4 : decode cX3_putNext 4 = .ok (.bipush 8, 2) := by decide +kernel
theorem dX3_putNext_6 : decode cX3_putNext 6 = .ok (.if_icmp .ge 33, 3) := by decide +kernel
theorem dX3_putNext_9 : decode cX3_putNext 9 = .ok (.aload_n 0, 1) := by decide +kernel
theorem dX3_putNext_10 : decode cX3_putNext 10 = .ok (.getfield 18, 3) := by decide +kernel
theorem dX3_putNext_13 : decode cX3_putNext 13 = .ok (.aload_n 0, 1) := by decide +kernel
theorem dX3_putNext_14 : decode cX3_putNext 14 = .ok (.getfield 85, 3) := by decide +kernel
theorem dX3_putNext_17 : decode cX3_putNext 17 = .ok (.iload_n 1, 1) := by decide +kernel
theorem dX3_putNext_18 : decode cX3_putNext 18 = .ok (.iastore, 1) := by decide +kernel
theorem dX3_putNext_19 : decode cX3_putNext 19 = .ok (.aload_n 0, 1) := by decide +kernel
theorem dX3_putNext_20 : decode cX3_putNext 20 = .ok (.getfield 22, 3) := by decide +kernel
theorem dX3_putNext_23 : decode cX3_putNext 23 = .ok (.iload_n 1, 1) := by decide +kernel
theorem dX3_putNext_24 : decode cX3_putNext 24 = .ok (.aload_n 0, 1) := by decide +kernel
theorem dX3_putNext_25 : decode cX3_putNext 25 = .ok (.getfield 85, 3) := by decide +kernel
theorem dX3_putNext_28 : decode cX3_putNext 28 = .ok (.iastore, 1) := by decide +kernel
theorem dX3_putNext_29 : decode cX3_putNext 29 = .ok (.aload_n 0, 1) := by decide +kernel
theorem dX3_putNext_30 : decode cX3_putNext 30 = .ok (.dup, 1) := by decide +kernel
theorem dX3_putNext_31 : decode cX3_putNext 31 = .ok (.getfield 85, 3) := by decide +kernel
theorem dX3_putNext_34 : decode cX3_putNext 34 = .ok (.iconst 1, 1) := by decide +kernel
theorem dX3_putNext_35 : decode cX3_putNext 35 = .ok (.iadd, 1) := by decide +kernel
theorem dX3_putNext_36 : decode cX3_putNext 36 = .ok (.putfield 85, 3) := by decide +kernel
theorem dX3_putNext_39 : decode cX3_putNext 39 = .ok (.return_, 1) := by decide +kernel
theorem dX4_init_0 : decode cX4_init 0 = .ok (.aload_n 0, 1) := by decide +kernel
theorem dX4_init_1 : decode cX4_init 1 = .ok (.invokespecial 3, 3) := by decide +kernel
theorem dX4_init_4 : decode cX4_init 4 = .ok (.aload_n 0, 1) := by decide +kernel
theorem dX4_init_5 : decode cX4_init 5 = .ok (.bipush 6, 2) := by decide +kernel
theorem dX4_init_7 : decode cX4_init 7 = .ok (.newarray .int, 2) := by decide +kernel
theorem dX4_init_9 : decode cX4_init 9 = .ok (.putfield 9, 3) := by decide +kernel
theorem dX4_init_12 : decode cX4_init 12 = .ok (.aload_n 0, 1) := by decide +kernel
theorem dX4_init_13 : decode cX4_init 13 = .ok (.bipush 6, 2) := by decide +kernel
theorem dX4_init_15 : decode cX4_init 15 = .ok (.newarray .int, 2) := by decide +kernel
theorem dX4_init_17 : decode cX4_init 17 = .ok (.putfield 15, 3) := by decide +kernel
theorem dX4_init_20 : decode cX4_init 20 = .ok (.return_, 1) := by decide +kernel
theorem dX4_clear_0 : decode cX4_clear 0 = .ok (.aload_n 0, 1) := by decide +kernel
theorem dX4_clear_1 : decode cX4_clear 1 = .ok (.iconst 0, 1) := by decide +kernel
theorem dX4_clear_2 : decode cX4_clear 2 = .ok (.putfield 18, 3) := by decide +kernel
theorem dX4_clear_5 : decode cX4_clear 5 = .ok (.return_, 1) := by decide +kernel
theorem dX4_copy_0 : decode cX4_copy 0 = .ok (.aload_n 1, 1) := by decide +kernel
theorem dX4_copy_1 : decode cX4_copy 1 = .ok (.getfield 9, 3) := by decide +kernel
theorem dX4_copy_4 : decode cX4_copy 4 = .ok (.iconst 0, 1) := by decide +kernel
theorem dX4_copy_5 : decode cX4_copy 5 = .ok (.aload_n 0, 1) := by decide +kernel
theorem dX4_copy_6 : decode cX4_copy 6 = .ok (.getfield 9, 3) := by decide +kernel
theorem dX4_copy_9 : decode cX4_copy 9 = .ok (.iconst 0, 1) := by decide +kernel
theorem dX4_copy_10 : decode cX4_copy 10 = .ok (.bipush 6, 2) := by decide +kernel
theorem dX4_copy_12 : decode cX4_copy 12 = .ok (.invokestatic 22, 3) := by decide +kernel
theorem dX4_copy_15 : decode cX4_copy 15 = .ok (.aload_n 1, 1) := by decide +kernel
theorem dX4_copy_16 : decode cX4_copy 16 = .ok (.getfield 15, 3) := by decide +kernel
theorem dX4_copy_19 : decode cX4_copy 19 = .ok (.iconst 0, 1) := by decide +kernel
theorem dX4_copy_20 : decode cX4_copy 20 = .ok (.aload_n 0, 1) := by decide +kernel
theorem dX4_copy_21 : decode cX4_copy 21 = .ok (.getfield 15, 3) := by decide +kernel
theorem dX4_copy_24 : decode cX4_copy 24 = .ok (.iconst 0, 1) := by decide +kernel
theorem dX4_copy_25 : decode cX4_copy 25 = .ok (.bipush 6, 2) := by decide +kernel
theorem dX4_copy_27 : decode cX4_copy 27 = .ok (.invokestatic 22, 3) := by decide +kernel
theorem dX4_copy_30 : decode cX4_copy 30 = .ok (.aload_n 0, 1) := by decide +kernel
theorem dX4_copy_31 : decode cX4_copy 31 = .ok (.aload_n 1, 1) := by decide +kernel
theorem dX4_copy_32 : decode cX4_copy 32 = .ok (.getfield 18, 3) := by decide +kernel
theorem dX4_copy_35 : decode cX4_copy 35 = .ok (.putfield 18, 3) := by decide +kernel
theorem dX4_copy_38 : decode cX4_copy 38 = .ok (.return_, 1) := by decide +kernel
theorem dX4_add_0 : decode cX4_add 0 = .ok (.aload_n 0, 1) := by decide +kernel
theorem dX4_add_1 : decode cX4_add 1 = .ok (.getfield 18, 3) := by decide +kernel
theorem dX4_add_4 : decode cX4_add 4 = .ok (.bipush 6, 2) := by decide +kernel
theorem dX4_add_6 : decode cX4_add 6 = .ok (.if_icmp .ge 52, 3) := by decide +kernel
theorem dX4_add_9 : decode cX4_add 9 = .ok (.aload_n 0, 1) := by decide +kernel
theorem dX4_add_10 : decode cX4_add 10 = .ok (.getfield 9, 3) := by decide +kernel
theorem dX4_add_13 : decode cX4_add 13 = .ok (.aload_n 0, 1) := by decide +kernel
theorem dX4_add_14 : decode cX4_add 14 = .ok (.getfield 18, 3) := by decide +kernel
theorem dX4_add_17 : decode cX4_add 17 = .ok (.iload_n 1, 1) := by decide +kernel
theorem dX4_add_18 : decode cX4_add 18 = .ok (.iastore, 1) := by decide +kernel
theorem dX4_add_19 : decode cX4_add 19 = .ok (.aload_n 0, 1) := by decide +kernel
theorem dX4_add_20 : decode cX4_add 20 = .ok (.getfield 15, 3) := by decide +kernel
theorem dX4_add_23 : decode cX4_add 23 = .ok (.aload_n 0, 1) := by decide +kernel
theorem dX4_add_24 : decode cX4_add 24 = .ok (.getfield 18, 3) := by decide +kernel
theorem dX4_add_27 : decode cX4_add 27 = .ok (.iload_n 3, 1) := by decide +kernel
theorem dX4_add_28 : decode cX4_add 28 = .ok (.ifCond .eq 10, 3) := by decide +kernel
theorem dX4_add_31 : decode cX4_add 31 = .ok (.iload_n 2, 1) := by decide +kernel
theorem dX4_add_32 : decode cX4_add 32 = .ok (.invokestatic 28, 3) := by decide +kernel
theorem dX4_add_35 : decode cX4_add 35 = .ok (.goto 12, 3) := by decide +kernel
theorem dX4_add_38 : decode cX4_add 38 = .ok (.bipush 31, 2) := by decide +kernel
theorem dX4_add_40 : decode cX4_add 40 = .ok (.iload_n 2, 1) := by decide +kernel
theorem dX4_add_41 : decode cX4_add 41 = .ok (.invokestatic 28, 3) := by decide +kernel
theorem dX4_add_44 : decode cX4_add 44 = .ok (.iconst (-1), 1) := by decide +kernel
theorem dX4_add_45 : decode cX4_add 45 = .ok (.ixor, 1) := by decide +kernel
theorem dX4_add_46 : decode cX4_add 46 = .ok (.iand, 1) := by decide +kernel
theorem dX4_add_47 : decode cX4_add 47 = .ok (.iastore, 1) := by decide +kernel
theorem dX4_add_48 : decode cX4_add 48 = .ok (.aload_n 0, 1) := by decide +kernel
theorem dX4_add_49 : decode cX4_add 49 = .ok (.dup, 1) := by decide +kernel
theorem dX4_add_50 : decode cX4_add 50 = .ok (.getfield 18, 3) := by decide +kernel
theorem dX4_add_53 : decode cX4_add 53 = .ok (.iconst 1, 1) := by decide +kernel
theorem dX4_add_54 : decode cX4_add 54 = .ok (.iadd, 1) := by decide +kernel
theorem dX4_add_55 : decode cX4_add 55 = .ok (.putfield 18, 3) := by decide +kernel
theorem dX4_add_58 : decode cX4_add 58 = .ok (.return_, 1) := by decide +kernel
theorem dX4_sortsOf_0 : decode cX4_sortsOf 0 = .ok (.bipush 31, 2) := by decide +kernel
theorem dX4_sortsOf_2 : decode cX4_sortsOf 2 = .ok (.istore_n 2, 1) := by decide +kernel
theorem dX4_sortsOf_3 : decode cX4_sortsOf 3 = .ok (.iconst 0, 1) := by decide +kernel
theorem dX4_sortsOf_4 : decode cX4_sortsOf 4 = .ok (.istore_n 3, 1) := by decide +kernel
theorem dX4_sortsOf_5 : decode cX4_sortsOf 5 = .ok (.iload_n 3, 1) := by decide +kernel
theorem dX4_sortsOf_6 : decode cX4_sortsOf 6 = .ok (.aload_n 0, 1) := by decide +kernel
theorem dX4_sortsOf_7 : decode cX4_sortsOf 7 = .ok (.getfield 18, 3) := by decide +kernel
theorem dX4_sortsOf_10 : decode cX4_sortsOf 10 = .ok (.if_icmp .ge 28, 3) := by decide +kernel
theorem dX4_sortsOf_13 : decode cX4_sortsOf 13 = .ok (.aload_n 0, 1) := by decide +kernel
theorem dX4_sortsOf_14 : decode cX4_sortsOf 14 = .ok (.getfield 9, 3) := by decide +kernel
theorem dX4_sortsOf_17 : decode cX4_sortsOf 17 = .ok (.iload_n 3, 1) := by decide +kernel
theorem dX4_sortsOf_18 : decode cX4_sortsOf 18 = .ok (.iaload, 1) := by decide +kernel
theorem dX4_sortsOf_19 : decode cX4_sortsOf 19 = .ok (.iload_n 1, 1) := by decide +kernel
theorem dX4_sortsOf_20 : decode cX4_sortsOf 20 = .ok (.if_icmp .ne 12, 3) := by decide +kernel
theorem dX4_sortsOf_23 : decode cX4_sortsOf 23 = .ok (.iload_n 2, 1) := by decide +kernel
theorem dX4_sortsOf_24 : decode cX4_sortsOf 24 = .ok (.aload_n 0, 1) := by decide +kernel
theorem dX4_sortsOf_25 : decode cX4_sortsOf 25 = .ok (.getfield 15, 3) := by decide +kernel
theorem dX4_sortsOf_28 : decode cX4_sortsOf 28 = .ok (.iload_n 3, 1) := by decide +kernel
theorem dX4_sortsOf_29 : decode cX4_sortsOf 29 = .ok (.iaload, 1) := by decide +kernel
theorem dX4_sortsOf_30 : decode cX4_sortsOf 30 = .ok (.iand, 1) := by decide +kernel
theorem dX4_sortsOf_31 : decode cX4_sortsOf 31 = .ok (.istore_n 2, 1) := by decide +kernel
theorem dX4_sortsOf_32 : decode cX4_sortsOf 32 = .ok (.iinc 3 1, 3) := by decide +kernel
theorem dX4_sortsOf_35 : decode cX4_sortsOf 35 = .ok (.goto (-30), 3) := by decide +kernel
theorem dX4_sortsOf_38 : decode cX4_sortsOf 38 = .ok (.iload_n 2, 1) := by decide +kernel
theorem dX4_sortsOf_39 : decode cX4_sortsOf 39 = .ok (.ireturn, 1) := by decide +kernel
theorem dX4_nextQuestionFor_0 : decode cX4_nextQuestionFor 0 = .ok (.aload_n 0, 1) := by decide +kernel
theorem dX4_nextQuestionFor_1 : decode cX4_nextQuestionFor 1 = .ok (.iload_n 1, 1) := by decide +kernel
theorem dX4_nextQuestionFor_2 : decode cX4_nextQuestionFor 2 = .ok (.invokevirtual 32, 3) := by decide +kernel
theorem dX4_nextQuestionFor_5 : decode cX4_nextQuestionFor 5 = .ok (.istore_n 2, 1) := by decide +kernel
theorem dX4_nextQuestionFor_6 : decode cX4_nextQuestionFor 6 = .ok (.iload_n 2, 1) := by decide +kernel
theorem dX4_nextQuestionFor_7 : decode cX4_nextQuestionFor 7 = .ok (.ifCond .ne 5, 3) := by decide +kernel
theorem dX4_nextQuestionFor_10 : decode cX4_nextQuestionFor 10 = .ok (.iconst (-1), 1) := by decide +kernel
theorem dX4_nextQuestionFor_11 : decode cX4_nextQuestionFor 11 = .ok (.ireturn, 1) := by decide +kernel
theorem dX4_nextQuestionFor_12 : decode cX4_nextQuestionFor 12 = .ok (.iconst (-1), 1) := by decide +kernel
theorem dX4_nextQuestionFor_13 : decode cX4_nextQuestionFor 13 = .ok (.istore_n 3, 1) := by decide +kernel
theorem dX4_nextQuestionFor_14 : decode cX4_nextQuestionFor 14 = .ok (.bipush 6, 2) := by decide +kernel
theorem dX4_nextQuestionFor_16 : decode cX4_nextQuestionFor 16 = .ok (.istore 4, 2) := by decide +kernel
theorem dX4_nextQuestionFor_18 : decode cX4_nextQuestionFor 18 = .ok (.iconst 0, 1) := by decide +kernel
theorem dX4_nextQuestionFor_19 : decode cX4_nextQuestionFor 19 = .ok (.istore 5, 2) := by decide +kernel
theorem dX4_nextQuestionFor_21 : decode cX4_nextQuestionFor 21 = .ok (.iload 5, 2) := by decide +kernel
theorem dX4_nextQuestionFor_23 : decode cX4_nextQuestionFor 23 = .ok (.iconst 4, 1) := by decide +kernel
theorem dX4_nextQuestionFor_24 : decode cX4_nextQuestionFor 24 = .ok (.if_icmp .ge 58, 3) := by decide +kernel
theorem dX4_nextQuestionFor_27 : decode cX4_nextQuestionFor 27 = .ok (.iload_n 2, 1) := by decide +kernel
theorem dX4_nextQuestionFor_28 : decode cX4_nextQuestionFor 28 = .ok (.iload 5, 2) := by decide +kernel
theorem dX4_nextQuestionFor_30 : decode cX4_nextQuestionFor 30 = .ok (.invokestatic 28, 3) := by decide +kernel
theorem dX4_nextQuestionFor_33 : decode cX4_nextQuestionFor 33 = .ok (.iand, 1) := by decide +kernel
theorem dX4_nextQuestionFor_34 : decode cX4_nextQuestionFor 34 = .ok (.invokestatic 35, 3) := by decide +kernel
theorem dX4_nextQuestionFor_37 : decode cX4_nextQuestionFor 37 = .ok (.istore 6, 2) := by decide +kernel
theorem dX4_nextQuestionFor_39 : decode cX4_nextQuestionFor 39 = .ok (.iload_n 2, 1) := by decide +kernel
theorem dX4_nextQuestionFor_40 : decode cX4_nextQuestionFor 40 = .ok (.iload 5, 2) := by decide +kernel
theorem dX4_nextQuestionFor_42 : decode cX4_nextQuestionFor 42 = .ok (.invokestatic 28, 3) := by decide +kernel
theorem dX4_nextQuestionFor_45 : decode cX4_nextQuestionFor 45 = .ok (.iconst (-1), 1) := by decide +kernel
theorem dX4_nextQuestionFor_46 : decode cX4_nextQuestionFor 46 = .ok (.ixor, 1) := by decide +kernel
theorem dX4_nextQuestionFor_47 : decode cX4_nextQuestionFor 47 = .ok (.iand, 1) := by decide +kernel
theorem dX4_nextQuestionFor_48 : decode cX4_nextQuestionFor 48 = .ok (.invokestatic 35, 3) := by decide +kernel
theorem dX4_nextQuestionFor_51 : decode cX4_nextQuestionFor 51 = .ok (.istore 7, 2) := by decide +kernel
theorem dX4_nextQuestionFor_53 : decode cX4_nextQuestionFor 53 = .ok (.iload 6, 2) := by decide +kernel
theorem dX4_nextQuestionFor_55 : decode cX4_nextQuestionFor 55 = .ok (.iload 7, 2) := by decide +kernel
theorem dX4_nextQuestionFor_57 : decode cX4_nextQuestionFor 57 = .ok (.invokestatic 40, 3) := by decide +kernel
theorem dX4_nextQuestionFor_60 : decode cX4_nextQuestionFor 60 = .ok (.istore 8, 2) := by decide +kernel
theorem dX4_nextQuestionFor_62 : decode cX4_nextQuestionFor 62 = .ok (.iload 8, 2) := by decide +kernel
theorem dX4_nextQuestionFor_64 : decode cX4_nextQuestionFor 64 = .ok (.iload 4, 2) := by decide +kernel
theorem dX4_nextQuestionFor_66 : decode cX4_nextQuestionFor 66 = .ok (.if_icmp .ge 10, 3) := by decide +kernel
theorem dX4_nextQuestionFor_69 : decode cX4_nextQuestionFor 69 = .ok (.iload 8, 2) := by decide +kernel
theorem dX4_nextQuestionFor_71 : decode cX4_nextQuestionFor 71 = .ok (.istore 4, 2) := by decide +kernel
theorem dX4_nextQuestionFor_73 : decode cX4_nextQuestionFor 73 = .ok (.iload 5, 2) := by decide +kernel
theorem dX4_nextQuestionFor_75 : decode cX4_nextQuestionFor 75 = .ok (.istore_n 3, 1) := by decide +kernel
theorem dX4_nextQuestionFor_76 : decode cX4_nextQuestionFor 76 = .ok (.iinc 5 1, 3) := by decide +kernel
theorem dX4_nextQuestionFor_79 : decode cX4_nextQuestionFor 79 = .ok (.goto (-58), 3) := by decide +kernel
theorem dX4_nextQuestionFor_82 : decode cX4_nextQuestionFor 82 = .ok (.iload_n 3, 1) := by decide +kernel
theorem dX4_nextQuestionFor_83 : decode cX4_nextQuestionFor 83 = .ok (.ireturn, 1) := by decide +kernel
theorem dX4_kindsSo_0 : decode cX4_kindsSo 0 = .ok (.iload_n 0, 1) := by decide +kernel
theorem dX4_kindsSo_1 : decode cX4_kindsSo 1 = .ok (.tableswitch 35 0 2 #[27, 29, 32], 27) := by decide +kernel
theorem dX4_kindsSo_28 : decode cX4_kindsSo 28 = .ok (.iconst 2, 1) := by decide +kernel
theorem dX4_kindsSo_29 : decode cX4_kindsSo 29 = .ok (.ireturn, 1) := by decide +kernel
theorem dX4_kindsSo_30 : decode cX4_kindsSo 30 = .ok (.bipush 20, 2) := by decide +kernel
theorem dX4_kindsSo_32 : decode cX4_kindsSo 32 = .ok (.ireturn, 1) := by decide +kernel
theorem dX4_kindsSo_33 : decode cX4_kindsSo 33 = .ok (.bipush 16, 2) := by decide +kernel
theorem dX4_kindsSo_35 : decode cX4_kindsSo 35 = .ok (.ireturn, 1) := by decide +kernel
theorem dX4_kindsSo_36 : decode cX4_kindsSo 36 = .ok (.bipush 8, 2) := by decide +kernel
theorem dX4_kindsSo_38 : decode cX4_kindsSo 38 = .ok (.ireturn, 1) := by decide +kernel
theorem dX5_init_0 : decode cX5_init 0 = .ok (.aload_n 0, 1) := by decide +kernel
theorem dX5_init_1 : decode cX5_init 1 = .ok (.invokespecial 3, 3) := by decide +kernel
theorem dX5_init_4 : decode cX5_init 4 = .ok (.aload_n 0, 1) := by decide +kernel
theorem dX5_init_5 : decode cX5_init 5 = .ok (.bipush 8, 2) := by decide +kernel
theorem dX5_init_7 : decode cX5_init 7 = .ok (.newarray .int, 2) := by decide +kernel
theorem dX5_init_9 : decode cX5_init 9 = .ok (.putfield 9, 3) := by decide +kernel
theorem dX5_init_12 : decode cX5_init 12 = .ok (.aload_n 0, 1) := by decide +kernel
theorem dX5_init_13 : decode cX5_init 13 = .ok (.bipush 8, 2) := by decide +kernel
theorem dX5_init_15 : decode cX5_init 15 = .ok (.newarray .int, 2) := by decide +kernel
theorem dX5_init_17 : decode cX5_init 17 = .ok (.putfield 15, 3) := by decide +kernel
theorem dX5_init_20 : decode cX5_init 20 = .ok (.aload_n 0, 1) := by decide +kernel
theorem dX5_init_21 : decode cX5_init 21 = .ok (.bipush 8, 2) := by decide +kernel
theorem dX5_init_23 : decode cX5_init 23 = .ok (.newarray .int, 2) := by decide +kernel
theorem dX5_init_25 : decode cX5_init 25 = .ok (.putfield 18, 3) := by decide +kernel
theorem dX5_init_28 : decode cX5_init 28 = .ok (.aload_n 0, 1) := by decide +kernel
theorem dX5_init_29 : decode cX5_init 29 = .ok (.bipush 8, 2) := by decide +kernel
theorem dX5_init_31 : decode cX5_init 31 = .ok (.newarray .int, 2) := by decide +kernel
theorem dX5_init_33 : decode cX5_init 33 = .ok (.putfield 21, 3) := by decide +kernel
theorem dX5_init_36 : decode cX5_init 36 = .ok (.aload_n 0, 1) := by decide +kernel
theorem dX5_init_37 : decode cX5_init 37 = .ok (.bipush 8, 2) := by decide +kernel
theorem dX5_init_39 : decode cX5_init 39 = .ok (.newarray .int, 2) := by decide +kernel
theorem dX5_init_41 : decode cX5_init 41 = .ok (.putfield 24, 3) := by decide +kernel
theorem dX5_init_44 : decode cX5_init 44 = .ok (.aload_n 0, 1) := by decide +kernel
theorem dX5_init_45 : decode cX5_init 45 = .ok (.iconst 4, 1) := by decide +kernel
theorem dX5_init_46 : decode cX5_init 46 = .ok (.newarray .int, 2) := by decide +kernel
theorem dX5_init_48 : decode cX5_init 48 = .ok (.putfield 27, 3) := by decide +kernel
theorem dX5_init_51 : decode cX5_init 51 = .ok (.return_, 1) := by decide +kernel
theorem dX5_clear_0 : decode cX5_clear 0 = .ok (.aload_n 0, 1) := by decide +kernel
theorem dX5_clear_1 : decode cX5_clear 1 = .ok (.iconst 0, 1) := by decide +kernel
theorem dX5_clear_2 : decode cX5_clear 2 = .ok (.putfield 30, 3) := by decide +kernel
theorem dX5_clear_5 : decode cX5_clear 5 = .ok (.aload_n 0, 1) := by decide +kernel
theorem dX5_clear_6 : decode cX5_clear 6 = .ok (.iconst 0, 1) := by decide +kernel
theorem dX5_clear_7 : decode cX5_clear 7 = .ok (.putfield 34, 3) := by decide +kernel
theorem dX5_clear_10 : decode cX5_clear 10 = .ok (.return_, 1) := by decide +kernel
theorem dX5_has_0 : decode cX5_has 0 = .ok (.iload_n 1, 1) := by decide +kernel
theorem dX5_has_1 : decode cX5_has 1 = .ok (.ifCond .lt 15, 3) := by decide +kernel
theorem dX5_has_4 : decode cX5_has 4 = .ok (.iload_n 1, 1) := by decide +kernel
theorem dX5_has_5 : decode cX5_has 5 = .ok (.aload_n 0, 1) := by decide +kernel
theorem dX5_has_6 : decode cX5_has 6 = .ok (.getfield 30, 3) := by decide +kernel
theorem dX5_has_9 : decode cX5_has 9 = .ok (.if_icmp .ge 7, 3) := by decide +kernel
theorem dX5_has_12 : decode cX5_has 12 = .ok (.iconst 1, 1) := by decide +kernel
theorem dX5_has_13 : decode cX5_has 13 = .ok (.goto 4, 3) := by decide +kernel
theorem dX5_has_16 : decode cX5_has 16 = .ok (.iconst 0, 1) := by decide +kernel
theorem dX5_has_17 : decode cX5_has 17 = .ok (.ireturn, 1) := by decide +kernel
theorem dX5_copy_0 : decode cX5_copy 0 = .ok (.aload_n 1, 1) := by decide +kernel
theorem dX5_copy_1 : decode cX5_copy 1 = .ok (.getfield 9, 3) := by decide +kernel
theorem dX5_copy_4 : decode cX5_copy 4 = .ok (.iconst 0, 1) := by decide +kernel
theorem dX5_copy_5 : decode cX5_copy 5 = .ok (.aload_n 0, 1) := by decide +kernel
theorem dX5_copy_6 : decode cX5_copy 6 = .ok (.getfield 9, 3) := by decide +kernel
theorem dX5_copy_9 : decode cX5_copy 9 = .ok (.iconst 0, 1) := by decide +kernel
theorem dX5_copy_10 : decode cX5_copy 10 = .ok (.bipush 8, 2) := by decide +kernel
theorem dX5_copy_12 : decode cX5_copy 12 = .ok (.invokestatic 37, 3) := by decide +kernel
theorem dX5_copy_15 : decode cX5_copy 15 = .ok (.aload_n 1, 1) := by decide +kernel
theorem dX5_copy_16 : decode cX5_copy 16 = .ok (.getfield 15, 3) := by decide +kernel
theorem dX5_copy_19 : decode cX5_copy 19 = .ok (.iconst 0, 1) := by decide +kernel
theorem dX5_copy_20 : decode cX5_copy 20 = .ok (.aload_n 0, 1) := by decide +kernel
theorem dX5_copy_21 : decode cX5_copy 21 = .ok (.getfield 15, 3) := by decide +kernel
theorem dX5_copy_24 : decode cX5_copy 24 = .ok (.iconst 0, 1) := by decide +kernel
theorem dX5_copy_25 : decode cX5_copy 25 = .ok (.bipush 8, 2) := by decide +kernel
theorem dX5_copy_27 : decode cX5_copy 27 = .ok (.invokestatic 37, 3) := by decide +kernel
theorem dX5_copy_30 : decode cX5_copy 30 = .ok (.aload_n 1, 1) := by decide +kernel
theorem dX5_copy_31 : decode cX5_copy 31 = .ok (.getfield 18, 3) := by decide +kernel
theorem dX5_copy_34 : decode cX5_copy 34 = .ok (.iconst 0, 1) := by decide +kernel
theorem dX5_copy_35 : decode cX5_copy 35 = .ok (.aload_n 0, 1) := by decide +kernel
theorem dX5_copy_36 : decode cX5_copy 36 = .ok (.getfield 18, 3) := by decide +kernel
theorem dX5_copy_39 : decode cX5_copy 39 = .ok (.iconst 0, 1) := by decide +kernel
theorem dX5_copy_40 : decode cX5_copy 40 = .ok (.bipush 8, 2) := by decide +kernel
theorem dX5_copy_42 : decode cX5_copy 42 = .ok (.invokestatic 37, 3) := by decide +kernel
theorem dX5_copy_45 : decode cX5_copy 45 = .ok (.aload_n 1, 1) := by decide +kernel
theorem dX5_copy_46 : decode cX5_copy 46 = .ok (.getfield 21, 3) := by decide +kernel
theorem dX5_copy_49 : decode cX5_copy 49 = .ok (.iconst 0, 1) := by decide +kernel
theorem dX5_copy_50 : decode cX5_copy 50 = .ok (.aload_n 0, 1) := by decide +kernel
theorem dX5_copy_51 : decode cX5_copy 51 = .ok (.getfield 21, 3) := by decide +kernel
theorem dX5_copy_54 : decode cX5_copy 54 = .ok (.iconst 0, 1) := by decide +kernel
theorem dX5_copy_55 : decode cX5_copy 55 = .ok (.bipush 8, 2) := by decide +kernel
theorem dX5_copy_57 : decode cX5_copy 57 = .ok (.invokestatic 37, 3) := by decide +kernel
theorem dX5_copy_60 : decode cX5_copy 60 = .ok (.aload_n 1, 1) := by decide +kernel
theorem dX5_copy_61 : decode cX5_copy 61 = .ok (.getfield 24, 3) := by decide +kernel
theorem dX5_copy_64 : decode cX5_copy 64 = .ok (.iconst 0, 1) := by decide +kernel
theorem dX5_copy_65 : decode cX5_copy 65 = .ok (.aload_n 0, 1) := by decide +kernel
theorem dX5_copy_66 : decode cX5_copy 66 = .ok (.getfield 24, 3) := by decide +kernel
theorem dX5_copy_69 : decode cX5_copy 69 = .ok (.iconst 0, 1) := by decide +kernel
theorem dX5_copy_70 : decode cX5_copy 70 = .ok (.bipush 8, 2) := by decide +kernel
theorem dX5_copy_72 : decode cX5_copy 72 = .ok (.invokestatic 37, 3) := by decide +kernel
theorem dX5_copy_75 : decode cX5_copy 75 = .ok (.aload_n 1, 1) := by decide +kernel
theorem dX5_copy_76 : decode cX5_copy 76 = .ok (.getfield 27, 3) := by decide +kernel
theorem dX5_copy_79 : decode cX5_copy 79 = .ok (.iconst 0, 1) := by decide +kernel
theorem dX5_copy_80 : decode cX5_copy 80 = .ok (.aload_n 0, 1) := by decide +kernel
theorem dX5_copy_81 : decode cX5_copy 81 = .ok (.getfield 27, 3) := by decide +kernel
theorem dX5_copy_84 : decode cX5_copy 84 = .ok (.iconst 0, 1) := by decide +kernel
theorem dX5_copy_85 : decode cX5_copy 85 = .ok (.iconst 4, 1) := by decide +kernel
theorem dX5_copy_86 : decode cX5_copy 86 = .ok (.invokestatic 37, 3) := by decide +kernel
theorem dX5_copy_89 : decode cX5_copy 89 = .ok (.aload_n 0, 1) := by decide +kernel
theorem dX5_copy_90 : decode cX5_copy 90 = .ok (.aload_n 1, 1) := by decide +kernel
theorem dX5_copy_91 : decode cX5_copy 91 = .ok (.getfield 30, 3) := by decide +kernel
theorem dX5_copy_94 : decode cX5_copy 94 = .ok (.putfield 30, 3) := by decide +kernel
theorem dX5_copy_97 : decode cX5_copy 97 = .ok (.aload_n 0, 1) := by decide +kernel
theorem dX5_copy_98 : decode cX5_copy 98 = .ok (.aload_n 1, 1) := by decide +kernel
theorem dX5_copy_99 : decode cX5_copy 99 = .ok (.getfield 34, 3) := by decide +kernel
theorem dX5_copy_102 : decode cX5_copy 102 = .ok (.putfield 34, 3) := by decide +kernel
theorem dX5_copy_105 : decode cX5_copy 105 = .ok (.return_, 1) := by decide +kernel
theorem dX5_copyWithout_0 : decode cX5_copyWithout 0 = .ok (.aload_n 0, 1) := by decide +kernel
theorem dX5_copyWithout_1 : decode cX5_copyWithout 1 = .ok (.aload_n 1, 1) := by decide +kernel
theorem dX5_copyWithout_2 : decode cX5_copyWithout 2 = .ok (.invokevirtual 43, 3) := by decide +kernel
theorem dX5_copyWithout_5 : decode cX5_copyWithout 5 = .ok (.aload_n 0, 1) := by decide +kernel
theorem dX5_copyWithout_6 : decode cX5_copyWithout 6 = .ok (.iload_n 2, 1) := by decide +kernel
theorem dX5_copyWithout_7 : decode cX5_copyWithout 7 = .ok (.invokevirtual 47, 3) := by decide +kernel
theorem dX5_copyWithout_10 : decode cX5_copyWithout 10 = .ok (.return_, 1) := by decide +kernel
theorem dX5_add_0 : decode cX5_add 0 = .ok (.aload_n 0, 1) := by decide +kernel
theorem dX5_add_1 : decode cX5_add 1 = .ok (.getfield 30, 3) := by decide +kernel
theorem dX5_add_4 : decode cX5_add 4 = .ok (.bipush 8, 2) := by decide +kernel
theorem dX5_add_6 : decode cX5_add 6 = .ok (.if_icmp .ge 65, 3) := by decide +kernel
theorem dX5_add_9 : decode cX5_add 9 = .ok (.aload_n 0, 1) := by decide +kernel
theorem dX5_add_10 : decode cX5_add 10 = .ok (.getfield 9, 3) := by decide +kernel
theorem dX5_add_13 : decode cX5_add 13 = .ok (.aload_n 0, 1) := by decide +kernel
theorem dX5_add_14 : decode cX5_add 14 = .ok (.getfield 30, 3) := by decide +kernel
theorem dX5_add_17 : decode cX5_add 17 = .ok (.iload_n 1, 1) := by decide +kernel
theorem dX5_add_18 : decode cX5_add 18 = .ok (.iastore, 1) := by decide +kernel
theorem dX5_add_19 : decode cX5_add 19 = .ok (.aload_n 0, 1) := by decide +kernel
theorem dX5_add_20 : decode cX5_add 20 = .ok (.getfield 15, 3) := by decide +kernel
theorem dX5_add_23 : decode cX5_add 23 = .ok (.aload_n 0, 1) := by decide +kernel
theorem dX5_add_24 : decode cX5_add 24 = .ok (.getfield 30, 3) := by decide +kernel
theorem dX5_add_27 : decode cX5_add 27 = .ok (.iload_n 2, 1) := by decide +kernel
theorem dX5_add_28 : decode cX5_add 28 = .ok (.iastore, 1) := by decide +kernel
theorem dX5_add_29 : decode cX5_add 29 = .ok (.aload_n 0, 1) := by decide +kernel
theorem dX5_add_30 : decode cX5_add 30 = .ok (.getfield 18, 3) := by decide +kernel
theorem dX5_add_33 : decode cX5_add 33 = .ok (.aload_n 0, 1) := by decide +kernel
theorem dX5_add_34 : decode cX5_add 34 = .ok (.getfield 30, 3) := by decide +kernel
theorem dX5_add_37 : decode cX5_add 37 = .ok (.iload_n 3, 1) := by decide +kernel
theorem dX5_add_38 : decode cX5_add 38 = .ok (.iastore, 1) := by decide +kernel
theorem dX5_add_39 : decode cX5_add 39 = .ok (.aload_n 0, 1) := by decide +kernel
theorem dX5_add_40 : decode cX5_add 40 = .ok (.getfield 21, 3) := by decide +kernel
theorem dX5_add_43 : decode cX5_add 43 = .ok (.aload_n 0, 1) := by decide +kernel
theorem dX5_add_44 : decode cX5_add 44 = .ok (.getfield 30, 3) := by decide +kernel
theorem dX5_add_47 : decode cX5_add 47 = .ok (.iload 4, 2) := by decide +kernel
theorem dX5_add_49 : decode cX5_add 49 = .ok (.iastore, 1) := by decide +kernel
theorem dX5_add_50 : decode cX5_add 50 = .ok (.aload_n 0, 1) := by decide +kernel
theorem dX5_add_51 : decode cX5_add 51 = .ok (.getfield 24, 3) := by decide +kernel
theorem dX5_add_54 : decode cX5_add 54 = .ok (.aload_n 0, 1) := by decide +kernel
theorem dX5_add_55 : decode cX5_add 55 = .ok (.getfield 30, 3) := by decide +kernel
theorem dX5_add_58 : decode cX5_add 58 = .ok (.iload 5, 2) := by decide +kernel
theorem dX5_add_60 : decode cX5_add 60 = .ok (.iastore, 1) := by decide +kernel
theorem dX5_add_61 : decode cX5_add 61 = .ok (.aload_n 0, 1) := by decide +kernel
theorem dX5_add_62 : decode cX5_add 62 = .ok (.dup, 1) := by decide +kernel
theorem dX5_add_63 : decode cX5_add 63 = .ok (.getfield 30, 3) := by decide +kernel
theorem dX5_add_66 : decode cX5_add 66 = .ok (.iconst 1, 1) := by decide +kernel
theorem dX5_add_67 : decode cX5_add 67 = .ok (.iadd, 1) := by decide +kernel
theorem dX5_add_68 : decode cX5_add 68 = .ok (.putfield 30, 3) := by decide +kernel
theorem dX5_add_71 : decode cX5_add 71 = .ok (.return_, 1) := by decide +kernel
theorem dX5_remove_0 : decode cX5_remove 0 = .ok (.aload_n 0, 1) := by decide +kernel
theorem dX5_remove_1 : decode cX5_remove 1 = .ok (.iload_n 1, 1) := by decide +kernel
theorem dX5_remove_2 : decode cX5_remove 2 = .ok (.invokevirtual 51, 3) := by decide +kernel
theorem dX5_remove_5 : decode cX5_remove 5 = .ok (.ifCond .ne 4, 3) := by decide +kernel
theorem dX5_remove_8 : decode cX5_remove 8 = .ok (.return_, 1) := by decide +kernel
theorem dX5_remove_9 : decode cX5_remove 9 = .ok (.iload_n 1, 1) := by decide +kernel
theorem dX5_remove_10 : decode cX5_remove 10 = .ok (.istore_n 2, 1) := by decide +kernel
theorem dX5_remove_11 : decode cX5_remove 11 = .ok (.iload_n 2, 1) := by decide +kernel
theorem dX5_remove_12 : decode cX5_remove 12 = .ok (.iconst 1, 1) := by decide +kernel
theorem dX5_remove_13 : decode cX5_remove 13 = .ok (.iadd, 1) := by decide +kernel
theorem dX5_remove_14 : decode cX5_remove 14 = .ok (.aload_n 0, 1) := by decide +kernel
theorem dX5_remove_15 : decode cX5_remove 15 = .ok (.getfield 30, 3) := by decide +kernel
theorem dX5_remove_18 : decode cX5_remove 18 = .ok (.if_icmp .ge 79, 3) := by decide +kernel
theorem dX5_remove_21 : decode cX5_remove 21 = .ok (.aload_n 0, 1) := by decide +kernel
theorem dX5_remove_22 : decode cX5_remove 22 = .ok (.getfield 9, 3) := by decide +kernel
theorem dX5_remove_25 : decode cX5_remove 25 = .ok (.iload_n 2, 1) := by decide +kernel
theorem dX5_remove_26 : decode cX5_remove 26 = .ok (.aload_n 0, 1) := by decide +kernel
theorem dX5_remove_27 : decode cX5_remove 27 = .ok (.getfield 9, 3) := by decide +kernel
theorem dX5_remove_30 : decode cX5_remove 30 = .ok (.iload_n 2, 1) := by decide +kernel
theorem dX5_remove_31 : decode cX5_remove 31 = .ok (.iconst 1, 1) := by decide +kernel
theorem dX5_remove_32 : decode cX5_remove 32 = .ok (.iadd, 1) := by decide +kernel
theorem dX5_remove_33 : decode cX5_remove 33 = .ok (.iaload, 1) := by decide +kernel
theorem dX5_remove_34 : decode cX5_remove 34 = .ok (.iastore, 1) := by decide +kernel
theorem dX5_remove_35 : decode cX5_remove 35 = .ok (.aload_n 0, 1) := by decide +kernel
theorem dX5_remove_36 : decode cX5_remove 36 = .ok (.getfield 15, 3) := by decide +kernel
theorem dX5_remove_39 : decode cX5_remove 39 = .ok (.iload_n 2, 1) := by decide +kernel
theorem dX5_remove_40 : decode cX5_remove 40 = .ok (.aload_n 0, 1) := by decide +kernel
theorem dX5_remove_41 : decode cX5_remove 41 = .ok (.getfield 15, 3) := by decide +kernel
theorem dX5_remove_44 : decode cX5_remove 44 = .ok (.iload_n 2, 1) := by decide +kernel
theorem dX5_remove_45 : decode cX5_remove 45 = .ok (.iconst 1, 1) := by decide +kernel
theorem dX5_remove_46 : decode cX5_remove 46 = .ok (.iadd, 1) := by decide +kernel
theorem dX5_remove_47 : decode cX5_remove 47 = .ok (.iaload, 1) := by decide +kernel
theorem dX5_remove_48 : decode cX5_remove 48 = .ok (.iastore, 1) := by decide +kernel
theorem dX5_remove_49 : decode cX5_remove 49 = .ok (.aload_n 0, 1) := by decide +kernel
theorem dX5_remove_50 : decode cX5_remove 50 = .ok (.getfield 18, 3) := by decide +kernel
theorem dX5_remove_53 : decode cX5_remove 53 = .ok (.iload_n 2, 1) := by decide +kernel
theorem dX5_remove_54 : decode cX5_remove 54 = .ok (.aload_n 0, 1) := by decide +kernel
theorem dX5_remove_55 : decode cX5_remove 55 = .ok (.getfield 18, 3) := by decide +kernel
theorem dX5_remove_58 : decode cX5_remove 58 = .ok (.iload_n 2, 1) := by decide +kernel
theorem dX5_remove_59 : decode cX5_remove 59 = .ok (.iconst 1, 1) := by decide +kernel
theorem dX5_remove_60 : decode cX5_remove 60 = .ok (.iadd, 1) := by decide +kernel
theorem dX5_remove_61 : decode cX5_remove 61 = .ok (.iaload, 1) := by decide +kernel
theorem dX5_remove_62 : decode cX5_remove 62 = .ok (.iastore, 1) := by decide +kernel
theorem dX5_remove_63 : decode cX5_remove 63 = .ok (.aload_n 0, 1) := by decide +kernel
theorem dX5_remove_64 : decode cX5_remove 64 = .ok (.getfield 21, 3) := by decide +kernel
theorem dX5_remove_67 : decode cX5_remove 67 = .ok (.iload_n 2, 1) := by decide +kernel
theorem dX5_remove_68 : decode cX5_remove 68 = .ok (.aload_n 0, 1) := by decide +kernel
theorem dX5_remove_69 : decode cX5_remove 69 = .ok (.getfield 21, 3) := by decide +kernel
theorem dX5_remove_72 : decode cX5_remove 72 = .ok (.iload_n 2, 1) := by decide +kernel
theorem dX5_remove_73 : decode cX5_remove 73 = .ok (.iconst 1, 1) := by decide +kernel
theorem dX5_remove_74 : decode cX5_remove 74 = .ok (.iadd, 1) := by decide +kernel
theorem dX5_remove_75 : decode cX5_remove 75 = .ok (.iaload, 1) := by decide +kernel
theorem dX5_remove_76 : decode cX5_remove 76 = .ok (.iastore, 1) := by decide +kernel
theorem dX5_remove_77 : decode cX5_remove 77 = .ok (.aload_n 0, 1) := by decide +kernel
theorem dX5_remove_78 : decode cX5_remove 78 = .ok (.getfield 24, 3) := by decide +kernel
theorem dX5_remove_81 : decode cX5_remove 81 = .ok (.iload_n 2, 1) := by decide +kernel
theorem dX5_remove_82 : decode cX5_remove 82 = .ok (.aload_n 0, 1) := by decide +kernel
theorem dX5_remove_83 : decode cX5_remove 83 = .ok (.getfield 24, 3) := by decide +kernel
theorem dX5_remove_86 : decode cX5_remove 86 = .ok (.iload_n 2, 1) := by decide +kernel
theorem dX5_remove_87 : decode cX5_remove 87 = .ok (.iconst 1, 1) := by decide +kernel
theorem dX5_remove_88 : decode cX5_remove 88 = .ok (.iadd, 1) := by decide +kernel
theorem dX5_remove_89 : decode cX5_remove 89 = .ok (.iaload, 1) := by decide +kernel
theorem dX5_remove_90 : decode cX5_remove 90 = .ok (.iastore, 1) := by decide +kernel
theorem dX5_remove_91 : decode cX5_remove 91 = .ok (.iinc 2 1, 3) := by decide +kernel
theorem dX5_remove_94 : decode cX5_remove 94 = .ok (.goto (-83), 3) := by decide +kernel
theorem dX5_remove_97 : decode cX5_remove 97 = .ok (.aload_n 0, 1) := by decide +kernel
theorem dX5_remove_98 : decode cX5_remove 98 = .ok (.dup, 1) := by decide +kernel
theorem dX5_remove_99 : decode cX5_remove 99 = .ok (.getfield 30, 3) := by decide +kernel
theorem dX5_remove_102 : decode cX5_remove 102 = .ok (.iconst 1, 1) := by decide +kernel
theorem dX5_remove_103 : decode cX5_remove 103 = .ok (.isub, 1) := by decide +kernel
theorem dX5_remove_104 : decode cX5_remove 104 = .ok (.putfield 30, 3) := by decide +kernel
theorem dX5_remove_107 : decode cX5_remove 107 = .ok (.return_, 1) := by decide +kernel
theorem dX5_shift_0 : decode cX5_shift 0 = .ok (.aload_n 0, 1) := by decide +kernel
theorem dX5_shift_1 : decode cX5_shift 1 = .ok (.iload_n 1, 1) := by decide +kernel
theorem dX5_shift_2 : decode cX5_shift 2 = .ok (.invokevirtual 51, 3) := by decide +kernel
theorem dX5_shift_5 : decode cX5_shift 5 = .ok (.ifCond .ne 4, 3) := by decide +kernel
theorem dX5_shift_8 : decode cX5_shift 8 = .ok (.return_, 1) := by decide +kernel
theorem dX5_shift_9 : decode cX5_shift 9 = .ok (.aload_n 0, 1) := by decide +kernel
theorem dX5_shift_10 : decode cX5_shift 10 = .ok (.getfield 15, 3) := by decide +kernel
theorem dX5_shift_13 : decode cX5_shift 13 = .ok (.iload_n 1, 1) := by decide +kernel
theorem dX5_shift_14 : decode cX5_shift 14 = .ok (.dup2, 1) := by decide +kernel
theorem dX5_shift_15 : decode cX5_shift 15 = .ok (.iaload, 1) := by decide +kernel
theorem dX5_shift_16 : decode cX5_shift 16 = .ok (.iload_n 2, 1) := by decide +kernel
theorem dX5_shift_17 : decode cX5_shift 17 = .ok (.iadd, 1) := by decide +kernel
theorem dX5_shift_18 : decode cX5_shift 18 = .ok (.iastore, 1) := by decide +kernel
theorem dX5_shift_19 : decode cX5_shift 19 = .ok (.aload_n 0, 1) := by decide +kernel
theorem dX5_shift_20 : decode cX5_shift 20 = .ok (.getfield 21, 3) := by decide +kernel
theorem dX5_shift_23 : decode cX5_shift 23 = .ok (.iload_n 1, 1) := by decide +kernel
theorem dX5_shift_24 : decode cX5_shift 24 = .ok (.dup2, 1) := by decide +kernel
theorem dX5_shift_25 : decode cX5_shift 25 = .ok (.iaload, 1) := by decide +kernel
theorem dX5_shift_26 : decode cX5_shift 26 = .ok (.iload_n 2, 1) := by decide +kernel
theorem dX5_shift_27 : decode cX5_shift 27 = .ok (.iadd, 1) := by decide +kernel
theorem dX5_shift_28 : decode cX5_shift 28 = .ok (.iastore, 1) := by decide +kernel
theorem dX5_shift_29 : decode cX5_shift 29 = .ok (.aload_n 0, 1) := by decide +kernel
theorem dX5_shift_30 : decode cX5_shift 30 = .ok (.getfield 18, 3) := by decide +kernel
theorem dX5_shift_33 : decode cX5_shift 33 = .ok (.iload_n 1, 1) := by decide +kernel
theorem dX5_shift_34 : decode cX5_shift 34 = .ok (.dup2, 1) := by decide +kernel
theorem dX5_shift_35 : decode cX5_shift 35 = .ok (.iaload, 1) := by decide +kernel
theorem dX5_shift_36 : decode cX5_shift 36 = .ok (.iload_n 3, 1) := by decide +kernel
theorem dX5_shift_37 : decode cX5_shift 37 = .ok (.iadd, 1) := by decide +kernel
theorem dX5_shift_38 : decode cX5_shift 38 = .ok (.iastore, 1) := by decide +kernel
theorem dX5_shift_39 : decode cX5_shift 39 = .ok (.aload_n 0, 1) := by decide +kernel
theorem dX5_shift_40 : decode cX5_shift 40 = .ok (.getfield 24, 3) := by decide +kernel
theorem dX5_shift_43 : decode cX5_shift 43 = .ok (.iload_n 1, 1) := by decide +kernel
theorem dX5_shift_44 : decode cX5_shift 44 = .ok (.dup2, 1) := by decide +kernel
theorem dX5_shift_45 : decode cX5_shift 45 = .ok (.iaload, 1) := by decide +kernel
theorem dX5_shift_46 : decode cX5_shift 46 = .ok (.iload_n 3, 1) := by decide +kernel
theorem dX5_shift_47 : decode cX5_shift 47 = .ok (.iadd, 1) := by decide +kernel
theorem dX5_shift_48 : decode cX5_shift 48 = .ok (.iastore, 1) := by decide +kernel
theorem dX5_shift_49 : decode cX5_shift 49 = .ok (.return_, 1) := by decide +kernel
theorem dX5_staysInside_0 : decode cX5_staysInside 0 = .ok (.aload_n 0, 1) := by decide +kernel
theorem dX5_staysInside_1 : decode cX5_staysInside 1 = .ok (.getfield 15, 3) := by decide +kernel
theorem dX5_staysInside_4 : decode cX5_staysInside 4 = .ok (.iload_n 1, 1) := by decide +kernel
theorem dX5_staysInside_5 : decode cX5_staysInside 5 = .ok (.iaload, 1) := by decide +kernel
theorem dX5_staysInside_6 : decode cX5_staysInside 6 = .ok (.iload_n 2, 1) := by decide +kernel
theorem dX5_staysInside_7 : decode cX5_staysInside 7 = .ok (.iadd, 1) := by decide +kernel
theorem dX5_staysInside_8 : decode cX5_staysInside 8 = .ok (.ifCond .lt 46, 3) := by decide +kernel
theorem dX5_staysInside_11 : decode cX5_staysInside 11 = .ok (.aload_n 0, 1) := by decide +kernel
theorem dX5_staysInside_12 : decode cX5_staysInside 12 = .ok (.getfield 21, 3) := by decide +kernel
theorem dX5_staysInside_15 : decode cX5_staysInside 15 = .ok (.iload_n 1, 1) := by decide +kernel
theorem dX5_staysInside_16 : decode cX5_staysInside 16 = .ok (.iaload, 1) := by decide +kernel
theorem dX5_staysInside_17 : decode cX5_staysInside 17 = .ok (.iload_n 2, 1) := by decide +kernel
theorem dX5_staysInside_18 : decode cX5_staysInside 18 = .ok (.iadd, 1) := by decide +kernel
theorem dX5_staysInside_19 : decode cX5_staysInside 19 = .ok (.sipush 999, 3) := by decide +kernel
theorem dX5_staysInside_22 : decode cX5_staysInside 22 = .ok (.if_icmp .gt 32, 3) := by decide +kernel
theorem dX5_staysInside_25 : decode cX5_staysInside 25 = .ok (.aload_n 0, 1) := by decide +kernel
theorem dX5_staysInside_26 : decode cX5_staysInside 26 = .ok (.getfield 18, 3) := by decide +kernel
theorem dX5_staysInside_29 : decode cX5_staysInside 29 = .ok (.iload_n 1, 1) := by decide +kernel
theorem dX5_staysInside_30 : decode cX5_staysInside 30 = .ok (.iaload, 1) := by decide +kernel
theorem dX5_staysInside_31 : decode cX5_staysInside 31 = .ok (.iload_n 3, 1) := by decide +kernel
theorem dX5_staysInside_32 : decode cX5_staysInside 32 = .ok (.iadd, 1) := by decide +kernel
theorem dX5_staysInside_33 : decode cX5_staysInside 33 = .ok (.ifCond .lt 21, 3) := by decide +kernel
theorem dX5_staysInside_36 : decode cX5_staysInside 36 = .ok (.aload_n 0, 1) := by decide +kernel
theorem dX5_staysInside_37 : decode cX5_staysInside 37 = .ok (.getfield 24, 3) := by decide +kernel
theorem dX5_staysInside_40 : decode cX5_staysInside 40 = .ok (.iload_n 1, 1) := by decide +kernel
theorem dX5_staysInside_41 : decode cX5_staysInside 41 = .ok (.iaload, 1) := by decide +kernel
theorem dX5_staysInside_42 : decode cX5_staysInside 42 = .ok (.iload_n 3, 1) := by decide +kernel
theorem dX5_staysInside_43 : decode cX5_staysInside 43 = .ok (.iadd, 1) := by decide +kernel
theorem dX5_staysInside_44 : decode cX5_staysInside 44 = .ok (.sipush 999, 3) := by decide +kernel
theorem dX5_staysInside_47 : decode cX5_staysInside 47 = .ok (.if_icmp .gt 7, 3) := by decide +kernel
theorem dX5_staysInside_50 : decode cX5_staysInside 50 = .ok (.iconst 1, 1) := by decide +kernel
theorem dX5_staysInside_51 : decode cX5_staysInside 51 = .ok (.goto 4, 3) := by decide +kernel
theorem dX5_staysInside_54 : decode cX5_staysInside 54 = .ok (.iconst 0, 1) := by decide +kernel
theorem dX5_staysInside_55 : decode cX5_staysInside 55 = .ok (.ireturn, 1) := by decide +kernel
theorem dX5_greatestNumber_0 : decode cX5_greatestNumber 0 = .ok (.iconst 0, 1) := by decide +kernel
theorem dX5_greatestNumber_1 : decode cX5_greatestNumber 1 = .ok (.istore_n 1, 1) := by decide +kernel
theorem dX5_greatestNumber_2 : decode cX5_greatestNumber 2 = .ok (.iconst 0, 1) := by decide +kernel
theorem dX5_greatestNumber_3 : decode cX5_greatestNumber 3 = .ok (.istore_n 2, 1) := by decide +kernel
theorem dX5_greatestNumber_4 : decode cX5_greatestNumber 4 = .ok (.iload_n 2, 1) := by decide +kernel
theorem dX5_greatestNumber_5 : decode cX5_greatestNumber 5 = .ok (.aload_n 0, 1) := by decide +kernel
theorem dX5_greatestNumber_6 : decode cX5_greatestNumber 6 = .ok (.getfield 30, 3) := by decide +kernel
theorem dX5_greatestNumber_9 : decode cX5_greatestNumber 9 = .ok (.if_icmp .ge 29, 3) := by decide +kernel
theorem dX5_greatestNumber_12 : decode cX5_greatestNumber 12 = .ok (.iload_n 1, 1) := by decide +kernel
theorem dX5_greatestNumber_13 : decode cX5_greatestNumber 13 = .ok (.aload_n 0, 1) := by decide +kernel
theorem dX5_greatestNumber_14 : decode cX5_greatestNumber 14 = .ok (.getfield 21, 3) := by decide +kernel
theorem dX5_greatestNumber_17 : decode cX5_greatestNumber 17 = .ok (.iload_n 2, 1) := by decide +kernel
theorem dX5_greatestNumber_18 : decode cX5_greatestNumber 18 = .ok (.iaload, 1) := by decide +kernel
theorem dX5_greatestNumber_19 : decode cX5_greatestNumber 19 = .ok (.aload_n 0, 1) := by decide +kernel
theorem dX5_greatestNumber_20 : decode cX5_greatestNumber 20 = .ok (.getfield 24, 3) := by decide +kernel
theorem dX5_greatestNumber_23 : decode cX5_greatestNumber 23 = .ok (.iload_n 2, 1) := by decide +kernel
theorem dX5_greatestNumber_24 : decode cX5_greatestNumber 24 = .ok (.iaload, 1) := by decide +kernel
theorem dX5_greatestNumber_25 : decode cX5_greatestNumber 25 = .ok (.invokestatic 55, 3) := by decide +kernel
theorem dX5_greatestNumber_28 : decode cX5_greatestNumber 28 = .ok (.invokestatic 55, 3) := by decide +kernel
theorem dX5_greatestNumber_31 : decode cX5_greatestNumber 31 = .ok (.istore_n 1, 1) := by decide +kernel
theorem dX5_greatestNumber_32 : decode cX5_greatestNumber 32 = .ok (.iinc 2 1, 3) := by decide +kernel
theorem dX5_greatestNumber_35 : decode cX5_greatestNumber 35 = .ok (.goto (-31), 3) := by decide +kernel
theorem dX5_greatestNumber_38 : decode cX5_greatestNumber 38 = .ok (.iload_n 1, 1) := by decide +kernel
theorem dX5_greatestNumber_39 : decode cX5_greatestNumber 39 = .ok (.ireturn, 1) := by decide +kernel
theorem dX5_stretch_0 : decode cX5_stretch 0 = .ok (.iconst 0, 1) := by decide +kernel
theorem dX5_stretch_1 : decode cX5_stretch 1 = .ok (.istore_n 2, 1) := by decide +kernel
theorem dX5_stretch_2 : decode cX5_stretch 2 = .ok (.iload_n 2, 1) := by decide +kernel
theorem dX5_stretch_3 : decode cX5_stretch 3 = .ok (.aload_n 0, 1) := by decide +kernel
theorem dX5_stretch_4 : decode cX5_stretch 4 = .ok (.getfield 30, 3) := by decide +kernel
theorem dX5_stretch_7 : decode cX5_stretch 7 = .ok (.if_icmp .ge 49, 3) := by decide +kernel
theorem dX5_stretch_10 : decode cX5_stretch 10 = .ok (.aload_n 0, 1) := by decide +kernel
theorem dX5_stretch_11 : decode cX5_stretch 11 = .ok (.getfield 15, 3) := by decide +kernel
theorem dX5_stretch_14 : decode cX5_stretch 14 = .ok (.iload_n 2, 1) := by decide +kernel
theorem dX5_stretch_15 : decode cX5_stretch 15 = .ok (.dup2, 1) := by decide +kernel
theorem dX5_stretch_16 : decode cX5_stretch 16 = .ok (.iaload, 1) := by decide +kernel
theorem dX5_stretch_17 : decode cX5_stretch 17 = .ok (.iload_n 1, 1) := by decide +kernel
theorem dX5_stretch_18 : decode cX5_stretch 18 = .ok (.imul, 1) := by decide +kernel
theorem dX5_stretch_19 : decode cX5_stretch 19 = .ok (.iastore, 1) := by decide +kernel
theorem dX5_stretch_20 : decode cX5_stretch 20 = .ok (.aload_n 0, 1) := by decide +kernel
theorem dX5_stretch_21 : decode cX5_stretch 21 = .ok (.getfield 18, 3) := by decide +kernel
theorem dX5_stretch_24 : decode cX5_stretch 24 = .ok (.iload_n 2, 1) := by decide +kernel
theorem dX5_stretch_25 : decode cX5_stretch 25 = .ok (.dup2, 1) := by decide +kernel
theorem dX5_stretch_26 : decode cX5_stretch 26 = .ok (.iaload, 1) := by decide +kernel
theorem dX5_stretch_27 : decode cX5_stretch 27 = .ok (.iload_n 1, 1) := by decide +kernel
theorem dX5_stretch_28 : decode cX5_stretch 28 = .ok (.imul, 1) := by decide +kernel
theorem dX5_stretch_29 : decode cX5_stretch 29 = .ok (.iastore, 1) := by decide +kernel
theorem dX5_stretch_30 : decode cX5_stretch 30 = .ok (.aload_n 0, 1) := by decide +kernel
theorem dX5_stretch_31 : decode cX5_stretch 31 = .ok (.getfield 21, 3) := by decide +kernel
theorem dX5_stretch_34 : decode cX5_stretch 34 = .ok (.iload_n 2, 1) := by decide +kernel
theorem dX5_stretch_35 : decode cX5_stretch 35 = .ok (.dup2, 1) := by decide +kernel
theorem dX5_stretch_36 : decode cX5_stretch 36 = .ok (.iaload, 1) := by decide +kernel
theorem dX5_stretch_37 : decode cX5_stretch 37 = .ok (.iload_n 1, 1) := by decide +kernel
theorem dX5_stretch_38 : decode cX5_stretch 38 = .ok (.imul, 1) := by decide +kernel
theorem dX5_stretch_39 : decode cX5_stretch 39 = .ok (.iastore, 1) := by decide +kernel
theorem dX5_stretch_40 : decode cX5_stretch 40 = .ok (.aload_n 0, 1) := by decide +kernel
theorem dX5_stretch_41 : decode cX5_stretch 41 = .ok (.getfield 24, 3) := by decide +kernel
theorem dX5_stretch_44 : decode cX5_stretch 44 = .ok (.iload_n 2, 1) := by decide +kernel
theorem dX5_stretch_45 : decode cX5_stretch 45 = .ok (.dup2, 1) := by decide +kernel
theorem dX5_stretch_46 : decode cX5_stretch 46 = .ok (.iaload, 1) := by decide +kernel
theorem dX5_stretch_47 : decode cX5_stretch 47 = .ok (.iload_n 1, 1) := by decide +kernel
theorem dX5_stretch_48 : decode cX5_stretch 48 = .ok (.imul, 1) := by decide +kernel
theorem dX5_stretch_49 : decode cX5_stretch 49 = .ok (.iastore, 1) := by decide +kernel
theorem dX5_stretch_50 : decode cX5_stretch 50 = .ok (.iinc 2 1, 3) := by decide +kernel
theorem dX5_stretch_53 : decode cX5_stretch 53 = .ok (.goto (-51), 3) := by decide +kernel
theorem dX5_stretch_56 : decode cX5_stretch 56 = .ok (.return_, 1) := by decide +kernel
theorem dX5_addRule_0 : decode cX5_addRule 0 = .ok (.aload_n 0, 1) := by decide +kernel
theorem dX5_addRule_1 : decode cX5_addRule 1 = .ok (.getfield 34, 3) := by decide +kernel
theorem dX5_addRule_4 : decode cX5_addRule 4 = .ok (.iconst 4, 1) := by decide +kernel
theorem dX5_addRule_5 : decode cX5_addRule 5 = .ok (.if_icmp .ge 23, 3) := by decide +kernel
theorem dX5_addRule_8 : decode cX5_addRule 8 = .ok (.aload_n 0, 1) := by decide +kernel
theorem dX5_addRule_9 : decode cX5_addRule 9 = .ok (.getfield 27, 3) := by decide +kernel
theorem dX5_addRule_12 : decode cX5_addRule 12 = .ok (.aload_n 0, 1) := by decide +kernel
theorem dX5_addRule_13 : decode cX5_addRule 13 = .ok (.getfield 34, 3) := by decide +kernel
theorem dX5_addRule_16 : decode cX5_addRule 16 = .ok (.iload_n 1, 1) := by decide +kernel
theorem dX5_addRule_17 : decode cX5_addRule 17 = .ok (.iastore, 1) := by decide +kernel
theorem dX5_addRule_18 : decode cX5_addRule 18 = .ok (.aload_n 0, 1) := by decide +kernel
theorem dX5_addRule_19 : decode cX5_addRule 19 = .ok (.dup, 1) := by decide +kernel
theorem dX5_addRule_20 : decode cX5_addRule 20 = .ok (.getfield 34, 3) := by decide +kernel
theorem dX5_addRule_23 : decode cX5_addRule 23 = .ok (.iconst 1, 1) := by decide +kernel
theorem dX5_addRule_24 : decode cX5_addRule 24 = .ok (.iadd, 1) := by decide +kernel
theorem dX5_addRule_25 : decode cX5_addRule 25 = .ok (.putfield 34, 3) := by decide +kernel
theorem dX5_addRule_28 : decode cX5_addRule 28 = .ok (.return_, 1) := by decide +kernel
theorem dX5_dropRule_0 : decode cX5_dropRule 0 = .ok (.iload_n 1, 1) := by decide +kernel
theorem dX5_dropRule_1 : decode cX5_dropRule 1 = .ok (.ifCond .lt 11, 3) := by decide +kernel
theorem dX5_dropRule_4 : decode cX5_dropRule 4 = .ok (.iload_n 1, 1) := by decide +kernel
theorem dX5_dropRule_5 : decode cX5_dropRule 5 = .ok (.aload_n 0, 1) := by decide +kernel
theorem dX5_dropRule_6 : decode cX5_dropRule 6 = .ok (.getfield 34, 3) := by decide +kernel
theorem dX5_dropRule_9 : decode cX5_dropRule 9 = .ok (.if_icmp .lt 4, 3) := by decide +kernel
theorem dX5_dropRule_12 : decode cX5_dropRule 12 = .ok (.return_, 1) := by decide +kernel
theorem dX5_dropRule_13 : decode cX5_dropRule 13 = .ok (.iload_n 1, 1) := by decide +kernel
theorem dX5_dropRule_14 : decode cX5_dropRule 14 = .ok (.istore_n 2, 1) := by decide +kernel
theorem dX5_dropRule_15 : decode cX5_dropRule 15 = .ok (.iload_n 2, 1) := by decide +kernel
theorem dX5_dropRule_16 : decode cX5_dropRule 16 = .ok (.iconst 1, 1) := by decide +kernel
theorem dX5_dropRule_17 : decode cX5_dropRule 17 = .ok (.iadd, 1) := by decide +kernel
theorem dX5_dropRule_18 : decode cX5_dropRule 18 = .ok (.aload_n 0, 1) := by decide +kernel
theorem dX5_dropRule_19 : decode cX5_dropRule 19 = .ok (.getfield 34, 3) := by decide +kernel
theorem dX5_dropRule_22 : decode cX5_dropRule 22 = .ok (.if_icmp .ge 23, 3) := by decide +kernel
theorem dX5_dropRule_25 : decode cX5_dropRule 25 = .ok (.aload_n 0, 1) := by decide +kernel
theorem dX5_dropRule_26 : decode cX5_dropRule 26 = .ok (.getfield 27, 3) := by decide +kernel
theorem dX5_dropRule_29 : decode cX5_dropRule 29 = .ok (.iload_n 2, 1) := by decide +kernel
theorem dX5_dropRule_30 : decode cX5_dropRule 30 = .ok (.aload_n 0, 1) := by decide +kernel
theorem dX5_dropRule_31 : decode cX5_dropRule 31 = .ok (.getfield 27, 3) := by decide +kernel
theorem dX5_dropRule_34 : decode cX5_dropRule 34 = .ok (.iload_n 2, 1) := by decide +kernel
theorem dX5_dropRule_35 : decode cX5_dropRule 35 = .ok (.iconst 1, 1) := by decide +kernel
theorem dX5_dropRule_36 : decode cX5_dropRule 36 = .ok (.iadd, 1) := by decide +kernel
theorem dX5_dropRule_37 : decode cX5_dropRule 37 = .ok (.iaload, 1) := by decide +kernel
theorem dX5_dropRule_38 : decode cX5_dropRule 38 = .ok (.iastore, 1) := by decide +kernel
theorem dX5_dropRule_39 : decode cX5_dropRule 39 = .ok (.iinc 2 1, 3) := by decide +kernel
theorem dX5_dropRule_42 : decode cX5_dropRule 42 = .ok (.goto (-27), 3) := by decide +kernel
theorem dX5_dropRule_45 : decode cX5_dropRule 45 = .ok (.aload_n 0, 1) := by decide +kernel
theorem dX5_dropRule_46 : decode cX5_dropRule 46 = .ok (.dup, 1) := by decide +kernel
theorem dX5_dropRule_47 : decode cX5_dropRule 47 = .ok (.getfield 34, 3) := by decide +kernel
theorem dX5_dropRule_50 : decode cX5_dropRule 50 = .ok (.iconst 1, 1) := by decide +kernel
theorem dX5_dropRule_51 : decode cX5_dropRule 51 = .ok (.isub, 1) := by decide +kernel
theorem dX5_dropRule_52 : decode cX5_dropRule 52 = .ok (.putfield 34, 3) := by decide +kernel
theorem dX5_dropRule_55 : decode cX5_dropRule 55 = .ok (.return_, 1) := by decide +kernel
theorem dX5_takeRules_0 : decode cX5_takeRules 0 = .ok (.aload_n 0, 1) := by decide +kernel
theorem dX5_takeRules_1 : decode cX5_takeRules 1 = .ok (.iconst 0, 1) := by decide +kernel
theorem dX5_takeRules_2 : decode cX5_takeRules 2 = .ok (.putfield 34, 3) := by decide +kernel
theorem dX5_takeRules_5 : decode cX5_takeRules 5 = .ok (.sipush 1000, 3) := by decide +kernel
theorem dX5_takeRules_8 : decode cX5_takeRules 8 = .ok (.istore_n 2, 1) := by decide +kernel
theorem dX5_takeRules_9 : decode cX5_takeRules 9 = .ok (.iload_n 2, 1) := by decide +kernel
theorem dX5_takeRules_10 : decode cX5_takeRules 10 = .ok (.ifCond .le 29, 3) := by decide +kernel
theorem dX5_takeRules_13 : decode cX5_takeRules 13 = .ok (.iload_n 1, 1) := by decide +kernel
theorem dX5_takeRules_14 : decode cX5_takeRules 14 = .ok (.iload_n 2, 1) := by decide +kernel
theorem dX5_takeRules_15 : decode cX5_takeRules 15 = .ok (.idiv, 1) := by decide +kernel
theorem dX5_takeRules_16 : decode cX5_takeRules 16 = .ok (.bipush 10, 2) := by decide +kernel
theorem dX5_takeRules_18 : decode cX5_takeRules 18 = .ok (.irem, 1) := by decide +kernel
theorem dX5_takeRules_19 : decode cX5_takeRules 19 = .ok (.istore_n 3, 1) := by decide +kernel
theorem dX5_takeRules_20 : decode cX5_takeRules 20 = .ok (.iload_n 3, 1) := by decide +kernel
theorem dX5_takeRules_21 : decode cX5_takeRules 21 = .ok (.ifCond .eq 10, 3) := by decide +kernel
theorem dX5_takeRules_24 : decode cX5_takeRules 24 = .ok (.aload_n 0, 1) := by decide +kernel
theorem dX5_takeRules_25 : decode cX5_takeRules 25 = .ok (.iload_n 3, 1) := by decide +kernel
theorem dX5_takeRules_26 : decode cX5_takeRules 26 = .ok (.iconst 4, 1) := by decide +kernel
theorem dX5_takeRules_27 : decode cX5_takeRules 27 = .ok (.irem, 1) := by decide +kernel
theorem dX5_takeRules_28 : decode cX5_takeRules 28 = .ok (.invokevirtual 61, 3) := by decide +kernel
theorem dX5_takeRules_31 : decode cX5_takeRules 31 = .ok (.iload_n 2, 1) := by decide +kernel
theorem dX5_takeRules_32 : decode cX5_takeRules 32 = .ok (.bipush 10, 2) := by decide +kernel
theorem dX5_takeRules_34 : decode cX5_takeRules 34 = .ok (.idiv, 1) := by decide +kernel
theorem dX5_takeRules_35 : decode cX5_takeRules 35 = .ok (.istore_n 2, 1) := by decide +kernel
theorem dX5_takeRules_36 : decode cX5_takeRules 36 = .ok (.goto (-27), 3) := by decide +kernel
theorem dX5_takeRules_39 : decode cX5_takeRules 39 = .ok (.return_, 1) := by decide +kernel
theorem dX5_isOfKind_0 : decode cX5_isOfKind 0 = .ok (.iload_n 2, 1) := by decide +kernel
theorem dX5_isOfKind_1 : decode cX5_isOfKind 1 = .ok (.ifCond .eq 28, 3) := by decide +kernel
theorem dX5_isOfKind_4 : decode cX5_isOfKind 4 = .ok (.aload_n 0, 1) := by decide +kernel
theorem dX5_isOfKind_5 : decode cX5_isOfKind 5 = .ok (.getfield 9, 3) := by decide +kernel
theorem dX5_isOfKind_8 : decode cX5_isOfKind 8 = .ok (.iload_n 1, 1) := by decide +kernel
theorem dX5_isOfKind_9 : decode cX5_isOfKind 9 = .ok (.iaload, 1) := by decide +kernel
theorem dX5_isOfKind_10 : decode cX5_isOfKind 10 = .ok (.iload_n 2, 1) := by decide +kernel
theorem dX5_isOfKind_11 : decode cX5_isOfKind 11 = .ok (.if_icmp .eq 18, 3) := by decide +kernel
theorem dX5_isOfKind_14 : decode cX5_isOfKind 14 = .ok (.iload_n 2, 1) := by decide +kernel
theorem dX5_isOfKind_15 : decode cX5_isOfKind 15 = .ok (.iconst 2, 1) := by decide +kernel
theorem dX5_isOfKind_16 : decode cX5_isOfKind 16 = .ok (.if_icmp .ne 17, 3) := by decide +kernel
theorem dX5_isOfKind_19 : decode cX5_isOfKind 19 = .ok (.aload_n 0, 1) := by decide +kernel
theorem dX5_isOfKind_20 : decode cX5_isOfKind 20 = .ok (.getfield 9, 3) := by decide +kernel
theorem dX5_isOfKind_23 : decode cX5_isOfKind 23 = .ok (.iload_n 1, 1) := by decide +kernel
theorem dX5_isOfKind_24 : decode cX5_isOfKind 24 = .ok (.iaload, 1) := by decide +kernel
theorem dX5_isOfKind_25 : decode cX5_isOfKind 25 = .ok (.iconst 4, 1) := by decide +kernel
theorem dX5_isOfKind_26 : decode cX5_isOfKind 26 = .ok (.if_icmp .ne 7, 3) := by decide +kernel
theorem dX5_isOfKind_29 : decode cX5_isOfKind 29 = .ok (.iconst 1, 1) := by decide +kernel
theorem dX5_isOfKind_30 : decode cX5_isOfKind 30 = .ok (.goto 4, 3) := by decide +kernel
theorem dX5_isOfKind_33 : decode cX5_isOfKind 33 = .ok (.iconst 0, 1) := by decide +kernel
theorem dX5_isOfKind_34 : decode cX5_isOfKind 34 = .ok (.ireturn, 1) := by decide +kernel
theorem dX5_rank_0 : decode cX5_rank 0 = .ok (.iload_n 1, 1) := by decide +kernel
theorem dX5_rank_1 : decode cX5_rank 1 = .ok (.tableswitch 64 0 2 #[27, 42, 57], 27) := by decide +kernel
theorem dX5_rank_28 : decode cX5_rank 28 = .ok (.aload_n 0, 1) := by decide +kernel
theorem dX5_rank_29 : decode cX5_rank 29 = .ok (.iload_n 2, 1) := by decide +kernel
theorem dX5_rank_30 : decode cX5_rank 30 = .ok (.iconst 1, 1) := by decide +kernel
theorem dX5_rank_31 : decode cX5_rank 31 = .ok (.invokevirtual 64, 3) := by decide +kernel
theorem dX5_rank_34 : decode cX5_rank 34 = .ok (.ifCond .eq 7, 3) := by decide +kernel
theorem dX5_rank_37 : decode cX5_rank 37 = .ok (.iconst 0, 1) := by decide +kernel
theorem dX5_rank_38 : decode cX5_rank 38 = .ok (.goto 4, 3) := by decide +kernel
theorem dX5_rank_41 : decode cX5_rank 41 = .ok (.iconst 1, 1) := by decide +kernel
theorem dX5_rank_42 : decode cX5_rank 42 = .ok (.ireturn, 1) := by decide +kernel
theorem dX5_rank_43 : decode cX5_rank 43 = .ok (.aload_n 0, 1) := by decide +kernel
theorem dX5_rank_44 : decode cX5_rank 44 = .ok (.iload_n 2, 1) := by decide +kernel
theorem dX5_rank_45 : decode cX5_rank 45 = .ok (.iconst 2, 1) := by decide +kernel
theorem dX5_rank_46 : decode cX5_rank 46 = .ok (.invokevirtual 64, 3) := by decide +kernel
theorem dX5_rank_49 : decode cX5_rank 49 = .ok (.ifCond .eq 7, 3) := by decide +kernel
theorem dX5_rank_52 : decode cX5_rank 52 = .ok (.iconst 1, 1) := by decide +kernel
theorem dX5_rank_53 : decode cX5_rank 53 = .ok (.goto 4, 3) := by decide +kernel
theorem dX5_rank_56 : decode cX5_rank 56 = .ok (.iconst 0, 1) := by decide +kernel
theorem dX5_rank_57 : decode cX5_rank 57 = .ok (.ireturn, 1) := by decide +kernel
theorem dX5_rank_58 : decode cX5_rank 58 = .ok (.aload_n 0, 1) := by decide +kernel
theorem dX5_rank_59 : decode cX5_rank 59 = .ok (.getfield 18, 3) := by decide +kernel
theorem dX5_rank_62 : decode cX5_rank 62 = .ok (.iload_n 2, 1) := by decide +kernel
theorem dX5_rank_63 : decode cX5_rank 63 = .ok (.iaload, 1) := by decide +kernel
theorem dX5_rank_64 : decode cX5_rank 64 = .ok (.ireturn, 1) := by decide +kernel
theorem dX5_rank_65 : decode cX5_rank 65 = .ok (.aload_n 0, 1) := by decide +kernel
theorem dX5_rank_66 : decode cX5_rank 66 = .ok (.getfield 15, 3) := by decide +kernel
theorem dX5_rank_69 : decode cX5_rank 69 = .ok (.iload_n 2, 1) := by decide +kernel
theorem dX5_rank_70 : decode cX5_rank 70 = .ok (.iaload, 1) := by decide +kernel
theorem dX5_rank_71 : decode cX5_rank 71 = .ok (.ireturn, 1) := by decide +kernel
theorem dX5_ruleThatTells_0 : decode cX5_ruleThatTells 0 = .ok (.iconst 0, 1) := by decide +kernel
theorem dX5_ruleThatTells_1 : decode cX5_ruleThatTells 1 = .ok (.istore_n 3, 1) := by decide +kernel
theorem dX5_ruleThatTells_2 : decode cX5_ruleThatTells 2 = .ok (.iload_n 3, 1) := by decide +kernel
theorem dX5_ruleThatTells_3 : decode cX5_ruleThatTells 3 = .ok (.aload_n 0, 1) := by decide +kernel
theorem dX5_ruleThatTells_4 : decode cX5_ruleThatTells 4 = .ok (.getfield 34, 3) := by decide +kernel
theorem dX5_ruleThatTells_7 : decode cX5_ruleThatTells 7 = .ok (.if_icmp .ge 41, 3) := by decide +kernel
theorem dX5_ruleThatTells_10 : decode cX5_ruleThatTells 10 = .ok (.aload_n 0, 1) := by decide +kernel
theorem dX5_ruleThatTells_11 : decode cX5_ruleThatTells 11 = .ok (.aload_n 0, 1) := by decide +kernel
theorem dX5_ruleThatTells_12 : decode cX5_ruleThatTells 12 = .ok (.getfield 27, 3) := by decide +kernel
theorem dX5_ruleThatTells_15 : decode cX5_ruleThatTells 15 = .ok (.iload_n 3, 1) := by decide +kernel
theorem dX5_ruleThatTells_16 : decode cX5_ruleThatTells 16 = .ok (.iaload, 1) := by decide +kernel
theorem dX5_ruleThatTells_17 : decode cX5_ruleThatTells 17 = .ok (.iload_n 1, 1) := by decide +kernel
theorem dX5_ruleThatTells_18 : decode cX5_ruleThatTells 18 = .ok (.invokevirtual 68, 3) := by decide +kernel
theorem dX5_ruleThatTells_21 : decode cX5_ruleThatTells 21 = .ok (.aload_n 0, 1) := by decide +kernel
theorem dX5_ruleThatTells_22 : decode cX5_ruleThatTells 22 = .ok (.aload_n 0, 1) := by decide +kernel
theorem dX5_ruleThatTells_23 : decode cX5_ruleThatTells 23 = .ok (.getfield 27, 3) := by decide +kernel
theorem dX5_ruleThatTells_26 : decode cX5_ruleThatTells 26 = .ok (.iload_n 3, 1) := by decide +kernel
theorem dX5_ruleThatTells_27 : decode cX5_ruleThatTells 27 = .ok (.iaload, 1) := by decide +kernel
theorem dX5_ruleThatTells_28 : decode cX5_ruleThatTells 28 = .ok (.iload_n 2, 1) := by decide +kernel
theorem dX5_ruleThatTells_29 : decode cX5_ruleThatTells 29 = .ok (.invokevirtual 68, 3) := by decide +kernel
theorem dX5_ruleThatTells_32 : decode cX5_ruleThatTells 32 = .ok (.if_icmp .eq 10, 3) := by decide +kernel
theorem dX5_ruleThatTells_35 : decode cX5_ruleThatTells 35 = .ok (.aload_n 0, 1) := by decide +kernel
theorem dX5_ruleThatTells_36 : decode cX5_ruleThatTells 36 = .ok (.getfield 27, 3) := by decide +kernel
theorem dX5_ruleThatTells_39 : decode cX5_ruleThatTells 39 = .ok (.iload_n 3, 1) := by decide +kernel
theorem dX5_ruleThatTells_40 : decode cX5_ruleThatTells 40 = .ok (.iaload, 1) := by decide +kernel
theorem dX5_ruleThatTells_41 : decode cX5_ruleThatTells 41 = .ok (.ireturn, 1) := by decide +kernel
theorem dX5_ruleThatTells_42 : decode cX5_ruleThatTells 42 = .ok (.iinc 3 1, 3) := by decide +kernel
theorem dX5_ruleThatTells_45 : decode cX5_ruleThatTells 45 = .ok (.goto (-43), 3) := by decide +kernel
theorem dX5_ruleThatTells_48 : decode cX5_ruleThatTells 48 = .ok (.iconst (-1), 1) := by decide +kernel
theorem dX5_ruleThatTells_49 : decode cX5_ruleThatTells 49 = .ok (.ireturn, 1) := by decide +kernel
theorem dX5_isAhead_0 : decode cX5_isAhead 0 = .ok (.iconst 0, 1) := by decide +kernel
theorem dX5_isAhead_1 : decode cX5_isAhead 1 = .ok (.istore_n 3, 1) := by decide +kernel
theorem dX5_isAhead_2 : decode cX5_isAhead 2 = .ok (.iload_n 3, 1) := by decide +kernel
theorem dX5_isAhead_3 : decode cX5_isAhead 3 = .ok (.aload_n 0, 1) := by decide +kernel
theorem dX5_isAhead_4 : decode cX5_isAhead 4 = .ok (.getfield 34, 3) := by decide +kernel
theorem dX5_isAhead_7 : decode cX5_isAhead 7 = .ok (.if_icmp .ge 50, 3) := by decide +kernel
theorem dX5_isAhead_10 : decode cX5_isAhead 10 = .ok (.aload_n 0, 1) := by decide +kernel
theorem dX5_isAhead_11 : decode cX5_isAhead 11 = .ok (.aload_n 0, 1) := by decide +kernel
theorem dX5_isAhead_12 : decode cX5_isAhead 12 = .ok (.getfield 27, 3) := by decide +kernel
theorem dX5_isAhead_15 : decode cX5_isAhead 15 = .ok (.iload_n 3, 1) := by decide +kernel
theorem dX5_isAhead_16 : decode cX5_isAhead 16 = .ok (.iaload, 1) := by decide +kernel
theorem dX5_isAhead_17 : decode cX5_isAhead 17 = .ok (.iload_n 2, 1) := by decide +kernel
theorem dX5_isAhead_18 : decode cX5_isAhead 18 = .ok (.invokevirtual 68, 3) := by decide +kernel
theorem dX5_isAhead_21 : decode cX5_isAhead 21 = .ok (.aload_n 0, 1) := by decide +kernel
theorem dX5_isAhead_22 : decode cX5_isAhead 22 = .ok (.aload_n 0, 1) := by decide +kernel
theorem dX5_isAhead_23 : decode cX5_isAhead 23 = .ok (.getfield 27, 3) := by decide +kernel
theorem dX5_isAhead_26 : decode cX5_isAhead 26 = .ok (.iload_n 3, 1) := by decide +kernel
theorem dX5_isAhead_27 : decode cX5_isAhead 27 = .ok (.iaload, 1) := by decide +kernel
theorem dX5_isAhead_28 : decode cX5_isAhead 28 = .ok (.iload_n 1, 1) := by decide +kernel
theorem dX5_isAhead_29 : decode cX5_isAhead 29 = .ok (.invokevirtual 68, 3) := by decide +kernel
theorem dX5_isAhead_32 : decode cX5_isAhead 32 = .ok (.isub, 1) := by decide +kernel
theorem dX5_isAhead_33 : decode cX5_isAhead 33 = .ok (.istore 4, 2) := by decide +kernel
theorem dX5_isAhead_35 : decode cX5_isAhead 35 = .ok (.iload 4, 2) := by decide +kernel
theorem dX5_isAhead_37 : decode cX5_isAhead 37 = .ok (.ifCond .eq 14, 3) := by decide +kernel
theorem dX5_isAhead_40 : decode cX5_isAhead 40 = .ok (.iload 4, 2) := by decide +kernel
theorem dX5_isAhead_42 : decode cX5_isAhead 42 = .ok (.ifCond .le 7, 3) := by decide +kernel
theorem dX5_isAhead_45 : decode cX5_isAhead 45 = .ok (.iconst 1, 1) := by decide +kernel
theorem dX5_isAhead_46 : decode cX5_isAhead 46 = .ok (.goto 4, 3) := by decide +kernel
theorem dX5_isAhead_49 : decode cX5_isAhead 49 = .ok (.iconst 0, 1) := by decide +kernel
theorem dX5_isAhead_50 : decode cX5_isAhead 50 = .ok (.ireturn, 1) := by decide +kernel
theorem dX5_isAhead_51 : decode cX5_isAhead 51 = .ok (.iinc 3 1, 3) := by decide +kernel
theorem dX5_isAhead_54 : decode cX5_isAhead 54 = .ok (.goto (-52), 3) := by decide +kernel
theorem dX5_isAhead_57 : decode cX5_isAhead 57 = .ok (.iload_n 1, 1) := by decide +kernel
theorem dX5_isAhead_58 : decode cX5_isAhead 58 = .ok (.iload_n 2, 1) := by decide +kernel
theorem dX5_isAhead_59 : decode cX5_isAhead 59 = .ok (.if_icmp .ge 7, 3) := by decide +kernel
theorem dX5_isAhead_62 : decode cX5_isAhead 62 = .ok (.iconst 1, 1) := by decide +kernel
theorem dX5_isAhead_63 : decode cX5_isAhead 63 = .ok (.goto 4, 3) := by decide +kernel
theorem dX5_isAhead_66 : decode cX5_isAhead 66 = .ok (.iconst 0, 1) := by decide +kernel
theorem dX5_isAhead_67 : decode cX5_isAhead 67 = .ok (.ireturn, 1) := by decide +kernel
theorem dX5_distance_0 : decode cX5_distance 0 = .ok (.aload_n 0, 1) := by decide +kernel
theorem dX5_distance_1 : decode cX5_distance 1 = .ok (.getfield 15, 3) := by decide +kernel
theorem dX5_distance_4 : decode cX5_distance 4 = .ok (.iload_n 1, 1) := by decide +kernel
theorem dX5_distance_5 : decode cX5_distance 5 = .ok (.iaload, 1) := by decide +kernel
theorem dX5_distance_6 : decode cX5_distance 6 = .ok (.aload_n 0, 1) := by decide +kernel
theorem dX5_distance_7 : decode cX5_distance 7 = .ok (.getfield 21, 3) := by decide +kernel
theorem dX5_distance_10 : decode cX5_distance 10 = .ok (.iload_n 1, 1) := by decide +kernel
theorem dX5_distance_11 : decode cX5_distance 11 = .ok (.iaload, 1) := by decide +kernel
theorem dX5_distance_12 : decode cX5_distance 12 = .ok (.aload_n 0, 1) := by decide +kernel
theorem dX5_distance_13 : decode cX5_distance 13 = .ok (.getfield 15, 3) := by decide +kernel
theorem dX5_distance_16 : decode cX5_distance 16 = .ok (.iload_n 2, 1) := by decide +kernel
theorem dX5_distance_17 : decode cX5_distance 17 = .ok (.iaload, 1) := by decide +kernel
theorem dX5_distance_18 : decode cX5_distance 18 = .ok (.aload_n 0, 1) := by decide +kernel
theorem dX5_distance_19 : decode cX5_distance 19 = .ok (.getfield 21, 3) := by decide +kernel
theorem dX5_distance_22 : decode cX5_distance 22 = .ok (.iload_n 2, 1) := by decide +kernel
theorem dX5_distance_23 : decode cX5_distance 23 = .ok (.iaload, 1) := by decide +kernel
theorem dX5_distance_24 : decode cX5_distance 24 = .ok (.invokestatic 71, 3) := by decide +kernel
theorem dX5_distance_27 : decode cX5_distance 27 = .ok (.aload_n 0, 1) := by decide +kernel
theorem dX5_distance_28 : decode cX5_distance 28 = .ok (.getfield 18, 3) := by decide +kernel
theorem dX5_distance_31 : decode cX5_distance 31 = .ok (.iload_n 1, 1) := by decide +kernel
theorem dX5_distance_32 : decode cX5_distance 32 = .ok (.iaload, 1) := by decide +kernel
theorem dX5_distance_33 : decode cX5_distance 33 = .ok (.aload_n 0, 1) := by decide +kernel
theorem dX5_distance_34 : decode cX5_distance 34 = .ok (.getfield 24, 3) := by decide +kernel
theorem dX5_distance_37 : decode cX5_distance 37 = .ok (.iload_n 1, 1) := by decide +kernel
theorem dX5_distance_38 : decode cX5_distance 38 = .ok (.iaload, 1) := by decide +kernel
theorem dX5_distance_39 : decode cX5_distance 39 = .ok (.aload_n 0, 1) := by decide +kernel
theorem dX5_distance_40 : decode cX5_distance 40 = .ok (.getfield 18, 3) := by decide +kernel
theorem dX5_distance_43 : decode cX5_distance 43 = .ok (.iload_n 2, 1) := by decide +kernel
theorem dX5_distance_44 : decode cX5_distance 44 = .ok (.iaload, 1) := by decide +kernel
theorem dX5_distance_45 : decode cX5_distance 45 = .ok (.aload_n 0, 1) := by decide +kernel
theorem dX5_distance_46 : decode cX5_distance 46 = .ok (.getfield 24, 3) := by decide +kernel
theorem dX5_distance_49 : decode cX5_distance 49 = .ok (.iload_n 2, 1) := by decide +kernel
theorem dX5_distance_50 : decode cX5_distance 50 = .ok (.iaload, 1) := by decide +kernel
theorem dX5_distance_51 : decode cX5_distance 51 = .ok (.invokestatic 71, 3) := by decide +kernel
theorem dX5_distance_54 : decode cX5_distance 54 = .ok (.iadd, 1) := by decide +kernel
theorem dX5_distance_55 : decode cX5_distance 55 = .ok (.ireturn, 1) := by decide +kernel
theorem dX5_gap_0 : decode cX5_gap 0 = .ok (.iconst 0, 1) := by decide +kernel
theorem dX5_gap_1 : decode cX5_gap 1 = .ok (.iload_n 2, 1) := by decide +kernel
theorem dX5_gap_2 : decode cX5_gap 2 = .ok (.iload_n 1, 1) := by decide +kernel
theorem dX5_gap_3 : decode cX5_gap 3 = .ok (.isub, 1) := by decide +kernel
theorem dX5_gap_4 : decode cX5_gap 4 = .ok (.iload_n 0, 1) := by decide +kernel
theorem dX5_gap_5 : decode cX5_gap 5 = .ok (.iload_n 3, 1) := by decide +kernel
theorem dX5_gap_6 : decode cX5_gap 6 = .ok (.isub, 1) := by decide +kernel
theorem dX5_gap_7 : decode cX5_gap 7 = .ok (.invokestatic 55, 3) := by decide +kernel
theorem dX5_gap_10 : decode cX5_gap 10 = .ok (.invokestatic 55, 3) := by decide +kernel
theorem dX5_gap_13 : decode cX5_gap 13 = .ok (.ireturn, 1) := by decide +kernel
theorem dX6_init_0 : decode cX6_init 0 = .ok (.aload_n 0, 1) := by decide +kernel
theorem dX6_init_1 : decode cX6_init 1 = .ok (.invokespecial 3, 3) := by decide +kernel
theorem dX6_init_4 : decode cX6_init 4 = .ok (.aload_n 0, 1) := by decide +kernel
theorem dX6_init_5 : decode cX6_init 5 = .ok (.bipush 54, 2) := by decide +kernel
theorem dX6_init_7 : decode cX6_init 7 = .ok (.newarray .int, 2) := by decide +kernel
theorem dX6_init_9 : decode cX6_init 9 = .ok (.putfield 9, 3) := by decide +kernel
theorem dX6_init_12 : decode cX6_init 12 = .ok (.return_, 1) := by decide +kernel
theorem dX6_add_0 : decode cX6_add 0 = .ok (.aload_n 0, 1) := by decide +kernel
theorem dX6_add_1 : decode cX6_add 1 = .ok (.getfield 15, 3) := by decide +kernel
theorem dX6_add_4 : decode cX6_add 4 = .ok (.bipush 54, 2) := by decide +kernel
theorem dX6_add_6 : decode cX6_add 6 = .ok (.if_icmp .ge 23, 3) := by decide +kernel
theorem dX6_add_9 : decode cX6_add 9 = .ok (.aload_n 0, 1) := by decide +kernel
theorem dX6_add_10 : decode cX6_add 10 = .ok (.getfield 9, 3) := by decide +kernel
theorem dX6_add_13 : decode cX6_add 13 = .ok (.aload_n 0, 1) := by decide +kernel
theorem dX6_add_14 : decode cX6_add 14 = .ok (.getfield 15, 3) := by decide +kernel
theorem dX6_add_17 : decode cX6_add 17 = .ok (.iload_n 1, 1) := by decide +kernel
theorem dX6_add_18 : decode cX6_add 18 = .ok (.iastore, 1) := by decide +kernel
theorem dX6_add_19 : decode cX6_add 19 = .ok (.aload_n 0, 1) := by decide +kernel
theorem dX6_add_20 : decode cX6_add 20 = .ok (.dup, 1) := by decide +kernel
theorem dX6_add_21 : decode cX6_add 21 = .ok (.getfield 15, 3) := by decide +kernel
theorem dX6_add_24 : decode cX6_add 24 = .ok (.iconst 1, 1) := by decide +kernel
theorem dX6_add_25 : decode cX6_add 25 = .ok (.iadd, 1) := by decide +kernel
theorem dX6_add_26 : decode cX6_add 26 = .ok (.putfield 15, 3) := by decide +kernel
theorem dX6_add_29 : decode cX6_add 29 = .ok (.return_, 1) := by decide +kernel
theorem dX6_clear_0 : decode cX6_clear 0 = .ok (.aload_n 0, 1) := by decide +kernel
theorem dX6_clear_1 : decode cX6_clear 1 = .ok (.iconst 0, 1) := by decide +kernel
theorem dX6_clear_2 : decode cX6_clear 2 = .ok (.putfield 15, 3) := by decide +kernel
theorem dX6_clear_5 : decode cX6_clear 5 = .ok (.return_, 1) := by decide +kernel
theorem dX6_firstFault_0 : decode cX6_firstFault 0 = .ok (.iconst (-1), 1) := by decide +kernel
theorem dX6_firstFault_1 : decode cX6_firstFault 1 = .ok (.istore_n 1, 1) := by decide +kernel
theorem dX6_firstFault_2 : decode cX6_firstFault 2 = .ok (.iconst 0, 1) := by decide +kernel
theorem dX6_firstFault_3 : decode cX6_firstFault 3 = .ok (.istore_n 2, 1) := by decide +kernel
theorem dX6_firstFault_4 : decode cX6_firstFault 4 = .ok (.iload_n 2, 1) := by decide +kernel
theorem dX6_firstFault_5 : decode cX6_firstFault 5 = .ok (.aload_n 0, 1) := by decide +kernel
theorem dX6_firstFault_6 : decode cX6_firstFault 6 = .ok (.getfield 15, 3) := by decide +kernel
theorem dX6_firstFault_9 : decode cX6_firstFault 9 = .ok (.if_icmp .ge 50, 3) := by decide +kernel
theorem dX6_firstFault_12 : decode cX6_firstFault 12 = .ok (.iload_n 1, 1) := by decide +kernel
theorem dX6_firstFault_13 : decode cX6_firstFault 13 = .ok (.iconst (-1), 1) := by decide +kernel
theorem dX6_firstFault_14 : decode cX6_firstFault 14 = .ok (.if_icmp .ne 11, 3) := by decide +kernel
theorem dX6_firstFault_17 : decode cX6_firstFault 17 = .ok (.aload_n 0, 1) := by decide +kernel
theorem dX6_firstFault_18 : decode cX6_firstFault 18 = .ok (.iload_n 2, 1) := by decide +kernel
theorem dX6_firstFault_19 : decode cX6_firstFault 19 = .ok (.invokevirtual 19, 3) := by decide +kernel
theorem dX6_firstFault_22 : decode cX6_firstFault 22 = .ok (.goto 9, 3) := by decide +kernel
theorem dX6_firstFault_25 : decode cX6_firstFault 25 = .ok (.aload_n 0, 1) := by decide +kernel
theorem dX6_firstFault_26 : decode cX6_firstFault 26 = .ok (.iload_n 2, 1) := by decide +kernel
theorem dX6_firstFault_27 : decode cX6_firstFault 27 = .ok (.iload_n 1, 1) := by decide +kernel
theorem dX6_firstFault_28 : decode cX6_firstFault 28 = .ok (.invokevirtual 23, 3) := by decide +kernel
theorem dX6_firstFault_31 : decode cX6_firstFault 31 = .ok (.istore_n 3, 1) := by decide +kernel
theorem dX6_firstFault_32 : decode cX6_firstFault 32 = .ok (.iload_n 3, 1) := by decide +kernel
theorem dX6_firstFault_33 : decode cX6_firstFault 33 = .ok (.ifCond .ne 5, 3) := by decide +kernel
theorem dX6_firstFault_36 : decode cX6_firstFault 36 = .ok (.iload_n 2, 1) := by decide +kernel
theorem dX6_firstFault_37 : decode cX6_firstFault 37 = .ok (.ireturn, 1) := by decide +kernel
theorem dX6_firstFault_38 : decode cX6_firstFault 38 = .ok (.aload_n 0, 1) := by decide +kernel
theorem dX6_firstFault_39 : decode cX6_firstFault 39 = .ok (.getfield 9, 3) := by decide +kernel
theorem dX6_firstFault_42 : decode cX6_firstFault 42 = .ok (.iload_n 2, 1) := by decide +kernel
theorem dX6_firstFault_43 : decode cX6_firstFault 43 = .ok (.iaload, 1) := by decide +kernel
theorem dX6_firstFault_44 : decode cX6_firstFault 44 = .ok (.bipush 59, 2) := by decide +kernel
theorem dX6_firstFault_46 : decode cX6_firstFault 46 = .ok (.if_icmp .ne 7, 3) := by decide +kernel
theorem dX6_firstFault_49 : decode cX6_firstFault 49 = .ok (.iload_n 2, 1) := by decide +kernel
theorem dX6_firstFault_50 : decode cX6_firstFault 50 = .ok (.iconst 1, 1) := by decide +kernel
theorem dX6_firstFault_51 : decode cX6_firstFault 51 = .ok (.iadd, 1) := by decide +kernel
theorem dX6_firstFault_52 : decode cX6_firstFault 52 = .ok (.istore_n 1, 1) := by decide +kernel
theorem dX6_firstFault_53 : decode cX6_firstFault 53 = .ok (.iinc 2 1, 3) := by decide +kernel
theorem dX6_firstFault_56 : decode cX6_firstFault 56 = .ok (.goto (-52), 3) := by decide +kernel
theorem dX6_firstFault_59 : decode cX6_firstFault 59 = .ok (.aload_n 0, 1) := by decide +kernel
theorem dX6_firstFault_60 : decode cX6_firstFault 60 = .ok (.getfield 15, 3) := by decide +kernel
theorem dX6_firstFault_63 : decode cX6_firstFault 63 = .ok (.ireturn, 1) := by decide +kernel
theorem dX6_isPage_0 : decode cX6_isPage 0 = .ok (.aload_n 0, 1) := by decide +kernel
theorem dX6_isPage_1 : decode cX6_isPage 1 = .ok (.invokevirtual 27, 3) := by decide +kernel
theorem dX6_isPage_4 : decode cX6_isPage 4 = .ok (.istore_n 1, 1) := by decide +kernel
theorem dX6_isPage_5 : decode cX6_isPage 5 = .ok (.iload_n 1, 1) := by decide +kernel
theorem dX6_isPage_6 : decode cX6_isPage 6 = .ok (.iconst (-1), 1) := by decide +kernel
theorem dX6_isPage_7 : decode cX6_isPage 7 = .ok (.if_icmp .eq 26, 3) := by decide +kernel
theorem dX6_isPage_10 : decode cX6_isPage 10 = .ok (.iload_n 1, 1) := by decide +kernel
theorem dX6_isPage_11 : decode cX6_isPage 11 = .ok (.aload_n 0, 1) := by decide +kernel
theorem dX6_isPage_12 : decode cX6_isPage 12 = .ok (.getfield 15, 3) := by decide +kernel
theorem dX6_isPage_15 : decode cX6_isPage 15 = .ok (.if_icmp .ge 18, 3) := by decide +kernel
theorem dX6_isPage_18 : decode cX6_isPage 18 = .ok (.aload_n 0, 1) := by decide +kernel
theorem dX6_isPage_19 : decode cX6_isPage 19 = .ok (.invokevirtual 31, 3) := by decide +kernel
theorem dX6_isPage_22 : decode cX6_isPage 22 = .ok (.aload_n 0, 1) := by decide +kernel
theorem dX6_isPage_23 : decode cX6_isPage 23 = .ok (.getfield 15, 3) := by decide +kernel
theorem dX6_isPage_26 : decode cX6_isPage 26 = .ok (.if_icmp .ne 7, 3) := by decide +kernel
theorem dX6_isPage_29 : decode cX6_isPage 29 = .ok (.iconst 1, 1) := by decide +kernel
theorem dX6_isPage_30 : decode cX6_isPage 30 = .ok (.goto 4, 3) := by decide +kernel
theorem dX6_isPage_33 : decode cX6_isPage 33 = .ok (.iconst 0, 1) := by decide +kernel
theorem dX6_isPage_34 : decode cX6_isPage 34 = .ok (.ireturn, 1) := by decide +kernel
theorem dX6_writeTo_0 : decode cX6_writeTo 0 = .ok (.aload_n 0, 1) := by decide +kernel
theorem dX6_writeTo_1 : decode cX6_writeTo 1 = .ok (.invokevirtual 27, 3) := by decide +kernel
theorem dX6_writeTo_4 : decode cX6_writeTo 4 = .ok (.istore_n 2, 1) := by decide +kernel
theorem dX6_writeTo_5 : decode cX6_writeTo 5 = .ok (.aload_n 1, 1) := by decide +kernel
theorem dX6_writeTo_6 : decode cX6_writeTo 6 = .ok (.invokevirtual 34, 3) := by decide +kernel
theorem dX6_writeTo_9 : decode cX6_writeTo 9 = .ok (.iconst 0, 1) := by decide +kernel
theorem dX6_writeTo_10 : decode cX6_writeTo 10 = .ok (.istore_n 3, 1) := by decide +kernel
theorem dX6_writeTo_11 : decode cX6_writeTo 11 = .ok (.iload_n 3, 1) := by decide +kernel
theorem dX6_writeTo_12 : decode cX6_writeTo 12 = .ok (.bipush 6, 2) := by decide +kernel
theorem dX6_writeTo_14 : decode cX6_writeTo 14 = .ok (.iadd, 1) := by decide +kernel
theorem dX6_writeTo_15 : decode cX6_writeTo 15 = .ok (.iload_n 2, 1) := by decide +kernel
theorem dX6_writeTo_16 : decode cX6_writeTo 16 = .ok (.if_icmp .gt 50, 3) := by decide +kernel
theorem dX6_writeTo_19 : decode cX6_writeTo 19 = .ok (.aload_n 1, 1) := by decide +kernel
theorem dX6_writeTo_20 : decode cX6_writeTo 20 = .ok (.aload_n 0, 1) := by decide +kernel
theorem dX6_writeTo_21 : decode cX6_writeTo 21 = .ok (.getfield 9, 3) := by decide +kernel
theorem dX6_writeTo_24 : decode cX6_writeTo 24 = .ok (.iload_n 3, 1) := by decide +kernel
theorem dX6_writeTo_25 : decode cX6_writeTo 25 = .ok (.iaload, 1) := by decide +kernel
theorem dX6_writeTo_26 : decode cX6_writeTo 26 = .ok (.invokestatic 39, 3) := by decide +kernel
theorem dX6_writeTo_29 : decode cX6_writeTo 29 = .ok (.aload_n 0, 1) := by decide +kernel
theorem dX6_writeTo_30 : decode cX6_writeTo 30 = .ok (.iload_n 3, 1) := by decide +kernel
theorem dX6_writeTo_31 : decode cX6_writeTo 31 = .ok (.iconst 1, 1) := by decide +kernel
theorem dX6_writeTo_32 : decode cX6_writeTo 32 = .ok (.iadd, 1) := by decide +kernel
theorem dX6_writeTo_33 : decode cX6_writeTo 33 = .ok (.invokevirtual 43, 3) := by decide +kernel
theorem dX6_writeTo_36 : decode cX6_writeTo 36 = .ok (.aload_n 0, 1) := by decide +kernel
theorem dX6_writeTo_37 : decode cX6_writeTo 37 = .ok (.iload_n 3, 1) := by decide +kernel
theorem dX6_writeTo_38 : decode cX6_writeTo 38 = .ok (.iconst 2, 1) := by decide +kernel
theorem dX6_writeTo_39 : decode cX6_writeTo 39 = .ok (.iadd, 1) := by decide +kernel
theorem dX6_writeTo_40 : decode cX6_writeTo 40 = .ok (.invokevirtual 43, 3) := by decide +kernel
theorem dX6_writeTo_43 : decode cX6_writeTo 43 = .ok (.aload_n 0, 1) := by decide +kernel
theorem dX6_writeTo_44 : decode cX6_writeTo 44 = .ok (.iload_n 3, 1) := by decide +kernel
theorem dX6_writeTo_45 : decode cX6_writeTo 45 = .ok (.iconst 3, 1) := by decide +kernel
theorem dX6_writeTo_46 : decode cX6_writeTo 46 = .ok (.iadd, 1) := by decide +kernel
theorem dX6_writeTo_47 : decode cX6_writeTo 47 = .ok (.invokevirtual 43, 3) := by decide +kernel
theorem dX6_writeTo_50 : decode cX6_writeTo 50 = .ok (.aload_n 0, 1) := by decide +kernel
theorem dX6_writeTo_51 : decode cX6_writeTo 51 = .ok (.iload_n 3, 1) := by decide +kernel
theorem dX6_writeTo_52 : decode cX6_writeTo 52 = .ok (.iconst 4, 1) := by decide +kernel
theorem dX6_writeTo_53 : decode cX6_writeTo 53 = .ok (.iadd, 1) := by decide +kernel
theorem dX6_writeTo_54 : decode cX6_writeTo 54 = .ok (.invokevirtual 43, 3) := by decide +kernel
theorem dX6_writeTo_57 : decode cX6_writeTo 57 = .ok (.invokevirtual 46, 3) := by decide +kernel
theorem dX6_writeTo_60 : decode cX6_writeTo 60 = .ok (.iinc 3 6, 3) := by decide +kernel
theorem dX6_writeTo_63 : decode cX6_writeTo 63 = .ok (.goto (-52), 3) := by decide +kernel
theorem dX6_writeTo_66 : decode cX6_writeTo 66 = .ok (.iload_n 2, 1) := by decide +kernel
theorem dX6_writeTo_67 : decode cX6_writeTo 67 = .ok (.iconst 0, 1) := by decide +kernel
theorem dX6_writeTo_68 : decode cX6_writeTo 68 = .ok (.invokestatic 50, 3) := by decide +kernel
theorem dX6_writeTo_71 : decode cX6_writeTo 71 = .ok (.istore_n 3, 1) := by decide +kernel
theorem dX6_writeTo_72 : decode cX6_writeTo 72 = .ok (.iload_n 3, 1) := by decide +kernel
theorem dX6_writeTo_73 : decode cX6_writeTo 73 = .ok (.aload_n 0, 1) := by decide +kernel
theorem dX6_writeTo_74 : decode cX6_writeTo 74 = .ok (.getfield 15, 3) := by decide +kernel
theorem dX6_writeTo_77 : decode cX6_writeTo 77 = .ok (.if_icmp .ge 18, 3) := by decide +kernel
theorem dX6_writeTo_80 : decode cX6_writeTo 80 = .ok (.aload_n 1, 1) := by decide +kernel
theorem dX6_writeTo_81 : decode cX6_writeTo 81 = .ok (.aload_n 0, 1) := by decide +kernel
theorem dX6_writeTo_82 : decode cX6_writeTo 82 = .ok (.iload_n 3, 1) := by decide +kernel
theorem dX6_writeTo_83 : decode cX6_writeTo 83 = .ok (.invokevirtual 43, 3) := by decide +kernel
theorem dX6_writeTo_86 : decode cX6_writeTo 86 = .ok (.invokevirtual 56, 3) := by decide +kernel
theorem dX6_writeTo_89 : decode cX6_writeTo 89 = .ok (.iinc 3 1, 3) := by decide +kernel
theorem dX6_writeTo_92 : decode cX6_writeTo 92 = .ok (.goto (-20), 3) := by decide +kernel
theorem dX6_writeTo_95 : decode cX6_writeTo 95 = .ok (.return_, 1) := by decide +kernel
theorem dX6_rulesPlace_0 : decode cX6_rulesPlace 0 = .ok (.iconst 0, 1) := by decide +kernel
theorem dX6_rulesPlace_1 : decode cX6_rulesPlace 1 = .ok (.istore_n 1, 1) := by decide +kernel
theorem dX6_rulesPlace_2 : decode cX6_rulesPlace 2 = .ok (.iload_n 1, 1) := by decide +kernel
theorem dX6_rulesPlace_3 : decode cX6_rulesPlace 3 = .ok (.aload_n 0, 1) := by decide +kernel
theorem dX6_rulesPlace_4 : decode cX6_rulesPlace 4 = .ok (.getfield 15, 3) := by decide +kernel
theorem dX6_rulesPlace_7 : decode cX6_rulesPlace 7 = .ok (.if_icmp .ge 24, 3) := by decide +kernel
theorem dX6_rulesPlace_10 : decode cX6_rulesPlace 10 = .ok (.aload_n 0, 1) := by decide +kernel
theorem dX6_rulesPlace_11 : decode cX6_rulesPlace 11 = .ok (.getfield 9, 3) := by decide +kernel
theorem dX6_rulesPlace_14 : decode cX6_rulesPlace 14 = .ok (.iload_n 1, 1) := by decide +kernel
theorem dX6_rulesPlace_15 : decode cX6_rulesPlace 15 = .ok (.iaload, 1) := by decide +kernel
theorem dX6_rulesPlace_16 : decode cX6_rulesPlace 16 = .ok (.bipush 59, 2) := by decide +kernel
theorem dX6_rulesPlace_18 : decode cX6_rulesPlace 18 = .ok (.if_icmp .ne 7, 3) := by decide +kernel
theorem dX6_rulesPlace_21 : decode cX6_rulesPlace 21 = .ok (.iload_n 1, 1) := by decide +kernel
theorem dX6_rulesPlace_22 : decode cX6_rulesPlace 22 = .ok (.iconst 1, 1) := by decide +kernel
theorem dX6_rulesPlace_23 : decode cX6_rulesPlace 23 = .ok (.iadd, 1) := by decide +kernel
theorem dX6_rulesPlace_24 : decode cX6_rulesPlace 24 = .ok (.ireturn, 1) := by decide +kernel
theorem dX6_rulesPlace_25 : decode cX6_rulesPlace 25 = .ok (.iinc 1 1, 3) := by decide +kernel
theorem dX6_rulesPlace_28 : decode cX6_rulesPlace 28 = .ok (.goto (-26), 3) := by decide +kernel
theorem dX6_rulesPlace_31 : decode cX6_rulesPlace 31 = .ok (.iconst (-1), 1) := by decide +kernel
theorem dX6_rulesPlace_32 : decode cX6_rulesPlace 32 = .ok (.ireturn, 1) := by decide +kernel
theorem dX6_fitsBoxes_0 : decode cX6_fitsBoxes 0 = .ok (.aload_n 0, 1) := by decide +kernel
theorem dX6_fitsBoxes_1 : decode cX6_fitsBoxes 1 = .ok (.getfield 9, 3) := by decide +kernel
theorem dX6_fitsBoxes_4 : decode cX6_fitsBoxes 4 = .ok (.iload_n 1, 1) := by decide +kernel
theorem dX6_fitsBoxes_5 : decode cX6_fitsBoxes 5 = .ok (.iaload, 1) := by decide +kernel
theorem dX6_fitsBoxes_6 : decode cX6_fitsBoxes 6 = .ok (.istore_n 2, 1) := by decide +kernel
theorem dX6_fitsBoxes_7 : decode cX6_fitsBoxes 7 = .ok (.iload_n 1, 1) := by decide +kernel
theorem dX6_fitsBoxes_8 : decode cX6_fitsBoxes 8 = .ok (.bipush 6, 2) := by decide +kernel
theorem dX6_fitsBoxes_10 : decode cX6_fitsBoxes 10 = .ok (.irem, 1) := by decide +kernel
theorem dX6_fitsBoxes_11 : decode cX6_fitsBoxes 11 = .ok (.tableswitch 89 0 4 #[33, 47, 47, 65, 65], 33) := by decide +kernel
theorem dX6_fitsBoxes_44 : decode cX6_fitsBoxes 44 = .ok (.iload_n 2, 1) := by decide +kernel
theorem dX6_fitsBoxes_45 : decode cX6_fitsBoxes 45 = .ok (.invokestatic 39, 3) := by decide +kernel
theorem dX6_fitsBoxes_48 : decode cX6_fitsBoxes 48 = .ok (.iconst (-1), 1) := by decide +kernel
theorem dX6_fitsBoxes_49 : decode cX6_fitsBoxes 49 = .ok (.if_icmp .eq 7, 3) := by decide +kernel
theorem dX6_fitsBoxes_52 : decode cX6_fitsBoxes 52 = .ok (.iconst 1, 1) := by decide +kernel
theorem dX6_fitsBoxes_53 : decode cX6_fitsBoxes 53 = .ok (.goto 4, 3) := by decide +kernel
theorem dX6_fitsBoxes_56 : decode cX6_fitsBoxes 56 = .ok (.iconst 0, 1) := by decide +kernel
theorem dX6_fitsBoxes_57 : decode cX6_fitsBoxes 57 = .ok (.ireturn, 1) := by decide +kernel
theorem dX6_fitsBoxes_58 : decode cX6_fitsBoxes 58 = .ok (.iload_n 2, 1) := by decide +kernel
theorem dX6_fitsBoxes_59 : decode cX6_fitsBoxes 59 = .ok (.bipush 48, 2) := by decide +kernel
theorem dX6_fitsBoxes_61 : decode cX6_fitsBoxes 61 = .ok (.if_icmp .lt 13, 3) := by decide +kernel
theorem dX6_fitsBoxes_64 : decode cX6_fitsBoxes 64 = .ok (.iload_n 2, 1) := by decide +kernel
theorem dX6_fitsBoxes_65 : decode cX6_fitsBoxes 65 = .ok (.bipush 56, 2) := by decide +kernel
theorem dX6_fitsBoxes_67 : decode cX6_fitsBoxes 67 = .ok (.if_icmp .gt 7, 3) := by decide +kernel
theorem dX6_fitsBoxes_70 : decode cX6_fitsBoxes 70 = .ok (.iconst 1, 1) := by decide +kernel
theorem dX6_fitsBoxes_71 : decode cX6_fitsBoxes 71 = .ok (.goto 4, 3) := by decide +kernel
theorem dX6_fitsBoxes_74 : decode cX6_fitsBoxes 74 = .ok (.iconst 0, 1) := by decide +kernel
theorem dX6_fitsBoxes_75 : decode cX6_fitsBoxes 75 = .ok (.ireturn, 1) := by decide +kernel
theorem dX6_fitsBoxes_76 : decode cX6_fitsBoxes 76 = .ok (.iload_n 2, 1) := by decide +kernel
theorem dX6_fitsBoxes_77 : decode cX6_fitsBoxes 77 = .ok (.bipush 57, 2) := by decide +kernel
theorem dX6_fitsBoxes_79 : decode cX6_fitsBoxes 79 = .ok (.if_icmp .gt 19, 3) := by decide +kernel
theorem dX6_fitsBoxes_82 : decode cX6_fitsBoxes 82 = .ok (.iload_n 2, 1) := by decide +kernel
theorem dX6_fitsBoxes_83 : decode cX6_fitsBoxes 83 = .ok (.aload_n 0, 1) := by decide +kernel
theorem dX6_fitsBoxes_84 : decode cX6_fitsBoxes 84 = .ok (.getfield 9, 3) := by decide +kernel
theorem dX6_fitsBoxes_87 : decode cX6_fitsBoxes 87 = .ok (.iload_n 1, 1) := by decide +kernel
theorem dX6_fitsBoxes_88 : decode cX6_fitsBoxes 88 = .ok (.iconst 2, 1) := by decide +kernel
theorem dX6_fitsBoxes_89 : decode cX6_fitsBoxes 89 = .ok (.isub, 1) := by decide +kernel
theorem dX6_fitsBoxes_90 : decode cX6_fitsBoxes 90 = .ok (.iaload, 1) := by decide +kernel
theorem dX6_fitsBoxes_91 : decode cX6_fitsBoxes 91 = .ok (.if_icmp .le 7, 3) := by decide +kernel
theorem dX6_fitsBoxes_94 : decode cX6_fitsBoxes 94 = .ok (.iconst 1, 1) := by decide +kernel
theorem dX6_fitsBoxes_95 : decode cX6_fitsBoxes 95 = .ok (.goto 4, 3) := by decide +kernel
theorem dX6_fitsBoxes_98 : decode cX6_fitsBoxes 98 = .ok (.iconst 0, 1) := by decide +kernel
theorem dX6_fitsBoxes_99 : decode cX6_fitsBoxes 99 = .ok (.ireturn, 1) := by decide +kernel
theorem dX6_fitsBoxes_100 : decode cX6_fitsBoxes 100 = .ok (.iload_n 2, 1) := by decide +kernel
theorem dX6_fitsBoxes_101 : decode cX6_fitsBoxes 101 = .ok (.bipush 59, 2) := by decide +kernel
theorem dX6_fitsBoxes_103 : decode cX6_fitsBoxes 103 = .ok (.if_icmp .eq 20, 3) := by decide +kernel
theorem dX6_fitsBoxes_106 : decode cX6_fitsBoxes 106 = .ok (.iload_n 2, 1) := by decide +kernel
theorem dX6_fitsBoxes_107 : decode cX6_fitsBoxes 107 = .ok (.bipush 44, 2) := by decide +kernel
theorem dX6_fitsBoxes_109 : decode cX6_fitsBoxes 109 = .ok (.if_icmp .ne 18, 3) := by decide +kernel
theorem dX6_fitsBoxes_112 : decode cX6_fitsBoxes 112 = .ok (.iload_n 1, 1) := by decide +kernel
theorem dX6_fitsBoxes_113 : decode cX6_fitsBoxes 113 = .ok (.bipush 6, 2) := by decide +kernel
theorem dX6_fitsBoxes_115 : decode cX6_fitsBoxes 115 = .ok (.idiv, 1) := by decide +kernel
theorem dX6_fitsBoxes_116 : decode cX6_fitsBoxes 116 = .ok (.iconst 1, 1) := by decide +kernel
theorem dX6_fitsBoxes_117 : decode cX6_fitsBoxes 117 = .ok (.iadd, 1) := by decide +kernel
theorem dX6_fitsBoxes_118 : decode cX6_fitsBoxes 118 = .ok (.bipush 8, 2) := by decide +kernel
theorem dX6_fitsBoxes_120 : decode cX6_fitsBoxes 120 = .ok (.if_icmp .ge 7, 3) := by decide +kernel
theorem dX6_fitsBoxes_123 : decode cX6_fitsBoxes 123 = .ok (.iconst 1, 1) := by decide +kernel
theorem dX6_fitsBoxes_124 : decode cX6_fitsBoxes 124 = .ok (.goto 4, 3) := by decide +kernel
theorem dX6_fitsBoxes_127 : decode cX6_fitsBoxes 127 = .ok (.iconst 0, 1) := by decide +kernel
theorem dX6_fitsBoxes_128 : decode cX6_fitsBoxes 128 = .ok (.ireturn, 1) := by decide +kernel
theorem dX6_fitsRules_0 : decode cX6_fitsRules 0 = .ok (.aload_n 0, 1) := by decide +kernel
theorem dX6_fitsRules_1 : decode cX6_fitsRules 1 = .ok (.getfield 9, 3) := by decide +kernel
theorem dX6_fitsRules_4 : decode cX6_fitsRules 4 = .ok (.iload_n 1, 1) := by decide +kernel
theorem dX6_fitsRules_5 : decode cX6_fitsRules 5 = .ok (.iaload, 1) := by decide +kernel
theorem dX6_fitsRules_6 : decode cX6_fitsRules 6 = .ok (.bipush 48, 2) := by decide +kernel
theorem dX6_fitsRules_8 : decode cX6_fitsRules 8 = .ok (.if_icmp .lt 14, 3) := by decide +kernel
theorem dX6_fitsRules_11 : decode cX6_fitsRules 11 = .ok (.aload_n 0, 1) := by decide +kernel
theorem dX6_fitsRules_12 : decode cX6_fitsRules 12 = .ok (.getfield 9, 3) := by decide +kernel
theorem dX6_fitsRules_15 : decode cX6_fitsRules 15 = .ok (.iload_n 1, 1) := by decide +kernel
theorem dX6_fitsRules_16 : decode cX6_fitsRules 16 = .ok (.iaload, 1) := by decide +kernel
theorem dX6_fitsRules_17 : decode cX6_fitsRules 17 = .ok (.bipush 51, 2) := by decide +kernel
theorem dX6_fitsRules_19 : decode cX6_fitsRules 19 = .ok (.if_icmp .le 5, 3) := by decide +kernel
theorem dX6_fitsRules_22 : decode cX6_fitsRules 22 = .ok (.iconst 0, 1) := by decide +kernel
theorem dX6_fitsRules_23 : decode cX6_fitsRules 23 = .ok (.ireturn, 1) := by decide +kernel
theorem dX6_fitsRules_24 : decode cX6_fitsRules 24 = .ok (.iload_n 2, 1) := by decide +kernel
theorem dX6_fitsRules_25 : decode cX6_fitsRules 25 = .ok (.istore_n 3, 1) := by decide +kernel
theorem dX6_fitsRules_26 : decode cX6_fitsRules 26 = .ok (.iload_n 3, 1) := by decide +kernel
theorem dX6_fitsRules_27 : decode cX6_fitsRules 27 = .ok (.iload_n 1, 1) := by decide +kernel
theorem dX6_fitsRules_28 : decode cX6_fitsRules 28 = .ok (.if_icmp .ge 26, 3) := by decide +kernel
theorem dX6_fitsRules_31 : decode cX6_fitsRules 31 = .ok (.aload_n 0, 1) := by decide +kernel
theorem dX6_fitsRules_32 : decode cX6_fitsRules 32 = .ok (.getfield 9, 3) := by decide +kernel
theorem dX6_fitsRules_35 : decode cX6_fitsRules 35 = .ok (.iload_n 3, 1) := by decide +kernel
theorem dX6_fitsRules_36 : decode cX6_fitsRules 36 = .ok (.iaload, 1) := by decide +kernel
theorem dX6_fitsRules_37 : decode cX6_fitsRules 37 = .ok (.aload_n 0, 1) := by decide +kernel
theorem dX6_fitsRules_38 : decode cX6_fitsRules 38 = .ok (.getfield 9, 3) := by decide +kernel
theorem dX6_fitsRules_41 : decode cX6_fitsRules 41 = .ok (.iload_n 1, 1) := by decide +kernel
theorem dX6_fitsRules_42 : decode cX6_fitsRules 42 = .ok (.iaload, 1) := by decide +kernel
theorem dX6_fitsRules_43 : decode cX6_fitsRules 43 = .ok (.if_icmp .ne 5, 3) := by decide +kernel
theorem dX6_fitsRules_46 : decode cX6_fitsRules 46 = .ok (.iconst 0, 1) := by decide +kernel
theorem dX6_fitsRules_47 : decode cX6_fitsRules 47 = .ok (.ireturn, 1) := by decide +kernel
theorem dX6_fitsRules_48 : decode cX6_fitsRules 48 = .ok (.iinc 3 1, 3) := by decide +kernel
theorem dX6_fitsRules_51 : decode cX6_fitsRules 51 = .ok (.goto (-25), 3) := by decide +kernel
theorem dX6_fitsRules_54 : decode cX6_fitsRules 54 = .ok (.iconst 1, 1) := by decide +kernel
theorem dX6_fitsRules_55 : decode cX6_fitsRules 55 = .ok (.ireturn, 1) := by decide +kernel
theorem dX6_digitAt_0 : decode cX6_digitAt 0 = .ok (.iload_n 1, 1) := by decide +kernel
theorem dX6_digitAt_1 : decode cX6_digitAt 1 = .ok (.aload_n 0, 1) := by decide +kernel
theorem dX6_digitAt_2 : decode cX6_digitAt 2 = .ok (.getfield 15, 3) := by decide +kernel
theorem dX6_digitAt_5 : decode cX6_digitAt 5 = .ok (.if_icmp .ge 15, 3) := by decide +kernel
theorem dX6_digitAt_8 : decode cX6_digitAt 8 = .ok (.aload_n 0, 1) := by decide +kernel
theorem dX6_digitAt_9 : decode cX6_digitAt 9 = .ok (.getfield 9, 3) := by decide +kernel
theorem dX6_digitAt_12 : decode cX6_digitAt 12 = .ok (.iload_n 1, 1) := by decide +kernel
theorem dX6_digitAt_13 : decode cX6_digitAt 13 = .ok (.iaload, 1) := by decide +kernel
theorem dX6_digitAt_14 : decode cX6_digitAt 14 = .ok (.bipush 48, 2) := by decide +kernel
theorem dX6_digitAt_16 : decode cX6_digitAt 16 = .ok (.isub, 1) := by decide +kernel
theorem dX6_digitAt_17 : decode cX6_digitAt 17 = .ok (.goto 4, 3) := by decide +kernel
theorem dX6_digitAt_20 : decode cX6_digitAt 20 = .ok (.iconst 0, 1) := by decide +kernel
theorem dX6_digitAt_21 : decode cX6_digitAt 21 = .ok (.ireturn, 1) := by decide +kernel
theorem dX6_kindOf_0 : decode cX6_kindOf 0 = .ok (.ldc 60, 2) := by decide +kernel
theorem dX6_kindOf_2 : decode cX6_kindOf 2 = .ok (.iload_n 0, 1) := by decide +kernel
theorem dX6_kindOf_3 : decode cX6_kindOf 3 = .ok (.i2c, 1) := by decide +kernel
theorem dX6_kindOf_4 : decode cX6_kindOf 4 = .ok (.invokevirtual 62, 3) := by decide +kernel
theorem dX6_kindOf_7 : decode cX6_kindOf 7 = .ok (.ireturn, 1) := by decide +kernel
