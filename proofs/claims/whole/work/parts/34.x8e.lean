noncomputable def f_X8_see (a1 : Int32) (a2 : Int32) (a3 : Int32) (st : GS) : Option (Int32 × GS) := 
bI1 (f_X8_isBox a1 st) (fun r1 => 
(if r1 = 0 then some (((-101), st)) else 
bI1 (f_X8_in (Int32.toInt64 a2) 0 3) (fun r3 => 
(if r3 = 0 then some (((-102), st)) else 
(if (gt st 0 26) = 6 then some (((-104), st)) else 
gd (3 * (gt st 0 26)) 18 (lt_ (sv st 14 ((3 * (gt st 0 26)).toNatClampNeg) a1) (fun st7 => 
gd ((3 * (gt st7 0 26)) + 1) 18 (lt_ (sv st7 14 (((3 * (gt st7 0 26)) + 1).toNatClampNeg) a2) (fun st9 => 
bI1 ((if a3 = 0 then some (0) else 
some (1))) (fun (x11 : Int32) => 
gd ((3 * (gt st9 0 26)) + 2) 18 (lt_ (sv st9 14 (((3 * (gt st9 0 26)) + 2).toNatClampNeg) x11) (fun st13 => 
lt_ (sv st13 0 26 ((gt st13 0 26) + 1)) (fun st14 => 
some (((gt st14 0 26), st14)))))))))))))))
set_option maxRecDepth 100000 in
set_option maxHeartbeats 4000000 in
theorem c_X8_see (l : Launch) (D : va_G) (cy : ClassId) (h : Nat → Nat) (a1 : Int32) (a2 : Int32) (a3 : Int32) (st : GS) (r : Int32) (stF : GS) (hf : f_X8_see a1 a2 a3 st = some (r, stF)) : gMi l MSh D cy h yX8_see cX8_see 4 (some .int) 3 st [.ref (h 0), .int a1, .int a2, .int a3] r stF := by
  unfold f_X8_see at hf
  refine gMi_of (by decide) (Nat.le_of_ble_eq_true rfl) ?_
  intro p e s m args below meth c A ls C hr hlocks G hl
  have C : gC p s m args c cX8_see 4 "LaneOrderModel" MSh D cy h A := C
  have hl : lv_has ls 4 [(0, .ref (h 0)), (1, .int a1), (2, .int a2), (3, .int a3)] := hl
  have hx := C.1
  have hb := C.2.1
  have hown := C.2.2.2.1
  have htb := C.2.2.2.2.1
  refine lv_aload_n hx hb dX8_see_0 rfl (lv_at hl 0 rfl) ?_
  refine lv_iload_n hx hb dX8_see_1 rfl (lv_at hl 1 rfl) ?_
  obtain ⟨r1, hc2_1, hf⟩ := bI1_some hf
  refine g_callVi C G (As := [.int a1]) (rest := []) (c_X8_isBox l D cy h a1 st r1 hc2_1) cl8 rfl (C8 ok8_0) v_X8_213 (Nat.le_of_ble_eq_true rfl) (Nat.le_of_ble_eq_true rfl) rfl hl.1 rfl (Nat.le_of_ble_eq_true rfl) dX8_see_2 ⟨Nat.zero_le _, Nat.zero_le _⟩ (fun H locs G => ?_)
  refine lv_if_ne (tgt := 11) hx hb dX8_see_5 (by decide) (fun c2 => ?_) (fun c2 => ?_)
  · have hf := ifN c2 hf
    refine lv_iload_n hx hb dX8_see_11 rfl (lv_at hl 2 rfl) ?_
    refine lv_i2l hx hb dX8_see_12 rfl ?_
    refine lv_lconst (v := 0) hx hb dX8_see_13 rfl ?_
    refine lv_ldc2 hx hb (v := 3) hown (htb _ k5_150) dX8_see_14 ?_
    obtain ⟨r3, hc17_3, hf⟩ := bI1_some hf
    refine g_callSi C G (As := [.long (Int32.toInt64 a2), .long 0, .long 3]) (rest := []) (c_X8_in l D cy h (Int32.toInt64 a2) 0 3 st r3 hc17_3) v_X8_76 (Nat.le_of_ble_eq_true rfl) (Nat.le_of_ble_eq_true rfl) rfl hl.1 rfl (Nat.le_of_ble_eq_true rfl) dX8_see_17 ⟨Nat.zero_le _, Nat.zero_le _⟩ (fun H locs G => ?_)
    refine lv_if_ne (tgt := 26) hx hb dX8_see_20 (by decide) (fun c4 => ?_) (fun c4 => ?_)
    · have hf := ifN c4 hf
      refine lv_aload_n hx hb dX8_see_26 rfl (lv_at hl 0 rfl) ?_
      refine g_geti C G cl8 (C8 ok8_0) (j := 26) (by decide) (F8_26 ok8_0) k4_50 dX8_see_27 ?_
      refine lv_bipush (v := 6) hx hb dX8_see_30 (by decide) ?_
      refine lv_icmp_ne (tgt := 38) hx hb dX8_see_32 (by decide) (fun c5 => ?_) (fun c5 => ?_)
      · have hf := ifN c5 hf
        refine lv_aload_n hx hb dX8_see_38 rfl (lv_at hl 0 rfl) ?_
        refine g_getr (k := 14) C G cl8 (C8 ok8_0) (j := 27) (by decide) (F8_27 ok8_0) k4_51 dX8_see_39 ?_
        refine lv_iconst (v := 3) hx hb dX8_see_42 (by decide) ?_
        refine lv_aload_n hx hb dX8_see_43 rfl (lv_at hl 0 rfl) ?_
        refine g_geti C G cl8 (C8 ok8_0) (j := 26) (by decide) (F8_26 ok8_0) k4_50 dX8_see_44 ?_
        refine lv_imul hx hb dX8_see_47 ?_
        refine lv_iload_n hx hb dX8_see_48 rfl (lv_at hl 1 rfl) ?_
        obtain ⟨hi49_5, hf⟩ := gd_some hf
        refine g_iast C G (A8_27 ok8_0) (j := (3 * (gt st 0 26)).toNatClampNeg) rfl hi49_5 dX8_see_49 (fun st7 est7 H locs G => ?_)
        have hf := lt_some est7 hf
        refine lv_aload_n hx hb dX8_see_50 rfl (lv_at hl 0 rfl) ?_
        refine g_getr (k := 14) C G cl8 (C8 ok8_0) (j := 27) (by decide) (F8_27 ok8_0) k4_51 dX8_see_51 ?_
        refine lv_iconst (v := 3) hx hb dX8_see_54 (by decide) ?_
        refine lv_aload_n hx hb dX8_see_55 rfl (lv_at hl 0 rfl) ?_
        refine g_geti C G cl8 (C8 ok8_0) (j := 26) (by decide) (F8_26 ok8_0) k4_50 dX8_see_56 ?_
        refine lv_imul hx hb dX8_see_59 ?_
        refine lv_iconst (v := 1) hx hb dX8_see_60 (by decide) ?_
        refine lv_iadd hx hb dX8_see_61 ?_
        refine lv_iload_n hx hb dX8_see_62 rfl (lv_at hl 2 rfl) ?_
        obtain ⟨hi63_7, hf⟩ := gd_some hf
        refine g_iast C G (A8_27 ok8_0) (j := ((3 * (gt st7 0 26)) + 1).toNatClampNeg) rfl hi63_7 dX8_see_63 (fun st9 est9 H locs G => ?_)
        have hf := lt_some est9 hf
        refine lv_aload_n hx hb dX8_see_64 rfl (lv_at hl 0 rfl) ?_
        refine g_getr (k := 14) C G cl8 (C8 ok8_0) (j := 27) (by decide) (F8_27 ok8_0) k4_51 dX8_see_65 ?_
        refine lv_iconst (v := 3) hx hb dX8_see_68 (by decide) ?_
        refine lv_aload_n hx hb dX8_see_69 rfl (lv_at hl 0 rfl) ?_
        refine g_geti C G cl8 (C8 ok8_0) (j := 26) (by decide) (F8_26 ok8_0) k4_50 dX8_see_70 ?_
        refine lv_imul hx hb dX8_see_73 ?_
        refine lv_iconst (v := 2) hx hb dX8_see_74 (by decide) ?_
        refine lv_iadd hx hb dX8_see_75 ?_
        refine lv_iload_n hx hb dX8_see_76 rfl (lv_at hl 3 rfl) ?_
        obtain ⟨x11, hj85, hf⟩ := bI1_some hf
        have K85 : ∀ (H : Heap) (locs : List Loc) (ls : Array Slot) , gG MSh D cy h A s st9 H locs → lv_has ls 4 [(0, .ref (h 0))] → W p l e (gR 3) s m args below meth c H locs 0 0 (MQ below (gQi MSh D cy h A r stF) args s 0 0 A) (F0 m 85 ls [.int x11, .int ((3 * (gt st9 0 26)) + 2), .ref (h 14)]) := by
          intro H locs ls G hl
          obtain ⟨hi85_11, hf⟩ := gd_some hf
          refine g_iast C G (A8_27 ok8_0) (j := ((3 * (gt st9 0 26)) + 2).toNatClampNeg) rfl hi85_11 dX8_see_85 (fun st13 est13 H locs G => ?_)
          have hf := lt_some est13 hf
          refine lv_aload_n hx hb dX8_see_86 rfl (lv_at hl 0 rfl) ?_
          refine lv_dup hx hb dX8_see_87 rfl ?_
          refine g_geti C G cl8 (C8 ok8_0) (j := 26) (by decide) (F8_26 ok8_0) k4_50 dX8_see_88 ?_
          refine lv_iconst (v := 1) hx hb dX8_see_91 (by decide) ?_
          refine lv_iadd hx hb dX8_see_92 ?_
          refine g_puti C G cl8 (C8 ok8_0) (j := 26) (by decide) (F8_26 ok8_0) k4_50 rfl rfl rfl dX8_see_93 (fun st14 est14 H locs G => ?_)
          have hf := lt_some est14 hf
          refine lv_aload_n hx hb dX8_see_96 rfl (lv_at hl 0 rfl) ?_
          refine g_geti C G cl8 (C8 ok8_0) (j := 26) (by decide) (F8_26 ok8_0) k4_50 dX8_see_97 ?_
          cases hf
          exact g_iret C G hr hlocks dX8_see_100
        clear hf
        refine lv_if_eq (tgt := 84) hx hb dX8_see_77 (by decide) (fun c10 => ?_) (fun c10 => ?_)
        · have hf := ifP c10 hj85
          refine lv_iconst (v := 0) hx hb dX8_see_84 (by decide) ?_
          cases hf
          exact K85 _ _ _ G (lv_sub hl [0] rfl)
        · have hf := ifN c10 hj85
          refine lv_iconst (v := 1) hx hb dX8_see_80 (by decide) ?_
          refine lv_goto (tgt := 85) hx hb dX8_see_81 (by decide) ?_
          cases hf
          exact K85 _ _ _ G (lv_sub hl [0] rfl)
      · have hf := ifP c5 hf
        refine lv_bipush (v := (-104)) hx hb dX8_see_35 (by decide) ?_
        cases hf
        exact g_iret C G hr hlocks dX8_see_37
    · have hf := ifP c4 hf
      refine lv_bipush (v := (-102)) hx hb dX8_see_23 (by decide) ?_
      cases hf
      exact g_iret C G hr hlocks dX8_see_25
  · have hf := ifP c2 hf
    refine lv_bipush (v := (-101)) hx hb dX8_see_8 (by decide) ?_
    cases hf
    exact g_iret C G hr hlocks dX8_see_10

noncomputable def f_X8_forget (st : GS) : Option (Int32 × GS) := 
lt_ (gt st 0 26) (fun x1 => 
lt_ (sv st 0 26 0) (fun st2 => 
some ((x1, st2))))
set_option maxRecDepth 100000 in
set_option maxHeartbeats 4000000 in
theorem c_X8_forget (l : Launch) (D : va_G) (cy : ClassId) (h : Nat → Nat)  (st : GS) (r : Int32) (stF : GS) (hf : f_X8_forget st = some (r, stF)) : gMi l MSh D cy h yX8_forget cX8_forget 2 (some .int) 1 st [.ref (h 0)] r stF := by
  unfold f_X8_forget at hf
  refine gMi_of (by decide) (Nat.le_of_ble_eq_true rfl) ?_
  intro p e s m args below meth c A ls C hr hlocks G hl
  have C : gC p s m args c cX8_forget 2 "LaneOrderModel" MSh D cy h A := C
  have hl : lv_has ls 2 [(0, .ref (h 0))] := hl
  have hx := C.1
  have hb := C.2.1
  have hown := C.2.2.2.1
  have htb := C.2.2.2.2.1
  refine lv_aload_n hx hb dX8_forget_0 rfl (lv_at hl 0 rfl) ?_
  refine g_geti C G cl8 (C8 ok8_0) (j := 26) (by decide) (F8_26 ok8_0) k4_50 dX8_forget_1 ?_
  refine lv_topi (fun x1 ex1 => ?_)
  have hf := lt_some ex1 hf
  refine lv_istore_n (lv' := [(1, .int x1), (0, .ref (h 0))]) hx hb dX8_forget_4 rfl hl (by decide) rfl (fun ls hl => ?_)
  refine lv_aload_n hx hb dX8_forget_5 rfl (lv_at hl 1 rfl) ?_
  refine lv_iconst (v := 0) hx hb dX8_forget_6 (by decide) ?_
  refine g_puti C G cl8 (C8 ok8_0) (j := 26) (by decide) (F8_26 ok8_0) k4_50 rfl rfl rfl dX8_forget_7 (fun st2 est2 H locs G => ?_)
  have hf := lt_some est2 hf
  refine lv_iload_n hx hb dX8_forget_10 rfl (lv_at hl 0 rfl) ?_
  cases hf
  exact g_iret C G hr hlocks dX8_forget_11

noncomputable def f_X8_draw (a1 : Int32) (st : GS) : Option (Int32 × GS) := 
lt_ (sv st 0 28 (Int64.toInt32 (((1103515245 * (Int32.toInt64 (gt st 0 28))) + 12345) &&& 2147483647))) (fun st1 => 
gq (¬ a1 = 0) (some (((irem ((gt st1 0 28) / 65536) a1), st1))))
set_option maxRecDepth 100000 in
set_option maxHeartbeats 4000000 in
theorem c_X8_draw (l : Launch) (D : va_G) (cy : ClassId) (h : Nat → Nat) (a1 : Int32) (st : GS) (r : Int32) (stF : GS) (hf : f_X8_draw a1 st = some (r, stF)) : gMi l MSh D cy h yX8_draw cX8_draw 2 (some .int) 1 st [.ref (h 0), .int a1] r stF := by
  unfold f_X8_draw at hf
  refine gMi_of (by decide) (Nat.le_of_ble_eq_true rfl) ?_
  intro p e s m args below meth c A ls C hr hlocks G hl
  have C : gC p s m args c cX8_draw 2 "LaneOrderModel" MSh D cy h A := C
  have hl : lv_has ls 2 [(0, .ref (h 0)), (1, .int a1)] := hl
  have hx := C.1
  have hb := C.2.1
  have hown := C.2.2.2.1
  have htb := C.2.2.2.2.1
  refine lv_aload_n hx hb dX8_draw_0 rfl (lv_at hl 0 rfl) ?_
  refine lv_ldc2 hx hb (v := 1103515245) hown (htb _ k5_169) dX8_draw_1 ?_
  refine lv_aload_n hx hb dX8_draw_4 rfl (lv_at hl 0 rfl) ?_
  refine g_geti C G cl8 (C8 ok8_0) (j := 28) (by decide) (F8_28 ok8_0) k4_52 dX8_draw_5 ?_
  refine lv_i2l hx hb dX8_draw_8 rfl ?_
  refine lv_lmul hx hb dX8_draw_9 ?_
  refine lv_ldc2 hx hb (v := 12345) hown (htb _ k5_170) dX8_draw_10 ?_
  refine lv_ladd hx hb dX8_draw_13 ?_
  refine lv_ldc2 hx hb (v := 2147483647) hown (htb _ k5_171) dX8_draw_14 ?_
  refine lv_land hx hb dX8_draw_17 ?_
  refine lv_l2i hx hb dX8_draw_18 rfl ?_
  refine g_puti C G cl8 (C8 ok8_0) (j := 28) (by decide) (F8_28 ok8_0) k4_52 rfl rfl rfl dX8_draw_19 (fun st1 est1 H locs G => ?_)
  have hf := lt_some est1 hf
  refine lv_aload_n hx hb dX8_draw_22 rfl (lv_at hl 0 rfl) ?_
  refine g_geti C G cl8 (C8 ok8_0) (j := 28) (by decide) (F8_28 ok8_0) k4_52 dX8_draw_23 ?_
  refine lv_ldcw hx hb (v := 65536) hown (htb _ k5_172) dX8_draw_26 ?_
  refine lv_idiv hx hb dX8_draw_29 (by decide) ?_
  refine lv_iload_n hx hb dX8_draw_30 rfl (lv_at hl 1 rfl) ?_
  obtain ⟨hn31, hf⟩ := gq_some hf
  refine g_irem C dX8_draw_31 hn31 ?_
  cases hf
  exact g_iret C G hr hlocks dX8_draw_32

noncomputable def f_X8_drawBox (a1 : Int32) (st : GS) : Option (GS) := 
gd a1 8 (lt_ (sv st 2 (a1.toNatClampNeg) 0) (fun st2 => 
bI2 (f_X8_draw 8 st2) (fun r3 st4 => 
gd (4 * a1) 32 (lt_ (sv st4 3 ((4 * a1).toNatClampNeg) r3) (fun st6 => 
bI2 (f_X8_draw 8 st6) (fun r7 st8 => 
gd ((4 * a1) + 1) 32 (lt_ (sv st8 3 (((4 * a1) + 1).toNatClampNeg) r7) (fun st10 => 
gd (4 * a1) 32 (bI2 (f_X8_draw 3 st10) (fun r12 st13 => 
gd ((4 * a1) + 2) 32 (lt_ (sv st13 3 (((4 * a1) + 2).toNatClampNeg) (((gt st10 3 ((4 * a1).toNatClampNeg)) + 1) + r12)) (fun st15 => 
gd ((4 * a1) + 1) 32 (bI2 (f_X8_draw 3 st15) (fun r17 st18 => 
gd ((4 * a1) + 3) 32 (lt_ (sv st18 3 (((4 * a1) + 3).toNatClampNeg) (((gt st15 3 (((4 * a1) + 1).toNatClampNeg)) + 1) + r17)) (fun st20 => 
some (st20)))))))))))))))))
set_option maxRecDepth 100000 in
set_option maxHeartbeats 4000000 in
theorem c_X8_drawBox (l : Launch) (D : va_G) (cy : ClassId) (h : Nat → Nat) (a1 : Int32) (st : GS) (stF : GS) (hf : f_X8_drawBox a1 st = some stF) : gMv l MSh D cy h yX8_drawBox cX8_drawBox 2 none 2 st [.ref (h 0), .int a1] stF := by
  unfold f_X8_drawBox at hf
  refine gMv_of (by decide) (Nat.le_of_ble_eq_true rfl) ?_
  intro p e s m args below meth c A ls C hr hlocks G hl
  have C : gC p s m args c cX8_drawBox 2 "LaneOrderModel" MSh D cy h A := C
  have hl : lv_has ls 2 [(0, .ref (h 0)), (1, .int a1)] := hl
  have hx := C.1
  have hb := C.2.1
  have hown := C.2.2.2.1
  have htb := C.2.2.2.2.1
  refine lv_aload_n hx hb dX8_drawBox_0 rfl (lv_at hl 0 rfl) ?_
  refine g_getr (k := 2) C G cl8 (C8 ok8_0) (j := 7) (by decide) (F8_7 ok8_0) k4_31 dX8_drawBox_1 ?_
  refine lv_iload_n hx hb dX8_drawBox_4 rfl (lv_at hl 1 rfl) ?_
  refine lv_iconst (v := 0) hx hb dX8_drawBox_5 (by decide) ?_
  obtain ⟨hi6_0, hf⟩ := gd_some hf
  refine g_iast C G (A8_7 ok8_0) (j := a1.toNatClampNeg) rfl hi6_0 dX8_drawBox_6 (fun st2 est2 H locs G => ?_)
  have hf := lt_some est2 hf
  refine lv_aload_n hx hb dX8_drawBox_7 rfl (lv_at hl 0 rfl) ?_
  refine g_getr (k := 3) C G cl8 (C8 ok8_0) (j := 8) (by decide) (F8_8 ok8_0) k4_32 dX8_drawBox_8 ?_
  refine lv_iconst (v := 4) hx hb dX8_drawBox_11 (by decide) ?_
  refine lv_iload_n hx hb dX8_drawBox_12 rfl (lv_at hl 1 rfl) ?_
  refine lv_imul hx hb dX8_drawBox_13 ?_
  refine lv_aload_n hx hb dX8_drawBox_14 rfl (lv_at hl 0 rfl) ?_
  refine lv_bipush (v := 8) hx hb dX8_drawBox_15 (by decide) ?_
  obtain ⟨r3, st4, hc17_4, hf⟩ := bI2_some hf
  refine g_callVi C G (As := [.int 8]) (rest := [.int (4 * a1), .ref (h 3)]) (c_X8_draw l D cy h 8 st2 r3 st4 hc17_4) cl8 rfl (C8 ok8_0) v_X8_283 (Nat.le_of_ble_eq_true rfl) (Nat.le_of_ble_eq_true rfl) rfl hl.1 rfl (Nat.le_of_ble_eq_true rfl) dX8_drawBox_17 ⟨Nat.zero_le _, Nat.zero_le _⟩ (fun H locs G => ?_)
  obtain ⟨hi20_4, hf⟩ := gd_some hf
  refine g_iast C G (A8_8 ok8_0) (j := (4 * a1).toNatClampNeg) rfl hi20_4 dX8_drawBox_20 (fun st6 est6 H locs G => ?_)
  have hf := lt_some est6 hf
  refine lv_aload_n hx hb dX8_drawBox_21 rfl (lv_at hl 0 rfl) ?_
  refine g_getr (k := 3) C G cl8 (C8 ok8_0) (j := 8) (by decide) (F8_8 ok8_0) k4_32 dX8_drawBox_22 ?_
  refine lv_iconst (v := 4) hx hb dX8_drawBox_25 (by decide) ?_
  refine lv_iload_n hx hb dX8_drawBox_26 rfl (lv_at hl 1 rfl) ?_
  refine lv_imul hx hb dX8_drawBox_27 ?_
  refine lv_iconst (v := 1) hx hb dX8_drawBox_28 (by decide) ?_
  refine lv_iadd hx hb dX8_drawBox_29 ?_
  refine lv_aload_n hx hb dX8_drawBox_30 rfl (lv_at hl 0 rfl) ?_
  refine lv_bipush (v := 8) hx hb dX8_drawBox_31 (by decide) ?_
  obtain ⟨r7, st8, hc33_8, hf⟩ := bI2_some hf
  refine g_callVi C G (As := [.int 8]) (rest := [.int ((4 * a1) + 1), .ref (h 3)]) (c_X8_draw l D cy h 8 st6 r7 st8 hc33_8) cl8 rfl (C8 ok8_0) v_X8_283 (Nat.le_of_ble_eq_true rfl) (Nat.le_of_ble_eq_true rfl) rfl hl.1 rfl (Nat.le_of_ble_eq_true rfl) dX8_drawBox_33 ⟨Nat.zero_le _, Nat.zero_le _⟩ (fun H locs G => ?_)
  obtain ⟨hi36_8, hf⟩ := gd_some hf
  refine g_iast C G (A8_8 ok8_0) (j := ((4 * a1) + 1).toNatClampNeg) rfl hi36_8 dX8_drawBox_36 (fun st10 est10 H locs G => ?_)
  have hf := lt_some est10 hf
  refine lv_aload_n hx hb dX8_drawBox_37 rfl (lv_at hl 0 rfl) ?_
  refine g_getr (k := 3) C G cl8 (C8 ok8_0) (j := 8) (by decide) (F8_8 ok8_0) k4_32 dX8_drawBox_38 ?_
  refine lv_iconst (v := 4) hx hb dX8_drawBox_41 (by decide) ?_
  refine lv_iload_n hx hb dX8_drawBox_42 rfl (lv_at hl 1 rfl) ?_
  refine lv_imul hx hb dX8_drawBox_43 ?_
  refine lv_iconst (v := 2) hx hb dX8_drawBox_44 (by decide) ?_
  refine lv_iadd hx hb dX8_drawBox_45 ?_
  refine lv_aload_n hx hb dX8_drawBox_46 rfl (lv_at hl 0 rfl) ?_
  refine g_getr (k := 3) C G cl8 (C8 ok8_0) (j := 8) (by decide) (F8_8 ok8_0) k4_32 dX8_drawBox_47 ?_
  refine lv_iconst (v := 4) hx hb dX8_drawBox_50 (by decide) ?_
  refine lv_iload_n hx hb dX8_drawBox_51 rfl (lv_at hl 1 rfl) ?_
  refine lv_imul hx hb dX8_drawBox_52 ?_
  obtain ⟨hi53_10, hf⟩ := gd_some hf
  refine g_iald C G (A8_8 ok8_0) (j := (4 * a1).toNatClampNeg) rfl hi53_10 dX8_drawBox_53 ?_
  refine lv_iconst (v := 1) hx hb dX8_drawBox_54 (by decide) ?_
  refine lv_iadd hx hb dX8_drawBox_55 ?_
  refine lv_aload_n hx hb dX8_drawBox_56 rfl (lv_at hl 0 rfl) ?_
  refine lv_iconst (v := 3) hx hb dX8_drawBox_57 (by decide) ?_
  obtain ⟨r12, st13, hc58_13, hf⟩ := bI2_some hf
  refine g_callVi C G (As := [.int 3]) (rest := [.int ((gt st10 3 ((4 * a1).toNatClampNeg)) + 1), .int ((4 * a1) + 2), .ref (h 3)]) (c_X8_draw l D cy h 3 st10 r12 st13 hc58_13) cl8 rfl (C8 ok8_0) v_X8_283 (Nat.le_of_ble_eq_true rfl) (Nat.le_of_ble_eq_true rfl) rfl hl.1 rfl (Nat.le_of_ble_eq_true rfl) dX8_drawBox_58 ⟨Nat.zero_le _, Nat.zero_le _⟩ (fun H locs G => ?_)
  refine lv_iadd hx hb dX8_drawBox_61 ?_
  obtain ⟨hi62_13, hf⟩ := gd_some hf
  refine g_iast C G (A8_8 ok8_0) (j := ((4 * a1) + 2).toNatClampNeg) rfl hi62_13 dX8_drawBox_62 (fun st15 est15 H locs G => ?_)
  have hf := lt_some est15 hf
  refine lv_aload_n hx hb dX8_drawBox_63 rfl (lv_at hl 0 rfl) ?_
  refine g_getr (k := 3) C G cl8 (C8 ok8_0) (j := 8) (by decide) (F8_8 ok8_0) k4_32 dX8_drawBox_64 ?_
  refine lv_iconst (v := 4) hx hb dX8_drawBox_67 (by decide) ?_
  refine lv_iload_n hx hb dX8_drawBox_68 rfl (lv_at hl 1 rfl) ?_
  refine lv_imul hx hb dX8_drawBox_69 ?_
  refine lv_iconst (v := 3) hx hb dX8_drawBox_70 (by decide) ?_
  refine lv_iadd hx hb dX8_drawBox_71 ?_
  refine lv_aload_n hx hb dX8_drawBox_72 rfl (lv_at hl 0 rfl) ?_
  refine g_getr (k := 3) C G cl8 (C8 ok8_0) (j := 8) (by decide) (F8_8 ok8_0) k4_32 dX8_drawBox_73 ?_
  refine lv_iconst (v := 4) hx hb dX8_drawBox_76 (by decide) ?_
  refine lv_iload_n hx hb dX8_drawBox_77 rfl (lv_at hl 1 rfl) ?_
  refine lv_imul hx hb dX8_drawBox_78 ?_
  refine lv_iconst (v := 1) hx hb dX8_drawBox_79 (by decide) ?_
  refine lv_iadd hx hb dX8_drawBox_80 ?_
  obtain ⟨hi81_15, hf⟩ := gd_some hf
  refine g_iald C G (A8_8 ok8_0) (j := ((4 * a1) + 1).toNatClampNeg) rfl hi81_15 dX8_drawBox_81 ?_
  refine lv_iconst (v := 1) hx hb dX8_drawBox_82 (by decide) ?_
  refine lv_iadd hx hb dX8_drawBox_83 ?_
  refine lv_aload_n hx hb dX8_drawBox_84 rfl (lv_at hl 0 rfl) ?_
  refine lv_iconst (v := 3) hx hb dX8_drawBox_85 (by decide) ?_
  obtain ⟨r17, st18, hc86_18, hf⟩ := bI2_some hf
  refine g_callVi C G (As := [.int 3]) (rest := [.int ((gt st15 3 (((4 * a1) + 1).toNatClampNeg)) + 1), .int ((4 * a1) + 3), .ref (h 3)]) (c_X8_draw l D cy h 3 st15 r17 st18 hc86_18) cl8 rfl (C8 ok8_0) v_X8_283 (Nat.le_of_ble_eq_true rfl) (Nat.le_of_ble_eq_true rfl) rfl hl.1 rfl (Nat.le_of_ble_eq_true rfl) dX8_drawBox_86 ⟨Nat.zero_le _, Nat.zero_le _⟩ (fun H locs G => ?_)
  refine lv_iadd hx hb dX8_drawBox_89 ?_
  obtain ⟨hi90_18, hf⟩ := gd_some hf
  refine g_iast C G (A8_8 ok8_0) (j := ((4 * a1) + 3).toNatClampNeg) rfl hi90_18 dX8_drawBox_90 (fun st20 est20 H locs G => ?_)
  have hf := lt_some est20 hf
  cases hf
  exact g_vret C G hr hlocks dX8_drawBox_91

noncomputable def f_X8_drawn_L126  (x21 : Int32) (st22 : GS) : Option ((Int32 × GS) ⊕ (GS)) := 
(if 5 ≤ x21 then some (.inr (st22)) else 
bI1 (f_X8_drawBox x21 st22) (fun st24 => 
lt_ (x21 + 1) (fun x25 => 
some (.inl (x25, st24)))))
noncomputable def f_X8_drawn_L160 (st27 : GS) (x29 : Int32) (x30 : Int32) : Option ((Int32 × Int32) ⊕ (Int32)) := 
(if 5 ≤ x30 then some (.inr (x29)) else 
(if x29 = 0 then lt_ (x30 + 1) (fun x33 => 
some (.inl (0, x33))) else 
gd x30 8 ((if (gt st27 6 (x30.toNatClampNeg)) = x30 then lt_ (x30 + 1) (fun x37 => 
some (.inl (1, x37))) else 
lt_ (x30 + 1) (fun x36 => 
some (.inl (0, x36)))))))
noncomputable def f_X8_drawn_L114 (a1 : Int32) (x16 : Int32) (x17 : Int32) (x18 : Int32) (st19 : GS) : Option ((Int32 × Int32 × Int32 × GS) ⊕ (Int32 × Int32 × GS)) := 
(if a1 ≤ x18 then some (.inr (x16, x17, st19)) else 
bI1 (lpx (uc2 f_X8_drawn_L126) (0, st19)) (fun st26 => 
bI1 (f_X8_layAll st26) (fun st27 => 
lt_ (x16 + (gt st27 0 18)) (fun x28 => 
bI1 (lpx (uc2 (f_X8_drawn_L160 st27)) (1, 0)) (fun x38 => 
(if x38 = 0 then lt_ (x17 + 0) (fun x40 => 
lt_ (x18 + 1) (fun x41 => 
some (.inl (x28, x40, x41, st27)))) else 
lt_ (x17 + 1) (fun x42 => 
lt_ (x18 + 1) (fun x43 => 
some (.inl (x28, x42, x43, st27))))))))))
noncomputable def f_X8_drawn (a1 : Int32) (a2 : Int32) (a3 : Int32) (st : GS) : Option (Int32 × GS) := 
bI1 (f_X8_in (Int32.toInt64 a1) 1 20) (fun r1 => 
(if r1 = 0 then some (((-102), st)) else 
(if a2 < 0 then some (((-102), st)) else 
bI1 (f_X8_in (Int32.toInt64 a3) 0 2) (fun r4 => 
(if r4 = 0 then some (((-102), st)) else 
bI1 (f_X8_copy 2 8 15 8 st) (fun st6 => 
bI1 (f_X8_copy 3 32 16 32 st6) (fun st7 => 
bI1 (f_X8_copy 4 4 13 4 st7) (fun st8 => 
lt_ (gt st8 0 5) (fun x9 => 
lt_ (gt st8 0 10) (fun x10 => 
lt_ (sv st8 0 5 5) (fun st11 => 
lt_ (sv st11 0 10 2) (fun st12 => 
lt_ (sv st12 4 0 2) (fun st13 => 
lt_ (sv st13 4 1 3) (fun st14 => 
lt_ (sv st14 0 28 a2) (fun st15 => 
bI3 (lpx (uc4 (f_X8_drawn_L114 a1)) (0, 0, 0, st15)) (fun x44 x45 st46 => 
lt_ (sv st46 0 5 x9) (fun st47 => 
lt_ (sv st47 0 10 x10) (fun st48 => 
bI1 (f_X8_copy 15 8 2 8 st48) (fun st49 => 
bI1 (f_X8_copy 16 32 3 32 st49) (fun st50 => 
bI1 (f_X8_copy 13 4 4 4 st50) (fun st51 => 
(if a3 = 0 then some ((x44, st51)) else 
(if a3 = 1 then some ((x45, st51)) else 
some (((gt st51 0 28), st51)))))))))))))))))))))))))
set_option maxRecDepth 100000 in
set_option maxHeartbeats 4000000 in
theorem c_X8_drawn (l : Launch) (D : va_G) (cy : ClassId) (h : Nat → Nat) (a1 : Int32) (a2 : Int32) (a3 : Int32) (st : GS) (r : Int32) (stF : GS) (hf : f_X8_drawn a1 a2 a3 st = some (r, stF)) : gMi l MSh D cy h yX8_drawn cX8_drawn 11 (some .int) 8 st [.ref (h 0), .int a1, .int a2, .int a3] r stF := by
  unfold f_X8_drawn at hf
  refine gMi_of (by decide) (Nat.le_of_ble_eq_true rfl) ?_
  intro p e s m args below meth c A ls C hr hlocks G hl
  have C : gC p s m args c cX8_drawn 11 "LaneOrderModel" MSh D cy h A := C
  have hl : lv_has ls 11 [(0, .ref (h 0)), (1, .int a1), (2, .int a2), (3, .int a3)] := hl
  have hx := C.1
  have hb := C.2.1
  have hown := C.2.2.2.1
  have htb := C.2.2.2.2.1
  refine lv_iload_n hx hb dX8_drawn_0 rfl (lv_at hl 1 rfl) ?_
  refine lv_i2l hx hb dX8_drawn_1 rfl ?_
  refine lv_lconst (v := 1) hx hb dX8_drawn_2 rfl ?_
  refine lv_ldc2 hx hb (v := 20) hown (htb _ k5_159) dX8_drawn_3 ?_
  obtain ⟨r1, hc6_1, hf⟩ := bI1_some hf
  refine g_callSi C G (As := [.long (Int32.toInt64 a1), .long 1, .long 20]) (rest := []) (c_X8_in l D cy h (Int32.toInt64 a1) 1 20 st r1 hc6_1) v_X8_76 (Nat.le_of_ble_eq_true rfl) (Nat.le_of_ble_eq_true rfl) rfl hl.1 rfl (Nat.le_of_ble_eq_true rfl) dX8_drawn_6 ⟨Nat.zero_le _, Nat.zero_le _⟩ (fun H locs G => ?_)
  refine lv_if_eq (tgt := 28) hx hb dX8_drawn_9 (by decide) (fun c2 => ?_) (fun c2 => ?_)
  · have hf := ifP c2 hf
    refine lv_bipush (v := (-102)) hx hb dX8_drawn_28 (by decide) ?_
    cases hf
    exact g_iret C G hr hlocks dX8_drawn_30
  · have hf := ifN c2 hf
    refine lv_iload_n hx hb dX8_drawn_12 rfl (lv_at hl 2 rfl) ?_
    refine lv_if_lt (tgt := 28) hx hb dX8_drawn_13 (by decide) (fun c3 => ?_) (fun c3 => ?_)
    · have hf := ifP c3 hf
      refine lv_bipush (v := (-102)) hx hb dX8_drawn_28 (by decide) ?_
      cases hf
      exact g_iret C G hr hlocks dX8_drawn_30
    · have hf := ifN c3 hf
      refine lv_iload_n hx hb dX8_drawn_16 rfl (lv_at hl 3 rfl) ?_
      refine lv_i2l hx hb dX8_drawn_17 rfl ?_
      refine lv_lconst (v := 0) hx hb dX8_drawn_18 rfl ?_
      refine lv_ldc2 hx hb (v := 2) hown (htb _ k5_160) dX8_drawn_19 ?_
      obtain ⟨r4, hc22_4, hf⟩ := bI1_some hf
      refine g_callSi C G (As := [.long (Int32.toInt64 a3), .long 0, .long 2]) (rest := []) (c_X8_in l D cy h (Int32.toInt64 a3) 0 2 st r4 hc22_4) v_X8_76 (Nat.le_of_ble_eq_true rfl) (Nat.le_of_ble_eq_true rfl) rfl hl.1 rfl (Nat.le_of_ble_eq_true rfl) dX8_drawn_22 ⟨Nat.zero_le _, Nat.zero_le _⟩ (fun H locs G => ?_)
      refine lv_if_ne (tgt := 31) hx hb dX8_drawn_25 (by decide) (fun c5 => ?_) (fun c5 => ?_)
      · have hf := ifN c5 hf
        refine lv_aload_n hx hb dX8_drawn_31 rfl (lv_at hl 0 rfl) ?_
        refine g_getr (k := 2) C G cl8 (C8 ok8_0) (j := 7) (by decide) (F8_7 ok8_0) k4_31 dX8_drawn_32 ?_
        refine lv_aload_n hx hb dX8_drawn_35 rfl (lv_at hl 0 rfl) ?_
        refine g_getr (k := 15) C G cl8 (C8 ok8_0) (j := 29) (by decide) (F8_29 ok8_0) k4_53 dX8_drawn_36 ?_
        obtain ⟨st6, hc39_6, hf⟩ := bI1_some hf
        refine g_callSv C G (As := [.ref (h 2), .ref (h 15)]) (rest := []) (c_X8_copy l D cy h 2 8 (A8_7 ok8_0) 15 8 (A8_29 ok8_0) st st6 hc39_6) v_X8_252 (Nat.le_of_ble_eq_true rfl) (Nat.le_of_ble_eq_true rfl) rfl hl.1 rfl (Nat.le_of_ble_eq_true rfl) dX8_drawn_39 ⟨Nat.zero_le _, Nat.zero_le _⟩ (fun H locs G => ?_)
        refine lv_aload_n hx hb dX8_drawn_42 rfl (lv_at hl 0 rfl) ?_
        refine g_getr (k := 3) C G cl8 (C8 ok8_0) (j := 8) (by decide) (F8_8 ok8_0) k4_32 dX8_drawn_43 ?_
        refine lv_aload_n hx hb dX8_drawn_46 rfl (lv_at hl 0 rfl) ?_
        refine g_getr (k := 16) C G cl8 (C8 ok8_0) (j := 30) (by decide) (F8_30 ok8_0) k4_54 dX8_drawn_47 ?_
        obtain ⟨st7, hc50_7, hf⟩ := bI1_some hf
        refine g_callSv C G (As := [.ref (h 3), .ref (h 16)]) (rest := []) (c_X8_copy l D cy h 3 32 (A8_8 ok8_0) 16 32 (A8_30 ok8_0) st6 st7 hc50_7) v_X8_252 (Nat.le_of_ble_eq_true rfl) (Nat.le_of_ble_eq_true rfl) rfl hl.1 rfl (Nat.le_of_ble_eq_true rfl) dX8_drawn_50 ⟨Nat.zero_le _, Nat.zero_le _⟩ (fun H locs G => ?_)
        refine lv_aload_n hx hb dX8_drawn_53 rfl (lv_at hl 0 rfl) ?_
        refine g_getr (k := 4) C G cl8 (C8 ok8_0) (j := 9) (by decide) (F8_9 ok8_0) k4_33 dX8_drawn_54 ?_
        refine lv_aload_n hx hb dX8_drawn_57 rfl (lv_at hl 0 rfl) ?_
        refine g_getr (k := 13) C G cl8 (C8 ok8_0) (j := 25) (by decide) (F8_25 ok8_0) k4_49 dX8_drawn_58 ?_
        obtain ⟨st8, hc61_8, hf⟩ := bI1_some hf
        refine g_callSv C G (As := [.ref (h 4), .ref (h 13)]) (rest := []) (c_X8_copy l D cy h 4 4 (A8_9 ok8_0) 13 4 (A8_25 ok8_0) st7 st8 hc61_8) v_X8_252 (Nat.le_of_ble_eq_true rfl) (Nat.le_of_ble_eq_true rfl) rfl hl.1 rfl (Nat.le_of_ble_eq_true rfl) dX8_drawn_61 ⟨Nat.zero_le _, Nat.zero_le _⟩ (fun H locs G => ?_)
        refine lv_aload_n hx hb dX8_drawn_64 rfl (lv_at hl 0 rfl) ?_
        refine g_geti C G cl8 (C8 ok8_0) (j := 5) (by decide) (F8_5 ok8_0) k4_29 dX8_drawn_65 ?_
        refine lv_topi (fun x9 ex9 => ?_)
        have hf := lt_some ex9 hf
        refine lv_istore (lv' := [(4, .int x9), (0, .ref (h 0)), (1, .int a1), (2, .int a2), (3, .int a3)]) hx hb dX8_drawn_68 hl (by decide) rfl (fun ls hl => ?_)
        refine lv_aload_n hx hb dX8_drawn_70 rfl (lv_at hl 1 rfl) ?_
        refine g_geti C G cl8 (C8 ok8_0) (j := 10) (by decide) (F8_10 ok8_0) k4_34 dX8_drawn_71 ?_
        refine lv_topi (fun x10 ex10 => ?_)
        have hf := lt_some ex10 hf
        refine lv_istore (lv' := [(5, .int x10), (4, .int x9), (0, .ref (h 0)), (1, .int a1), (2, .int a2), (3, .int a3)]) hx hb dX8_drawn_74 hl (by decide) rfl (fun ls hl => ?_)
        refine lv_aload_n hx hb dX8_drawn_76 rfl (lv_at hl 2 rfl) ?_
        refine lv_iconst (v := 5) hx hb dX8_drawn_77 (by decide) ?_
        refine g_puti C G cl8 (C8 ok8_0) (j := 5) (by decide) (F8_5 ok8_0) k4_29 rfl rfl rfl dX8_drawn_78 (fun st11 est11 H locs G => ?_)
        have hf := lt_some est11 hf
        refine lv_aload_n hx hb dX8_drawn_81 rfl (lv_at hl 2 rfl) ?_
        refine lv_iconst (v := 2) hx hb dX8_drawn_82 (by decide) ?_
        refine g_puti C G cl8 (C8 ok8_0) (j := 10) (by decide) (F8_10 ok8_0) k4_34 rfl rfl rfl dX8_drawn_83 (fun st12 est12 H locs G => ?_)
        have hf := lt_some est12 hf
        refine lv_aload_n hx hb dX8_drawn_86 rfl (lv_at hl 2 rfl) ?_
        refine g_getr (k := 4) C G cl8 (C8 ok8_0) (j := 9) (by decide) (F8_9 ok8_0) k4_33 dX8_drawn_87 ?_
        refine lv_iconst (v := 0) hx hb dX8_drawn_90 (by decide) ?_
        refine lv_iconst (v := 2) hx hb dX8_drawn_91 (by decide) ?_
        refine g_iast C G (A8_9 ok8_0) (j := 0) (by decide) (vin_lit (j := 0) (by decide) (by decide) (by decide)) dX8_drawn_92 (fun st13 est13 H locs G => ?_)
        have hf := lt_some est13 hf
        refine lv_aload_n hx hb dX8_drawn_93 rfl (lv_at hl 2 rfl) ?_
        refine g_getr (k := 4) C G cl8 (C8 ok8_0) (j := 9) (by decide) (F8_9 ok8_0) k4_33 dX8_drawn_94 ?_
        refine lv_iconst (v := 1) hx hb dX8_drawn_97 (by decide) ?_
        refine lv_iconst (v := 3) hx hb dX8_drawn_98 (by decide) ?_
        refine g_iast C G (A8_9 ok8_0) (j := 1) (by decide) (vin_lit (j := 1) (by decide) (by decide) (by decide)) dX8_drawn_99 (fun st14 est14 H locs G => ?_)
        have hf := lt_some est14 hf
        refine lv_aload_n hx hb dX8_drawn_100 rfl (lv_at hl 2 rfl) ?_
        refine lv_iload_n hx hb dX8_drawn_101 rfl (lv_at hl 4 rfl) ?_
        refine g_puti C G cl8 (C8 ok8_0) (j := 28) (by decide) (F8_28 ok8_0) k4_52 rfl rfl rfl dX8_drawn_102 (fun st15 est15 H locs G => ?_)
        have hf := lt_some est15 hf
        refine lv_iconst (v := 0) hx hb dX8_drawn_105 (by decide) ?_
        refine lv_istore (lv' := [(6, .int 0), (5, .int x10), (4, .int x9), (0, .ref (h 0)), (1, .int a1), (2, .int a2), (3, .int a3)]) hx hb dX8_drawn_106 hl (by decide) rfl (fun ls hl => ?_)
        refine lv_iconst (v := 0) hx hb dX8_drawn_108 (by decide) ?_
        refine lv_istore (lv' := [(7, .int 0), (6, .int 0), (5, .int x10), (4, .int x9), (0, .ref (h 0)), (1, .int a1), (2, .int a2), (3, .int a3)]) hx hb dX8_drawn_109 hl (by decide) rfl (fun ls hl => ?_)
        refine lv_iconst (v := 0) hx hb dX8_drawn_111 (by decide) ?_
        refine lv_istore (lv' := [(8, .int 0), (7, .int 0), (6, .int 0), (5, .int x10), (4, .int x9), (0, .ref (h 0)), (1, .int a1), (2, .int a2), (3, .int a3)]) hx hb dX8_drawn_112 hl (by decide) rfl (fun ls hl => ?_)
        obtain ⟨x44, x45, st46, hn, hf⟩ := bI3_some hf
        obtain ⟨n, hn⟩ := lpx_some hn
        have K217 : ∀ (H : Heap) (locs : List Loc) (ls : Array Slot), gG MSh D cy h A s st46 H locs → lv_has ls 11 [(0, .ref (h 0)), (3, .int a3), (4, .int x9), (5, .int x10), (6, .int x44), (7, .int x45)] → W p l e (gR 8) s m args below meth c H locs 0 0 (MQ below (gQi MSh D cy h A r stF) args s 0 0 A) (F0 m 217 ls []) := by
          intro H locs ls G hl
          refine lv_aload_n hx hb dX8_drawn_217 rfl (lv_at hl 0 rfl) ?_
          refine lv_iload hx hb dX8_drawn_218 (lv_at hl 2 rfl) ?_
          refine g_puti C G cl8 (C8 ok8_0) (j := 5) (by decide) (F8_5 ok8_0) k4_29 rfl rfl rfl dX8_drawn_220 (fun st47 est47 H locs G => ?_)
          have hf := lt_some est47 hf
          refine lv_aload_n hx hb dX8_drawn_223 rfl (lv_at hl 0 rfl) ?_
          refine lv_iload hx hb dX8_drawn_224 (lv_at hl 3 rfl) ?_
          refine g_puti C G cl8 (C8 ok8_0) (j := 10) (by decide) (F8_10 ok8_0) k4_34 rfl rfl rfl dX8_drawn_226 (fun st48 est48 H locs G => ?_)
          have hf := lt_some est48 hf
          refine lv_aload_n hx hb dX8_drawn_229 rfl (lv_at hl 0 rfl) ?_
          refine g_getr (k := 15) C G cl8 (C8 ok8_0) (j := 29) (by decide) (F8_29 ok8_0) k4_53 dX8_drawn_230 ?_
          refine lv_aload_n hx hb dX8_drawn_233 rfl (lv_at hl 0 rfl) ?_
          refine g_getr (k := 2) C G cl8 (C8 ok8_0) (j := 7) (by decide) (F8_7 ok8_0) k4_31 dX8_drawn_234 ?_
          obtain ⟨st49, hc237_49, hf⟩ := bI1_some hf
          refine g_callSv C G (As := [.ref (h 15), .ref (h 2)]) (rest := []) (c_X8_copy l D cy h 15 8 (A8_29 ok8_0) 2 8 (A8_7 ok8_0) st48 st49 hc237_49) v_X8_252 (Nat.le_of_ble_eq_true rfl) (Nat.le_of_ble_eq_true rfl) rfl hl.1 rfl (Nat.le_of_ble_eq_true rfl) dX8_drawn_237 ⟨Nat.zero_le _, Nat.zero_le _⟩ (fun H locs G => ?_)
          refine lv_aload_n hx hb dX8_drawn_240 rfl (lv_at hl 0 rfl) ?_
          refine g_getr (k := 16) C G cl8 (C8 ok8_0) (j := 30) (by decide) (F8_30 ok8_0) k4_54 dX8_drawn_241 ?_
          refine lv_aload_n hx hb dX8_drawn_244 rfl (lv_at hl 0 rfl) ?_
          refine g_getr (k := 3) C G cl8 (C8 ok8_0) (j := 8) (by decide) (F8_8 ok8_0) k4_32 dX8_drawn_245 ?_
          obtain ⟨st50, hc248_50, hf⟩ := bI1_some hf
          refine g_callSv C G (As := [.ref (h 16), .ref (h 3)]) (rest := []) (c_X8_copy l D cy h 16 32 (A8_30 ok8_0) 3 32 (A8_8 ok8_0) st49 st50 hc248_50) v_X8_252 (Nat.le_of_ble_eq_true rfl) (Nat.le_of_ble_eq_true rfl) rfl hl.1 rfl (Nat.le_of_ble_eq_true rfl) dX8_drawn_248 ⟨Nat.zero_le _, Nat.zero_le _⟩ (fun H locs G => ?_)
          refine lv_aload_n hx hb dX8_drawn_251 rfl (lv_at hl 0 rfl) ?_
          refine g_getr (k := 13) C G cl8 (C8 ok8_0) (j := 25) (by decide) (F8_25 ok8_0) k4_49 dX8_drawn_252 ?_
          refine lv_aload_n hx hb dX8_drawn_255 rfl (lv_at hl 0 rfl) ?_
          refine g_getr (k := 4) C G cl8 (C8 ok8_0) (j := 9) (by decide) (F8_9 ok8_0) k4_33 dX8_drawn_256 ?_
          obtain ⟨st51, hc259_51, hf⟩ := bI1_some hf
          refine g_callSv C G (As := [.ref (h 13), .ref (h 4)]) (rest := []) (c_X8_copy l D cy h 13 4 (A8_25 ok8_0) 4 4 (A8_9 ok8_0) st50 st51 hc259_51) v_X8_252 (Nat.le_of_ble_eq_true rfl) (Nat.le_of_ble_eq_true rfl) rfl hl.1 rfl (Nat.le_of_ble_eq_true rfl) dX8_drawn_259 ⟨Nat.zero_le _, Nat.zero_le _⟩ (fun H locs G => ?_)
          refine lv_iload_n hx hb dX8_drawn_262 rfl (lv_at hl 1 rfl) ?_
          refine lv_if_ne (tgt := 271) hx hb dX8_drawn_263 (by decide) (fun c52 => ?_) (fun c52 => ?_)
          · have hf := ifN c52 hf
            refine lv_iload_n hx hb dX8_drawn_271 rfl (lv_at hl 1 rfl) ?_
            refine lv_iconst (v := 1) hx hb dX8_drawn_272 (by decide) ?_
            refine lv_icmp_ne (tgt := 281) hx hb dX8_drawn_273 (by decide) (fun c53 => ?_) (fun c53 => ?_)
            · have hf := ifN c53 hf
              refine lv_aload_n hx hb dX8_drawn_281 rfl (lv_at hl 0 rfl) ?_
              refine g_geti C G cl8 (C8 ok8_0) (j := 28) (by decide) (F8_28 ok8_0) k4_52 dX8_drawn_282 ?_
              cases hf
              exact g_iret C G hr hlocks dX8_drawn_285
            · have hf := ifP c53 hf
              refine lv_iload hx hb dX8_drawn_276 (lv_at hl 5 rfl) ?_
              refine lv_goto (tgt := 285) hx hb dX8_drawn_278 (by decide) ?_
              cases hf
              exact g_iret C G hr hlocks dX8_drawn_285
          · have hf := ifP c52 hf
            refine lv_iload hx hb dX8_drawn_266 (lv_at hl 4 rfl) ?_
            refine lv_goto (tgt := 285) hx hb dX8_drawn_268 (by decide) ?_
            cases hf
            exact g_iret C G hr hlocks dX8_drawn_285
        have L114 : ∀ (n : Nat) (x16 : Int32) (x17 : Int32) (x18 : Int32) (st19 : GS) (H : Heap) (locs : List Loc) (ls : Array Slot), gG MSh D cy h A s st19 H locs → lv_has ls 11 [(0, .ref (h 0)), (1, .int a1), (3, .int a3), (4, .int x9), (5, .int x10), (6, .int x16), (7, .int x17), (8, .int x18)] → lp (uc4 (f_X8_drawn_L114 a1)) n (x16, x17, x18, st19) = some (x44, x45, st46) → W p l e (gR 8) s m args below meth c H locs 0 0 (MQ below (gQi MSh D cy h A r stF) args s 0 0 A) (F0 m 114 ls []) := by
          intro n
          induction n with
          | zero =>
            intro x16 x17 x18 st19 H locs ls G hl hn
            cases hn
          | succ n ih =>
            intro x16 x17 x18 st19 H locs ls G hl hn
            obtain ⟨q, hf, hq1, hq2⟩ := lp_q hn
            have hf : f_X8_drawn_L114 a1 x16 x17 x18 st19 = some q := hf
            unfold f_X8_drawn_L114 at hf
            refine lv_iload hx hb dX8_drawn_114 (lv_at hl 7 rfl) ?_
            refine lv_iload_n hx hb dX8_drawn_116 rfl (lv_at hl 1 rfl) ?_
            refine lv_icmp_ge (tgt := 217) hx hb dX8_drawn_117 (by decide) (fun c20 => ?_) (fun c20 => ?_)
            · have hf := ifP c20 hf
              cases hf
              have hz9 := hq2 _ rfl
              cases hz9
              exact K217 _ _ _ G (lv_sub hl [0, 2, 3, 4, 5, 6] rfl)
            · have hf := ifN c20 hf
              refine lv_iconst (v := 1) hx hb dX8_drawn_120 (by decide) ?_
              refine lv_istore (lv' := [(9, .int 1), (0, .ref (h 0)), (1, .int a1), (3, .int a3), (4, .int x9), (5, .int x10), (6, .int x16), (7, .int x17), (8, .int x18)]) hx hb dX8_drawn_121 hl (by decide) rfl (fun ls hl => ?_)
              refine lv_iconst (v := 0) hx hb dX8_drawn_123 (by decide) ?_
              refine lv_istore (lv' := [(10, .int 0), (9, .int 1), (0, .ref (h 0)), (1, .int a1), (3, .int a3), (4, .int x9), (5, .int x10), (6, .int x16), (7, .int x17), (8, .int x18)]) hx hb dX8_drawn_124 hl (by decide) rfl (fun ls hl => ?_)
              obtain ⟨st26, hn, hf⟩ := bI1_some hf
              obtain ⟨n, hn⟩ := lpx_some hn
              have K144 : ∀ (H : Heap) (locs : List Loc) (ls : Array Slot), gG MSh D cy h A s st26 H locs → lv_has ls 11 [(0, .ref (h 0)), (1, .int a1), (3, .int a3), (4, .int x9), (5, .int x10), (6, .int x16), (7, .int x17), (8, .int x18), (9, .int 1)] → W p l e (gR 8) s m args below meth c H locs 0 0 (MQ below (gQi MSh D cy h A r stF) args s 0 0 A) (F0 m 144 ls []) := by
                intro H locs ls G hl
                refine lv_aload_n hx hb dX8_drawn_144 rfl (lv_at hl 0 rfl) ?_
                obtain ⟨st27, hc145_27, hf⟩ := bI1_some hf
                refine g_callVv C G (As := []) (rest := []) (c_X8_layAll l D cy h st26 st27 hc145_27) cl8 rfl (C8 ok8_0) v_X8_201 (Nat.le_of_ble_eq_true rfl) (Nat.le_of_ble_eq_true rfl) rfl hl.1 rfl (Nat.le_of_ble_eq_true rfl) dX8_drawn_145 ⟨Nat.zero_le _, Nat.zero_le _⟩ (fun H locs G => ?_)
                refine lv_iload hx hb dX8_drawn_148 (lv_at hl 5 rfl) ?_
                refine lv_aload_n hx hb dX8_drawn_150 rfl (lv_at hl 0 rfl) ?_
                refine g_geti C G cl8 (C8 ok8_0) (j := 18) (by decide) (F8_18 ok8_0) k4_42 dX8_drawn_151 ?_
                refine lv_iadd hx hb dX8_drawn_154 ?_
                refine lv_topi (fun x28 ex28 => ?_)
                have hf := lt_some ex28 hf
                refine lv_istore (lv' := [(6, .int x28), (0, .ref (h 0)), (1, .int a1), (3, .int a3), (4, .int x9), (5, .int x10), (7, .int x17), (8, .int x18), (9, .int 1)]) hx hb dX8_drawn_155 hl (by decide) rfl (fun ls hl => ?_)
                refine lv_iconst (v := 0) hx hb dX8_drawn_157 (by decide) ?_
                refine lv_istore (lv' := [(10, .int 0), (6, .int x28), (0, .ref (h 0)), (1, .int a1), (3, .int a3), (4, .int x9), (5, .int x10), (7, .int x17), (8, .int x18), (9, .int 1)]) hx hb dX8_drawn_158 hl (by decide) rfl (fun ls hl => ?_)
                obtain ⟨x38, hn, hf⟩ := bI1_some hf
                obtain ⟨n, hn⟩ := lpx_some hn
                have K196 : ∀ (H : Heap) (locs : List Loc) (ls : Array Slot), gG MSh D cy h A s st27 H locs → lv_has ls 11 [(0, .ref (h 0)), (1, .int a1), (3, .int a3), (4, .int x9), (5, .int x10), (6, .int x28), (7, .int x17), (8, .int x18), (9, .int x38)] → W p l e (gR 8) s m args below meth c H locs 0 0 (MQ below (gQi MSh D cy h A r stF) args s 0 0 A) (F0 m 196 ls []) := by
                  intro H locs ls G hl
                  refine lv_iload hx hb dX8_drawn_196 (lv_at hl 6 rfl) ?_
                  refine lv_iload hx hb dX8_drawn_198 (lv_at hl 8 rfl) ?_
                  refine lv_if_eq (tgt := 207) hx hb dX8_drawn_200 (by decide) (fun c39 => ?_) (fun c39 => ?_)
                  · have hf := ifP c39 hf
                    refine lv_iconst (v := 0) hx hb dX8_drawn_207 (by decide) ?_
                    refine lv_iadd hx hb dX8_drawn_208 ?_
                    refine lv_topi (fun x40 ex40 => ?_)
                    have hf := lt_some ex40 hf
                    refine lv_istore (lv' := [(7, .int x40), (0, .ref (h 0)), (1, .int a1), (3, .int a3), (4, .int x9), (5, .int x10), (6, .int x28), (8, .int x18), (9, .int x38)]) hx hb dX8_drawn_209 hl (by decide) rfl (fun ls hl => ?_)
                    obtain ⟨x41, ex41⟩ : ∃ z : Int32, z = (x18 + 1) := ⟨_, rfl⟩
                    have hf := lt_some ex41 hf
                    refine lv_iinc (v := x41) (lv' := [(8, .int x41), (7, .int x40), (0, .ref (h 0)), (1, .int a1), (3, .int a3), (4, .int x9), (5, .int x10), (6, .int x28), (9, .int x38)]) hx hb dX8_drawn_211 hl (k := 7) rfl (by rw [ex41]; rfl) (by decide) rfl (fun ls hl => ?_)
                    refine lv_goto (tgt := 114) hx hb dX8_drawn_214 (by decide) ?_
                    cases hf
                    exact ih _ _ _ _ _ _ _ G (lv_sub hl [2, 3, 4, 5, 6, 7, 1, 0] rfl) (hq1 _ rfl)
                  · have hf := ifN c39 hf
                    refine lv_iconst (v := 1) hx hb dX8_drawn_203 (by decide) ?_
                    refine lv_goto (tgt := 208) hx hb dX8_drawn_204 (by decide) ?_
                    refine lv_iadd hx hb dX8_drawn_208 ?_
                    refine lv_topi (fun x42 ex42 => ?_)
                    have hf := lt_some ex42 hf
                    refine lv_istore (lv' := [(7, .int x42), (0, .ref (h 0)), (1, .int a1), (3, .int a3), (4, .int x9), (5, .int x10), (6, .int x28), (8, .int x18), (9, .int x38)]) hx hb dX8_drawn_209 hl (by decide) rfl (fun ls hl => ?_)
                    obtain ⟨x43, ex43⟩ : ∃ z : Int32, z = (x18 + 1) := ⟨_, rfl⟩
                    have hf := lt_some ex43 hf
                    refine lv_iinc (v := x43) (lv' := [(8, .int x43), (7, .int x42), (0, .ref (h 0)), (1, .int a1), (3, .int a3), (4, .int x9), (5, .int x10), (6, .int x28), (9, .int x38)]) hx hb dX8_drawn_211 hl (k := 7) rfl (by rw [ex43]; rfl) (by decide) rfl (fun ls hl => ?_)
                    refine lv_goto (tgt := 114) hx hb dX8_drawn_214 (by decide) ?_
                    cases hf
                    exact ih _ _ _ _ _ _ _ G (lv_sub hl [2, 3, 4, 5, 6, 7, 1, 0] rfl) (hq1 _ rfl)
                have L160 : ∀ (n : Nat) (x29 : Int32) (x30 : Int32) (H : Heap) (locs : List Loc) (ls : Array Slot), gG MSh D cy h A s st27 H locs → lv_has ls 11 [(0, .ref (h 0)), (1, .int a1), (3, .int a3), (4, .int x9), (5, .int x10), (6, .int x28), (7, .int x17), (8, .int x18), (9, .int x29), (10, .int x30)] → lp (uc2 (f_X8_drawn_L160 st27)) n (x29, x30) = some (x38) → W p l e (gR 8) s m args below meth c H locs 0 0 (MQ below (gQi MSh D cy h A r stF) args s 0 0 A) (F0 m 160 ls []) := by
                  intro n
                  induction n with
                  | zero =>
                    intro x29 x30 H locs ls G hl hn
                    cases hn
                  | succ n ih =>
                    intro x29 x30 H locs ls G hl hn
                    obtain ⟨q, hf, hq1, hq2⟩ := lp_q hn
                    have hf : f_X8_drawn_L160 st27 x29 x30 = some q := hf
                    unfold f_X8_drawn_L160 at hf
                    refine lv_iload hx hb dX8_drawn_160 (lv_at hl 9 rfl) ?_
                    refine lv_iconst (v := 5) hx hb dX8_drawn_162 (by decide) ?_
                    refine lv_icmp_ge (tgt := 196) hx hb dX8_drawn_163 (by decide) (fun c31 => ?_) (fun c31 => ?_)
                    · have hf := ifP c31 hf
                      cases hf
                      have hz9 := hq2 _ rfl
                      cases hz9
                      exact K196 _ _ _ G (lv_sub hl [0, 1, 2, 3, 4, 5, 6, 7, 8] rfl)
                    · have hf := ifN c31 hf
                      refine lv_iload hx hb dX8_drawn_166 (lv_at hl 8 rfl) ?_
                      refine lv_if_eq (tgt := 187) hx hb dX8_drawn_168 (by decide) (fun c32 => ?_) (fun c32 => ?_)
                      · have hf := ifP c32 hf
                        refine lv_iconst (v := 0) hx hb dX8_drawn_187 (by decide) ?_
                        refine lv_istore (lv' := [(9, .int 0), (0, .ref (h 0)), (1, .int a1), (3, .int a3), (4, .int x9), (5, .int x10), (6, .int x28), (7, .int x17), (8, .int x18), (10, .int x30)]) hx hb dX8_drawn_188 hl (by decide) rfl (fun ls hl => ?_)
                        obtain ⟨x33, ex33⟩ : ∃ z : Int32, z = (x30 + 1) := ⟨_, rfl⟩
                        have hf := lt_some ex33 hf
                        refine lv_iinc (v := x33) (lv' := [(10, .int x33), (9, .int 0), (0, .ref (h 0)), (1, .int a1), (3, .int a3), (4, .int x9), (5, .int x10), (6, .int x28), (7, .int x17), (8, .int x18)]) hx hb dX8_drawn_190 hl (k := 9) rfl (by rw [ex33]; rfl) (by decide) rfl (fun ls hl => ?_)
                        refine lv_goto (tgt := 160) hx hb dX8_drawn_193 (by decide) ?_
                        cases hf
                        exact ih _ _ _ _ _ G (lv_sub hl [2, 3, 4, 5, 6, 7, 8, 9, 1, 0] rfl) (hq1 _ rfl)
                      · have hf := ifN c32 hf
                        refine lv_aload_n hx hb dX8_drawn_171 rfl (lv_at hl 0 rfl) ?_
                        refine g_getr (k := 6) C G cl8 (C8 ok8_0) (j := 15) (by decide) (F8_15 ok8_0) k4_39 dX8_drawn_172 ?_
                        refine lv_iload hx hb dX8_drawn_175 (lv_at hl 9 rfl) ?_
                        obtain ⟨hi177_33, hf⟩ := gd_some hf
                        refine g_iald C G (A8_15 ok8_0) (j := x30.toNatClampNeg) rfl hi177_33 dX8_drawn_177 ?_
                        refine lv_iload hx hb dX8_drawn_178 (lv_at hl 9 rfl) ?_
                        refine lv_icmp_ne (tgt := 187) hx hb dX8_drawn_180 (by decide) (fun c35 => ?_) (fun c35 => ?_)
                        · have hf := ifN c35 hf
                          refine lv_iconst (v := 0) hx hb dX8_drawn_187 (by decide) ?_
                          refine lv_istore (lv' := [(9, .int 0), (0, .ref (h 0)), (1, .int a1), (3, .int a3), (4, .int x9), (5, .int x10), (6, .int x28), (7, .int x17), (8, .int x18), (10, .int x30)]) hx hb dX8_drawn_188 hl (by decide) rfl (fun ls hl => ?_)
                          obtain ⟨x36, ex36⟩ : ∃ z : Int32, z = (x30 + 1) := ⟨_, rfl⟩
                          have hf := lt_some ex36 hf
                          refine lv_iinc (v := x36) (lv' := [(10, .int x36), (9, .int 0), (0, .ref (h 0)), (1, .int a1), (3, .int a3), (4, .int x9), (5, .int x10), (6, .int x28), (7, .int x17), (8, .int x18)]) hx hb dX8_drawn_190 hl (k := 9) rfl (by rw [ex36]; rfl) (by decide) rfl (fun ls hl => ?_)
                          refine lv_goto (tgt := 160) hx hb dX8_drawn_193 (by decide) ?_
                          cases hf
                          exact ih _ _ _ _ _ G (lv_sub hl [2, 3, 4, 5, 6, 7, 8, 9, 1, 0] rfl) (hq1 _ rfl)
                        · have hf := ifP c35 hf
                          refine lv_iconst (v := 1) hx hb dX8_drawn_183 (by decide) ?_
                          refine lv_goto (tgt := 188) hx hb dX8_drawn_184 (by decide) ?_
                          refine lv_istore (lv' := [(9, .int 1), (0, .ref (h 0)), (1, .int a1), (3, .int a3), (4, .int x9), (5, .int x10), (6, .int x28), (7, .int x17), (8, .int x18), (10, .int x30)]) hx hb dX8_drawn_188 hl (by decide) rfl (fun ls hl => ?_)
                          obtain ⟨x37, ex37⟩ : ∃ z : Int32, z = (x30 + 1) := ⟨_, rfl⟩
                          have hf := lt_some ex37 hf
                          refine lv_iinc (v := x37) (lv' := [(10, .int x37), (9, .int 1), (0, .ref (h 0)), (1, .int a1), (3, .int a3), (4, .int x9), (5, .int x10), (6, .int x28), (7, .int x17), (8, .int x18)]) hx hb dX8_drawn_190 hl (k := 9) rfl (by rw [ex37]; rfl) (by decide) rfl (fun ls hl => ?_)
                          refine lv_goto (tgt := 160) hx hb dX8_drawn_193 (by decide) ?_
                          cases hf
                          exact ih _ _ _ _ _ G (lv_sub hl [2, 3, 4, 5, 6, 7, 8, 9, 1, 0] rfl) (hq1 _ rfl)
                exact L160 n _ _ _ _ _ G (lv_sub hl [2, 3, 4, 5, 6, 1, 7, 8, 9, 0] rfl) hn
              have L126 : ∀ (n : Nat) (x21 : Int32) (st22 : GS) (H : Heap) (locs : List Loc) (ls : Array Slot), gG MSh D cy h A s st22 H locs → lv_has ls 11 [(0, .ref (h 0)), (1, .int a1), (3, .int a3), (4, .int x9), (5, .int x10), (6, .int x16), (7, .int x17), (8, .int x18), (9, .int 1), (10, .int x21)] → lp (uc2 f_X8_drawn_L126) n (x21, st22) = some (st26) → W p l e (gR 8) s m args below meth c H locs 0 0 (MQ below (gQi MSh D cy h A r stF) args s 0 0 A) (F0 m 126 ls []) := by
                intro n
                induction n with
                | zero =>
                  intro x21 st22 H locs ls G hl hn
                  cases hn
                | succ n ih =>
                  intro x21 st22 H locs ls G hl hn
                  obtain ⟨q, hf, hq1, hq2⟩ := lp_q hn
                  have hf : f_X8_drawn_L126 x21 st22 = some q := hf
                  unfold f_X8_drawn_L126 at hf
                  refine lv_iload hx hb dX8_drawn_126 (lv_at hl 9 rfl) ?_
                  refine lv_iconst (v := 5) hx hb dX8_drawn_128 (by decide) ?_
                  refine lv_icmp_ge (tgt := 144) hx hb dX8_drawn_129 (by decide) (fun c23 => ?_) (fun c23 => ?_)
                  · have hf := ifP c23 hf
                    cases hf
                    have hz9 := hq2 _ rfl
                    cases hz9
                    exact K144 _ _ _ G (lv_sub hl [0, 1, 2, 3, 4, 5, 6, 7, 8] rfl)
                  · have hf := ifN c23 hf
                    refine lv_aload_n hx hb dX8_drawn_132 rfl (lv_at hl 0 rfl) ?_
                    refine lv_iload hx hb dX8_drawn_133 (lv_at hl 9 rfl) ?_
                    obtain ⟨st24, hc135_24, hf⟩ := bI1_some hf
                    refine g_callVv C G (As := [.int x21]) (rest := []) (c_X8_drawBox l D cy h x21 st22 st24 hc135_24) cl8 rfl (C8 ok8_0) v_X8_290 (Nat.le_of_ble_eq_true rfl) (Nat.le_of_ble_eq_true rfl) rfl hl.1 rfl (Nat.le_of_ble_eq_true rfl) dX8_drawn_135 ⟨Nat.zero_le _, Nat.zero_le _⟩ (fun H locs G => ?_)
                    obtain ⟨x25, ex25⟩ : ∃ z : Int32, z = (x21 + 1) := ⟨_, rfl⟩
                    have hf := lt_some ex25 hf
                    refine lv_iinc (v := x25) (lv' := [(10, .int x25), (0, .ref (h 0)), (1, .int a1), (3, .int a3), (4, .int x9), (5, .int x10), (6, .int x16), (7, .int x17), (8, .int x18), (9, .int 1)]) hx hb dX8_drawn_138 hl (k := 9) rfl (by rw [ex25]; rfl) (by decide) rfl (fun ls hl => ?_)
                    refine lv_goto (tgt := 126) hx hb dX8_drawn_141 (by decide) ?_
                    cases hf
                    exact ih _ _ _ _ _ G (lv_sub hl [1, 2, 3, 4, 5, 6, 7, 8, 9, 0] rfl) (hq1 _ rfl)
              exact L126 n _ _ _ _ _ G (lv_sub hl [2, 3, 4, 5, 6, 7, 8, 9, 1, 0] rfl) hn
        exact L114 n _ _ _ _ _ _ _ G (lv_sub hl [5, 6, 8, 4, 3, 2, 1, 0] rfl) hn
      · have hf := ifP c5 hf
        refine lv_bipush (v := (-102)) hx hb dX8_drawn_28 (by decide) ?_
        cases hf
        exact g_iret C G hr hlocks dX8_drawn_30

noncomputable def f_X8_image (st : GS) : Option (Int32 × GS) := 
bI1 (f_X8_lacks st) (fun r1 => 
(if r1 = 0 then bI1 (f_X8_copy 2 8 17 8 st) (fun st3 => 
bI1 (f_X8_copy 3 32 18 32 st3) (fun st4 => 
bI1 (f_X8_copy 4 4 19 4 st4) (fun st5 => 
bI1 (f_X8_copy 14 18 20 18 st5) (fun st6 => 
lt_ (sv st6 0 32 (gt st6 0 5)) (fun st7 => 
lt_ (sv st7 0 33 (gt st7 0 10)) (fun st8 => 
lt_ (sv st8 0 34 (gt st8 0 26)) (fun st9 => 
lt_ (sv st9 0 31 (gt st9 0 6)) (fun st10 => 
some (((gt st10 0 5), st10)))))))))) else 
some (((-103), st))))
set_option maxRecDepth 100000 in
set_option maxHeartbeats 4000000 in
theorem c_X8_image (l : Launch) (D : va_G) (cy : ClassId) (h : Nat → Nat)  (st : GS) (r : Int32) (stF : GS) (hf : f_X8_image st = some (r, stF)) : gMi l MSh D cy h yX8_image cX8_image 1 (some .int) 2 st [.ref (h 0)] r stF := by
  unfold f_X8_image at hf
  refine gMi_of (by decide) (Nat.le_of_ble_eq_true rfl) ?_
  intro p e s m args below meth c A ls C hr hlocks G hl
  have C : gC p s m args c cX8_image 1 "LaneOrderModel" MSh D cy h A := C
  have hl : lv_has ls 1 [(0, .ref (h 0))] := hl
  have hx := C.1
  have hb := C.2.1
  have hown := C.2.2.2.1
  have htb := C.2.2.2.2.1
  refine lv_aload_n hx hb dX8_image_0 rfl (lv_at hl 0 rfl) ?_
  obtain ⟨r1, hc1_1, hf⟩ := bI1_some hf
  refine g_callVi C G (As := []) (rest := []) (c_X8_lacks l D cy h st r1 hc1_1) cl8 rfl (C8 ok8_0) v_X8_232 (Nat.le_of_ble_eq_true rfl) (Nat.le_of_ble_eq_true rfl) rfl hl.1 rfl (Nat.le_of_ble_eq_true rfl) dX8_image_1 ⟨Nat.zero_le _, Nat.zero_le _⟩ (fun H locs G => ?_)
  refine lv_if_eq (tgt := 10) hx hb dX8_image_4 (by decide) (fun c2 => ?_) (fun c2 => ?_)
  · have hf := ifP c2 hf
    refine lv_aload_n hx hb dX8_image_10 rfl (lv_at hl 0 rfl) ?_
    refine g_getr (k := 2) C G cl8 (C8 ok8_0) (j := 7) (by decide) (F8_7 ok8_0) k4_31 dX8_image_11 ?_
    refine lv_aload_n hx hb dX8_image_14 rfl (lv_at hl 0 rfl) ?_
    refine g_getr (k := 17) C G cl8 (C8 ok8_0) (j := 35) (by decide) (F8_35 ok8_0) k4_59 dX8_image_15 ?_
    obtain ⟨st3, hc18_3, hf⟩ := bI1_some hf
    refine g_callSv C G (As := [.ref (h 2), .ref (h 17)]) (rest := []) (c_X8_copy l D cy h 2 8 (A8_7 ok8_0) 17 8 (A8_35 ok8_0) st st3 hc18_3) v_X8_252 (Nat.le_of_ble_eq_true rfl) (Nat.le_of_ble_eq_true rfl) rfl hl.1 rfl (Nat.le_of_ble_eq_true rfl) dX8_image_18 ⟨Nat.zero_le _, Nat.zero_le _⟩ (fun H locs G => ?_)
    refine lv_aload_n hx hb dX8_image_21 rfl (lv_at hl 0 rfl) ?_
    refine g_getr (k := 3) C G cl8 (C8 ok8_0) (j := 8) (by decide) (F8_8 ok8_0) k4_32 dX8_image_22 ?_
    refine lv_aload_n hx hb dX8_image_25 rfl (lv_at hl 0 rfl) ?_
    refine g_getr (k := 18) C G cl8 (C8 ok8_0) (j := 36) (by decide) (F8_36 ok8_0) k4_60 dX8_image_26 ?_
    obtain ⟨st4, hc29_4, hf⟩ := bI1_some hf
    refine g_callSv C G (As := [.ref (h 3), .ref (h 18)]) (rest := []) (c_X8_copy l D cy h 3 32 (A8_8 ok8_0) 18 32 (A8_36 ok8_0) st3 st4 hc29_4) v_X8_252 (Nat.le_of_ble_eq_true rfl) (Nat.le_of_ble_eq_true rfl) rfl hl.1 rfl (Nat.le_of_ble_eq_true rfl) dX8_image_29 ⟨Nat.zero_le _, Nat.zero_le _⟩ (fun H locs G => ?_)
    refine lv_aload_n hx hb dX8_image_32 rfl (lv_at hl 0 rfl) ?_
    refine g_getr (k := 4) C G cl8 (C8 ok8_0) (j := 9) (by decide) (F8_9 ok8_0) k4_33 dX8_image_33 ?_
    refine lv_aload_n hx hb dX8_image_36 rfl (lv_at hl 0 rfl) ?_
    refine g_getr (k := 19) C G cl8 (C8 ok8_0) (j := 37) (by decide) (F8_37 ok8_0) k4_61 dX8_image_37 ?_
    obtain ⟨st5, hc40_5, hf⟩ := bI1_some hf
    refine g_callSv C G (As := [.ref (h 4), .ref (h 19)]) (rest := []) (c_X8_copy l D cy h 4 4 (A8_9 ok8_0) 19 4 (A8_37 ok8_0) st4 st5 hc40_5) v_X8_252 (Nat.le_of_ble_eq_true rfl) (Nat.le_of_ble_eq_true rfl) rfl hl.1 rfl (Nat.le_of_ble_eq_true rfl) dX8_image_40 ⟨Nat.zero_le _, Nat.zero_le _⟩ (fun H locs G => ?_)
    refine lv_aload_n hx hb dX8_image_43 rfl (lv_at hl 0 rfl) ?_
    refine g_getr (k := 14) C G cl8 (C8 ok8_0) (j := 27) (by decide) (F8_27 ok8_0) k4_51 dX8_image_44 ?_
    refine lv_aload_n hx hb dX8_image_47 rfl (lv_at hl 0 rfl) ?_
    refine g_getr (k := 20) C G cl8 (C8 ok8_0) (j := 38) (by decide) (F8_38 ok8_0) k4_62 dX8_image_48 ?_
    obtain ⟨st6, hc51_6, hf⟩ := bI1_some hf
    refine g_callSv C G (As := [.ref (h 14), .ref (h 20)]) (rest := []) (c_X8_copy l D cy h 14 18 (A8_27 ok8_0) 20 18 (A8_38 ok8_0) st5 st6 hc51_6) v_X8_252 (Nat.le_of_ble_eq_true rfl) (Nat.le_of_ble_eq_true rfl) rfl hl.1 rfl (Nat.le_of_ble_eq_true rfl) dX8_image_51 ⟨Nat.zero_le _, Nat.zero_le _⟩ (fun H locs G => ?_)
    refine lv_aload_n hx hb dX8_image_54 rfl (lv_at hl 0 rfl) ?_
    refine lv_aload_n hx hb dX8_image_55 rfl (lv_at hl 0 rfl) ?_
    refine g_geti C G cl8 (C8 ok8_0) (j := 5) (by decide) (F8_5 ok8_0) k4_29 dX8_image_56 ?_
    refine g_puti C G cl8 (C8 ok8_0) (j := 32) (by decide) (F8_32 ok8_0) k4_56 rfl rfl rfl dX8_image_59 (fun st7 est7 H locs G => ?_)
    have hf := lt_some est7 hf
    refine lv_aload_n hx hb dX8_image_62 rfl (lv_at hl 0 rfl) ?_
    refine lv_aload_n hx hb dX8_image_63 rfl (lv_at hl 0 rfl) ?_
    refine g_geti C G cl8 (C8 ok8_0) (j := 10) (by decide) (F8_10 ok8_0) k4_34 dX8_image_64 ?_
    refine g_puti C G cl8 (C8 ok8_0) (j := 33) (by decide) (F8_33 ok8_0) k4_57 rfl rfl rfl dX8_image_67 (fun st8 est8 H locs G => ?_)
    have hf := lt_some est8 hf
    refine lv_aload_n hx hb dX8_image_70 rfl (lv_at hl 0 rfl) ?_
    refine lv_aload_n hx hb dX8_image_71 rfl (lv_at hl 0 rfl) ?_
    refine g_geti C G cl8 (C8 ok8_0) (j := 26) (by decide) (F8_26 ok8_0) k4_50 dX8_image_72 ?_
    refine g_puti C G cl8 (C8 ok8_0) (j := 34) (by decide) (F8_34 ok8_0) k4_58 rfl rfl rfl dX8_image_75 (fun st9 est9 H locs G => ?_)
    have hf := lt_some est9 hf
    refine lv_aload_n hx hb dX8_image_78 rfl (lv_at hl 0 rfl) ?_
    refine lv_aload_n hx hb dX8_image_79 rfl (lv_at hl 0 rfl) ?_
    refine g_geti C G cl8 (C8 ok8_0) (j := 6) (by decide) (F8_6 ok8_0) k4_30 dX8_image_80 ?_
    refine g_puti C G cl8 (C8 ok8_0) (j := 31) (by decide) (F8_31 ok8_0) k4_55 rfl rfl rfl dX8_image_83 (fun st10 est10 H locs G => ?_)
    have hf := lt_some est10 hf
    refine lv_aload_n hx hb dX8_image_86 rfl (lv_at hl 0 rfl) ?_
    refine g_geti C G cl8 (C8 ok8_0) (j := 5) (by decide) (F8_5 ok8_0) k4_29 dX8_image_87 ?_
    cases hf
    exact g_iret C G hr hlocks dX8_image_90
  · have hf := ifN c2 hf
    refine lv_bipush (v := (-103)) hx hb dX8_image_7 (by decide) ?_
    cases hf
    exact g_iret C G hr hlocks dX8_image_9

noncomputable def f_X8_restore (st : GS) : Option (Int32 × GS) := 
(if (gt st 0 31) = (gt st 0 6) then bI1 (f_X8_copy 17 8 2 8 st) (fun st2 => 
bI1 (f_X8_copy 18 32 3 32 st2) (fun st3 => 
bI1 (f_X8_copy 19 4 4 4 st3) (fun st4 => 
bI1 (f_X8_copy 20 18 14 18 st4) (fun st5 => 
lt_ (sv st5 0 5 (gt st5 0 32)) (fun st6 => 
lt_ (sv st6 0 10 (gt st6 0 33)) (fun st7 => 
lt_ (sv st7 0 26 (gt st7 0 34)) (fun st8 => 
some (((gt st8 0 5), st8))))))))) else 
some (((-103), st)))
set_option maxRecDepth 100000 in
set_option maxHeartbeats 4000000 in
theorem c_X8_restore (l : Launch) (D : va_G) (cy : ClassId) (h : Nat → Nat)  (st : GS) (r : Int32) (stF : GS) (hf : f_X8_restore st = some (r, stF)) : gMi l MSh D cy h yX8_restore cX8_restore 1 (some .int) 2 st [.ref (h 0)] r stF := by
  unfold f_X8_restore at hf
  refine gMi_of (by decide) (Nat.le_of_ble_eq_true rfl) ?_
  intro p e s m args below meth c A ls C hr hlocks G hl
  have C : gC p s m args c cX8_restore 1 "LaneOrderModel" MSh D cy h A := C
  have hl : lv_has ls 1 [(0, .ref (h 0))] := hl
  have hx := C.1
  have hb := C.2.1
  have hown := C.2.2.2.1
  have htb := C.2.2.2.2.1
  refine lv_aload_n hx hb dX8_restore_0 rfl (lv_at hl 0 rfl) ?_
  refine g_geti C G cl8 (C8 ok8_0) (j := 31) (by decide) (F8_31 ok8_0) k4_55 dX8_restore_1 ?_
  refine lv_aload_n hx hb dX8_restore_4 rfl (lv_at hl 0 rfl) ?_
  refine g_geti C G cl8 (C8 ok8_0) (j := 6) (by decide) (F8_6 ok8_0) k4_30 dX8_restore_5 ?_
  refine lv_icmp_eq (tgt := 14) hx hb dX8_restore_8 (by decide) (fun c1 => ?_) (fun c1 => ?_)
  · have hf := ifP c1 hf
    refine lv_aload_n hx hb dX8_restore_14 rfl (lv_at hl 0 rfl) ?_
    refine g_getr (k := 17) C G cl8 (C8 ok8_0) (j := 35) (by decide) (F8_35 ok8_0) k4_59 dX8_restore_15 ?_
    refine lv_aload_n hx hb dX8_restore_18 rfl (lv_at hl 0 rfl) ?_
    refine g_getr (k := 2) C G cl8 (C8 ok8_0) (j := 7) (by decide) (F8_7 ok8_0) k4_31 dX8_restore_19 ?_
    obtain ⟨st2, hc22_2, hf⟩ := bI1_some hf
    refine g_callSv C G (As := [.ref (h 17), .ref (h 2)]) (rest := []) (c_X8_copy l D cy h 17 8 (A8_35 ok8_0) 2 8 (A8_7 ok8_0) st st2 hc22_2) v_X8_252 (Nat.le_of_ble_eq_true rfl) (Nat.le_of_ble_eq_true rfl) rfl hl.1 rfl (Nat.le_of_ble_eq_true rfl) dX8_restore_22 ⟨Nat.zero_le _, Nat.zero_le _⟩ (fun H locs G => ?_)
    refine lv_aload_n hx hb dX8_restore_25 rfl (lv_at hl 0 rfl) ?_
    refine g_getr (k := 18) C G cl8 (C8 ok8_0) (j := 36) (by decide) (F8_36 ok8_0) k4_60 dX8_restore_26 ?_
    refine lv_aload_n hx hb dX8_restore_29 rfl (lv_at hl 0 rfl) ?_
    refine g_getr (k := 3) C G cl8 (C8 ok8_0) (j := 8) (by decide) (F8_8 ok8_0) k4_32 dX8_restore_30 ?_
    obtain ⟨st3, hc33_3, hf⟩ := bI1_some hf
    refine g_callSv C G (As := [.ref (h 18), .ref (h 3)]) (rest := []) (c_X8_copy l D cy h 18 32 (A8_36 ok8_0) 3 32 (A8_8 ok8_0) st2 st3 hc33_3) v_X8_252 (Nat.le_of_ble_eq_true rfl) (Nat.le_of_ble_eq_true rfl) rfl hl.1 rfl (Nat.le_of_ble_eq_true rfl) dX8_restore_33 ⟨Nat.zero_le _, Nat.zero_le _⟩ (fun H locs G => ?_)
    refine lv_aload_n hx hb dX8_restore_36 rfl (lv_at hl 0 rfl) ?_
    refine g_getr (k := 19) C G cl8 (C8 ok8_0) (j := 37) (by decide) (F8_37 ok8_0) k4_61 dX8_restore_37 ?_
    refine lv_aload_n hx hb dX8_restore_40 rfl (lv_at hl 0 rfl) ?_
    refine g_getr (k := 4) C G cl8 (C8 ok8_0) (j := 9) (by decide) (F8_9 ok8_0) k4_33 dX8_restore_41 ?_
    obtain ⟨st4, hc44_4, hf⟩ := bI1_some hf
    refine g_callSv C G (As := [.ref (h 19), .ref (h 4)]) (rest := []) (c_X8_copy l D cy h 19 4 (A8_37 ok8_0) 4 4 (A8_9 ok8_0) st3 st4 hc44_4) v_X8_252 (Nat.le_of_ble_eq_true rfl) (Nat.le_of_ble_eq_true rfl) rfl hl.1 rfl (Nat.le_of_ble_eq_true rfl) dX8_restore_44 ⟨Nat.zero_le _, Nat.zero_le _⟩ (fun H locs G => ?_)
    refine lv_aload_n hx hb dX8_restore_47 rfl (lv_at hl 0 rfl) ?_
    refine g_getr (k := 20) C G cl8 (C8 ok8_0) (j := 38) (by decide) (F8_38 ok8_0) k4_62 dX8_restore_48 ?_
    refine lv_aload_n hx hb dX8_restore_51 rfl (lv_at hl 0 rfl) ?_
    refine g_getr (k := 14) C G cl8 (C8 ok8_0) (j := 27) (by decide) (F8_27 ok8_0) k4_51 dX8_restore_52 ?_
    obtain ⟨st5, hc55_5, hf⟩ := bI1_some hf
    refine g_callSv C G (As := [.ref (h 20), .ref (h 14)]) (rest := []) (c_X8_copy l D cy h 20 18 (A8_38 ok8_0) 14 18 (A8_27 ok8_0) st4 st5 hc55_5) v_X8_252 (Nat.le_of_ble_eq_true rfl) (Nat.le_of_ble_eq_true rfl) rfl hl.1 rfl (Nat.le_of_ble_eq_true rfl) dX8_restore_55 ⟨Nat.zero_le _, Nat.zero_le _⟩ (fun H locs G => ?_)
    refine lv_aload_n hx hb dX8_restore_58 rfl (lv_at hl 0 rfl) ?_
    refine lv_aload_n hx hb dX8_restore_59 rfl (lv_at hl 0 rfl) ?_
    refine g_geti C G cl8 (C8 ok8_0) (j := 32) (by decide) (F8_32 ok8_0) k4_56 dX8_restore_60 ?_
    refine g_puti C G cl8 (C8 ok8_0) (j := 5) (by decide) (F8_5 ok8_0) k4_29 rfl rfl rfl dX8_restore_63 (fun st6 est6 H locs G => ?_)
    have hf := lt_some est6 hf
    refine lv_aload_n hx hb dX8_restore_66 rfl (lv_at hl 0 rfl) ?_
    refine lv_aload_n hx hb dX8_restore_67 rfl (lv_at hl 0 rfl) ?_
    refine g_geti C G cl8 (C8 ok8_0) (j := 33) (by decide) (F8_33 ok8_0) k4_57 dX8_restore_68 ?_
    refine g_puti C G cl8 (C8 ok8_0) (j := 10) (by decide) (F8_10 ok8_0) k4_34 rfl rfl rfl dX8_restore_71 (fun st7 est7 H locs G => ?_)
    have hf := lt_some est7 hf
    refine lv_aload_n hx hb dX8_restore_74 rfl (lv_at hl 0 rfl) ?_
    refine lv_aload_n hx hb dX8_restore_75 rfl (lv_at hl 0 rfl) ?_
    refine g_geti C G cl8 (C8 ok8_0) (j := 34) (by decide) (F8_34 ok8_0) k4_58 dX8_restore_76 ?_
    refine g_puti C G cl8 (C8 ok8_0) (j := 26) (by decide) (F8_26 ok8_0) k4_50 rfl rfl rfl dX8_restore_79 (fun st8 est8 H locs G => ?_)
    have hf := lt_some est8 hf
    refine lv_aload_n hx hb dX8_restore_82 rfl (lv_at hl 0 rfl) ?_
    refine g_geti C G cl8 (C8 ok8_0) (j := 5) (by decide) (F8_5 ok8_0) k4_29 dX8_restore_83 ?_
    cases hf
    exact g_iret C G hr hlocks dX8_restore_86
  · have hf := ifN c1 hf
    refine lv_bipush (v := (-103)) hx hb dX8_restore_11 (by decide) ?_
    cases hf
    exact g_iret C G hr hlocks dX8_restore_13

noncomputable def f_X8_boundMany_L4 (st : GS) (x1 : Int32) (x2 : Int32) : Option ((Int32 × Int32) ⊕ (Int32)) := 
(if (gt st 0 5) ≤ x2 then some (.inr (x1)) else 
gd x2 8 ((if (gt st 5 (x2.toNatClampNeg)) = (-1) then lt_ (x1 + 0) (fun x8 => 
lt_ (x2 + 1) (fun x9 => 
some (.inl (x8, x9)))) else 
lt_ (x1 + 1) (fun x6 => 
lt_ (x2 + 1) (fun x7 => 
some (.inl (x6, x7)))))))
noncomputable def f_X8_boundMany (st : GS) : Option (Int32) := 
bI1 (lpx (uc2 (f_X8_boundMany_L4 st)) (0, 0)) (fun x10 => 
some (x10))
set_option maxRecDepth 100000 in
set_option maxHeartbeats 4000000 in
theorem c_X8_boundMany (l : Launch) (D : va_G) (cy : ClassId) (h : Nat → Nat)  (st : GS) (r : Int32) (hf : f_X8_boundMany st = some r) : gMi l MSh D cy h yX8_boundMany cX8_boundMany 3 (some .int) 1 st [.ref (h 0)] r st := by
  unfold f_X8_boundMany at hf
  refine gMi_of (by decide) (Nat.le_of_ble_eq_true rfl) ?_
  intro p e s m args below meth c A ls C hr hlocks G hl
  have C : gC p s m args c cX8_boundMany 3 "LaneOrderModel" MSh D cy h A := C
  have hl : lv_has ls 3 [(0, .ref (h 0))] := hl
  have hx := C.1
  have hb := C.2.1
  have hown := C.2.2.2.1
  have htb := C.2.2.2.2.1
  refine lv_iconst (v := 0) hx hb dX8_boundMany_0 (by decide) ?_
  refine lv_istore_n (lv' := [(1, .int 0), (0, .ref (h 0))]) hx hb dX8_boundMany_1 rfl hl (by decide) rfl (fun ls hl => ?_)
  refine lv_iconst (v := 0) hx hb dX8_boundMany_2 (by decide) ?_
  refine lv_istore_n (lv' := [(2, .int 0), (1, .int 0), (0, .ref (h 0))]) hx hb dX8_boundMany_3 rfl hl (by decide) rfl (fun ls hl => ?_)
  obtain ⟨x10, hn, hf⟩ := bI1_some hf
  obtain ⟨n, hn⟩ := lpx_some hn
  have K36 : ∀ (H : Heap) (locs : List Loc) (ls : Array Slot), gG MSh D cy h A s st H locs → lv_has ls 3 [(1, .int x10)] → W p l e (gR 1) s m args below meth c H locs 0 0 (MQ below (gQi MSh D cy h A r st) args s 0 0 A) (F0 m 36 ls []) := by
    intro H locs ls G hl
    refine lv_iload_n hx hb dX8_boundMany_36 rfl (lv_at hl 0 rfl) ?_
    cases hf
    exact g_iret C G hr hlocks dX8_boundMany_37
  have L4 : ∀ (n : Nat) (x1 : Int32) (x2 : Int32) (H : Heap) (locs : List Loc) (ls : Array Slot), gG MSh D cy h A s st H locs → lv_has ls 3 [(0, .ref (h 0)), (1, .int x1), (2, .int x2)] → lp (uc2 (f_X8_boundMany_L4 st)) n (x1, x2) = some (x10) → W p l e (gR 1) s m args below meth c H locs 0 0 (MQ below (gQi MSh D cy h A r st) args s 0 0 A) (F0 m 4 ls []) := by
    intro n
    induction n with
    | zero =>
      intro x1 x2 H locs ls G hl hn
      cases hn
    | succ n ih =>
      intro x1 x2 H locs ls G hl hn
      obtain ⟨q, hf, hq1, hq2⟩ := lp_q hn
      have hf : f_X8_boundMany_L4 st x1 x2 = some q := hf
      unfold f_X8_boundMany_L4 at hf
      refine lv_iload_n hx hb dX8_boundMany_4 rfl (lv_at hl 2 rfl) ?_
      refine lv_aload_n hx hb dX8_boundMany_5 rfl (lv_at hl 0 rfl) ?_
      refine g_geti C G cl8 (C8 ok8_0) (j := 5) (by decide) (F8_5 ok8_0) k4_29 dX8_boundMany_6 ?_
      refine lv_icmp_ge (tgt := 36) hx hb dX8_boundMany_9 (by decide) (fun c3 => ?_) (fun c3 => ?_)
      · have hf := ifP c3 hf
        cases hf
        have hz9 := hq2 _ rfl
        cases hz9
        exact K36 _ _ _ G (lv_sub hl [1] rfl)
      · have hf := ifN c3 hf
        refine lv_iload_n hx hb dX8_boundMany_12 rfl (lv_at hl 1 rfl) ?_
        refine lv_aload_n hx hb dX8_boundMany_13 rfl (lv_at hl 0 rfl) ?_
        refine g_getr (k := 5) C G cl8 (C8 ok8_0) (j := 11) (by decide) (F8_11 ok8_0) k4_35 dX8_boundMany_14 ?_
        refine lv_iload_n hx hb dX8_boundMany_17 rfl (lv_at hl 2 rfl) ?_
        obtain ⟨hi18_3, hf⟩ := gd_some hf
        refine g_iald C G (A8_11 ok8_0) (j := x2.toNatClampNeg) rfl hi18_3 dX8_boundMany_18 ?_
        refine lv_iconst (v := (-1)) hx hb dX8_boundMany_19 (by decide) ?_
        refine lv_icmp_ne (tgt := 27) hx hb dX8_boundMany_20 (by decide) (fun c5 => ?_) (fun c5 => ?_)
        · have hf := ifN c5 hf
          refine lv_iconst (v := 1) hx hb dX8_boundMany_27 (by decide) ?_
          refine lv_iadd hx hb dX8_boundMany_28 ?_
          refine lv_topi (fun x6 ex6 => ?_)
          have hf := lt_some ex6 hf
          refine lv_istore_n (lv' := [(1, .int x6), (0, .ref (h 0)), (2, .int x2)]) hx hb dX8_boundMany_29 rfl hl (by decide) rfl (fun ls hl => ?_)
          obtain ⟨x7, ex7⟩ : ∃ z : Int32, z = (x2 + 1) := ⟨_, rfl⟩
          have hf := lt_some ex7 hf
          refine lv_iinc (v := x7) (lv' := [(2, .int x7), (1, .int x6), (0, .ref (h 0))]) hx hb dX8_boundMany_30 hl (k := 2) rfl (by rw [ex7]; rfl) (by decide) rfl (fun ls hl => ?_)
          refine lv_goto (tgt := 4) hx hb dX8_boundMany_33 (by decide) ?_
          cases hf
          exact ih _ _ _ _ _ G (lv_sub hl [2, 1, 0] rfl) (hq1 _ rfl)
        · have hf := ifP c5 hf
          refine lv_iconst (v := 0) hx hb dX8_boundMany_23 (by decide) ?_
          refine lv_goto (tgt := 28) hx hb dX8_boundMany_24 (by decide) ?_
          refine lv_iadd hx hb dX8_boundMany_28 ?_
          refine lv_topi (fun x8 ex8 => ?_)
          have hf := lt_some ex8 hf
          refine lv_istore_n (lv' := [(1, .int x8), (0, .ref (h 0)), (2, .int x2)]) hx hb dX8_boundMany_29 rfl hl (by decide) rfl (fun ls hl => ?_)
          obtain ⟨x9, ex9⟩ : ∃ z : Int32, z = (x2 + 1) := ⟨_, rfl⟩
          have hf := lt_some ex9 hf
          refine lv_iinc (v := x9) (lv' := [(2, .int x9), (1, .int x8), (0, .ref (h 0))]) hx hb dX8_boundMany_30 hl (k := 2) rfl (by rw [ex9]; rfl) (by decide) rfl (fun ls hl => ?_)
          refine lv_goto (tgt := 4) hx hb dX8_boundMany_33 (by decide) ?_
          cases hf
          exact ih _ _ _ _ _ G (lv_sub hl [2, 1, 0] rfl) (hq1 _ rfl)
  exact L4 n _ _ _ _ _ G (lv_sub hl [2, 1, 0] rfl) hn

noncomputable def f_X8_countOf (a1 : Int32) (st : GS) : Option (Int32 × GS) := 
bI1 (f_X8_layAll st) (fun st1 => 
(if a1 = 0 then some (((gt st1 0 5), st1)) else 
(if a1 = 1 then some (((gt st1 0 18), st1)) else 
(if a1 = 2 then some (((gt st1 0 19), st1)) else 
(if a1 = 3 then some (((gt st1 0 10), st1)) else 
(if a1 = 4 then bI1 (f_X8_boundMany st1) (fun r3 => 
some ((r3, st1))) else 
(if a1 = 5 then some (((gt st1 0 26), st1)) else 
(if a1 = 6 then some (((gt st1 0 1), st1)) else 
(if a1 = 7 then some (((gt st1 0 6), st1)) else 
some (((-102), st1)))))))))))
set_option maxRecDepth 100000 in
set_option maxHeartbeats 4000000 in
theorem c_X8_countOf (l : Launch) (D : va_G) (cy : ClassId) (h : Nat → Nat) (a1 : Int32) (st : GS) (r : Int32) (stF : GS) (hf : f_X8_countOf a1 st = some (r, stF)) : gMi l MSh D cy h yX8_countOf cX8_countOf 2 (some .int) 8 st [.ref (h 0), .int a1] r stF := by
  unfold f_X8_countOf at hf
  refine gMi_of (by decide) (Nat.le_of_ble_eq_true rfl) ?_
  intro p e s m args below meth c A ls C hr hlocks G hl
  have C : gC p s m args c cX8_countOf 2 "LaneOrderModel" MSh D cy h A := C
  have hl : lv_has ls 2 [(0, .ref (h 0)), (1, .int a1)] := hl
  have hx := C.1
  have hb := C.2.1
  have hown := C.2.2.2.1
  have htb := C.2.2.2.2.1
  refine lv_aload_n hx hb dX8_countOf_0 rfl (lv_at hl 0 rfl) ?_
  obtain ⟨st1, hc1_1, hf⟩ := bI1_some hf
  refine g_callVv C G (As := []) (rest := []) (c_X8_layAll l D cy h st st1 hc1_1) cl8 rfl (C8 ok8_0) v_X8_201 (Nat.le_of_ble_eq_true rfl) (Nat.le_of_ble_eq_true rfl) rfl hl.1 rfl (Nat.le_of_ble_eq_true rfl) dX8_countOf_1 ⟨Nat.zero_le _, Nat.zero_le _⟩ (fun H locs G => ?_)
  refine lv_iload_n hx hb dX8_countOf_4 rfl (lv_at hl 1 rfl) ?_
  by_cases c2_0 : a1 = 0
  · have hf := ifP c2_0 hf
    refine lv_tableIn (tgt := 52) hx hb dX8_countOf_5 (by rw [c2_0]; decide) (by rw [c2_0]; decide) (by rw [c2_0]; rfl) (by decide) ?_
    refine lv_aload_n hx hb dX8_countOf_52 rfl (lv_at hl 0 rfl) ?_
    refine g_geti C G cl8 (C8 ok8_0) (j := 5) (by decide) (F8_5 ok8_0) k4_29 dX8_countOf_53 ?_
    cases hf
    exact g_iret C G hr hlocks dX8_countOf_56
  · have hf := ifN c2_0 hf
    by_cases c2_1 : a1 = 1
    · have hf := ifP c2_1 hf
      refine lv_tableIn (tgt := 57) hx hb dX8_countOf_5 (by rw [c2_1]; decide) (by rw [c2_1]; decide) (by rw [c2_1]; rfl) (by decide) ?_
      refine lv_aload_n hx hb dX8_countOf_57 rfl (lv_at hl 0 rfl) ?_
      refine g_geti C G cl8 (C8 ok8_0) (j := 18) (by decide) (F8_18 ok8_0) k4_42 dX8_countOf_58 ?_
      cases hf
      exact g_iret C G hr hlocks dX8_countOf_61
    · have hf := ifN c2_1 hf
      by_cases c2_2 : a1 = 2
      · have hf := ifP c2_2 hf
        refine lv_tableIn (tgt := 62) hx hb dX8_countOf_5 (by rw [c2_2]; decide) (by rw [c2_2]; decide) (by rw [c2_2]; rfl) (by decide) ?_
        refine lv_aload_n hx hb dX8_countOf_62 rfl (lv_at hl 0 rfl) ?_
        refine g_geti C G cl8 (C8 ok8_0) (j := 19) (by decide) (F8_19 ok8_0) k4_43 dX8_countOf_63 ?_
        cases hf
        exact g_iret C G hr hlocks dX8_countOf_66
      · have hf := ifN c2_2 hf
        by_cases c2_3 : a1 = 3
        · have hf := ifP c2_3 hf
          refine lv_tableIn (tgt := 67) hx hb dX8_countOf_5 (by rw [c2_3]; decide) (by rw [c2_3]; decide) (by rw [c2_3]; rfl) (by decide) ?_
          refine lv_aload_n hx hb dX8_countOf_67 rfl (lv_at hl 0 rfl) ?_
          refine g_geti C G cl8 (C8 ok8_0) (j := 10) (by decide) (F8_10 ok8_0) k4_34 dX8_countOf_68 ?_
          cases hf
          exact g_iret C G hr hlocks dX8_countOf_71
        · have hf := ifN c2_3 hf
          by_cases c2_4 : a1 = 4
          · have hf := ifP c2_4 hf
            refine lv_tableIn (tgt := 72) hx hb dX8_countOf_5 (by rw [c2_4]; decide) (by rw [c2_4]; decide) (by rw [c2_4]; rfl) (by decide) ?_
            refine lv_aload_n hx hb dX8_countOf_72 rfl (lv_at hl 0 rfl) ?_
            obtain ⟨r3, hc73_3, hf⟩ := bI1_some hf
            refine g_callVi C G (As := []) (rest := []) (c_X8_boundMany l D cy h st1 r3 hc73_3) cl8 rfl (C8 ok8_0) v_X8_302 (Nat.le_of_ble_eq_true rfl) (Nat.le_of_ble_eq_true rfl) rfl hl.1 rfl (Nat.le_of_ble_eq_true rfl) dX8_countOf_73 ⟨Nat.zero_le _, Nat.zero_le _⟩ (fun H locs G => ?_)
            cases hf
            exact g_iret C G hr hlocks dX8_countOf_76
          · have hf := ifN c2_4 hf
            by_cases c2_5 : a1 = 5
            · have hf := ifP c2_5 hf
              refine lv_tableIn (tgt := 77) hx hb dX8_countOf_5 (by rw [c2_5]; decide) (by rw [c2_5]; decide) (by rw [c2_5]; rfl) (by decide) ?_
              refine lv_aload_n hx hb dX8_countOf_77 rfl (lv_at hl 0 rfl) ?_
              refine g_geti C G cl8 (C8 ok8_0) (j := 26) (by decide) (F8_26 ok8_0) k4_50 dX8_countOf_78 ?_
              cases hf
              exact g_iret C G hr hlocks dX8_countOf_81
            · have hf := ifN c2_5 hf
              by_cases c2_6 : a1 = 6
              · have hf := ifP c2_6 hf
                refine lv_tableIn (tgt := 82) hx hb dX8_countOf_5 (by rw [c2_6]; decide) (by rw [c2_6]; decide) (by rw [c2_6]; rfl) (by decide) ?_
                refine lv_aload_n hx hb dX8_countOf_82 rfl (lv_at hl 0 rfl) ?_
                refine g_geti C G cl8 (C8 ok8_0) (j := 1) (by decide) (F8_1 ok8_0) k4_25 dX8_countOf_83 ?_
                cases hf
                exact g_iret C G hr hlocks dX8_countOf_86
              · have hf := ifN c2_6 hf
                by_cases c2_7 : a1 = 7
                · have hf := ifP c2_7 hf
                  refine lv_tableIn (tgt := 87) hx hb dX8_countOf_5 (by rw [c2_7]; decide) (by rw [c2_7]; decide) (by rw [c2_7]; rfl) (by decide) ?_
                  refine lv_aload_n hx hb dX8_countOf_87 rfl (lv_at hl 0 rfl) ?_
                  refine g_geti C G cl8 (C8 ok8_0) (j := 6) (by decide) (F8_6 ok8_0) k4_30 dX8_countOf_88 ?_
                  cases hf
                  exact g_iret C G hr hlocks dX8_countOf_91
                · have hf := ifN c2_7 hf
                  refine lv_tableOut (tgt := 92) hx hb dX8_countOf_5 (tab_7 c2_0 c2_1 c2_2 c2_3 c2_4 c2_5 c2_6 c2_7) (by decide) ?_
                  refine lv_bipush (v := (-102)) hx hb dX8_countOf_92 (by decide) ?_
                  cases hf
                  exact g_iret C G hr hlocks dX8_countOf_94

noncomputable def f_X8_count (a1 : Int32) (st : GS) : Option (Int32 × GS) := 
bI2 (f_X8_countOf a1 st) (fun r1 st2 => 
some ((r1, st2)))
set_option maxRecDepth 100000 in
set_option maxHeartbeats 4000000 in
theorem c_X8_count (l : Launch) (D : va_G) (cy : ClassId) (h : Nat → Nat) (a1 : Int32) (st : GS) (r : Int32) (stF : GS) (hf : f_X8_count a1 st = some (r, stF)) : gMi l MSh D cy h yX8_count cX8_count 2 (some .int) 9 st [.ref (h 0), .int a1] r stF := by
  unfold f_X8_count at hf
  refine gMi_of (by decide) (Nat.le_of_ble_eq_true rfl) ?_
  intro p e s m args below meth c A ls C hr hlocks G hl
  have C : gC p s m args c cX8_count 2 "LaneOrderModel" MSh D cy h A := C
  have hl : lv_has ls 2 [(0, .ref (h 0)), (1, .int a1)] := hl
  have hx := C.1
  have hb := C.2.1
  have hown := C.2.2.2.1
  have htb := C.2.2.2.2.1
  refine lv_aload_n hx hb dX8_count_0 rfl (lv_at hl 0 rfl) ?_
  refine lv_iload_n hx hb dX8_count_1 rfl (lv_at hl 1 rfl) ?_
  obtain ⟨r1, st2, hc2_2, hf⟩ := bI2_some hf
  refine g_callVi C G (As := [.int a1]) (rest := []) (c_X8_countOf l D cy h a1 st r1 st2 hc2_2) cl8 rfl (C8 ok8_0) v_X8_305 (Nat.le_of_ble_eq_true rfl) (Nat.le_of_ble_eq_true rfl) rfl hl.1 rfl (Nat.le_of_ble_eq_true rfl) dX8_count_2 ⟨Nat.zero_le _, Nat.zero_le _⟩ (fun H locs G => ?_)
  cases hf
  exact g_iret C G hr hlocks dX8_count_5

noncomputable def f_X8_say (a1 : Int64) (st : GS) : Option (GS) := 
lt_ (sl st ((31 * (gl st)) + a1)) (fun st1 => 
some (st1))
set_option maxRecDepth 100000 in
set_option maxHeartbeats 4000000 in
theorem c_X8_say (l : Launch) (D : va_G) (cy : ClassId) (h : Nat → Nat) (a1 : Int64) (st : GS) (stF : GS) (hf : f_X8_say a1 st = some stF) : gMv l MSh D cy h yX8_say cX8_say 3 none 1 st [.ref (h 0), .long a1] stF := by
  unfold f_X8_say at hf
  refine gMv_of (by decide) (Nat.le_of_ble_eq_true rfl) ?_
  intro p e s m args below meth c A ls C hr hlocks G hl
  have C : gC p s m args c cX8_say 3 "LaneOrderModel" MSh D cy h A := C
  have hl : lv_has ls 3 [(0, .ref (h 0)), (1, .long a1)] := hl
  have hx := C.1
  have hb := C.2.1
  have hown := C.2.2.2.1
  have htb := C.2.2.2.2.1
  refine lv_aload_n hx hb dX8_say_0 rfl (lv_at hl 0 rfl) ?_
  refine lv_ldc2 hx hb (v := 31) hown (htb _ k5_206) dX8_say_1 ?_
  refine lv_aload_n hx hb dX8_say_4 rfl (lv_at hl 0 rfl) ?_
  refine g_getl C G cl8 (C8 ok8_0) (j := 39) (by decide) (F8_39 ok8_0) k4_63 dX8_say_5 ?_
  refine lv_lmul hx hb dX8_say_8 ?_
  refine lv_lload_n hx hb dX8_say_9 rfl (lv_at hl 1 rfl) ?_
  refine lv_ladd hx hb dX8_say_10 ?_
  refine g_putl C G cl8 (C8 ok8_0) (j := 39) (by decide) (F8_39 ok8_0) Msole k4_63 rfl rfl rfl dX8_say_11 (fun st1 est1 H locs G => ?_)
  have hf := lt_some est1 hf
  cases hf
  exact g_vret C G hr hlocks dX8_say_14

noncomputable def f_X8_sayPage_L12 (x1 : Int32) (x4 : Int32) (st5 : GS) : Option ((Int32 × GS) ⊕ (GS)) := 
(if 10 ≤ x4 then some (.inr (st5)) else 
bI2 (f_X8_tellBox x1 x4 st5) (fun r7 st8 => 
bI1 (f_X8_say (Int32.toInt64 r7) st8) (fun st9 => 
lt_ (x4 + 1) (fun x10 => 
some (.inl (x10, st9))))))
noncomputable def f_X8_sayPage_L2  (x1 : Int32) (st2 : GS) : Option ((Int32 × GS) ⊕ (GS)) := 
(if (gt st2 0 5) ≤ x1 then some (.inr (st2)) else 
bI1 (lpx (uc2 (f_X8_sayPage_L12 x1)) (0, st2)) (fun st11 => 
lt_ (x1 + 1) (fun x12 => 
some (.inl (x12, st11)))))
noncomputable def f_X8_sayPage_L47  (x15 : Int32) (st16 : GS) : Option ((Int32 × GS) ⊕ (GS)) := 
(if (gt st16 0 5) ≤ x15 then some (.inr (st16)) else 
gd x15 8 (bI1 (f_X8_say (Int32.toInt64 (gt st16 6 (x15.toNatClampNeg))) st16) (fun st19 => 
lt_ (x15 + 1) (fun x20 => 
some (.inl (x20, st19))))))
noncomputable def f_X8_sayPage_L74  (x22 : Int32) (st23 : GS) : Option ((Int32 × GS) ⊕ (GS)) := 
(if (5 * (gt st23 0 18)) ≤ x22 then some (.inr (st23)) else 
gd x22 40 (bI1 (f_X8_say (Int32.toInt64 (gt st23 7 (x22.toNatClampNeg))) st23) (fun st26 => 
lt_ (x22 + 1) (fun x27 => 
some (.inl (x27, st26))))))
noncomputable def f_X8_sayPage (st : GS) : Option (GS) := 
bI1 (lpx (uc2 f_X8_sayPage_L2) (0, st)) (fun st13 => 
bI1 (f_X8_layAll st13) (fun st14 => 
bI1 (lpx (uc2 f_X8_sayPage_L47) (0, st14)) (fun st21 => 
bI1 (lpx (uc2 f_X8_sayPage_L74) (0, st21)) (fun st28 => 
bI2 (f_X8_idleOf st28) (fun r29 st30 => 
bI1 (f_X8_say (Int32.toInt64 r29) st30) (fun st31 => 
bI2 (f_X8_freeOf st31) (fun r32 st33 => 
bI1 (f_X8_say (Int32.toInt64 r32) st33) (fun st34 => 
some (st34)))))))))
set_option maxRecDepth 100000 in
set_option maxHeartbeats 4000000 in
theorem c_X8_sayPage (l : Launch) (D : va_G) (cy : ClassId) (h : Nat → Nat)  (st : GS) (stF : GS) (hf : f_X8_sayPage st = some stF) : gMv l MSh D cy h yX8_sayPage cX8_sayPage 3 none 10 st [.ref (h 0)] stF := by
  unfold f_X8_sayPage at hf
  refine gMv_of (by decide) (Nat.le_of_ble_eq_true rfl) ?_
  intro p e s m args below meth c A ls C hr hlocks G hl
  have C : gC p s m args c cX8_sayPage 3 "LaneOrderModel" MSh D cy h A := C
  have hl : lv_has ls 3 [(0, .ref (h 0))] := hl
  have hx := C.1
  have hb := C.2.1
  have hown := C.2.2.2.1
  have htb := C.2.2.2.2.1
  refine lv_iconst (v := 0) hx hb dX8_sayPage_0 (by decide) ?_
  refine lv_istore_n (lv' := [(1, .int 0), (0, .ref (h 0))]) hx hb dX8_sayPage_1 rfl hl (by decide) rfl (fun ls hl => ?_)
  obtain ⟨st13, hn, hf⟩ := bI1_some hf
  obtain ⟨n, hn⟩ := lpx_some hn
  have K41 : ∀ (H : Heap) (locs : List Loc) (ls : Array Slot), gG MSh D cy h A s st13 H locs → lv_has ls 3 [(0, .ref (h 0))] → W p l e (gR 10) s m args below meth c H locs 0 0 (MQ below (gQv MSh D cy h A stF) args s 0 0 A) (F0 m 41 ls []) := by
    intro H locs ls G hl
    refine lv_aload_n hx hb dX8_sayPage_41 rfl (lv_at hl 0 rfl) ?_
    obtain ⟨st14, hc42_14, hf⟩ := bI1_some hf
    refine g_callVv C G (As := []) (rest := []) (c_X8_layAll l D cy h st13 st14 hc42_14) cl8 rfl (C8 ok8_0) v_X8_201 (Nat.le_of_ble_eq_true rfl) (Nat.le_of_ble_eq_true rfl) rfl hl.1 rfl (Nat.le_of_ble_eq_true rfl) dX8_sayPage_42 ⟨Nat.zero_le _, Nat.zero_le _⟩ (fun H locs G => ?_)
    refine lv_iconst (v := 0) hx hb dX8_sayPage_45 (by decide) ?_
    refine lv_istore_n (lv' := [(1, .int 0), (0, .ref (h 0))]) hx hb dX8_sayPage_46 rfl hl (by decide) rfl (fun ls hl => ?_)
    obtain ⟨st21, hn, hf⟩ := bI1_some hf
    obtain ⟨n, hn⟩ := lpx_some hn
    have K72 : ∀ (H : Heap) (locs : List Loc) (ls : Array Slot), gG MSh D cy h A s st21 H locs → lv_has ls 3 [(0, .ref (h 0))] → W p l e (gR 10) s m args below meth c H locs 0 0 (MQ below (gQv MSh D cy h A stF) args s 0 0 A) (F0 m 72 ls []) := by
      intro H locs ls G hl
      refine lv_iconst (v := 0) hx hb dX8_sayPage_72 (by decide) ?_
      refine lv_istore_n (lv' := [(1, .int 0), (0, .ref (h 0))]) hx hb dX8_sayPage_73 rfl hl (by decide) rfl (fun ls hl => ?_)
      obtain ⟨st28, hn, hf⟩ := bI1_some hf
      obtain ⟨n, hn⟩ := lpx_some hn
      have K101 : ∀ (H : Heap) (locs : List Loc) (ls : Array Slot), gG MSh D cy h A s st28 H locs → lv_has ls 3 [(0, .ref (h 0))] → W p l e (gR 10) s m args below meth c H locs 0 0 (MQ below (gQv MSh D cy h A stF) args s 0 0 A) (F0 m 101 ls []) := by
        intro H locs ls G hl
        refine lv_aload_n hx hb dX8_sayPage_101 rfl (lv_at hl 0 rfl) ?_
        refine lv_aload_n hx hb dX8_sayPage_102 rfl (lv_at hl 0 rfl) ?_
        obtain ⟨r29, st30, hc103_30, hf⟩ := bI2_some hf
        refine g_callVi C G (As := []) (rest := [.ref (h 0)]) (c_X8_idleOf l D cy h st28 r29 st30 hc103_30) cl8 rfl (C8 ok8_0) v_X8_262 (Nat.le_of_ble_eq_true rfl) (Nat.le_of_ble_eq_true rfl) rfl hl.1 rfl (Nat.le_of_ble_eq_true rfl) dX8_sayPage_103 ⟨Nat.zero_le _, Nat.zero_le _⟩ (fun H locs G => ?_)
        refine lv_i2l hx hb dX8_sayPage_106 rfl ?_
        obtain ⟨st31, hc107_31, hf⟩ := bI1_some hf
        refine g_callVv C G (As := [.long (Int32.toInt64 r29)]) (rest := []) (c_X8_say l D cy h (Int32.toInt64 r29) st30 st31 hc107_31) cl8 rfl (C8 ok8_0) v_X8_314 (Nat.le_of_ble_eq_true rfl) (Nat.le_of_ble_eq_true rfl) rfl hl.1 rfl (Nat.le_of_ble_eq_true rfl) dX8_sayPage_107 ⟨Nat.zero_le _, Nat.zero_le _⟩ (fun H locs G => ?_)
        refine lv_aload_n hx hb dX8_sayPage_110 rfl (lv_at hl 0 rfl) ?_
        refine lv_aload_n hx hb dX8_sayPage_111 rfl (lv_at hl 0 rfl) ?_
        obtain ⟨r32, st33, hc112_33, hf⟩ := bI2_some hf
        refine g_callVi C G (As := []) (rest := [.ref (h 0)]) (c_X8_freeOf l D cy h st31 r32 st33 hc112_33) cl8 rfl (C8 ok8_0) v_X8_265 (Nat.le_of_ble_eq_true rfl) (Nat.le_of_ble_eq_true rfl) rfl hl.1 rfl (Nat.le_of_ble_eq_true rfl) dX8_sayPage_112 ⟨Nat.zero_le _, Nat.zero_le _⟩ (fun H locs G => ?_)
        refine lv_i2l hx hb dX8_sayPage_115 rfl ?_
        obtain ⟨st34, hc116_34, hf⟩ := bI1_some hf
        refine g_callVv C G (As := [.long (Int32.toInt64 r32)]) (rest := []) (c_X8_say l D cy h (Int32.toInt64 r32) st33 st34 hc116_34) cl8 rfl (C8 ok8_0) v_X8_314 (Nat.le_of_ble_eq_true rfl) (Nat.le_of_ble_eq_true rfl) rfl hl.1 rfl (Nat.le_of_ble_eq_true rfl) dX8_sayPage_116 ⟨Nat.zero_le _, Nat.zero_le _⟩ (fun H locs G => ?_)
        cases hf
        exact g_vret C G hr hlocks dX8_sayPage_119
      have L74 : ∀ (n : Nat) (x22 : Int32) (st23 : GS) (H : Heap) (locs : List Loc) (ls : Array Slot), gG MSh D cy h A s st23 H locs → lv_has ls 3 [(0, .ref (h 0)), (1, .int x22)] → lp (uc2 f_X8_sayPage_L74) n (x22, st23) = some (st28) → W p l e (gR 10) s m args below meth c H locs 0 0 (MQ below (gQv MSh D cy h A stF) args s 0 0 A) (F0 m 74 ls []) := by
        intro n
        induction n with
        | zero =>
          intro x22 st23 H locs ls G hl hn
          cases hn
        | succ n ih =>
          intro x22 st23 H locs ls G hl hn
          obtain ⟨q, hf, hq1, hq2⟩ := lp_q hn
          have hf : f_X8_sayPage_L74 x22 st23 = some q := hf
          unfold f_X8_sayPage_L74 at hf
          refine lv_iload_n hx hb dX8_sayPage_74 rfl (lv_at hl 1 rfl) ?_
          refine lv_iconst (v := 5) hx hb dX8_sayPage_75 (by decide) ?_
          refine lv_aload_n hx hb dX8_sayPage_76 rfl (lv_at hl 0 rfl) ?_
          refine g_geti C G cl8 (C8 ok8_0) (j := 18) (by decide) (F8_18 ok8_0) k4_42 dX8_sayPage_77 ?_
          refine lv_imul hx hb dX8_sayPage_80 ?_
          refine lv_icmp_ge (tgt := 101) hx hb dX8_sayPage_81 (by decide) (fun c24 => ?_) (fun c24 => ?_)
          · have hf := ifP c24 hf
            cases hf
            have hz9 := hq2 _ rfl
            cases hz9
            exact K101 _ _ _ G (lv_sub hl [0] rfl)
          · have hf := ifN c24 hf
            refine lv_aload_n hx hb dX8_sayPage_84 rfl (lv_at hl 0 rfl) ?_
            refine lv_aload_n hx hb dX8_sayPage_85 rfl (lv_at hl 0 rfl) ?_
            refine g_getr (k := 7) C G cl8 (C8 ok8_0) (j := 17) (by decide) (F8_17 ok8_0) k4_41 dX8_sayPage_86 ?_
            refine lv_iload_n hx hb dX8_sayPage_89 rfl (lv_at hl 1 rfl) ?_
            obtain ⟨hi90_24, hf⟩ := gd_some hf
            refine g_iald C G (A8_17 ok8_0) (j := x22.toNatClampNeg) rfl hi90_24 dX8_sayPage_90 ?_
            refine lv_i2l hx hb dX8_sayPage_91 rfl ?_
            obtain ⟨st26, hc92_26, hf⟩ := bI1_some hf
            refine g_callVv C G (As := [.long (Int32.toInt64 (gt st23 7 (x22.toNatClampNeg)))]) (rest := []) (c_X8_say l D cy h (Int32.toInt64 (gt st23 7 (x22.toNatClampNeg))) st23 st26 hc92_26) cl8 rfl (C8 ok8_0) v_X8_314 (Nat.le_of_ble_eq_true rfl) (Nat.le_of_ble_eq_true rfl) rfl hl.1 rfl (Nat.le_of_ble_eq_true rfl) dX8_sayPage_92 ⟨Nat.zero_le _, Nat.zero_le _⟩ (fun H locs G => ?_)
            obtain ⟨x27, ex27⟩ : ∃ z : Int32, z = (x22 + 1) := ⟨_, rfl⟩
            have hf := lt_some ex27 hf
            refine lv_iinc (v := x27) (lv' := [(1, .int x27), (0, .ref (h 0))]) hx hb dX8_sayPage_95 hl (k := 1) rfl (by rw [ex27]; rfl) (by decide) rfl (fun ls hl => ?_)
            refine lv_goto (tgt := 74) hx hb dX8_sayPage_98 (by decide) ?_
            cases hf
            exact ih _ _ _ _ _ G (lv_sub hl [1, 0] rfl) (hq1 _ rfl)
      exact L74 n _ _ _ _ _ G (lv_sub hl [1, 0] rfl) hn
    have L47 : ∀ (n : Nat) (x15 : Int32) (st16 : GS) (H : Heap) (locs : List Loc) (ls : Array Slot), gG MSh D cy h A s st16 H locs → lv_has ls 3 [(0, .ref (h 0)), (1, .int x15)] → lp (uc2 f_X8_sayPage_L47) n (x15, st16) = some (st21) → W p l e (gR 10) s m args below meth c H locs 0 0 (MQ below (gQv MSh D cy h A stF) args s 0 0 A) (F0 m 47 ls []) := by
      intro n
      induction n with
      | zero =>
        intro x15 st16 H locs ls G hl hn
        cases hn
      | succ n ih =>
        intro x15 st16 H locs ls G hl hn
        obtain ⟨q, hf, hq1, hq2⟩ := lp_q hn
        have hf : f_X8_sayPage_L47 x15 st16 = some q := hf
        unfold f_X8_sayPage_L47 at hf
        refine lv_iload_n hx hb dX8_sayPage_47 rfl (lv_at hl 1 rfl) ?_
        refine lv_aload_n hx hb dX8_sayPage_48 rfl (lv_at hl 0 rfl) ?_
        refine g_geti C G cl8 (C8 ok8_0) (j := 5) (by decide) (F8_5 ok8_0) k4_29 dX8_sayPage_49 ?_
        refine lv_icmp_ge (tgt := 72) hx hb dX8_sayPage_52 (by decide) (fun c17 => ?_) (fun c17 => ?_)
        · have hf := ifP c17 hf
          cases hf
          have hz9 := hq2 _ rfl
          cases hz9
          exact K72 _ _ _ G (lv_sub hl [0] rfl)
        · have hf := ifN c17 hf
          refine lv_aload_n hx hb dX8_sayPage_55 rfl (lv_at hl 0 rfl) ?_
          refine lv_aload_n hx hb dX8_sayPage_56 rfl (lv_at hl 0 rfl) ?_
          refine g_getr (k := 6) C G cl8 (C8 ok8_0) (j := 15) (by decide) (F8_15 ok8_0) k4_39 dX8_sayPage_57 ?_
          refine lv_iload_n hx hb dX8_sayPage_60 rfl (lv_at hl 1 rfl) ?_
          obtain ⟨hi61_17, hf⟩ := gd_some hf
          refine g_iald C G (A8_15 ok8_0) (j := x15.toNatClampNeg) rfl hi61_17 dX8_sayPage_61 ?_
          refine lv_i2l hx hb dX8_sayPage_62 rfl ?_
          obtain ⟨st19, hc63_19, hf⟩ := bI1_some hf
          refine g_callVv C G (As := [.long (Int32.toInt64 (gt st16 6 (x15.toNatClampNeg)))]) (rest := []) (c_X8_say l D cy h (Int32.toInt64 (gt st16 6 (x15.toNatClampNeg))) st16 st19 hc63_19) cl8 rfl (C8 ok8_0) v_X8_314 (Nat.le_of_ble_eq_true rfl) (Nat.le_of_ble_eq_true rfl) rfl hl.1 rfl (Nat.le_of_ble_eq_true rfl) dX8_sayPage_63 ⟨Nat.zero_le _, Nat.zero_le _⟩ (fun H locs G => ?_)
          obtain ⟨x20, ex20⟩ : ∃ z : Int32, z = (x15 + 1) := ⟨_, rfl⟩
          have hf := lt_some ex20 hf
          refine lv_iinc (v := x20) (lv' := [(1, .int x20), (0, .ref (h 0))]) hx hb dX8_sayPage_66 hl (k := 1) rfl (by rw [ex20]; rfl) (by decide) rfl (fun ls hl => ?_)
          refine lv_goto (tgt := 47) hx hb dX8_sayPage_69 (by decide) ?_
          cases hf
          exact ih _ _ _ _ _ G (lv_sub hl [1, 0] rfl) (hq1 _ rfl)
    exact L47 n _ _ _ _ _ G (lv_sub hl [1, 0] rfl) hn
  have L2 : ∀ (n : Nat) (x1 : Int32) (st2 : GS) (H : Heap) (locs : List Loc) (ls : Array Slot), gG MSh D cy h A s st2 H locs → lv_has ls 3 [(0, .ref (h 0)), (1, .int x1)] → lp (uc2 f_X8_sayPage_L2) n (x1, st2) = some (st13) → W p l e (gR 10) s m args below meth c H locs 0 0 (MQ below (gQv MSh D cy h A stF) args s 0 0 A) (F0 m 2 ls []) := by
    intro n
    induction n with
    | zero =>
      intro x1 st2 H locs ls G hl hn
      cases hn
    | succ n ih =>
      intro x1 st2 H locs ls G hl hn
      obtain ⟨q, hf, hq1, hq2⟩ := lp_q hn
      have hf : f_X8_sayPage_L2 x1 st2 = some q := hf
      unfold f_X8_sayPage_L2 at hf
      refine lv_iload_n hx hb dX8_sayPage_2 rfl (lv_at hl 1 rfl) ?_
      refine lv_aload_n hx hb dX8_sayPage_3 rfl (lv_at hl 0 rfl) ?_
      refine g_geti C G cl8 (C8 ok8_0) (j := 5) (by decide) (F8_5 ok8_0) k4_29 dX8_sayPage_4 ?_
      refine lv_icmp_ge (tgt := 41) hx hb dX8_sayPage_7 (by decide) (fun c3 => ?_) (fun c3 => ?_)
      · have hf := ifP c3 hf
        cases hf
        have hz9 := hq2 _ rfl
        cases hz9
        exact K41 _ _ _ G (lv_sub hl [0] rfl)
      · have hf := ifN c3 hf
        refine lv_iconst (v := 0) hx hb dX8_sayPage_10 (by decide) ?_
        refine lv_istore_n (lv' := [(2, .int 0), (0, .ref (h 0)), (1, .int x1)]) hx hb dX8_sayPage_11 rfl hl (by decide) rfl (fun ls hl => ?_)
        obtain ⟨st11, hn, hf⟩ := bI1_some hf
        obtain ⟨n, hn⟩ := lpx_some hn
        have K35 : ∀ (H : Heap) (locs : List Loc) (ls : Array Slot), gG MSh D cy h A s st11 H locs → lv_has ls 3 [(0, .ref (h 0)), (1, .int x1)] → W p l e (gR 10) s m args below meth c H locs 0 0 (MQ below (gQv MSh D cy h A stF) args s 0 0 A) (F0 m 35 ls []) := by
          intro H locs ls G hl
          obtain ⟨x12, ex12⟩ : ∃ z : Int32, z = (x1 + 1) := ⟨_, rfl⟩
          have hf := lt_some ex12 hf
          refine lv_iinc (v := x12) (lv' := [(1, .int x12), (0, .ref (h 0))]) hx hb dX8_sayPage_35 hl (k := 1) rfl (by rw [ex12]; rfl) (by decide) rfl (fun ls hl => ?_)
          refine lv_goto (tgt := 2) hx hb dX8_sayPage_38 (by decide) ?_
          cases hf
          exact ih _ _ _ _ _ G (lv_sub hl [1, 0] rfl) (hq1 _ rfl)
        have L12 : ∀ (n : Nat) (x4 : Int32) (st5 : GS) (H : Heap) (locs : List Loc) (ls : Array Slot), gG MSh D cy h A s st5 H locs → lv_has ls 3 [(0, .ref (h 0)), (1, .int x1), (2, .int x4)] → lp (uc2 (f_X8_sayPage_L12 x1)) n (x4, st5) = some (st11) → W p l e (gR 10) s m args below meth c H locs 0 0 (MQ below (gQv MSh D cy h A stF) args s 0 0 A) (F0 m 12 ls []) := by
          intro n
          induction n with
          | zero =>
            intro x4 st5 H locs ls G hl hn
            cases hn
          | succ n ih =>
            intro x4 st5 H locs ls G hl hn
            obtain ⟨q, hf, hq1, hq2⟩ := lp_q hn
            have hf : f_X8_sayPage_L12 x1 x4 st5 = some q := hf
            unfold f_X8_sayPage_L12 at hf
            refine lv_iload_n hx hb dX8_sayPage_12 rfl (lv_at hl 2 rfl) ?_
            refine lv_bipush (v := 10) hx hb dX8_sayPage_13 (by decide) ?_
            refine lv_icmp_ge (tgt := 35) hx hb dX8_sayPage_15 (by decide) (fun c6 => ?_) (fun c6 => ?_)
            · have hf := ifP c6 hf
              cases hf
              have hz9 := hq2 _ rfl
              cases hz9
              exact K35 _ _ _ G (lv_sub hl [0, 1] rfl)
            · have hf := ifN c6 hf
              refine lv_aload_n hx hb dX8_sayPage_18 rfl (lv_at hl 0 rfl) ?_
              refine lv_aload_n hx hb dX8_sayPage_19 rfl (lv_at hl 0 rfl) ?_
              refine lv_iload_n hx hb dX8_sayPage_20 rfl (lv_at hl 1 rfl) ?_
              refine lv_iload_n hx hb dX8_sayPage_21 rfl (lv_at hl 2 rfl) ?_
              obtain ⟨r7, st8, hc22_8, hf⟩ := bI2_some hf
              refine g_callVi C G (As := [.int x1, .int x4]) (rest := [.ref (h 0)]) (c_X8_tellBox l D cy h x1 x4 st5 r7 st8 hc22_8) cl8 rfl (C8 ok8_0) v_X8_216 (Nat.le_of_ble_eq_true rfl) (Nat.le_of_ble_eq_true rfl) rfl hl.1 rfl (Nat.le_of_ble_eq_true rfl) dX8_sayPage_22 ⟨Nat.zero_le _, Nat.zero_le _⟩ (fun H locs G => ?_)
              refine lv_i2l hx hb dX8_sayPage_25 rfl ?_
              obtain ⟨st9, hc26_9, hf⟩ := bI1_some hf
              refine g_callVv C G (As := [.long (Int32.toInt64 r7)]) (rest := []) (c_X8_say l D cy h (Int32.toInt64 r7) st8 st9 hc26_9) cl8 rfl (C8 ok8_0) v_X8_314 (Nat.le_of_ble_eq_true rfl) (Nat.le_of_ble_eq_true rfl) rfl hl.1 rfl (Nat.le_of_ble_eq_true rfl) dX8_sayPage_26 ⟨Nat.zero_le _, Nat.zero_le _⟩ (fun H locs G => ?_)
              obtain ⟨x10, ex10⟩ : ∃ z : Int32, z = (x4 + 1) := ⟨_, rfl⟩
              have hf := lt_some ex10 hf
              refine lv_iinc (v := x10) (lv' := [(2, .int x10), (0, .ref (h 0)), (1, .int x1)]) hx hb dX8_sayPage_29 hl (k := 2) rfl (by rw [ex10]; rfl) (by decide) rfl (fun ls hl => ?_)
              refine lv_goto (tgt := 12) hx hb dX8_sayPage_32 (by decide) ?_
              cases hf
              exact ih _ _ _ _ _ G (lv_sub hl [1, 2, 0] rfl) (hq1 _ rfl)
        exact L12 n _ _ _ _ _ G (lv_sub hl [1, 2, 0] rfl) hn
  exact L2 n _ _ _ _ _ G (lv_sub hl [1, 0] rfl) hn

noncomputable def f_X8_digest_L20  (x6 : Int32) (st7 : GS) : Option ((Int32 × GS) ⊕ (GS)) := 
(if (gt st7 0 1) ≤ x6 then some (.inr (st7)) else 
gd x6 54 (bI1 (f_X8_say (Int32.toInt64 (gt st7 1 (x6.toNatClampNeg))) st7) (fun st10 => 
lt_ (x6 + 1) (fun x11 => 
some (.inl (x11, st10))))))
noncomputable def f_X8_digest_L47  (x13 : Int32) (st14 : GS) : Option ((Int32 × GS) ⊕ (GS)) := 
(if 8 ≤ x13 then some (.inr (st14)) else 
bI2 (f_X8_countOf x13 st14) (fun r16 st17 => 
bI1 (f_X8_say (Int32.toInt64 r16) st17) (fun st18 => 
lt_ (x13 + 1) (fun x19 => 
some (.inl (x19, st18))))))
noncomputable def f_X8_digest (st : GS) : Option (Int64 × GS) := 
lt_ (sl st 1429) (fun st1 => 
bI1 (f_X8_lacks st1) (fun r2 => 
bI1 ((if r2 = 0 then bI1 (f_X8_sayPage st1) (fun st5 => 
some (st5)) else 
some (st1))) (fun (st4 : GS) => 
bI1 (lpx (uc2 f_X8_digest_L20) (0, st4)) (fun st12 => 
bI1 (lpx (uc2 f_X8_digest_L47) (0, st12)) (fun st20 => 
some (((gl st20), st20)))))))
set_option maxRecDepth 100000 in
set_option maxHeartbeats 4000000 in
theorem c_X8_digest (l : Launch) (D : va_G) (cy : ClassId) (h : Nat → Nat)  (st : GS) (r : Int64) (stF : GS) (hf : f_X8_digest st = some (r, stF)) : gMl l MSh D cy h yX8_digest cX8_digest 2 (some .long) 11 st [.ref (h 0)] r stF := by
  unfold f_X8_digest at hf
  refine gMl_of (by decide) (Nat.le_of_ble_eq_true rfl) ?_
  intro p e s m args below meth c A ls C hr hlocks G hl
  have C : gC p s m args c cX8_digest 2 "LaneOrderModel" MSh D cy h A := C
  have hl : lv_has ls 2 [(0, .ref (h 0))] := hl
  have hx := C.1
  have hb := C.2.1
  have hown := C.2.2.2.1
  have htb := C.2.2.2.2.1
  refine lv_aload_n hx hb dX8_digest_0 rfl (lv_at hl 0 rfl) ?_
  refine lv_ldc2 hx hb (v := 1429) hown (htb _ k5_197) dX8_digest_1 ?_
  refine g_putl C G cl8 (C8 ok8_0) (j := 39) (by decide) (F8_39 ok8_0) Msole k4_63 rfl rfl rfl dX8_digest_4 (fun st1 est1 H locs G => ?_)
  have hf := lt_some est1 hf
  refine lv_aload_n hx hb dX8_digest_7 rfl (lv_at hl 0 rfl) ?_
  obtain ⟨r2, hc8_2, hf⟩ := bI1_some hf
  refine g_callVi C G (As := []) (rest := []) (c_X8_lacks l D cy h st1 r2 hc8_2) cl8 rfl (C8 ok8_0) v_X8_232 (Nat.le_of_ble_eq_true rfl) (Nat.le_of_ble_eq_true rfl) rfl hl.1 rfl (Nat.le_of_ble_eq_true rfl) dX8_digest_8 ⟨Nat.zero_le _, Nat.zero_le _⟩ (fun H locs G => ?_)
  obtain ⟨st4, hj18, hf⟩ := bI1_some hf
  have K18 : ∀ (H : Heap) (locs : List Loc) (ls : Array Slot) , gG MSh D cy h A s st4 H locs → lv_has ls 2 [(0, .ref (h 0))] → W p l e (gR 11) s m args below meth c H locs 0 0 (MQ below (gQl MSh D cy h A r stF) args s 0 0 A) (F0 m 18 ls []) := by
    intro H locs ls G hl
    refine lv_iconst (v := 0) hx hb dX8_digest_18 (by decide) ?_
    refine lv_istore_n (lv' := [(1, .int 0), (0, .ref (h 0))]) hx hb dX8_digest_19 rfl hl (by decide) rfl (fun ls hl => ?_)
    obtain ⟨st12, hn, hf⟩ := bI1_some hf
    obtain ⟨n, hn⟩ := lpx_some hn
    have K45 : ∀ (H : Heap) (locs : List Loc) (ls : Array Slot), gG MSh D cy h A s st12 H locs → lv_has ls 2 [(0, .ref (h 0))] → W p l e (gR 11) s m args below meth c H locs 0 0 (MQ below (gQl MSh D cy h A r stF) args s 0 0 A) (F0 m 45 ls []) := by
      intro H locs ls G hl
      refine lv_iconst (v := 0) hx hb dX8_digest_45 (by decide) ?_
      refine lv_istore_n (lv' := [(1, .int 0), (0, .ref (h 0))]) hx hb dX8_digest_46 rfl hl (by decide) rfl (fun ls hl => ?_)
      obtain ⟨st20, hn, hf⟩ := bI1_some hf
      obtain ⟨n, hn⟩ := lpx_some hn
      have K69 : ∀ (H : Heap) (locs : List Loc) (ls : Array Slot), gG MSh D cy h A s st20 H locs → lv_has ls 2 [(0, .ref (h 0))] → W p l e (gR 11) s m args below meth c H locs 0 0 (MQ below (gQl MSh D cy h A r stF) args s 0 0 A) (F0 m 69 ls []) := by
        intro H locs ls G hl
        refine lv_aload_n hx hb dX8_digest_69 rfl (lv_at hl 0 rfl) ?_
        refine g_getl C G cl8 (C8 ok8_0) (j := 39) (by decide) (F8_39 ok8_0) k4_63 dX8_digest_70 ?_
        cases hf
        exact g_lret C G hr hlocks dX8_digest_73
      have L47 : ∀ (n : Nat) (x13 : Int32) (st14 : GS) (H : Heap) (locs : List Loc) (ls : Array Slot), gG MSh D cy h A s st14 H locs → lv_has ls 2 [(0, .ref (h 0)), (1, .int x13)] → lp (uc2 f_X8_digest_L47) n (x13, st14) = some (st20) → W p l e (gR 11) s m args below meth c H locs 0 0 (MQ below (gQl MSh D cy h A r stF) args s 0 0 A) (F0 m 47 ls []) := by
        intro n
        induction n with
        | zero =>
          intro x13 st14 H locs ls G hl hn
          cases hn
        | succ n ih =>
          intro x13 st14 H locs ls G hl hn
          obtain ⟨q, hf, hq1, hq2⟩ := lp_q hn
          have hf : f_X8_digest_L47 x13 st14 = some q := hf
          unfold f_X8_digest_L47 at hf
          refine lv_iload_n hx hb dX8_digest_47 rfl (lv_at hl 1 rfl) ?_
          refine lv_bipush (v := 8) hx hb dX8_digest_48 (by decide) ?_
          refine lv_icmp_ge (tgt := 69) hx hb dX8_digest_50 (by decide) (fun c15 => ?_) (fun c15 => ?_)
          · have hf := ifP c15 hf
            cases hf
            have hz9 := hq2 _ rfl
            cases hz9
            exact K69 _ _ _ G (lv_sub hl [0] rfl)
          · have hf := ifN c15 hf
            refine lv_aload_n hx hb dX8_digest_53 rfl (lv_at hl 0 rfl) ?_
            refine lv_aload_n hx hb dX8_digest_54 rfl (lv_at hl 0 rfl) ?_
            refine lv_iload_n hx hb dX8_digest_55 rfl (lv_at hl 1 rfl) ?_
            obtain ⟨r16, st17, hc56_17, hf⟩ := bI2_some hf
            refine g_callVi C G (As := [.int x13]) (rest := [.ref (h 0)]) (c_X8_countOf l D cy h x13 st14 r16 st17 hc56_17) cl8 rfl (C8 ok8_0) v_X8_305 (Nat.le_of_ble_eq_true rfl) (Nat.le_of_ble_eq_true rfl) rfl hl.1 rfl (Nat.le_of_ble_eq_true rfl) dX8_digest_56 ⟨Nat.zero_le _, Nat.zero_le _⟩ (fun H locs G => ?_)
            refine lv_i2l hx hb dX8_digest_59 rfl ?_
            obtain ⟨st18, hc60_18, hf⟩ := bI1_some hf
            refine g_callVv C G (As := [.long (Int32.toInt64 r16)]) (rest := []) (c_X8_say l D cy h (Int32.toInt64 r16) st17 st18 hc60_18) cl8 rfl (C8 ok8_0) v_X8_314 (Nat.le_of_ble_eq_true rfl) (Nat.le_of_ble_eq_true rfl) rfl hl.1 rfl (Nat.le_of_ble_eq_true rfl) dX8_digest_60 ⟨Nat.zero_le _, Nat.zero_le _⟩ (fun H locs G => ?_)
            obtain ⟨x19, ex19⟩ : ∃ z : Int32, z = (x13 + 1) := ⟨_, rfl⟩
            have hf := lt_some ex19 hf
            refine lv_iinc (v := x19) (lv' := [(1, .int x19), (0, .ref (h 0))]) hx hb dX8_digest_63 hl (k := 1) rfl (by rw [ex19]; rfl) (by decide) rfl (fun ls hl => ?_)
            refine lv_goto (tgt := 47) hx hb dX8_digest_66 (by decide) ?_
            cases hf
            exact ih _ _ _ _ _ G (lv_sub hl [1, 0] rfl) (hq1 _ rfl)
      exact L47 n _ _ _ _ _ G (lv_sub hl [1, 0] rfl) hn
    have L20 : ∀ (n : Nat) (x6 : Int32) (st7 : GS) (H : Heap) (locs : List Loc) (ls : Array Slot), gG MSh D cy h A s st7 H locs → lv_has ls 2 [(0, .ref (h 0)), (1, .int x6)] → lp (uc2 f_X8_digest_L20) n (x6, st7) = some (st12) → W p l e (gR 11) s m args below meth c H locs 0 0 (MQ below (gQl MSh D cy h A r stF) args s 0 0 A) (F0 m 20 ls []) := by
      intro n
      induction n with
      | zero =>
        intro x6 st7 H locs ls G hl hn
        cases hn
      | succ n ih =>
        intro x6 st7 H locs ls G hl hn
        obtain ⟨q, hf, hq1, hq2⟩ := lp_q hn
        have hf : f_X8_digest_L20 x6 st7 = some q := hf
        unfold f_X8_digest_L20 at hf
        refine lv_iload_n hx hb dX8_digest_20 rfl (lv_at hl 1 rfl) ?_
        refine lv_aload_n hx hb dX8_digest_21 rfl (lv_at hl 0 rfl) ?_
        refine g_geti C G cl8 (C8 ok8_0) (j := 1) (by decide) (F8_1 ok8_0) k4_25 dX8_digest_22 ?_
        refine lv_icmp_ge (tgt := 45) hx hb dX8_digest_25 (by decide) (fun c8 => ?_) (fun c8 => ?_)
        · have hf := ifP c8 hf
          cases hf
          have hz9 := hq2 _ rfl
          cases hz9
          exact K45 _ _ _ G (lv_sub hl [0] rfl)
        · have hf := ifN c8 hf
          refine lv_aload_n hx hb dX8_digest_28 rfl (lv_at hl 0 rfl) ?_
          refine lv_aload_n hx hb dX8_digest_29 rfl (lv_at hl 0 rfl) ?_
          refine g_getr (k := 1) C G cl8 (C8 ok8_0) (j := 0) (by decide) (F8_0 ok8_0) k4_24 dX8_digest_30 ?_
          refine lv_iload_n hx hb dX8_digest_33 rfl (lv_at hl 1 rfl) ?_
          obtain ⟨hi34_8, hf⟩ := gd_some hf
          refine g_iald C G (A8_0 ok8_0) (j := x6.toNatClampNeg) rfl hi34_8 dX8_digest_34 ?_
          refine lv_i2l hx hb dX8_digest_35 rfl ?_
          obtain ⟨st10, hc36_10, hf⟩ := bI1_some hf
          refine g_callVv C G (As := [.long (Int32.toInt64 (gt st7 1 (x6.toNatClampNeg)))]) (rest := []) (c_X8_say l D cy h (Int32.toInt64 (gt st7 1 (x6.toNatClampNeg))) st7 st10 hc36_10) cl8 rfl (C8 ok8_0) v_X8_314 (Nat.le_of_ble_eq_true rfl) (Nat.le_of_ble_eq_true rfl) rfl hl.1 rfl (Nat.le_of_ble_eq_true rfl) dX8_digest_36 ⟨Nat.zero_le _, Nat.zero_le _⟩ (fun H locs G => ?_)
          obtain ⟨x11, ex11⟩ : ∃ z : Int32, z = (x6 + 1) := ⟨_, rfl⟩
          have hf := lt_some ex11 hf
          refine lv_iinc (v := x11) (lv' := [(1, .int x11), (0, .ref (h 0))]) hx hb dX8_digest_39 hl (k := 1) rfl (by rw [ex11]; rfl) (by decide) rfl (fun ls hl => ?_)
          refine lv_goto (tgt := 20) hx hb dX8_digest_42 (by decide) ?_
          cases hf
          exact ih _ _ _ _ _ G (lv_sub hl [1, 0] rfl) (hq1 _ rfl)
    exact L20 n _ _ _ _ _ G (lv_sub hl [1, 0] rfl) hn
  clear hf
  refine lv_if_ne (tgt := 18) hx hb dX8_digest_11 (by decide) (fun c3 => ?_) (fun c3 => ?_)
  · have hf := ifN c3 hj18
    cases hf
    exact K18 _ _ _ G hl
  · have hf := ifP c3 hj18
    refine lv_aload_n hx hb dX8_digest_14 rfl (lv_at hl 0 rfl) ?_
    obtain ⟨st5, hc15_5, hf⟩ := bI1_some hf
    refine g_callVv C G (As := []) (rest := []) (c_X8_sayPage l D cy h st1 st5 hc15_5) cl8 rfl (C8 ok8_0) v_X8_320 (Nat.le_of_ble_eq_true rfl) (Nat.le_of_ble_eq_true rfl) rfl hl.1 rfl (Nat.le_of_ble_eq_true rfl) dX8_digest_15 ⟨Nat.zero_le _, Nat.zero_le _⟩ (fun H locs G => ?_)
    cases hf
    exact K18 _ _ _ G hl
