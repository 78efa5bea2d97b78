noncomputable def f_X8_shift (a1 : Int32) (a2 : Int32) (a3 : Int32) (st : GS) : Option (GS) := 
gd (4 * a1) 32 (gd (4 * a1) 32 (lt_ (sv st 3 ((4 * a1).toNatClampNeg) ((gt st 3 ((4 * a1).toNatClampNeg)) + a2)) (fun st3 => 
gd ((4 * a1) + 1) 32 (gd ((4 * a1) + 1) 32 (lt_ (sv st3 3 (((4 * a1) + 1).toNatClampNeg) ((gt st3 3 (((4 * a1) + 1).toNatClampNeg)) + a3)) (fun st6 => 
gd ((4 * a1) + 2) 32 (gd ((4 * a1) + 2) 32 (lt_ (sv st6 3 (((4 * a1) + 2).toNatClampNeg) ((gt st6 3 (((4 * a1) + 2).toNatClampNeg)) + a2)) (fun st9 => 
gd ((4 * a1) + 3) 32 (gd ((4 * a1) + 3) 32 (lt_ (sv st9 3 (((4 * a1) + 3).toNatClampNeg) ((gt st9 3 (((4 * a1) + 3).toNatClampNeg)) + a3)) (fun st12 => 
some (st12)))))))))))))
set_option maxRecDepth 100000 in
set_option maxHeartbeats 4000000 in
theorem c_X8_shift (l : Launch) (D : va_G) (cy : ClassId) (h : Nat → Nat) (a1 : Int32) (a2 : Int32) (a3 : Int32) (st : GS) (stF : GS) (hf : f_X8_shift a1 a2 a3 st = some stF) : gMv l MSh D cy h yX8_shift cX8_shift 4 none 1 st [.ref (h 0), .int a1, .int a2, .int a3] stF := by
  unfold f_X8_shift at hf
  refine gMv_of (by decide) (Nat.le_of_ble_eq_true rfl) ?_
  intro p e s m args below meth c A ls C hr hlocks G hl
  have C : gC p s m args c cX8_shift 4 "LaneOrderModel" MSh D cy h A := C
  have hl : lv_has ls 4 [(0, .ref (h 0)), (1, .int a1), (2, .int a2), (3, .int a3)] := hl
  have hx := C.1
  have hb := C.2.1
  have hown := C.2.2.2.1
  have htb := C.2.2.2.2.1
  refine lv_aload_n hx hb dX8_shift_0 rfl (lv_at hl 0 rfl) ?_
  refine g_getr (k := 3) C G cl8 (C8 ok8_0) (j := 8) (by decide) (F8_8 ok8_0) k4_32 dX8_shift_1 ?_
  refine lv_iconst (v := 4) hx hb dX8_shift_4 (by decide) ?_
  refine lv_iload_n hx hb dX8_shift_5 rfl (lv_at hl 1 rfl) ?_
  refine lv_imul hx hb dX8_shift_6 ?_
  refine lv_dup2_11 hx hb dX8_shift_7 rfl rfl ?_
  obtain ⟨hi8_0, hf⟩ := gd_some hf
  refine g_iald C G (A8_8 ok8_0) (j := (4 * a1).toNatClampNeg) rfl hi8_0 dX8_shift_8 ?_
  refine lv_iload_n hx hb dX8_shift_9 rfl (lv_at hl 2 rfl) ?_
  refine lv_iadd hx hb dX8_shift_10 ?_
  obtain ⟨hi11_1, hf⟩ := gd_some hf
  refine g_iast C G (A8_8 ok8_0) (j := (4 * a1).toNatClampNeg) rfl hi11_1 dX8_shift_11 (fun st3 est3 H locs G => ?_)
  have hf := lt_some est3 hf
  refine lv_aload_n hx hb dX8_shift_12 rfl (lv_at hl 0 rfl) ?_
  refine g_getr (k := 3) C G cl8 (C8 ok8_0) (j := 8) (by decide) (F8_8 ok8_0) k4_32 dX8_shift_13 ?_
  refine lv_iconst (v := 4) hx hb dX8_shift_16 (by decide) ?_
  refine lv_iload_n hx hb dX8_shift_17 rfl (lv_at hl 1 rfl) ?_
  refine lv_imul hx hb dX8_shift_18 ?_
  refine lv_iconst (v := 1) hx hb dX8_shift_19 (by decide) ?_
  refine lv_iadd hx hb dX8_shift_20 ?_
  refine lv_dup2_11 hx hb dX8_shift_21 rfl rfl ?_
  obtain ⟨hi22_3, hf⟩ := gd_some hf
  refine g_iald C G (A8_8 ok8_0) (j := ((4 * a1) + 1).toNatClampNeg) rfl hi22_3 dX8_shift_22 ?_
  refine lv_iload_n hx hb dX8_shift_23 rfl (lv_at hl 3 rfl) ?_
  refine lv_iadd hx hb dX8_shift_24 ?_
  obtain ⟨hi25_4, hf⟩ := gd_some hf
  refine g_iast C G (A8_8 ok8_0) (j := ((4 * a1) + 1).toNatClampNeg) rfl hi25_4 dX8_shift_25 (fun st6 est6 H locs G => ?_)
  have hf := lt_some est6 hf
  refine lv_aload_n hx hb dX8_shift_26 rfl (lv_at hl 0 rfl) ?_
  refine g_getr (k := 3) C G cl8 (C8 ok8_0) (j := 8) (by decide) (F8_8 ok8_0) k4_32 dX8_shift_27 ?_
  refine lv_iconst (v := 4) hx hb dX8_shift_30 (by decide) ?_
  refine lv_iload_n hx hb dX8_shift_31 rfl (lv_at hl 1 rfl) ?_
  refine lv_imul hx hb dX8_shift_32 ?_
  refine lv_iconst (v := 2) hx hb dX8_shift_33 (by decide) ?_
  refine lv_iadd hx hb dX8_shift_34 ?_
  refine lv_dup2_11 hx hb dX8_shift_35 rfl rfl ?_
  obtain ⟨hi36_6, hf⟩ := gd_some hf
  refine g_iald C G (A8_8 ok8_0) (j := ((4 * a1) + 2).toNatClampNeg) rfl hi36_6 dX8_shift_36 ?_
  refine lv_iload_n hx hb dX8_shift_37 rfl (lv_at hl 2 rfl) ?_
  refine lv_iadd hx hb dX8_shift_38 ?_
  obtain ⟨hi39_7, hf⟩ := gd_some hf
  refine g_iast C G (A8_8 ok8_0) (j := ((4 * a1) + 2).toNatClampNeg) rfl hi39_7 dX8_shift_39 (fun st9 est9 H locs G => ?_)
  have hf := lt_some est9 hf
  refine lv_aload_n hx hb dX8_shift_40 rfl (lv_at hl 0 rfl) ?_
  refine g_getr (k := 3) C G cl8 (C8 ok8_0) (j := 8) (by decide) (F8_8 ok8_0) k4_32 dX8_shift_41 ?_
  refine lv_iconst (v := 4) hx hb dX8_shift_44 (by decide) ?_
  refine lv_iload_n hx hb dX8_shift_45 rfl (lv_at hl 1 rfl) ?_
  refine lv_imul hx hb dX8_shift_46 ?_
  refine lv_iconst (v := 3) hx hb dX8_shift_47 (by decide) ?_
  refine lv_iadd hx hb dX8_shift_48 ?_
  refine lv_dup2_11 hx hb dX8_shift_49 rfl rfl ?_
  obtain ⟨hi50_9, hf⟩ := gd_some hf
  refine g_iald C G (A8_8 ok8_0) (j := ((4 * a1) + 3).toNatClampNeg) rfl hi50_9 dX8_shift_50 ?_
  refine lv_iload_n hx hb dX8_shift_51 rfl (lv_at hl 3 rfl) ?_
  refine lv_iadd hx hb dX8_shift_52 ?_
  obtain ⟨hi53_10, hf⟩ := gd_some hf
  refine g_iast C G (A8_8 ok8_0) (j := ((4 * a1) + 3).toNatClampNeg) rfl hi53_10 dX8_shift_53 (fun st12 est12 H locs G => ?_)
  have hf := lt_some est12 hf
  cases hf
  exact g_vret C G hr hlocks dX8_shift_54

noncomputable def f_X8_move (a1 : Int32) (a2 : Int32) (a3 : Int32) (st : GS) : Option (Int32 × GS) := 
bI1 (f_X8_isBox a1 st) (fun r1 => 
(if r1 = 0 then some (((-101), st)) else 
bI1 (f_X8_in (Int32.toInt64 a2) (-9) 9) (fun r3 => 
(if r3 = 0 then some (((-102), st)) else 
bI1 (f_X8_in (Int32.toInt64 a3) (-9) 9) (fun r5 => 
(if r5 = 0 then some (((-102), st)) else 
gd (4 * a1) 32 (bI1 ((if ((gt st 3 ((4 * a1).toNatClampNeg)) + a2) < 0 then some (0) else 
gd ((4 * a1) + 1) 32 ((if ((gt st 3 (((4 * a1) + 1).toNatClampNeg)) + a3) < 0 then some (0) else 
gd ((4 * a1) + 2) 32 ((if 999 < ((gt st 3 (((4 * a1) + 2).toNatClampNeg)) + a2) then some (0) else 
gd ((4 * a1) + 3) 32 ((if 999 < ((gt st 3 (((4 * a1) + 3).toNatClampNeg)) + a3) then some (0) else 
some (1))))))))) (fun (x9 : Int32) => 
(if x9 = 0 then some (((-102), st)) else 
bI1 (f_X8_shift a1 a2 a3 st) (fun st17 => 
bI1 (f_X8_layAll st17) (fun st18 => 
some (((gt st18 0 18), st18)))))))))))))
set_option maxRecDepth 100000 in
set_option maxHeartbeats 4000000 in
theorem c_X8_move (l : Launch) (D : va_G) (cy : ClassId) (h : Nat → Nat) (a1 : Int32) (a2 : Int32) (a3 : Int32) (st : GS) (r : Int32) (stF : GS) (hf : f_X8_move a1 a2 a3 st = some (r, stF)) : gMi l MSh D cy h yX8_move cX8_move 5 (some .int) 8 st [.ref (h 0), .int a1, .int a2, .int a3] r stF := by
  unfold f_X8_move at hf
  refine gMi_of (by decide) (Nat.le_of_ble_eq_true rfl) ?_
  intro p e s m args below meth c A ls C hr hlocks G hl
  have C : gC p s m args c cX8_move 5 "LaneOrderModel" MSh D cy h A := C
  have hl : lv_has ls 5 [(0, .ref (h 0)), (1, .int a1), (2, .int a2), (3, .int a3)] := hl
  have hx := C.1
  have hb := C.2.1
  have hown := C.2.2.2.1
  have htb := C.2.2.2.2.1
  refine lv_aload_n hx hb dX8_move_0 rfl (lv_at hl 0 rfl) ?_
  refine lv_iload_n hx hb dX8_move_1 rfl (lv_at hl 1 rfl) ?_
  obtain ⟨r1, hc2_1, hf⟩ := bI1_some hf
  refine g_callVi C G (As := [.int a1]) (rest := []) (c_X8_isBox l D cy h a1 st r1 hc2_1) cl8 rfl (C8 ok8_0) v_X8_213 (Nat.le_of_ble_eq_true rfl) (Nat.le_of_ble_eq_true rfl) rfl hl.1 rfl (Nat.le_of_ble_eq_true rfl) dX8_move_2 ⟨Nat.zero_le _, Nat.zero_le _⟩ (fun H locs G => ?_)
  refine lv_if_ne (tgt := 11) hx hb dX8_move_5 (by decide) (fun c2 => ?_) (fun c2 => ?_)
  · have hf := ifN c2 hf
    refine lv_iload_n hx hb dX8_move_11 rfl (lv_at hl 2 rfl) ?_
    refine lv_i2l hx hb dX8_move_12 rfl ?_
    refine lv_ldc2 hx hb (v := (-9)) hown (htb _ k5_85) dX8_move_13 ?_
    refine lv_ldc2 hx hb (v := 9) hown (htb _ k5_86) dX8_move_16 ?_
    obtain ⟨r3, hc19_3, hf⟩ := bI1_some hf
    refine g_callSi C G (As := [.long (Int32.toInt64 a2), .long (-9), .long 9]) (rest := []) (c_X8_in l D cy h (Int32.toInt64 a2) (-9) 9 st r3 hc19_3) v_X8_76 (Nat.le_of_ble_eq_true rfl) (Nat.le_of_ble_eq_true rfl) rfl hl.1 rfl (Nat.le_of_ble_eq_true rfl) dX8_move_19 ⟨Nat.zero_le _, Nat.zero_le _⟩ (fun H locs G => ?_)
    refine lv_if_eq (tgt := 39) hx hb dX8_move_22 (by decide) (fun c4 => ?_) (fun c4 => ?_)
    · have hf := ifP c4 hf
      refine lv_bipush (v := (-102)) hx hb dX8_move_39 (by decide) ?_
      cases hf
      exact g_iret C G hr hlocks dX8_move_41
    · have hf := ifN c4 hf
      refine lv_iload_n hx hb dX8_move_25 rfl (lv_at hl 3 rfl) ?_
      refine lv_i2l hx hb dX8_move_26 rfl ?_
      refine lv_ldc2 hx hb (v := (-9)) hown (htb _ k5_85) dX8_move_27 ?_
      refine lv_ldc2 hx hb (v := 9) hown (htb _ k5_86) dX8_move_30 ?_
      obtain ⟨r5, hc33_5, hf⟩ := bI1_some hf
      refine g_callSi C G (As := [.long (Int32.toInt64 a3), .long (-9), .long 9]) (rest := []) (c_X8_in l D cy h (Int32.toInt64 a3) (-9) 9 st r5 hc33_5) v_X8_76 (Nat.le_of_ble_eq_true rfl) (Nat.le_of_ble_eq_true rfl) rfl hl.1 rfl (Nat.le_of_ble_eq_true rfl) dX8_move_33 ⟨Nat.zero_le _, Nat.zero_le _⟩ (fun H locs G => ?_)
      refine lv_if_ne (tgt := 42) hx hb dX8_move_36 (by decide) (fun c6 => ?_) (fun c6 => ?_)
      · have hf := ifN c6 hf
        refine lv_aload_n hx hb dX8_move_42 rfl (lv_at hl 0 rfl) ?_
        refine g_getr (k := 3) C G cl8 (C8 ok8_0) (j := 8) (by decide) (F8_8 ok8_0) k4_32 dX8_move_43 ?_
        refine lv_iconst (v := 4) hx hb dX8_move_46 (by decide) ?_
        refine lv_iload_n hx hb dX8_move_47 rfl (lv_at hl 1 rfl) ?_
        refine lv_imul hx hb dX8_move_48 ?_
        obtain ⟨hi49_6, hf⟩ := gd_some hf
        refine g_iald C G (A8_8 ok8_0) (j := (4 * a1).toNatClampNeg) rfl hi49_6 dX8_move_49 ?_
        refine lv_iload_n hx hb dX8_move_50 rfl (lv_at hl 2 rfl) ?_
        refine lv_iadd hx hb dX8_move_51 ?_
        obtain ⟨x9, hj111, hf⟩ := bI1_some hf
        have K111 : ∀ (H : Heap) (locs : List Loc) (ls : Array Slot) , gG MSh D cy h A s st H locs → lv_has ls 5 [(0, .ref (h 0)), (1, .int a1), (2, .int a2), (3, .int a3)] → W p l e (gR 8) s m args below meth c H locs 0 0 (MQ below (gQi MSh D cy h A r stF) args s 0 0 A) (F0 m 111 ls [.int x9]) := by
          intro H locs ls G hl
          refine lv_istore (lv' := [(4, .int x9), (0, .ref (h 0)), (1, .int a1), (2, .int a2), (3, .int a3)]) hx hb dX8_move_111 hl (by decide) rfl (fun ls hl => ?_)
          refine lv_iload hx hb dX8_move_113 (lv_at hl 0 rfl) ?_
          refine lv_if_ne (tgt := 121) hx hb dX8_move_115 (by decide) (fun c16 => ?_) (fun c16 => ?_)
          · have hf := ifN c16 hf
            refine lv_aload_n hx hb dX8_move_121 rfl (lv_at hl 1 rfl) ?_
            refine lv_iload_n hx hb dX8_move_122 rfl (lv_at hl 2 rfl) ?_
            refine lv_iload_n hx hb dX8_move_123 rfl (lv_at hl 3 rfl) ?_
            refine lv_iload_n hx hb dX8_move_124 rfl (lv_at hl 4 rfl) ?_
            obtain ⟨st17, hc125_17, hf⟩ := bI1_some hf
            refine g_callVv C G (As := [.int a1, .int a2, .int a3]) (rest := []) (c_X8_shift l D cy h a1 a2 a3 st st17 hc125_17) cl8 rfl (C8 ok8_0) v_X8_240 (Nat.le_of_ble_eq_true rfl) (Nat.le_of_ble_eq_true rfl) rfl hl.1 rfl (Nat.le_of_ble_eq_true rfl) dX8_move_125 ⟨Nat.zero_le _, Nat.zero_le _⟩ (fun H locs G => ?_)
            refine lv_aload_n hx hb dX8_move_128 rfl (lv_at hl 1 rfl) ?_
            obtain ⟨st18, hc129_18, hf⟩ := bI1_some hf
            refine g_callVv C G (As := []) (rest := []) (c_X8_layAll l D cy h st17 st18 hc129_18) cl8 rfl (C8 ok8_0) v_X8_201 (Nat.le_of_ble_eq_true rfl) (Nat.le_of_ble_eq_true rfl) rfl hl.1 rfl (Nat.le_of_ble_eq_true rfl) dX8_move_129 ⟨Nat.zero_le _, Nat.zero_le _⟩ (fun H locs G => ?_)
            refine lv_aload_n hx hb dX8_move_132 rfl (lv_at hl 1 rfl) ?_
            refine g_geti C G cl8 (C8 ok8_0) (j := 18) (by decide) (F8_18 ok8_0) k4_42 dX8_move_133 ?_
            cases hf
            exact g_iret C G hr hlocks dX8_move_136
          · have hf := ifP c16 hf
            refine lv_bipush (v := (-102)) hx hb dX8_move_118 (by decide) ?_
            cases hf
            exact g_iret C G hr hlocks dX8_move_120
        clear hf
        refine lv_if_lt (tgt := 110) hx hb dX8_move_52 (by decide) (fun c8 => ?_) (fun c8 => ?_)
        · have hf := ifP c8 hj111
          refine lv_iconst (v := 0) hx hb dX8_move_110 (by decide) ?_
          cases hf
          exact K111 _ _ _ G hl
        · have hf := ifN c8 hj111
          refine lv_aload_n hx hb dX8_move_55 rfl (lv_at hl 0 rfl) ?_
          refine g_getr (k := 3) C G cl8 (C8 ok8_0) (j := 8) (by decide) (F8_8 ok8_0) k4_32 dX8_move_56 ?_
          refine lv_iconst (v := 4) hx hb dX8_move_59 (by decide) ?_
          refine lv_iload_n hx hb dX8_move_60 rfl (lv_at hl 1 rfl) ?_
          refine lv_imul hx hb dX8_move_61 ?_
          refine lv_iconst (v := 1) hx hb dX8_move_62 (by decide) ?_
          refine lv_iadd hx hb dX8_move_63 ?_
          obtain ⟨hi64_9, hf⟩ := gd_some hf
          refine g_iald C G (A8_8 ok8_0) (j := ((4 * a1) + 1).toNatClampNeg) rfl hi64_9 dX8_move_64 ?_
          refine lv_iload_n hx hb dX8_move_65 rfl (lv_at hl 3 rfl) ?_
          refine lv_iadd hx hb dX8_move_66 ?_
          refine lv_if_lt (tgt := 110) hx hb dX8_move_67 (by decide) (fun c11 => ?_) (fun c11 => ?_)
          · have hf := ifP c11 hf
            refine lv_iconst (v := 0) hx hb dX8_move_110 (by decide) ?_
            cases hf
            exact K111 _ _ _ G hl
          · have hf := ifN c11 hf
            refine lv_aload_n hx hb dX8_move_70 rfl (lv_at hl 0 rfl) ?_
            refine g_getr (k := 3) C G cl8 (C8 ok8_0) (j := 8) (by decide) (F8_8 ok8_0) k4_32 dX8_move_71 ?_
            refine lv_iconst (v := 4) hx hb dX8_move_74 (by decide) ?_
            refine lv_iload_n hx hb dX8_move_75 rfl (lv_at hl 1 rfl) ?_
            refine lv_imul hx hb dX8_move_76 ?_
            refine lv_iconst (v := 2) hx hb dX8_move_77 (by decide) ?_
            refine lv_iadd hx hb dX8_move_78 ?_
            obtain ⟨hi79_11, hf⟩ := gd_some hf
            refine g_iald C G (A8_8 ok8_0) (j := ((4 * a1) + 2).toNatClampNeg) rfl hi79_11 dX8_move_79 ?_
            refine lv_iload_n hx hb dX8_move_80 rfl (lv_at hl 2 rfl) ?_
            refine lv_iadd hx hb dX8_move_81 ?_
            refine lv_sipush (v := 999) hx hb dX8_move_82 (by decide) ?_
            refine lv_icmp_gt (tgt := 110) hx hb dX8_move_85 (by decide) (fun c13 => ?_) (fun c13 => ?_)
            · have hf := ifP c13 hf
              refine lv_iconst (v := 0) hx hb dX8_move_110 (by decide) ?_
              cases hf
              exact K111 _ _ _ G hl
            · have hf := ifN c13 hf
              refine lv_aload_n hx hb dX8_move_88 rfl (lv_at hl 0 rfl) ?_
              refine g_getr (k := 3) C G cl8 (C8 ok8_0) (j := 8) (by decide) (F8_8 ok8_0) k4_32 dX8_move_89 ?_
              refine lv_iconst (v := 4) hx hb dX8_move_92 (by decide) ?_
              refine lv_iload_n hx hb dX8_move_93 rfl (lv_at hl 1 rfl) ?_
              refine lv_imul hx hb dX8_move_94 ?_
              refine lv_iconst (v := 3) hx hb dX8_move_95 (by decide) ?_
              refine lv_iadd hx hb dX8_move_96 ?_
              obtain ⟨hi97_13, hf⟩ := gd_some hf
              refine g_iald C G (A8_8 ok8_0) (j := ((4 * a1) + 3).toNatClampNeg) rfl hi97_13 dX8_move_97 ?_
              refine lv_iload_n hx hb dX8_move_98 rfl (lv_at hl 3 rfl) ?_
              refine lv_iadd hx hb dX8_move_99 ?_
              refine lv_sipush (v := 999) hx hb dX8_move_100 (by decide) ?_
              refine lv_icmp_gt (tgt := 110) hx hb dX8_move_103 (by decide) (fun c15 => ?_) (fun c15 => ?_)
              · have hf := ifP c15 hf
                refine lv_iconst (v := 0) hx hb dX8_move_110 (by decide) ?_
                cases hf
                exact K111 _ _ _ G hl
              · have hf := ifN c15 hf
                refine lv_iconst (v := 1) hx hb dX8_move_106 (by decide) ?_
                refine lv_goto (tgt := 111) hx hb dX8_move_107 (by decide) ?_
                cases hf
                exact K111 _ _ _ G hl
      · have hf := ifP c6 hf
        refine lv_bipush (v := (-102)) hx hb dX8_move_39 (by decide) ?_
        cases hf
        exact g_iret C G hr hlocks dX8_move_41
  · have hf := ifP c2 hf
    refine lv_bipush (v := (-101)) hx hb dX8_move_8 (by decide) ?_
    cases hf
    exact g_iret C G hr hlocks dX8_move_10

noncomputable def f_X8_change (a1 : Int32) (a2 : Int32) (st : GS) : Option (Int32 × GS) := 
bI1 (f_X8_isBox a1 st) (fun r1 => 
(if r1 = 0 then some (((-101), st)) else 
bI1 (f_X8_in (Int32.toInt64 a2) 0 4) (fun r3 => 
(if r3 = 0 then some (((-102), st)) else 
gd a1 8 (lt_ (gt st 2 (a1.toNatClampNeg)) (fun x6 => 
gd a1 8 (lt_ (sv st 2 (a1.toNatClampNeg) a2) (fun st8 => 
some ((x6, st8))))))))))
set_option maxRecDepth 100000 in
set_option maxHeartbeats 4000000 in
theorem c_X8_change (l : Launch) (D : va_G) (cy : ClassId) (h : Nat → Nat) (a1 : Int32) (a2 : Int32) (st : GS) (r : Int32) (stF : GS) (hf : f_X8_change a1 a2 st = some (r, stF)) : gMi l MSh D cy h yX8_change cX8_change 4 (some .int) 3 st [.ref (h 0), .int a1, .int a2] r stF := by
  unfold f_X8_change at hf
  refine gMi_of (by decide) (Nat.le_of_ble_eq_true rfl) ?_
  intro p e s m args below meth c A ls C hr hlocks G hl
  have C : gC p s m args c cX8_change 4 "LaneOrderModel" MSh D cy h A := C
  have hl : lv_has ls 4 [(0, .ref (h 0)), (1, .int a1), (2, .int a2)] := hl
  have hx := C.1
  have hb := C.2.1
  have hown := C.2.2.2.1
  have htb := C.2.2.2.2.1
  refine lv_aload_n hx hb dX8_change_0 rfl (lv_at hl 0 rfl) ?_
  refine lv_iload_n hx hb dX8_change_1 rfl (lv_at hl 1 rfl) ?_
  obtain ⟨r1, hc2_1, hf⟩ := bI1_some hf
  refine g_callVi C G (As := [.int a1]) (rest := []) (c_X8_isBox l D cy h a1 st r1 hc2_1) cl8 rfl (C8 ok8_0) v_X8_213 (Nat.le_of_ble_eq_true rfl) (Nat.le_of_ble_eq_true rfl) rfl hl.1 rfl (Nat.le_of_ble_eq_true rfl) dX8_change_2 ⟨Nat.zero_le _, Nat.zero_le _⟩ (fun H locs G => ?_)
  refine lv_if_ne (tgt := 11) hx hb dX8_change_5 (by decide) (fun c2 => ?_) (fun c2 => ?_)
  · have hf := ifN c2 hf
    refine lv_iload_n hx hb dX8_change_11 rfl (lv_at hl 2 rfl) ?_
    refine lv_i2l hx hb dX8_change_12 rfl ?_
    refine lv_lconst (v := 0) hx hb dX8_change_13 rfl ?_
    refine lv_ldc2 hx hb (v := 4) hown (htb _ k5_40) dX8_change_14 ?_
    obtain ⟨r3, hc17_3, hf⟩ := bI1_some hf
    refine g_callSi C G (As := [.long (Int32.toInt64 a2), .long 0, .long 4]) (rest := []) (c_X8_in l D cy h (Int32.toInt64 a2) 0 4 st r3 hc17_3) v_X8_76 (Nat.le_of_ble_eq_true rfl) (Nat.le_of_ble_eq_true rfl) rfl hl.1 rfl (Nat.le_of_ble_eq_true rfl) dX8_change_17 ⟨Nat.zero_le _, Nat.zero_le _⟩ (fun H locs G => ?_)
    refine lv_if_ne (tgt := 26) hx hb dX8_change_20 (by decide) (fun c4 => ?_) (fun c4 => ?_)
    · have hf := ifN c4 hf
      refine lv_aload_n hx hb dX8_change_26 rfl (lv_at hl 0 rfl) ?_
      refine g_getr (k := 2) C G cl8 (C8 ok8_0) (j := 7) (by decide) (F8_7 ok8_0) k4_31 dX8_change_27 ?_
      refine lv_iload_n hx hb dX8_change_30 rfl (lv_at hl 1 rfl) ?_
      obtain ⟨hi31_4, hf⟩ := gd_some hf
      refine g_iald C G (A8_7 ok8_0) (j := a1.toNatClampNeg) rfl hi31_4 dX8_change_31 ?_
      refine lv_topi (fun x6 ex6 => ?_)
      have hf := lt_some ex6 hf
      refine lv_istore_n (lv' := [(3, .int x6), (0, .ref (h 0)), (1, .int a1), (2, .int a2)]) hx hb dX8_change_32 rfl hl (by decide) rfl (fun ls hl => ?_)
      refine lv_aload_n hx hb dX8_change_33 rfl (lv_at hl 1 rfl) ?_
      refine g_getr (k := 2) C G cl8 (C8 ok8_0) (j := 7) (by decide) (F8_7 ok8_0) k4_31 dX8_change_34 ?_
      refine lv_iload_n hx hb dX8_change_37 rfl (lv_at hl 2 rfl) ?_
      refine lv_iload_n hx hb dX8_change_38 rfl (lv_at hl 3 rfl) ?_
      obtain ⟨hi39_6, hf⟩ := gd_some hf
      refine g_iast C G (A8_7 ok8_0) (j := a1.toNatClampNeg) rfl hi39_6 dX8_change_39 (fun st8 est8 H locs G => ?_)
      have hf := lt_some est8 hf
      refine lv_iload_n hx hb dX8_change_40 rfl (lv_at hl 0 rfl) ?_
      cases hf
      exact g_iret C G hr hlocks dX8_change_41
    · have hf := ifP c4 hf
      refine lv_bipush (v := (-102)) hx hb dX8_change_23 (by decide) ?_
      cases hf
      exact g_iret C G hr hlocks dX8_change_25
  · have hf := ifP c2 hf
    refine lv_bipush (v := (-101)) hx hb dX8_change_8 (by decide) ?_
    cases hf
    exact g_iret C G hr hlocks dX8_change_10

noncomputable def f_X8_isRules_L21  (x4 : Int32) (x5 : Int32) (x6 : Int32) : Option ((Int32 × Int32 × Int32) ⊕ (Int32)) := 
(if x6 = 0 then some (.inr (x6)) else 
(if x5 ≤ 0 then some (.inr (x6)) else 
bI1 (f_X8_in (Int32.toInt64 (irem x5 10)) 1 4) (fun r9 => 
bI1 ((if r9 = 0 then some (0) else 
bI1 (f_X8_has x4 (irem x5 10)) (fun r12 => 
(if r12 = 0 then some (1) else 
some (0))))) (fun (x11 : Int32) => 
lt_ (x4 ||| (ishl 1 (irem x5 10))) (fun x14 => 
lt_ (x5 / 10) (fun x15 => 
some (.inl (x14, x15, x11))))))))
noncomputable def f_X8_isRules (a1 : Int32) : Option (Int32) := 
bI1 ((if a1 ≤ 0 then some (0) else 
(if 10000 ≤ a1 then some (0) else 
some (1)))) (fun (x2 : Int32) => 
bI1 (lpx (uc3 f_X8_isRules_L21) (0, a1, x2)) (fun x16 => 
gq (x16 = 0 ∨ x16 = 1) (some (x16))))
set_option maxRecDepth 100000 in
set_option maxHeartbeats 4000000 in
theorem c_X8_isRules (l : Launch) (D : va_G) (cy : ClassId) (h : Nat → Nat) (a1 : Int32) (st : GS) (r : Int32) (hf : f_X8_isRules a1 = some r) : gMi l MSh D cy h yX8_isRules cX8_isRules 4 (some .boolean) 2 st [.int a1] r st := by
  unfold f_X8_isRules at hf
  refine gMi_of (by decide) (Nat.le_of_ble_eq_true rfl) ?_
  intro p e s m args below meth c A ls C hr hlocks G hl
  have C : gC p s m args c cX8_isRules 4 "LaneOrderModel" MSh D cy h A := C
  have hl : lv_has ls 4 [(0, .int a1)] := hl
  have hx := C.1
  have hb := C.2.1
  have hown := C.2.2.2.1
  have htb := C.2.2.2.2.1
  refine lv_iconst (v := 0) hx hb dX8_isRules_0 (by decide) ?_
  refine lv_istore_n (lv' := [(1, .int 0), (0, .int a1)]) hx hb dX8_isRules_1 rfl hl (by decide) rfl (fun ls hl => ?_)
  refine lv_iload_n hx hb dX8_isRules_2 rfl (lv_at hl 1 rfl) ?_
  refine lv_istore_n (lv' := [(2, .int a1), (1, .int 0), (0, .int a1)]) hx hb dX8_isRules_3 rfl hl (by decide) rfl (fun ls hl => ?_)
  refine lv_iload_n hx hb dX8_isRules_4 rfl (lv_at hl 2 rfl) ?_
  obtain ⟨x2, hj20, hf⟩ := bI1_some hf
  have K20 : ∀ (H : Heap) (locs : List Loc) (ls : Array Slot) , gG MSh D cy h A s st H locs → lv_has ls 4 [(1, .int 0), (2, .int a1)] → W p l e (gR 2) s m args below meth c H locs 0 0 (MQ below (gQi MSh D cy h A r st) args s 0 0 A) (F0 m 20 ls [.int x2]) := by
    intro H locs ls G hl
    refine lv_istore_n (lv' := [(3, .int x2), (1, .int 0), (2, .int a1)]) hx hb dX8_isRules_20 rfl hl (by decide) rfl (fun ls hl => ?_)
    obtain ⟨x16, hn, hf⟩ := bI1_some hf
    obtain ⟨n, hn⟩ := lpx_some hn
    have K78 : ∀ (H : Heap) (locs : List Loc) (ls : Array Slot), gG MSh D cy h A s st H locs → lv_has ls 4 [(3, .int x16)] → W p l e (gR 2) s m args below meth c H locs 0 0 (MQ below (gQi MSh D cy h A r st) args s 0 0 A) (F0 m 78 ls []) := by
      intro H locs ls G hl
      refine lv_iload_n hx hb dX8_isRules_78 rfl (lv_at hl 0 rfl) ?_
      obtain ⟨hz, hf⟩ := gq_some hf
      cases hf
      exact g_zret C G hz hr hlocks dX8_isRules_79
    have L21 : ∀ (n : Nat) (x4 : Int32) (x5 : Int32) (x6 : Int32) (H : Heap) (locs : List Loc) (ls : Array Slot), gG MSh D cy h A s st H locs → lv_has ls 4 [(1, .int x4), (2, .int x5), (3, .int x6)] → lp (uc3 f_X8_isRules_L21) n (x4, x5, x6) = some (x16) → W p l e (gR 2) s m args below meth c H locs 0 0 (MQ below (gQi MSh D cy h A r st) args s 0 0 A) (F0 m 21 ls []) := by
      intro n
      induction n with
      | zero =>
        intro x4 x5 x6 H locs ls G hl hn
        cases hn
      | succ n ih =>
        intro x4 x5 x6 H locs ls G hl hn
        obtain ⟨q, hf, hq1, hq2⟩ := lp_q hn
        have hf : f_X8_isRules_L21 x4 x5 x6 = some q := hf
        unfold f_X8_isRules_L21 at hf
        refine lv_iload_n hx hb dX8_isRules_21 rfl (lv_at hl 2 rfl) ?_
        refine lv_if_eq (tgt := 78) hx hb dX8_isRules_22 (by decide) (fun c7 => ?_) (fun c7 => ?_)
        · have hf := ifP c7 hf
          cases hf
          have hz9 := hq2 _ rfl
          cases hz9
          exact K78 _ _ _ G (lv_sub hl [2] rfl)
        · have hf := ifN c7 hf
          refine lv_iload_n hx hb dX8_isRules_25 rfl (lv_at hl 1 rfl) ?_
          refine lv_if_le (tgt := 78) hx hb dX8_isRules_26 (by decide) (fun c8 => ?_) (fun c8 => ?_)
          · have hf := ifP c8 hf
            cases hf
            have hz9 := hq2 _ rfl
            cases hz9
            exact K78 _ _ _ G (lv_sub hl [2] rfl)
          · have hf := ifN c8 hf
            refine lv_iload_n hx hb dX8_isRules_29 rfl (lv_at hl 1 rfl) ?_
            refine lv_bipush (v := 10) hx hb dX8_isRules_30 (by decide) ?_
            refine g_irem C dX8_isRules_32 (by decide) ?_
            refine lv_i2l hx hb dX8_isRules_33 rfl ?_
            refine lv_lconst (v := 1) hx hb dX8_isRules_34 rfl ?_
            refine lv_ldc2 hx hb (v := 4) hown (htb _ k5_40) dX8_isRules_35 ?_
            obtain ⟨r9, hc38_9, hf⟩ := bI1_some hf
            refine g_callSi C G (As := [.long (Int32.toInt64 (irem x5 10)), .long 1, .long 4]) (rest := []) (c_X8_in l D cy h (Int32.toInt64 (irem x5 10)) 1 4 st r9 hc38_9) v_X8_76 (Nat.le_of_ble_eq_true rfl) (Nat.le_of_ble_eq_true rfl) rfl hl.1 rfl (Nat.le_of_ble_eq_true rfl) dX8_isRules_38 ⟨Nat.zero_le _, Nat.zero_le _⟩ (fun H locs G => ?_)
            obtain ⟨x11, hj60, hf⟩ := bI1_some hf
            have K60 : ∀ (H : Heap) (locs : List Loc) (ls : Array Slot) , gG MSh D cy h A s st H locs → lv_has ls 4 [(1, .int x4), (2, .int x5)] → W p l e (gR 2) s m args below meth c H locs 0 0 (MQ below (gQi MSh D cy h A r st) args s 0 0 A) (F0 m 60 ls [.int x11]) := by
              intro H locs ls G hl
              refine lv_istore_n (lv' := [(3, .int x11), (1, .int x4), (2, .int x5)]) hx hb dX8_isRules_60 rfl hl (by decide) rfl (fun ls hl => ?_)
              refine lv_iload_n hx hb dX8_isRules_61 rfl (lv_at hl 1 rfl) ?_
              refine lv_iconst (v := 1) hx hb dX8_isRules_62 (by decide) ?_
              refine lv_iload_n hx hb dX8_isRules_63 rfl (lv_at hl 2 rfl) ?_
              refine lv_bipush (v := 10) hx hb dX8_isRules_64 (by decide) ?_
              refine g_irem C dX8_isRules_66 (by decide) ?_
              refine g_ishl C dX8_isRules_67 ?_
              refine lv_ior hx hb dX8_isRules_68 ?_
              refine lv_topi (fun x14 ex14 => ?_)
              have hf := lt_some ex14 hf
              refine lv_istore_n (lv' := [(1, .int x14), (3, .int x11), (2, .int x5)]) hx hb dX8_isRules_69 rfl hl (by decide) rfl (fun ls hl => ?_)
              refine lv_iload_n hx hb dX8_isRules_70 rfl (lv_at hl 2 rfl) ?_
              refine lv_bipush (v := 10) hx hb dX8_isRules_71 (by decide) ?_
              refine lv_idiv hx hb dX8_isRules_73 (by decide) ?_
              refine lv_topi (fun x15 ex15 => ?_)
              have hf := lt_some ex15 hf
              refine lv_istore_n (lv' := [(2, .int x15), (1, .int x14), (3, .int x11)]) hx hb dX8_isRules_74 rfl hl (by decide) rfl (fun ls hl => ?_)
              refine lv_goto (tgt := 21) hx hb dX8_isRules_75 (by decide) ?_
              cases hf
              exact ih _ _ _ _ _ _ G (lv_sub hl [1, 0, 2] rfl) (hq1 _ rfl)
            clear hf
            refine lv_if_eq (tgt := 59) hx hb dX8_isRules_41 (by decide) (fun c10 => ?_) (fun c10 => ?_)
            · have hf := ifP c10 hj60
              refine lv_iconst (v := 0) hx hb dX8_isRules_59 (by decide) ?_
              cases hf
              exact K60 _ _ _ G (lv_sub hl [0, 1] rfl)
            · have hf := ifN c10 hj60
              refine lv_iload_n hx hb dX8_isRules_44 rfl (lv_at hl 0 rfl) ?_
              refine lv_iload_n hx hb dX8_isRules_45 rfl (lv_at hl 1 rfl) ?_
              refine lv_bipush (v := 10) hx hb dX8_isRules_46 (by decide) ?_
              refine g_irem C dX8_isRules_48 (by decide) ?_
              obtain ⟨r12, hc49_12, hf⟩ := bI1_some hf
              refine g_callSi C G (As := [.int x4, .int (irem x5 10)]) (rest := []) (c_X8_has l D cy h x4 (irem x5 10) st r12 hc49_12) v_X8_101 (Nat.le_of_ble_eq_true rfl) (Nat.le_of_ble_eq_true rfl) rfl hl.1 rfl (Nat.le_of_ble_eq_true rfl) dX8_isRules_49 ⟨Nat.zero_le _, Nat.zero_le _⟩ (fun H locs G => ?_)
              refine lv_if_ne (tgt := 59) hx hb dX8_isRules_52 (by decide) (fun c13 => ?_) (fun c13 => ?_)
              · have hf := ifN c13 hf
                refine lv_iconst (v := 0) hx hb dX8_isRules_59 (by decide) ?_
                cases hf
                exact K60 _ _ _ G (lv_sub hl [0, 1] rfl)
              · have hf := ifP c13 hf
                refine lv_iconst (v := 1) hx hb dX8_isRules_55 (by decide) ?_
                refine lv_goto (tgt := 60) hx hb dX8_isRules_56 (by decide) ?_
                cases hf
                exact K60 _ _ _ G (lv_sub hl [0, 1] rfl)
    exact L21 n _ _ _ _ _ _ G (lv_sub hl [1, 2, 0] rfl) hn
  clear hf
  refine lv_if_le (tgt := 19) hx hb dX8_isRules_5 (by decide) (fun c1 => ?_) (fun c1 => ?_)
  · have hf := ifP c1 hj20
    refine lv_iconst (v := 0) hx hb dX8_isRules_19 (by decide) ?_
    cases hf
    exact K20 _ _ _ G (lv_sub hl [1, 0] rfl)
  · have hf := ifN c1 hj20
    refine lv_iload_n hx hb dX8_isRules_8 rfl (lv_at hl 2 rfl) ?_
    refine lv_sipush (v := 10000) hx hb dX8_isRules_9 (by decide) ?_
    refine lv_icmp_ge (tgt := 19) hx hb dX8_isRules_12 (by decide) (fun c3 => ?_) (fun c3 => ?_)
    · have hf := ifP c3 hf
      refine lv_iconst (v := 0) hx hb dX8_isRules_19 (by decide) ?_
      cases hf
      exact K20 _ _ _ G (lv_sub hl [1, 0] rfl)
    · have hf := ifN c3 hf
      refine lv_iconst (v := 1) hx hb dX8_isRules_15 (by decide) ?_
      refine lv_goto (tgt := 20) hx hb dX8_isRules_16 (by decide) ?_
      cases hf
      exact K20 _ _ _ G (lv_sub hl [1, 0] rfl)

noncomputable def f_X8_rules_L29 (a1 : Int32) (x6 : Int32) (st7 : GS) : Option ((Int32 × GS) ⊕ (GS)) := 
(if x6 ≤ 0 then some (.inr (st7)) else 
gq (¬ x6 = 0) (lt_ (irem (a1 / x6) 10) (fun x9 => 
(if x9 ≤ 0 then lt_ (x6 / 10) (fun x11 => 
some (.inl (x11, st7))) else 
gd (gt st7 0 10) 4 (lt_ (sv st7 4 ((gt st7 0 10).toNatClampNeg) (irem x9 4)) (fun st13 => 
lt_ (sv st13 0 10 ((gt st13 0 10) + 1)) (fun st14 => 
lt_ (x6 / 10) (fun x15 => 
some (.inl (x15, st14))))))))))
noncomputable def f_X8_rules (a1 : Int32) (st : GS) : Option (Int32 × GS) := 
bI1 (f_X8_isRules a1) (fun r1 => 
(if r1 = 0 then some (((-102), st)) else 
bI1 (f_X8_lacks st) (fun r3 => 
(if r3 = 0 then lt_ (sv st 0 10 0) (fun st5 => 
bI1 (lpx (uc2 (f_X8_rules_L29 a1)) (1000, st5)) (fun st16 => 
some (((gt st16 0 10), st16)))) else 
some (((-103), st))))))
set_option maxRecDepth 100000 in
set_option maxHeartbeats 4000000 in
theorem c_X8_rules (l : Launch) (D : va_G) (cy : ClassId) (h : Nat → Nat) (a1 : Int32) (st : GS) (r : Int32) (stF : GS) (hf : f_X8_rules a1 st = some (r, stF)) : gMi l MSh D cy h yX8_rules cX8_rules 4 (some .int) 3 st [.ref (h 0), .int a1] r stF := by
  unfold f_X8_rules at hf
  refine gMi_of (by decide) (Nat.le_of_ble_eq_true rfl) ?_
  intro p e s m args below meth c A ls C hr hlocks G hl
  have C : gC p s m args c cX8_rules 4 "LaneOrderModel" MSh D cy h A := C
  have hl : lv_has ls 4 [(0, .ref (h 0)), (1, .int a1)] := hl
  have hx := C.1
  have hb := C.2.1
  have hown := C.2.2.2.1
  have htb := C.2.2.2.2.1
  refine lv_iload_n hx hb dX8_rules_0 rfl (lv_at hl 1 rfl) ?_
  obtain ⟨r1, hc1_1, hf⟩ := bI1_some hf
  refine g_callSi C G (As := [.int a1]) (rest := []) (c_X8_isRules l D cy h a1 st r1 hc1_1) v_X8_244 (Nat.le_of_ble_eq_true rfl) (Nat.le_of_ble_eq_true rfl) rfl hl.1 rfl (Nat.le_of_ble_eq_true rfl) dX8_rules_1 ⟨Nat.zero_le _, Nat.zero_le _⟩ (fun H locs G => ?_)
  refine lv_if_ne (tgt := 10) hx hb dX8_rules_4 (by decide) (fun c2 => ?_) (fun c2 => ?_)
  · have hf := ifN c2 hf
    refine lv_aload_n hx hb dX8_rules_10 rfl (lv_at hl 0 rfl) ?_
    obtain ⟨r3, hc11_3, hf⟩ := bI1_some hf
    refine g_callVi C G (As := []) (rest := []) (c_X8_lacks l D cy h st r3 hc11_3) cl8 rfl (C8 ok8_0) v_X8_232 (Nat.le_of_ble_eq_true rfl) (Nat.le_of_ble_eq_true rfl) rfl hl.1 rfl (Nat.le_of_ble_eq_true rfl) dX8_rules_11 ⟨Nat.zero_le _, Nat.zero_le _⟩ (fun H locs G => ?_)
    refine lv_if_eq (tgt := 20) hx hb dX8_rules_14 (by decide) (fun c4 => ?_) (fun c4 => ?_)
    · have hf := ifP c4 hf
      refine lv_aload_n hx hb dX8_rules_20 rfl (lv_at hl 0 rfl) ?_
      refine lv_iconst (v := 0) hx hb dX8_rules_21 (by decide) ?_
      refine g_puti C G cl8 (C8 ok8_0) (j := 10) (by decide) (F8_10 ok8_0) k4_34 rfl rfl rfl dX8_rules_22 (fun st5 est5 H locs G => ?_)
      have hf := lt_some est5 hf
      refine lv_sipush (v := 1000) hx hb dX8_rules_25 (by decide) ?_
      refine lv_istore_n (lv' := [(2, .int 1000), (0, .ref (h 0)), (1, .int a1)]) hx hb dX8_rules_28 rfl hl (by decide) rfl (fun ls hl => ?_)
      obtain ⟨st16, hn, hf⟩ := bI1_some hf
      obtain ⟨n, hn⟩ := lpx_some hn
      have K74 : ∀ (H : Heap) (locs : List Loc) (ls : Array Slot), gG MSh D cy h A s st16 H locs → lv_has ls 4 [(0, .ref (h 0))] → W p l e (gR 3) s m args below meth c H locs 0 0 (MQ below (gQi MSh D cy h A r stF) args s 0 0 A) (F0 m 74 ls []) := by
        intro H locs ls G hl
        refine lv_aload_n hx hb dX8_rules_74 rfl (lv_at hl 0 rfl) ?_
        refine g_geti C G cl8 (C8 ok8_0) (j := 10) (by decide) (F8_10 ok8_0) k4_34 dX8_rules_75 ?_
        cases hf
        exact g_iret C G hr hlocks dX8_rules_78
      have L29 : ∀ (n : Nat) (x6 : Int32) (st7 : GS) (H : Heap) (locs : List Loc) (ls : Array Slot), gG MSh D cy h A s st7 H locs → lv_has ls 4 [(0, .ref (h 0)), (1, .int a1), (2, .int x6)] → lp (uc2 (f_X8_rules_L29 a1)) n (x6, st7) = some (st16) → W p l e (gR 3) s m args below meth c H locs 0 0 (MQ below (gQi MSh D cy h A r stF) args s 0 0 A) (F0 m 29 ls []) := by
        intro n
        induction n with
        | zero =>
          intro x6 st7 H locs ls G hl hn
          cases hn
        | succ n ih =>
          intro x6 st7 H locs ls G hl hn
          obtain ⟨q, hf, hq1, hq2⟩ := lp_q hn
          have hf : f_X8_rules_L29 a1 x6 st7 = some q := hf
          unfold f_X8_rules_L29 at hf
          refine lv_iload_n hx hb dX8_rules_29 rfl (lv_at hl 2 rfl) ?_
          refine lv_if_le (tgt := 74) hx hb dX8_rules_30 (by decide) (fun c8 => ?_) (fun c8 => ?_)
          · have hf := ifP c8 hf
            cases hf
            have hz9 := hq2 _ rfl
            cases hz9
            exact K74 _ _ _ G (lv_sub hl [0] rfl)
          · have hf := ifN c8 hf
            refine lv_iload_n hx hb dX8_rules_33 rfl (lv_at hl 1 rfl) ?_
            refine lv_iload_n hx hb dX8_rules_34 rfl (lv_at hl 2 rfl) ?_
            obtain ⟨hn35, hf⟩ := gq_some hf
            refine lv_idiv hx hb dX8_rules_35 hn35 ?_
            refine lv_bipush (v := 10) hx hb dX8_rules_36 (by decide) ?_
            refine g_irem C dX8_rules_38 (by decide) ?_
            refine lv_topi (fun x9 ex9 => ?_)
            have hf := lt_some ex9 hf
            refine lv_istore_n (lv' := [(3, .int x9), (0, .ref (h 0)), (1, .int a1), (2, .int x6)]) hx hb dX8_rules_39 rfl hl (by decide) rfl (fun ls hl => ?_)
            refine lv_iload_n hx hb dX8_rules_40 rfl (lv_at hl 0 rfl) ?_
            refine lv_if_le (tgt := 66) hx hb dX8_rules_41 (by decide) (fun c10 => ?_) (fun c10 => ?_)
            · have hf := ifP c10 hf
              refine lv_iload_n hx hb dX8_rules_66 rfl (lv_at hl 3 rfl) ?_
              refine lv_bipush (v := 10) hx hb dX8_rules_67 (by decide) ?_
              refine lv_idiv hx hb dX8_rules_69 (by decide) ?_
              refine lv_topi (fun x11 ex11 => ?_)
              have hf := lt_some ex11 hf
              refine lv_istore_n (lv' := [(2, .int x11), (3, .int x9), (0, .ref (h 0)), (1, .int a1)]) hx hb dX8_rules_70 rfl hl (by decide) rfl (fun ls hl => ?_)
              refine lv_goto (tgt := 29) hx hb dX8_rules_71 (by decide) ?_
              cases hf
              exact ih _ _ _ _ _ G (lv_sub hl [2, 3, 0] rfl) (hq1 _ rfl)
            · have hf := ifN c10 hf
              refine lv_aload_n hx hb dX8_rules_44 rfl (lv_at hl 1 rfl) ?_
              refine g_getr (k := 4) C G cl8 (C8 ok8_0) (j := 9) (by decide) (F8_9 ok8_0) k4_33 dX8_rules_45 ?_
              refine lv_aload_n hx hb dX8_rules_48 rfl (lv_at hl 1 rfl) ?_
              refine g_geti C G cl8 (C8 ok8_0) (j := 10) (by decide) (F8_10 ok8_0) k4_34 dX8_rules_49 ?_
              refine lv_iload_n hx hb dX8_rules_52 rfl (lv_at hl 0 rfl) ?_
              refine lv_iconst (v := 4) hx hb dX8_rules_53 (by decide) ?_
              refine g_irem C dX8_rules_54 (by decide) ?_
              obtain ⟨hi55_11, hf⟩ := gd_some hf
              refine g_iast C G (A8_9 ok8_0) (j := (gt st7 0 10).toNatClampNeg) rfl hi55_11 dX8_rules_55 (fun st13 est13 H locs G => ?_)
              have hf := lt_some est13 hf
              refine lv_aload_n hx hb dX8_rules_56 rfl (lv_at hl 1 rfl) ?_
              refine lv_dup hx hb dX8_rules_57 rfl ?_
              refine g_geti C G cl8 (C8 ok8_0) (j := 10) (by decide) (F8_10 ok8_0) k4_34 dX8_rules_58 ?_
              refine lv_iconst (v := 1) hx hb dX8_rules_61 (by decide) ?_
              refine lv_iadd hx hb dX8_rules_62 ?_
              refine g_puti C G cl8 (C8 ok8_0) (j := 10) (by decide) (F8_10 ok8_0) k4_34 rfl rfl rfl dX8_rules_63 (fun st14 est14 H locs G => ?_)
              have hf := lt_some est14 hf
              refine lv_iload_n hx hb dX8_rules_66 rfl (lv_at hl 3 rfl) ?_
              refine lv_bipush (v := 10) hx hb dX8_rules_67 (by decide) ?_
              refine lv_idiv hx hb dX8_rules_69 (by decide) ?_
              refine lv_topi (fun x15 ex15 => ?_)
              have hf := lt_some ex15 hf
              refine lv_istore_n (lv' := [(2, .int x15), (3, .int x9), (0, .ref (h 0)), (1, .int a1)]) hx hb dX8_rules_70 rfl hl (by decide) rfl (fun ls hl => ?_)
              refine lv_goto (tgt := 29) hx hb dX8_rules_71 (by decide) ?_
              cases hf
              exact ih _ _ _ _ _ G (lv_sub hl [2, 3, 0] rfl) (hq1 _ rfl)
      exact L29 n _ _ _ _ _ G (lv_sub hl [1, 2, 0] rfl) hn
    · have hf := ifN c4 hf
      refine lv_bipush (v := (-103)) hx hb dX8_rules_17 (by decide) ?_
      cases hf
      exact g_iret C G hr hlocks dX8_rules_19
  · have hf := ifP c2 hf
    refine lv_bipush (v := (-102)) hx hb dX8_rules_7 (by decide) ?_
    cases hf
    exact g_iret C G hr hlocks dX8_rules_9

noncomputable def f_X8_greatest_L4 (st : GS) (x1 : Int32) (x2 : Int32) : Option ((Int32 × Int32) ⊕ (Int32)) := 
(if (4 * (gt st 0 5)) ≤ x2 then some (.inr (x1)) else 
gd x2 32 ((if (gt st 3 (x2.toNatClampNeg)) ≤ x1 then lt_ (x2 + 1) (fun x6 => 
some (.inl (x1, x6))) else 
gd x2 32 (lt_ (gt st 3 (x2.toNatClampNeg)) (fun x8 => 
lt_ (x2 + 1) (fun x9 => 
some (.inl (x8, x9))))))))
noncomputable def f_X8_greatest (st : GS) : Option (Int32) := 
bI1 (lpx (uc2 (f_X8_greatest_L4 st)) (0, 0)) (fun x10 => 
some (x10))
set_option maxRecDepth 100000 in
set_option maxHeartbeats 4000000 in
theorem c_X8_greatest (l : Launch) (D : va_G) (cy : ClassId) (h : Nat → Nat)  (st : GS) (r : Int32) (hf : f_X8_greatest st = some r) : gMi l MSh D cy h yX8_greatest cX8_greatest 3 (some .int) 1 st [.ref (h 0)] r st := by
  unfold f_X8_greatest at hf
  refine gMi_of (by decide) (Nat.le_of_ble_eq_true rfl) ?_
  intro p e s m args below meth c A ls C hr hlocks G hl
  have C : gC p s m args c cX8_greatest 3 "LaneOrderModel" MSh D cy h A := C
  have hl : lv_has ls 3 [(0, .ref (h 0))] := hl
  have hx := C.1
  have hb := C.2.1
  have hown := C.2.2.2.1
  have htb := C.2.2.2.2.1
  refine lv_iconst (v := 0) hx hb dX8_greatest_0 (by decide) ?_
  refine lv_istore_n (lv' := [(1, .int 0), (0, .ref (h 0))]) hx hb dX8_greatest_1 rfl hl (by decide) rfl (fun ls hl => ?_)
  refine lv_iconst (v := 0) hx hb dX8_greatest_2 (by decide) ?_
  refine lv_istore_n (lv' := [(2, .int 0), (1, .int 0), (0, .ref (h 0))]) hx hb dX8_greatest_3 rfl hl (by decide) rfl (fun ls hl => ?_)
  obtain ⟨x10, hn, hf⟩ := bI1_some hf
  obtain ⟨n, hn⟩ := lpx_some hn
  have K41 : ∀ (H : Heap) (locs : List Loc) (ls : Array Slot), gG MSh D cy h A s st H locs → lv_has ls 3 [(1, .int x10)] → W p l e (gR 1) s m args below meth c H locs 0 0 (MQ below (gQi MSh D cy h A r st) args s 0 0 A) (F0 m 41 ls []) := by
    intro H locs ls G hl
    refine lv_iload_n hx hb dX8_greatest_41 rfl (lv_at hl 0 rfl) ?_
    cases hf
    exact g_iret C G hr hlocks dX8_greatest_42
  have L4 : ∀ (n : Nat) (x1 : Int32) (x2 : Int32) (H : Heap) (locs : List Loc) (ls : Array Slot), gG MSh D cy h A s st H locs → lv_has ls 3 [(0, .ref (h 0)), (1, .int x1), (2, .int x2)] → lp (uc2 (f_X8_greatest_L4 st)) n (x1, x2) = some (x10) → W p l e (gR 1) s m args below meth c H locs 0 0 (MQ below (gQi MSh D cy h A r st) args s 0 0 A) (F0 m 4 ls []) := by
    intro n
    induction n with
    | zero =>
      intro x1 x2 H locs ls G hl hn
      cases hn
    | succ n ih =>
      intro x1 x2 H locs ls G hl hn
      obtain ⟨q, hf, hq1, hq2⟩ := lp_q hn
      have hf : f_X8_greatest_L4 st x1 x2 = some q := hf
      unfold f_X8_greatest_L4 at hf
      refine lv_iload_n hx hb dX8_greatest_4 rfl (lv_at hl 2 rfl) ?_
      refine lv_iconst (v := 4) hx hb dX8_greatest_5 (by decide) ?_
      refine lv_aload_n hx hb dX8_greatest_6 rfl (lv_at hl 0 rfl) ?_
      refine g_geti C G cl8 (C8 ok8_0) (j := 5) (by decide) (F8_5 ok8_0) k4_29 dX8_greatest_7 ?_
      refine lv_imul hx hb dX8_greatest_10 ?_
      refine lv_icmp_ge (tgt := 41) hx hb dX8_greatest_11 (by decide) (fun c3 => ?_) (fun c3 => ?_)
      · have hf := ifP c3 hf
        cases hf
        have hz9 := hq2 _ rfl
        cases hz9
        exact K41 _ _ _ G (lv_sub hl [1] rfl)
      · have hf := ifN c3 hf
        refine lv_aload_n hx hb dX8_greatest_14 rfl (lv_at hl 0 rfl) ?_
        refine g_getr (k := 3) C G cl8 (C8 ok8_0) (j := 8) (by decide) (F8_8 ok8_0) k4_32 dX8_greatest_15 ?_
        refine lv_iload_n hx hb dX8_greatest_18 rfl (lv_at hl 2 rfl) ?_
        obtain ⟨hi19_3, hf⟩ := gd_some hf
        refine g_iald C G (A8_8 ok8_0) (j := x2.toNatClampNeg) rfl hi19_3 dX8_greatest_19 ?_
        refine lv_iload_n hx hb dX8_greatest_20 rfl (lv_at hl 1 rfl) ?_
        refine lv_icmp_le (tgt := 33) hx hb dX8_greatest_21 (by decide) (fun c5 => ?_) (fun c5 => ?_)
        · have hf := ifP c5 hf
          refine lv_iload_n hx hb dX8_greatest_33 rfl (lv_at hl 1 rfl) ?_
          refine lv_istore_n (lv' := [(1, .int x1), (0, .ref (h 0)), (2, .int x2)]) hx hb dX8_greatest_34 rfl hl (by decide) rfl (fun ls hl => ?_)
          obtain ⟨x6, ex6⟩ : ∃ z : Int32, z = (x2 + 1) := ⟨_, rfl⟩
          have hf := lt_some ex6 hf
          refine lv_iinc (v := x6) (lv' := [(2, .int x6), (1, .int x1), (0, .ref (h 0))]) hx hb dX8_greatest_35 hl (k := 2) rfl (by rw [ex6]; rfl) (by decide) rfl (fun ls hl => ?_)
          refine lv_goto (tgt := 4) hx hb dX8_greatest_38 (by decide) ?_
          cases hf
          exact ih _ _ _ _ _ G (lv_sub hl [2, 1, 0] rfl) (hq1 _ rfl)
        · have hf := ifN c5 hf
          refine lv_aload_n hx hb dX8_greatest_24 rfl (lv_at hl 0 rfl) ?_
          refine g_getr (k := 3) C G cl8 (C8 ok8_0) (j := 8) (by decide) (F8_8 ok8_0) k4_32 dX8_greatest_25 ?_
          refine lv_iload_n hx hb dX8_greatest_28 rfl (lv_at hl 2 rfl) ?_
          obtain ⟨hi29_6, hf⟩ := gd_some hf
          refine g_iald C G (A8_8 ok8_0) (j := x2.toNatClampNeg) rfl hi29_6 dX8_greatest_29 ?_
          refine lv_goto (tgt := 34) hx hb dX8_greatest_30 (by decide) ?_
          refine lv_topi (fun x8 ex8 => ?_)
          have hf := lt_some ex8 hf
          refine lv_istore_n (lv' := [(1, .int x8), (0, .ref (h 0)), (2, .int x2)]) hx hb dX8_greatest_34 rfl hl (by decide) rfl (fun ls hl => ?_)
          obtain ⟨x9, ex9⟩ : ∃ z : Int32, z = (x2 + 1) := ⟨_, rfl⟩
          have hf := lt_some ex9 hf
          refine lv_iinc (v := x9) (lv' := [(2, .int x9), (1, .int x8), (0, .ref (h 0))]) hx hb dX8_greatest_35 hl (k := 2) rfl (by rw [ex9]; rfl) (by decide) rfl (fun ls hl => ?_)
          refine lv_goto (tgt := 4) hx hb dX8_greatest_38 (by decide) ?_
          cases hf
          exact ih _ _ _ _ _ G (lv_sub hl [2, 1, 0] rfl) (hq1 _ rfl)
  exact L4 n _ _ _ _ _ G (lv_sub hl [2, 1, 0] rfl) hn

noncomputable def f_X8_scale_L39 (a1 : Int32) (x7 : Int32) (st8 : GS) : Option ((Int32 × GS) ⊕ (GS)) := 
(if (4 * (gt st8 0 5)) ≤ x7 then some (.inr (st8)) else 
gd x7 32 (gd x7 32 (lt_ (sv st8 3 (x7.toNatClampNeg) ((gt st8 3 (x7.toNatClampNeg)) * a1)) (fun st12 => 
lt_ (x7 + 1) (fun x13 => 
some (.inl (x13, st12)))))))
noncomputable def f_X8_scale (a1 : Int32) (st : GS) : Option (Int32 × GS) := 
bI1 (f_X8_in (Int32.toInt64 a1) 1 5) (fun r1 => 
(if r1 = 0 then some (((-102), st)) else 
bI1 (f_X8_greatest st) (fun r3 => 
(if (r3 * a1) ≤ 999 then bI1 (f_X8_lacks st) (fun r5 => 
(if r5 = 0 then bI1 (lpx (uc2 (f_X8_scale_L39 a1)) (0, st)) (fun st14 => 
bI1 (f_X8_greatest st14) (fun r15 => 
some ((r15, st14)))) else 
some (((-103), st)))) else 
some (((-102), st))))))
set_option maxRecDepth 100000 in
set_option maxHeartbeats 4000000 in
theorem c_X8_scale (l : Launch) (D : va_G) (cy : ClassId) (h : Nat → Nat) (a1 : Int32) (st : GS) (r : Int32) (stF : GS) (hf : f_X8_scale a1 st = some (r, stF)) : gMi l MSh D cy h yX8_scale cX8_scale 3 (some .int) 2 st [.ref (h 0), .int a1] r stF := by
  unfold f_X8_scale at hf
  refine gMi_of (by decide) (Nat.le_of_ble_eq_true rfl) ?_
  intro p e s m args below meth c A ls C hr hlocks G hl
  have C : gC p s m args c cX8_scale 3 "LaneOrderModel" MSh D cy h A := C
  have hl : lv_has ls 3 [(0, .ref (h 0)), (1, .int a1)] := hl
  have hx := C.1
  have hb := C.2.1
  have hown := C.2.2.2.1
  have htb := C.2.2.2.2.1
  refine lv_iload_n hx hb dX8_scale_0 rfl (lv_at hl 1 rfl) ?_
  refine lv_i2l hx hb dX8_scale_1 rfl ?_
  refine lv_lconst (v := 1) hx hb dX8_scale_2 rfl ?_
  refine lv_ldc2 hx hb (v := 5) hown (htb _ k5_106) dX8_scale_3 ?_
  obtain ⟨r1, hc6_1, hf⟩ := bI1_some hf
  refine g_callSi C G (As := [.long (Int32.toInt64 a1), .long 1, .long 5]) (rest := []) (c_X8_in l D cy h (Int32.toInt64 a1) 1 5 st r1 hc6_1) v_X8_76 (Nat.le_of_ble_eq_true rfl) (Nat.le_of_ble_eq_true rfl) rfl hl.1 rfl (Nat.le_of_ble_eq_true rfl) dX8_scale_6 ⟨Nat.zero_le _, Nat.zero_le _⟩ (fun H locs G => ?_)
  refine lv_if_eq (tgt := 24) hx hb dX8_scale_9 (by decide) (fun c2 => ?_) (fun c2 => ?_)
  · have hf := ifP c2 hf
    refine lv_bipush (v := (-102)) hx hb dX8_scale_24 (by decide) ?_
    cases hf
    exact g_iret C G hr hlocks dX8_scale_26
  · have hf := ifN c2 hf
    refine lv_aload_n hx hb dX8_scale_12 rfl (lv_at hl 0 rfl) ?_
    obtain ⟨r3, hc13_3, hf⟩ := bI1_some hf
    refine g_callVi C G (As := []) (rest := []) (c_X8_greatest l D cy h st r3 hc13_3) cl8 rfl (C8 ok8_0) v_X8_249 (Nat.le_of_ble_eq_true rfl) (Nat.le_of_ble_eq_true rfl) rfl hl.1 rfl (Nat.le_of_ble_eq_true rfl) dX8_scale_13 ⟨Nat.zero_le _, Nat.zero_le _⟩ (fun H locs G => ?_)
    refine lv_iload_n hx hb dX8_scale_16 rfl (lv_at hl 1 rfl) ?_
    refine lv_imul hx hb dX8_scale_17 ?_
    refine lv_sipush (v := 999) hx hb dX8_scale_18 (by decide) ?_
    refine lv_icmp_le (tgt := 27) hx hb dX8_scale_21 (by decide) (fun c4 => ?_) (fun c4 => ?_)
    · have hf := ifP c4 hf
      refine lv_aload_n hx hb dX8_scale_27 rfl (lv_at hl 0 rfl) ?_
      obtain ⟨r5, hc28_5, hf⟩ := bI1_some hf
      refine g_callVi C G (As := []) (rest := []) (c_X8_lacks l D cy h st r5 hc28_5) cl8 rfl (C8 ok8_0) v_X8_232 (Nat.le_of_ble_eq_true rfl) (Nat.le_of_ble_eq_true rfl) rfl hl.1 rfl (Nat.le_of_ble_eq_true rfl) dX8_scale_28 ⟨Nat.zero_le _, Nat.zero_le _⟩ (fun H locs G => ?_)
      refine lv_if_eq (tgt := 37) hx hb dX8_scale_31 (by decide) (fun c6 => ?_) (fun c6 => ?_)
      · have hf := ifP c6 hf
        refine lv_iconst (v := 0) hx hb dX8_scale_37 (by decide) ?_
        refine lv_istore_n (lv' := [(2, .int 0), (0, .ref (h 0)), (1, .int a1)]) hx hb dX8_scale_38 rfl hl (by decide) rfl (fun ls hl => ?_)
        obtain ⟨st14, hn, hf⟩ := bI1_some hf
        obtain ⟨n, hn⟩ := lpx_some hn
        have K65 : ∀ (H : Heap) (locs : List Loc) (ls : Array Slot), gG MSh D cy h A s st14 H locs → lv_has ls 3 [(0, .ref (h 0))] → W p l e (gR 2) s m args below meth c H locs 0 0 (MQ below (gQi MSh D cy h A r stF) args s 0 0 A) (F0 m 65 ls []) := by
          intro H locs ls G hl
          refine lv_aload_n hx hb dX8_scale_65 rfl (lv_at hl 0 rfl) ?_
          obtain ⟨r15, hc66_15, hf⟩ := bI1_some hf
          refine g_callVi C G (As := []) (rest := []) (c_X8_greatest l D cy h st14 r15 hc66_15) cl8 rfl (C8 ok8_0) v_X8_249 (Nat.le_of_ble_eq_true rfl) (Nat.le_of_ble_eq_true rfl) rfl hl.1 rfl (Nat.le_of_ble_eq_true rfl) dX8_scale_66 ⟨Nat.zero_le _, Nat.zero_le _⟩ (fun H locs G => ?_)
          cases hf
          exact g_iret C G hr hlocks dX8_scale_69
        have L39 : ∀ (n : Nat) (x7 : Int32) (st8 : GS) (H : Heap) (locs : List Loc) (ls : Array Slot), gG MSh D cy h A s st8 H locs → lv_has ls 3 [(0, .ref (h 0)), (1, .int a1), (2, .int x7)] → lp (uc2 (f_X8_scale_L39 a1)) n (x7, st8) = some (st14) → W p l e (gR 2) s m args below meth c H locs 0 0 (MQ below (gQi MSh D cy h A r stF) args s 0 0 A) (F0 m 39 ls []) := by
          intro n
          induction n with
          | zero =>
            intro x7 st8 H locs ls G hl hn
            cases hn
          | succ n ih =>
            intro x7 st8 H locs ls G hl hn
            obtain ⟨q, hf, hq1, hq2⟩ := lp_q hn
            have hf : f_X8_scale_L39 a1 x7 st8 = some q := hf
            unfold f_X8_scale_L39 at hf
            refine lv_iload_n hx hb dX8_scale_39 rfl (lv_at hl 2 rfl) ?_
            refine lv_iconst (v := 4) hx hb dX8_scale_40 (by decide) ?_
            refine lv_aload_n hx hb dX8_scale_41 rfl (lv_at hl 0 rfl) ?_
            refine g_geti C G cl8 (C8 ok8_0) (j := 5) (by decide) (F8_5 ok8_0) k4_29 dX8_scale_42 ?_
            refine lv_imul hx hb dX8_scale_45 ?_
            refine lv_icmp_ge (tgt := 65) hx hb dX8_scale_46 (by decide) (fun c9 => ?_) (fun c9 => ?_)
            · have hf := ifP c9 hf
              cases hf
              have hz9 := hq2 _ rfl
              cases hz9
              exact K65 _ _ _ G (lv_sub hl [0] rfl)
            · have hf := ifN c9 hf
              refine lv_aload_n hx hb dX8_scale_49 rfl (lv_at hl 0 rfl) ?_
              refine g_getr (k := 3) C G cl8 (C8 ok8_0) (j := 8) (by decide) (F8_8 ok8_0) k4_32 dX8_scale_50 ?_
              refine lv_iload_n hx hb dX8_scale_53 rfl (lv_at hl 2 rfl) ?_
              refine lv_dup2_11 hx hb dX8_scale_54 rfl rfl ?_
              obtain ⟨hi55_9, hf⟩ := gd_some hf
              refine g_iald C G (A8_8 ok8_0) (j := x7.toNatClampNeg) rfl hi55_9 dX8_scale_55 ?_
              refine lv_iload_n hx hb dX8_scale_56 rfl (lv_at hl 1 rfl) ?_
              refine lv_imul hx hb dX8_scale_57 ?_
              obtain ⟨hi58_10, hf⟩ := gd_some hf
              refine g_iast C G (A8_8 ok8_0) (j := x7.toNatClampNeg) rfl hi58_10 dX8_scale_58 (fun st12 est12 H locs G => ?_)
              have hf := lt_some est12 hf
              obtain ⟨x13, ex13⟩ : ∃ z : Int32, z = (x7 + 1) := ⟨_, rfl⟩
              have hf := lt_some ex13 hf
              refine lv_iinc (v := x13) (lv' := [(2, .int x13), (0, .ref (h 0)), (1, .int a1)]) hx hb dX8_scale_59 hl (k := 2) rfl (by rw [ex13]; rfl) (by decide) rfl (fun ls hl => ?_)
              refine lv_goto (tgt := 39) hx hb dX8_scale_62 (by decide) ?_
              cases hf
              exact ih _ _ _ _ _ G (lv_sub hl [1, 2, 0] rfl) (hq1 _ rfl)
        exact L39 n _ _ _ _ _ G (lv_sub hl [1, 2, 0] rfl) hn
      · have hf := ifN c6 hf
        refine lv_bipush (v := (-103)) hx hb dX8_scale_34 (by decide) ?_
        cases hf
        exact g_iret C G hr hlocks dX8_scale_36
    · have hf := ifN c4 hf
      refine lv_bipush (v := (-102)) hx hb dX8_scale_24 (by decide) ?_
      cases hf
      exact g_iret C G hr hlocks dX8_scale_26

noncomputable def f_X8_keepOrder (st : GS) : Option (GS) := 
bI1 (f_X8_layAll st) (fun st1 => 
bI1 (f_X8_copy 6 8 12 8 st1) (fun st2 => 
some (st2)))
set_option maxRecDepth 100000 in
set_option maxHeartbeats 4000000 in
theorem c_X8_keepOrder (l : Launch) (D : va_G) (cy : ClassId) (h : Nat → Nat)  (st : GS) (stF : GS) (hf : f_X8_keepOrder st = some stF) : gMv l MSh D cy h yX8_keepOrder cX8_keepOrder 1 none 8 st [.ref (h 0)] stF := by
  unfold f_X8_keepOrder at hf
  refine gMv_of (by decide) (Nat.le_of_ble_eq_true rfl) ?_
  intro p e s m args below meth c A ls C hr hlocks G hl
  have C : gC p s m args c cX8_keepOrder 1 "LaneOrderModel" MSh D cy h A := C
  have hl : lv_has ls 1 [(0, .ref (h 0))] := hl
  have hx := C.1
  have hb := C.2.1
  have hown := C.2.2.2.1
  have htb := C.2.2.2.2.1
  refine lv_aload_n hx hb dX8_keepOrder_0 rfl (lv_at hl 0 rfl) ?_
  obtain ⟨st1, hc1_1, hf⟩ := bI1_some hf
  refine g_callVv C G (As := []) (rest := []) (c_X8_layAll l D cy h st st1 hc1_1) cl8 rfl (C8 ok8_0) v_X8_201 (Nat.le_of_ble_eq_true rfl) (Nat.le_of_ble_eq_true rfl) rfl hl.1 rfl (Nat.le_of_ble_eq_true rfl) dX8_keepOrder_1 ⟨Nat.zero_le _, Nat.zero_le _⟩ (fun H locs G => ?_)
  refine lv_aload_n hx hb dX8_keepOrder_4 rfl (lv_at hl 0 rfl) ?_
  refine g_getr (k := 6) C G cl8 (C8 ok8_0) (j := 15) (by decide) (F8_15 ok8_0) k4_39 dX8_keepOrder_5 ?_
  refine lv_aload_n hx hb dX8_keepOrder_8 rfl (lv_at hl 0 rfl) ?_
  refine g_getr (k := 12) C G cl8 (C8 ok8_0) (j := 24) (by decide) (F8_24 ok8_0) k4_48 dX8_keepOrder_9 ?_
  obtain ⟨st2, hc12_2, hf⟩ := bI1_some hf
  refine g_callSv C G (As := [.ref (h 6), .ref (h 12)]) (rest := []) (c_X8_copy l D cy h 6 8 (A8_15 ok8_0) 12 8 (A8_24 ok8_0) st1 st2 hc12_2) v_X8_252 (Nat.le_of_ble_eq_true rfl) (Nat.le_of_ble_eq_true rfl) rfl hl.1 rfl (Nat.le_of_ble_eq_true rfl) dX8_keepOrder_12 ⟨Nat.zero_le _, Nat.zero_le _⟩ (fun H locs G => ?_)
  cases hf
  exact g_vret C G hr hlocks dX8_keepOrder_15

noncomputable def f_X8_isSameOrder_L2 (st : GS) (x1 : Int32) : Option ((Int32) ⊕ (Int32)) := 
(if (gt st 0 5) ≤ x1 then some (.inr (1)) else 
gd x1 8 (gd x1 8 ((if (gt st 6 (x1.toNatClampNeg)) = (gt st 12 (x1.toNatClampNeg)) then lt_ (x1 + 1) (fun x6 => 
some (.inl (x6))) else 
some (.inr (0))))))
noncomputable def f_X8_isSameOrder (st : GS) : Option (Int32) := 
lpx (uc1 (f_X8_isSameOrder_L2 st)) (0)
set_option maxRecDepth 100000 in
set_option maxHeartbeats 4000000 in
theorem c_X8_isSameOrder (l : Launch) (D : va_G) (cy : ClassId) (h : Nat → Nat)  (st : GS) (r : Int32) (hf : f_X8_isSameOrder st = some r) : gMi l MSh D cy h yX8_isSameOrder cX8_isSameOrder 2 (some .boolean) 1 st [.ref (h 0)] r st := by
  unfold f_X8_isSameOrder at hf
  refine gMi_of (by decide) (Nat.le_of_ble_eq_true rfl) ?_
  intro p e s m args below meth c A ls C hr hlocks G hl
  have C : gC p s m args c cX8_isSameOrder 2 "LaneOrderModel" MSh D cy h A := C
  have hl : lv_has ls 2 [(0, .ref (h 0))] := hl
  have hx := C.1
  have hb := C.2.1
  have hown := C.2.2.2.1
  have htb := C.2.2.2.2.1
  refine lv_iconst (v := 0) hx hb dX8_isSameOrder_0 (by decide) ?_
  refine lv_istore_n (lv' := [(1, .int 0), (0, .ref (h 0))]) hx hb dX8_isSameOrder_1 rfl hl (by decide) rfl (fun ls hl => ?_)
  obtain ⟨n, hn⟩ := lpx_some hf
  have L2 : ∀ (n : Nat) (x1 : Int32) (H : Heap) (locs : List Loc) (ls : Array Slot), gG MSh D cy h A s st H locs → lv_has ls 2 [(0, .ref (h 0)), (1, .int x1)] → lp (uc1 (f_X8_isSameOrder_L2 st)) n (x1) = some r → W p l e (gR 1) s m args below meth c H locs 0 0 (MQ below (gQi MSh D cy h A r st) args s 0 0 A) (F0 m 2 ls []) := by
    intro n
    induction n with
    | zero =>
      intro x1 H locs ls G hl hn
      cases hn
    | succ n ih =>
      intro x1 H locs ls G hl hn
      obtain ⟨q, hf, hq1, hq2⟩ := lp_q hn
      have hf : f_X8_isSameOrder_L2 st x1 = some q := hf
      unfold f_X8_isSameOrder_L2 at hf
      refine lv_iload_n hx hb dX8_isSameOrder_2 rfl (lv_at hl 1 rfl) ?_
      refine lv_aload_n hx hb dX8_isSameOrder_3 rfl (lv_at hl 0 rfl) ?_
      refine g_geti C G cl8 (C8 ok8_0) (j := 5) (by decide) (F8_5 ok8_0) k4_29 dX8_isSameOrder_4 ?_
      refine lv_icmp_ge (tgt := 33) hx hb dX8_isSameOrder_7 (by decide) (fun c2 => ?_) (fun c2 => ?_)
      · have hf := ifP c2 hf
        refine lv_iconst (v := 1) hx hb dX8_isSameOrder_33 (by decide) ?_
        cases hf
        have hz9 := hq2 _ rfl
        cases hz9
        exact g_zret C G (Or.inr rfl) hr hlocks dX8_isSameOrder_34
      · have hf := ifN c2 hf
        refine lv_aload_n hx hb dX8_isSameOrder_10 rfl (lv_at hl 0 rfl) ?_
        refine g_getr (k := 6) C G cl8 (C8 ok8_0) (j := 15) (by decide) (F8_15 ok8_0) k4_39 dX8_isSameOrder_11 ?_
        refine lv_iload_n hx hb dX8_isSameOrder_14 rfl (lv_at hl 1 rfl) ?_
        obtain ⟨hi15_2, hf⟩ := gd_some hf
        refine g_iald C G (A8_15 ok8_0) (j := x1.toNatClampNeg) rfl hi15_2 dX8_isSameOrder_15 ?_
        refine lv_aload_n hx hb dX8_isSameOrder_16 rfl (lv_at hl 0 rfl) ?_
        refine g_getr (k := 12) C G cl8 (C8 ok8_0) (j := 24) (by decide) (F8_24 ok8_0) k4_48 dX8_isSameOrder_17 ?_
        refine lv_iload_n hx hb dX8_isSameOrder_20 rfl (lv_at hl 1 rfl) ?_
        obtain ⟨hi21_3, hf⟩ := gd_some hf
        refine g_iald C G (A8_24 ok8_0) (j := x1.toNatClampNeg) rfl hi21_3 dX8_isSameOrder_21 ?_
        refine lv_icmp_eq (tgt := 27) hx hb dX8_isSameOrder_22 (by decide) (fun c5 => ?_) (fun c5 => ?_)
        · have hf := ifP c5 hf
          obtain ⟨x6, ex6⟩ : ∃ z : Int32, z = (x1 + 1) := ⟨_, rfl⟩
          have hf := lt_some ex6 hf
          refine lv_iinc (v := x6) (lv' := [(1, .int x6), (0, .ref (h 0))]) hx hb dX8_isSameOrder_27 hl (k := 1) rfl (by rw [ex6]; rfl) (by decide) rfl (fun ls hl => ?_)
          refine lv_goto (tgt := 2) hx hb dX8_isSameOrder_30 (by decide) ?_
          cases hf
          exact ih _ _ _ _ G (lv_sub hl [1, 0] rfl) (hq1 _ rfl)
        · have hf := ifN c5 hf
          refine lv_iconst (v := 0) hx hb dX8_isSameOrder_25 (by decide) ?_
          cases hf
          have hz9 := hq2 _ rfl
          cases hz9
          exact g_zret C G (Or.inl rfl) hr hlocks dX8_isSameOrder_26
  exact L2 n _ _ _ _ G (lv_sub hl [1, 0] rfl) hn

noncomputable def f_X8_without_L40 (a1 : Int32) (st4 : GS) (x5 : Int32) (x6 : Int32) (x7 : Int32) : Option ((Int32 × Int32 × Int32) ⊕ (Int32)) := 
(if (gt st4 0 5) ≤ x7 then some (.inr (x5)) else 
gd x7 8 ((if (gt st4 12 (x7.toNatClampNeg)) = a1 then lt_ (x7 + 1) (fun x11 => 
some (.inl (x5, x6, x11))) else 
gd x6 8 (gd x7 8 ((if (gt st4 6 (x6.toNatClampNeg)) = (gt st4 12 (x7.toNatClampNeg)) then lt_ (x5 + 0) (fun x18 => 
lt_ (x6 + 1) (fun x19 => 
lt_ (x7 + 1) (fun x20 => 
some (.inl (x18, x19, x20))))) else 
lt_ (x5 + 1) (fun x15 => 
lt_ (x6 + 1) (fun x16 => 
lt_ (x7 + 1) (fun x17 => 
some (.inl (x15, x16, x17)))))))))))
noncomputable def f_X8_without (a1 : Int32) (st : GS) : Option (Int32 × GS) := 
bI1 (f_X8_isBox a1 st) (fun r1 => 
(if r1 = 0 then some (((-101), st)) else 
bI1 (f_X8_keepOrder st) (fun st3 => 
bI1 (f_X8_layOrder (((ishl 1 (gt st3 0 5)) - 1) &&& ((ishl 1 a1) ^^^ (-1))) st3) (fun st4 => 
bI1 (lpx (uc3 (f_X8_without_L40 a1 st4)) (0, 0, 0)) (fun x21 => 
some ((x21, st4)))))))
set_option maxRecDepth 100000 in
set_option maxHeartbeats 4000000 in
theorem c_X8_without (l : Launch) (D : va_G) (cy : ClassId) (h : Nat → Nat) (a1 : Int32) (st : GS) (r : Int32) (stF : GS) (hf : f_X8_without a1 st = some (r, stF)) : gMi l MSh D cy h yX8_without cX8_without 5 (some .int) 9 st [.ref (h 0), .int a1] r stF := by
  unfold f_X8_without at hf
  refine gMi_of (by decide) (Nat.le_of_ble_eq_true rfl) ?_
  intro p e s m args below meth c A ls C hr hlocks G hl
  have C : gC p s m args c cX8_without 5 "LaneOrderModel" MSh D cy h A := C
  have hl : lv_has ls 5 [(0, .ref (h 0)), (1, .int a1)] := hl
  have hx := C.1
  have hb := C.2.1
  have hown := C.2.2.2.1
  have htb := C.2.2.2.2.1
  refine lv_aload_n hx hb dX8_without_0 rfl (lv_at hl 0 rfl) ?_
  refine lv_iload_n hx hb dX8_without_1 rfl (lv_at hl 1 rfl) ?_
  obtain ⟨r1, hc2_1, hf⟩ := bI1_some hf
  refine g_callVi C G (As := [.int a1]) (rest := []) (c_X8_isBox l D cy h a1 st r1 hc2_1) cl8 rfl (C8 ok8_0) v_X8_213 (Nat.le_of_ble_eq_true rfl) (Nat.le_of_ble_eq_true rfl) rfl hl.1 rfl (Nat.le_of_ble_eq_true rfl) dX8_without_2 ⟨Nat.zero_le _, Nat.zero_le _⟩ (fun H locs G => ?_)
  refine lv_if_ne (tgt := 11) hx hb dX8_without_5 (by decide) (fun c2 => ?_) (fun c2 => ?_)
  · have hf := ifN c2 hf
    refine lv_aload_n hx hb dX8_without_11 rfl (lv_at hl 0 rfl) ?_
    obtain ⟨st3, hc12_3, hf⟩ := bI1_some hf
    refine g_callVv C G (As := []) (rest := []) (c_X8_keepOrder l D cy h st st3 hc12_3) cl8 rfl (C8 ok8_0) v_X8_256 (Nat.le_of_ble_eq_true rfl) (Nat.le_of_ble_eq_true rfl) rfl hl.1 rfl (Nat.le_of_ble_eq_true rfl) dX8_without_12 ⟨Nat.zero_le _, Nat.zero_le _⟩ (fun H locs G => ?_)
    refine lv_aload_n hx hb dX8_without_15 rfl (lv_at hl 0 rfl) ?_
    refine lv_iconst (v := 1) hx hb dX8_without_16 (by decide) ?_
    refine lv_aload_n hx hb dX8_without_17 rfl (lv_at hl 0 rfl) ?_
    refine g_geti C G cl8 (C8 ok8_0) (j := 5) (by decide) (F8_5 ok8_0) k4_29 dX8_without_18 ?_
    refine g_ishl C dX8_without_21 ?_
    refine lv_iconst (v := 1) hx hb dX8_without_22 (by decide) ?_
    refine lv_isub hx hb dX8_without_23 ?_
    refine lv_iconst (v := 1) hx hb dX8_without_24 (by decide) ?_
    refine lv_iload_n hx hb dX8_without_25 rfl (lv_at hl 1 rfl) ?_
    refine g_ishl C dX8_without_26 ?_
    refine lv_iconst (v := (-1)) hx hb dX8_without_27 (by decide) ?_
    refine lv_ixor hx hb dX8_without_28 ?_
    refine lv_iand hx hb dX8_without_29 ?_
    obtain ⟨st4, hc30_4, hf⟩ := bI1_some hf
    refine g_callVv C G (As := [.int (((ishl 1 (gt st3 0 5)) - 1) &&& ((ishl 1 a1) ^^^ (-1)))]) (rest := []) (c_X8_layOrder l D cy h (((ishl 1 (gt st3 0 5)) - 1) &&& ((ishl 1 a1) ^^^ (-1))) st3 st4 hc30_4) cl8 rfl (C8 ok8_0) v_X8_198 (Nat.le_of_ble_eq_true rfl) (Nat.le_of_ble_eq_true rfl) rfl hl.1 rfl (Nat.le_of_ble_eq_true rfl) dX8_without_30 ⟨Nat.zero_le _, Nat.zero_le _⟩ (fun H locs G => ?_)
    refine lv_iconst (v := 0) hx hb dX8_without_33 (by decide) ?_
    refine lv_istore_n (lv' := [(2, .int 0), (0, .ref (h 0)), (1, .int a1)]) hx hb dX8_without_34 rfl hl (by decide) rfl (fun ls hl => ?_)
    refine lv_iconst (v := 0) hx hb dX8_without_35 (by decide) ?_
    refine lv_istore_n (lv' := [(3, .int 0), (2, .int 0), (0, .ref (h 0)), (1, .int a1)]) hx hb dX8_without_36 rfl hl (by decide) rfl (fun ls hl => ?_)
    refine lv_iconst (v := 0) hx hb dX8_without_37 (by decide) ?_
    refine lv_istore (lv' := [(4, .int 0), (3, .int 0), (2, .int 0), (0, .ref (h 0)), (1, .int a1)]) hx hb dX8_without_38 hl (by decide) rfl (fun ls hl => ?_)
    obtain ⟨x21, hn, hf⟩ := bI1_some hf
    obtain ⟨n, hn⟩ := lpx_some hn
    have K93 : ∀ (H : Heap) (locs : List Loc) (ls : Array Slot), gG MSh D cy h A s st4 H locs → lv_has ls 5 [(2, .int x21)] → W p l e (gR 9) s m args below meth c H locs 0 0 (MQ below (gQi MSh D cy h A r stF) args s 0 0 A) (F0 m 93 ls []) := by
      intro H locs ls G hl
      refine lv_iload_n hx hb dX8_without_93 rfl (lv_at hl 0 rfl) ?_
      cases hf
      exact g_iret C G hr hlocks dX8_without_94
    have L40 : ∀ (n : Nat) (x5 : Int32) (x6 : Int32) (x7 : Int32) (H : Heap) (locs : List Loc) (ls : Array Slot), gG MSh D cy h A s st4 H locs → lv_has ls 5 [(0, .ref (h 0)), (1, .int a1), (2, .int x5), (3, .int x6), (4, .int x7)] → lp (uc3 (f_X8_without_L40 a1 st4)) n (x5, x6, x7) = some (x21) → W p l e (gR 9) s m args below meth c H locs 0 0 (MQ below (gQi MSh D cy h A r stF) args s 0 0 A) (F0 m 40 ls []) := by
      intro n
      induction n with
      | zero =>
        intro x5 x6 x7 H locs ls G hl hn
        cases hn
      | succ n ih =>
        intro x5 x6 x7 H locs ls G hl hn
        obtain ⟨q, hf, hq1, hq2⟩ := lp_q hn
        have hf : f_X8_without_L40 a1 st4 x5 x6 x7 = some q := hf
        unfold f_X8_without_L40 at hf
        refine lv_iload hx hb dX8_without_40 (lv_at hl 4 rfl) ?_
        refine lv_aload_n hx hb dX8_without_42 rfl (lv_at hl 0 rfl) ?_
        refine g_geti C G cl8 (C8 ok8_0) (j := 5) (by decide) (F8_5 ok8_0) k4_29 dX8_without_43 ?_
        refine lv_icmp_ge (tgt := 93) hx hb dX8_without_46 (by decide) (fun c8 => ?_) (fun c8 => ?_)
        · have hf := ifP c8 hf
          cases hf
          have hz9 := hq2 _ rfl
          cases hz9
          exact K93 _ _ _ G (lv_sub hl [2] rfl)
        · have hf := ifN c8 hf
          refine lv_aload_n hx hb dX8_without_49 rfl (lv_at hl 0 rfl) ?_
          refine g_getr (k := 12) C G cl8 (C8 ok8_0) (j := 24) (by decide) (F8_24 ok8_0) k4_48 dX8_without_50 ?_
          refine lv_iload hx hb dX8_without_53 (lv_at hl 4 rfl) ?_
          obtain ⟨hi55_8, hf⟩ := gd_some hf
          refine g_iald C G (A8_24 ok8_0) (j := x7.toNatClampNeg) rfl hi55_8 dX8_without_55 ?_
          refine lv_iload_n hx hb dX8_without_56 rfl (lv_at hl 1 rfl) ?_
          refine lv_icmp_eq (tgt := 87) hx hb dX8_without_57 (by decide) (fun c10 => ?_) (fun c10 => ?_)
          · have hf := ifP c10 hf
            obtain ⟨x11, ex11⟩ : ∃ z : Int32, z = (x7 + 1) := ⟨_, rfl⟩
            have hf := lt_some ex11 hf
            refine lv_iinc (v := x11) (lv' := [(4, .int x11), (0, .ref (h 0)), (1, .int a1), (2, .int x5), (3, .int x6)]) hx hb dX8_without_87 hl (k := 4) rfl (by rw [ex11]; rfl) (by decide) rfl (fun ls hl => ?_)
            refine lv_goto (tgt := 40) hx hb dX8_without_90 (by decide) ?_
            cases hf
            exact ih _ _ _ _ _ _ G (lv_sub hl [1, 2, 3, 4, 0] rfl) (hq1 _ rfl)
          · have hf := ifN c10 hf
            refine lv_iload_n hx hb dX8_without_60 rfl (lv_at hl 2 rfl) ?_
            refine lv_aload_n hx hb dX8_without_61 rfl (lv_at hl 0 rfl) ?_
            refine g_getr (k := 6) C G cl8 (C8 ok8_0) (j := 15) (by decide) (F8_15 ok8_0) k4_39 dX8_without_62 ?_
            refine lv_iload_n hx hb dX8_without_65 rfl (lv_at hl 3 rfl) ?_
            obtain ⟨hi66_11, hf⟩ := gd_some hf
            refine g_iald C G (A8_15 ok8_0) (j := x6.toNatClampNeg) rfl hi66_11 dX8_without_66 ?_
            refine lv_aload_n hx hb dX8_without_67 rfl (lv_at hl 0 rfl) ?_
            refine g_getr (k := 12) C G cl8 (C8 ok8_0) (j := 24) (by decide) (F8_24 ok8_0) k4_48 dX8_without_68 ?_
            refine lv_iload hx hb dX8_without_71 (lv_at hl 4 rfl) ?_
            obtain ⟨hi73_12, hf⟩ := gd_some hf
            refine g_iald C G (A8_24 ok8_0) (j := x7.toNatClampNeg) rfl hi73_12 dX8_without_73 ?_
            refine lv_icmp_ne (tgt := 81) hx hb dX8_without_74 (by decide) (fun c14 => ?_) (fun c14 => ?_)
            · have hf := ifN c14 hf
              refine lv_iconst (v := 1) hx hb dX8_without_81 (by decide) ?_
              refine lv_iadd hx hb dX8_without_82 ?_
              refine lv_topi (fun x15 ex15 => ?_)
              have hf := lt_some ex15 hf
              refine lv_istore_n (lv' := [(2, .int x15), (0, .ref (h 0)), (1, .int a1), (3, .int x6), (4, .int x7)]) hx hb dX8_without_83 rfl hl (by decide) rfl (fun ls hl => ?_)
              obtain ⟨x16, ex16⟩ : ∃ z : Int32, z = (x6 + 1) := ⟨_, rfl⟩
              have hf := lt_some ex16 hf
              refine lv_iinc (v := x16) (lv' := [(3, .int x16), (2, .int x15), (0, .ref (h 0)), (1, .int a1), (4, .int x7)]) hx hb dX8_without_84 hl (k := 3) rfl (by rw [ex16]; rfl) (by decide) rfl (fun ls hl => ?_)
              obtain ⟨x17, ex17⟩ : ∃ z : Int32, z = (x7 + 1) := ⟨_, rfl⟩
              have hf := lt_some ex17 hf
              refine lv_iinc (v := x17) (lv' := [(4, .int x17), (3, .int x16), (2, .int x15), (0, .ref (h 0)), (1, .int a1)]) hx hb dX8_without_87 hl (k := 4) rfl (by rw [ex17]; rfl) (by decide) rfl (fun ls hl => ?_)
              refine lv_goto (tgt := 40) hx hb dX8_without_90 (by decide) ?_
              cases hf
              exact ih _ _ _ _ _ _ G (lv_sub hl [3, 4, 2, 1, 0] rfl) (hq1 _ rfl)
            · have hf := ifP c14 hf
              refine lv_iconst (v := 0) hx hb dX8_without_77 (by decide) ?_
              refine lv_goto (tgt := 82) hx hb dX8_without_78 (by decide) ?_
              refine lv_iadd hx hb dX8_without_82 ?_
              refine lv_topi (fun x18 ex18 => ?_)
              have hf := lt_some ex18 hf
              refine lv_istore_n (lv' := [(2, .int x18), (0, .ref (h 0)), (1, .int a1), (3, .int x6), (4, .int x7)]) hx hb dX8_without_83 rfl hl (by decide) rfl (fun ls hl => ?_)
              obtain ⟨x19, ex19⟩ : ∃ z : Int32, z = (x6 + 1) := ⟨_, rfl⟩
              have hf := lt_some ex19 hf
              refine lv_iinc (v := x19) (lv' := [(3, .int x19), (2, .int x18), (0, .ref (h 0)), (1, .int a1), (4, .int x7)]) hx hb dX8_without_84 hl (k := 3) rfl (by rw [ex19]; rfl) (by decide) rfl (fun ls hl => ?_)
              obtain ⟨x20, ex20⟩ : ∃ z : Int32, z = (x7 + 1) := ⟨_, rfl⟩
              have hf := lt_some ex20 hf
              refine lv_iinc (v := x20) (lv' := [(4, .int x20), (3, .int x19), (2, .int x18), (0, .ref (h 0)), (1, .int a1)]) hx hb dX8_without_87 hl (k := 4) rfl (by rw [ex20]; rfl) (by decide) rfl (fun ls hl => ?_)
              refine lv_goto (tgt := 40) hx hb dX8_without_90 (by decide) ?_
              cases hf
              exact ih _ _ _ _ _ _ G (lv_sub hl [3, 4, 2, 1, 0] rfl) (hq1 _ rfl)
    exact L40 n _ _ _ _ _ _ G (lv_sub hl [3, 4, 2, 1, 0] rfl) hn
  · have hf := ifP c2 hf
    refine lv_bipush (v := (-101)) hx hb dX8_without_8 (by decide) ?_
    cases hf
    exact g_iret C G hr hlocks dX8_without_10

noncomputable def f_X8_calm_L18  (x4 : Int32) (x5 : Int32) (st6 : GS) : Option ((Int32 × Int32 × GS) ⊕ (Int32 × GS)) := 
(if (4 * (gt st6 0 5)) ≤ x5 then some (.inr (x4, st6)) else 
bI1 ((if (irem x5 4) = 0 then some ((-1)) else 
(if (irem x5 4) = 2 then some (1) else 
some (0)))) (fun (x9 : Int32) => 
bI1 ((if (irem x5 4) = 1 then some ((-1)) else 
(if (irem x5 4) = 3 then some (1) else 
some (0)))) (fun (x12 : Int32) => 
bI1 (f_X8_shift (x5 / 4) x9 x12 st6) (fun st14 => 
bI1 (f_X8_layAll st14) (fun st15 => 
bI1 (f_X8_isSameOrder st15) (fun r16 => 
bI1 ((if r16 = 0 then some (0) else 
some (1))) (fun (x18 : Int32) => 
lt_ (x4 + x18) (fun x19 => 
bI1 (f_X8_shift (x5 / 4) (0 - x9) (0 - x12) st15) (fun st20 => 
lt_ (x5 + 1) (fun x21 => 
some (.inl (x19, x21, st20))))))))))))
noncomputable def f_X8_calm (st : GS) : Option (Int32 × GS) := 
bI1 (f_X8_lacks st) (fun r1 => 
(if r1 = 0 then bI1 (f_X8_keepOrder st) (fun st3 => 
bI2 (lpx (uc3 f_X8_calm_L18) (0, 0, st3)) (fun x22 st23 => 
some ((x22, st23)))) else 
some (((-103), st))))
set_option maxRecDepth 100000 in
set_option maxHeartbeats 4000000 in
theorem c_X8_calm (l : Launch) (D : va_G) (cy : ClassId) (h : Nat → Nat)  (st : GS) (r : Int32) (stF : GS) (hf : f_X8_calm st = some (r, stF)) : gMi l MSh D cy h yX8_calm cX8_calm 5 (some .int) 9 st [.ref (h 0)] r stF := by
  unfold f_X8_calm at hf
  refine gMi_of (by decide) (Nat.le_of_ble_eq_true rfl) ?_
  intro p e s m args below meth c A ls C hr hlocks G hl
  have C : gC p s m args c cX8_calm 5 "LaneOrderModel" MSh D cy h A := C
  have hl : lv_has ls 5 [(0, .ref (h 0))] := hl
  have hx := C.1
  have hb := C.2.1
  have hown := C.2.2.2.1
  have htb := C.2.2.2.2.1
  refine lv_aload_n hx hb dX8_calm_0 rfl (lv_at hl 0 rfl) ?_
  obtain ⟨r1, hc1_1, hf⟩ := bI1_some hf
  refine g_callVi C G (As := []) (rest := []) (c_X8_lacks l D cy h st r1 hc1_1) cl8 rfl (C8 ok8_0) v_X8_232 (Nat.le_of_ble_eq_true rfl) (Nat.le_of_ble_eq_true rfl) rfl hl.1 rfl (Nat.le_of_ble_eq_true rfl) dX8_calm_1 ⟨Nat.zero_le _, Nat.zero_le _⟩ (fun H locs G => ?_)
  refine lv_if_eq (tgt := 10) hx hb dX8_calm_4 (by decide) (fun c2 => ?_) (fun c2 => ?_)
  · have hf := ifP c2 hf
    refine lv_aload_n hx hb dX8_calm_10 rfl (lv_at hl 0 rfl) ?_
    obtain ⟨st3, hc11_3, hf⟩ := bI1_some hf
    refine g_callVv C G (As := []) (rest := []) (c_X8_keepOrder l D cy h st st3 hc11_3) cl8 rfl (C8 ok8_0) v_X8_256 (Nat.le_of_ble_eq_true rfl) (Nat.le_of_ble_eq_true rfl) rfl hl.1 rfl (Nat.le_of_ble_eq_true rfl) dX8_calm_11 ⟨Nat.zero_le _, Nat.zero_le _⟩ (fun H locs G => ?_)
    refine lv_iconst (v := 0) hx hb dX8_calm_14 (by decide) ?_
    refine lv_istore_n (lv' := [(1, .int 0), (0, .ref (h 0))]) hx hb dX8_calm_15 rfl hl (by decide) rfl (fun ls hl => ?_)
    refine lv_iconst (v := 0) hx hb dX8_calm_16 (by decide) ?_
    refine lv_istore_n (lv' := [(2, .int 0), (1, .int 0), (0, .ref (h 0))]) hx hb dX8_calm_17 rfl hl (by decide) rfl (fun ls hl => ?_)
    obtain ⟨x22, st23, hn, hf⟩ := bI2_some hf
    obtain ⟨n, hn⟩ := lpx_some hn
    have K125 : ∀ (H : Heap) (locs : List Loc) (ls : Array Slot), gG MSh D cy h A s st23 H locs → lv_has ls 5 [(1, .int x22)] → W p l e (gR 9) s m args below meth c H locs 0 0 (MQ below (gQi MSh D cy h A r stF) args s 0 0 A) (F0 m 125 ls []) := by
      intro H locs ls G hl
      refine lv_iload_n hx hb dX8_calm_125 rfl (lv_at hl 0 rfl) ?_
      cases hf
      exact g_iret C G hr hlocks dX8_calm_126
    have L18 : ∀ (n : Nat) (x4 : Int32) (x5 : Int32) (st6 : GS) (H : Heap) (locs : List Loc) (ls : Array Slot), gG MSh D cy h A s st6 H locs → lv_has ls 5 [(0, .ref (h 0)), (1, .int x4), (2, .int x5)] → lp (uc3 f_X8_calm_L18) n (x4, x5, st6) = some (x22, st23) → W p l e (gR 9) s m args below meth c H locs 0 0 (MQ below (gQi MSh D cy h A r stF) args s 0 0 A) (F0 m 18 ls []) := by
      intro n
      induction n with
      | zero =>
        intro x4 x5 st6 H locs ls G hl hn
        cases hn
      | succ n ih =>
        intro x4 x5 st6 H locs ls G hl hn
        obtain ⟨q, hf, hq1, hq2⟩ := lp_q hn
        have hf : f_X8_calm_L18 x4 x5 st6 = some q := hf
        unfold f_X8_calm_L18 at hf
        refine lv_iload_n hx hb dX8_calm_18 rfl (lv_at hl 2 rfl) ?_
        refine lv_iconst (v := 4) hx hb dX8_calm_19 (by decide) ?_
        refine lv_aload_n hx hb dX8_calm_20 rfl (lv_at hl 0 rfl) ?_
        refine g_geti C G cl8 (C8 ok8_0) (j := 5) (by decide) (F8_5 ok8_0) k4_29 dX8_calm_21 ?_
        refine lv_imul hx hb dX8_calm_24 ?_
        refine lv_icmp_ge (tgt := 125) hx hb dX8_calm_25 (by decide) (fun c7 => ?_) (fun c7 => ?_)
        · have hf := ifP c7 hf
          cases hf
          have hz9 := hq2 _ rfl
          cases hz9
          exact K125 _ _ _ G (lv_sub hl [1] rfl)
        · have hf := ifN c7 hf
          refine lv_iload_n hx hb dX8_calm_28 rfl (lv_at hl 2 rfl) ?_
          refine lv_iconst (v := 4) hx hb dX8_calm_29 (by decide) ?_
          refine g_irem C dX8_calm_30 (by decide) ?_
          obtain ⟨x9, hj50, hf⟩ := bI1_some hf
          have K50 : ∀ (H : Heap) (locs : List Loc) (ls : Array Slot) , gG MSh D cy h A s st6 H locs → lv_has ls 5 [(0, .ref (h 0)), (1, .int x4), (2, .int x5)] → W p l e (gR 9) s m args below meth c H locs 0 0 (MQ below (gQi MSh D cy h A r stF) args s 0 0 A) (F0 m 50 ls [.int x9]) := by
            intro H locs ls G hl
            refine lv_istore_n (lv' := [(3, .int x9), (0, .ref (h 0)), (1, .int x4), (2, .int x5)]) hx hb dX8_calm_50 rfl hl (by decide) rfl (fun ls hl => ?_)
            refine lv_iload_n hx hb dX8_calm_51 rfl (lv_at hl 3 rfl) ?_
            refine lv_iconst (v := 4) hx hb dX8_calm_52 (by decide) ?_
            refine g_irem C dX8_calm_53 (by decide) ?_
            refine lv_iconst (v := 1) hx hb dX8_calm_54 (by decide) ?_
            obtain ⟨x12, hj74, hf⟩ := bI1_some hf
            have K74 : ∀ (H : Heap) (locs : List Loc) (ls : Array Slot) , gG MSh D cy h A s st6 H locs → lv_has ls 5 [(0, .ref (h 0)), (1, .int x4), (2, .int x5), (3, .int x9)] → W p l e (gR 9) s m args below meth c H locs 0 0 (MQ below (gQi MSh D cy h A r stF) args s 0 0 A) (F0 m 74 ls [.int x12]) := by
              intro H locs ls G hl
              refine lv_istore (lv' := [(4, .int x12), (0, .ref (h 0)), (1, .int x4), (2, .int x5), (3, .int x9)]) hx hb dX8_calm_74 hl (by decide) rfl (fun ls hl => ?_)
              refine lv_aload_n hx hb dX8_calm_76 rfl (lv_at hl 1 rfl) ?_
              refine lv_iload_n hx hb dX8_calm_77 rfl (lv_at hl 3 rfl) ?_
              refine lv_iconst (v := 4) hx hb dX8_calm_78 (by decide) ?_
              refine lv_idiv hx hb dX8_calm_79 (by decide) ?_
              refine lv_iload_n hx hb dX8_calm_80 rfl (lv_at hl 4 rfl) ?_
              refine lv_iload hx hb dX8_calm_81 (lv_at hl 0 rfl) ?_
              obtain ⟨st14, hc83_14, hf⟩ := bI1_some hf
              refine g_callVv C G (As := [.int (x5 / 4), .int x9, .int x12]) (rest := []) (c_X8_shift l D cy h (x5 / 4) x9 x12 st6 st14 hc83_14) cl8 rfl (C8 ok8_0) v_X8_240 (Nat.le_of_ble_eq_true rfl) (Nat.le_of_ble_eq_true rfl) rfl hl.1 rfl (Nat.le_of_ble_eq_true rfl) dX8_calm_83 ⟨Nat.zero_le _, Nat.zero_le _⟩ (fun H locs G => ?_)
              refine lv_aload_n hx hb dX8_calm_86 rfl (lv_at hl 1 rfl) ?_
              obtain ⟨st15, hc87_15, hf⟩ := bI1_some hf
              refine g_callVv C G (As := []) (rest := []) (c_X8_layAll l D cy h st14 st15 hc87_15) cl8 rfl (C8 ok8_0) v_X8_201 (Nat.le_of_ble_eq_true rfl) (Nat.le_of_ble_eq_true rfl) rfl hl.1 rfl (Nat.le_of_ble_eq_true rfl) dX8_calm_87 ⟨Nat.zero_le _, Nat.zero_le _⟩ (fun H locs G => ?_)
              refine lv_iload_n hx hb dX8_calm_90 rfl (lv_at hl 2 rfl) ?_
              refine lv_aload_n hx hb dX8_calm_91 rfl (lv_at hl 1 rfl) ?_
              obtain ⟨r16, hc92_16, hf⟩ := bI1_some hf
              refine g_callVi C G (As := []) (rest := [.int x4]) (c_X8_isSameOrder l D cy h st15 r16 hc92_16) cl8 rfl (C8 ok8_0) v_X8_259 (Nat.le_of_ble_eq_true rfl) (Nat.le_of_ble_eq_true rfl) rfl hl.1 rfl (Nat.le_of_ble_eq_true rfl) dX8_calm_92 ⟨Nat.zero_le _, Nat.zero_le _⟩ (fun H locs G => ?_)
              obtain ⟨x18, hj103, hf⟩ := bI1_some hf
              have K103 : ∀ (H : Heap) (locs : List Loc) (ls : Array Slot) , gG MSh D cy h A s st15 H locs → lv_has ls 5 [(0, .ref (h 0)), (2, .int x5), (3, .int x9), (4, .int x12)] → W p l e (gR 9) s m args below meth c H locs 0 0 (MQ below (gQi MSh D cy h A r stF) args s 0 0 A) (F0 m 103 ls [.int x18, .int x4]) := by
                intro H locs ls G hl
                refine lv_iadd hx hb dX8_calm_103 ?_
                refine lv_topi (fun x19 ex19 => ?_)
                have hf := lt_some ex19 hf
                refine lv_istore_n (lv' := [(1, .int x19), (0, .ref (h 0)), (2, .int x5), (3, .int x9), (4, .int x12)]) hx hb dX8_calm_104 rfl hl (by decide) rfl (fun ls hl => ?_)
                refine lv_aload_n hx hb dX8_calm_105 rfl (lv_at hl 1 rfl) ?_
                refine lv_iload_n hx hb dX8_calm_106 rfl (lv_at hl 2 rfl) ?_
                refine lv_iconst (v := 4) hx hb dX8_calm_107 (by decide) ?_
                refine lv_idiv hx hb dX8_calm_108 (by decide) ?_
                refine lv_iconst (v := 0) hx hb dX8_calm_109 (by decide) ?_
                refine lv_iload_n hx hb dX8_calm_110 rfl (lv_at hl 3 rfl) ?_
                refine lv_isub hx hb dX8_calm_111 ?_
                refine lv_iconst (v := 0) hx hb dX8_calm_112 (by decide) ?_
                refine lv_iload hx hb dX8_calm_113 (lv_at hl 4 rfl) ?_
                refine lv_isub hx hb dX8_calm_115 ?_
                obtain ⟨st20, hc116_20, hf⟩ := bI1_some hf
                refine g_callVv C G (As := [.int (x5 / 4), .int (0 - x9), .int (0 - x12)]) (rest := []) (c_X8_shift l D cy h (x5 / 4) (0 - x9) (0 - x12) st15 st20 hc116_20) cl8 rfl (C8 ok8_0) v_X8_240 (Nat.le_of_ble_eq_true rfl) (Nat.le_of_ble_eq_true rfl) rfl hl.1 rfl (Nat.le_of_ble_eq_true rfl) dX8_calm_116 ⟨Nat.zero_le _, Nat.zero_le _⟩ (fun H locs G => ?_)
                obtain ⟨x21, ex21⟩ : ∃ z : Int32, z = (x5 + 1) := ⟨_, rfl⟩
                have hf := lt_some ex21 hf
                refine lv_iinc (v := x21) (lv' := [(2, .int x21), (1, .int x19), (0, .ref (h 0)), (3, .int x9), (4, .int x12)]) hx hb dX8_calm_119 hl (k := 2) rfl (by rw [ex21]; rfl) (by decide) rfl (fun ls hl => ?_)
                refine lv_goto (tgt := 18) hx hb dX8_calm_122 (by decide) ?_
                cases hf
                exact ih _ _ _ _ _ _ G (lv_sub hl [2, 1, 0] rfl) (hq1 _ rfl)
              clear hf
              refine lv_if_eq (tgt := 102) hx hb dX8_calm_95 (by decide) (fun c17 => ?_) (fun c17 => ?_)
              · have hf := ifP c17 hj103
                refine lv_iconst (v := 0) hx hb dX8_calm_102 (by decide) ?_
                cases hf
                exact K103 _ _ _ G (lv_sub hl [1, 3, 4, 0] rfl)
              · have hf := ifN c17 hj103
                refine lv_iconst (v := 1) hx hb dX8_calm_98 (by decide) ?_
                refine lv_goto (tgt := 103) hx hb dX8_calm_99 (by decide) ?_
                cases hf
                exact K103 _ _ _ G (lv_sub hl [1, 3, 4, 0] rfl)
            clear hf
            refine lv_icmp_ne (tgt := 62) hx hb dX8_calm_55 (by decide) (fun c11 => ?_) (fun c11 => ?_)
            · have hf := ifN c11 hj74
              refine lv_iload_n hx hb dX8_calm_62 rfl (lv_at hl 3 rfl) ?_
              refine lv_iconst (v := 4) hx hb dX8_calm_63 (by decide) ?_
              refine g_irem C dX8_calm_64 (by decide) ?_
              refine lv_iconst (v := 3) hx hb dX8_calm_65 (by decide) ?_
              refine lv_icmp_ne (tgt := 73) hx hb dX8_calm_66 (by decide) (fun c13 => ?_) (fun c13 => ?_)
              · have hf := ifN c13 hf
                refine lv_iconst (v := 0) hx hb dX8_calm_73 (by decide) ?_
                cases hf
                exact K74 _ _ _ G (lv_sub hl [1, 2, 3, 0] rfl)
              · have hf := ifP c13 hf
                refine lv_iconst (v := 1) hx hb dX8_calm_69 (by decide) ?_
                refine lv_goto (tgt := 74) hx hb dX8_calm_70 (by decide) ?_
                cases hf
                exact K74 _ _ _ G (lv_sub hl [1, 2, 3, 0] rfl)
            · have hf := ifP c11 hj74
              refine lv_iconst (v := (-1)) hx hb dX8_calm_58 (by decide) ?_
              refine lv_goto (tgt := 74) hx hb dX8_calm_59 (by decide) ?_
              cases hf
              exact K74 _ _ _ G (lv_sub hl [1, 2, 3, 0] rfl)
          clear hf
          refine lv_if_ne (tgt := 38) hx hb dX8_calm_31 (by decide) (fun c8 => ?_) (fun c8 => ?_)
          · have hf := ifN c8 hj50
            refine lv_iload_n hx hb dX8_calm_38 rfl (lv_at hl 2 rfl) ?_
            refine lv_iconst (v := 4) hx hb dX8_calm_39 (by decide) ?_
            refine g_irem C dX8_calm_40 (by decide) ?_
            refine lv_iconst (v := 2) hx hb dX8_calm_41 (by decide) ?_
            refine lv_icmp_ne (tgt := 49) hx hb dX8_calm_42 (by decide) (fun c10 => ?_) (fun c10 => ?_)
            · have hf := ifN c10 hf
              refine lv_iconst (v := 0) hx hb dX8_calm_49 (by decide) ?_
              cases hf
              exact K50 _ _ _ G hl
            · have hf := ifP c10 hf
              refine lv_iconst (v := 1) hx hb dX8_calm_45 (by decide) ?_
              refine lv_goto (tgt := 50) hx hb dX8_calm_46 (by decide) ?_
              cases hf
              exact K50 _ _ _ G hl
          · have hf := ifP c8 hj50
            refine lv_iconst (v := (-1)) hx hb dX8_calm_34 (by decide) ?_
            refine lv_goto (tgt := 50) hx hb dX8_calm_35 (by decide) ?_
            cases hf
            exact K50 _ _ _ G hl
    exact L18 n _ _ _ _ _ _ G (lv_sub hl [2, 1, 0] rfl) hn
  · have hf := ifN c2 hf
    refine lv_bipush (v := (-103)) hx hb dX8_calm_7 (by decide) ?_
    cases hf
    exact g_iret C G hr hlocks dX8_calm_9

noncomputable def f_X8_idleOf_L42 (x3 : Int32) (x5 : Int32) (x10 : Int32) (st11 : GS) : Option ((Int32 × GS) ⊕ (GS)) := 
(if x3 ≤ x10 then some (.inr (st11)) else 
(if x10 = x5 then lt_ (x10 + 1) (fun x14 => 
some (.inl (x14, st11))) else 
gd x10 4 (gd (gt st11 0 10) 4 (lt_ (sv st11 4 ((gt st11 0 10).toNatClampNeg) (gt st11 13 (x10.toNatClampNeg))) (fun st17 => 
lt_ (sv st17 0 10 ((gt st17 0 10) + 1)) (fun st18 => 
lt_ (x10 + 1) (fun x19 => 
some (.inl (x19, st18)))))))))
noncomputable def f_X8_idleOf_L24 (x3 : Int32) (x4 : Int32) (x5 : Int32) (st6 : GS) : Option ((Int32 × Int32 × GS) ⊕ (Int32 × GS)) := 
(if x3 ≤ x5 then some (.inr (x4, st6)) else 
(if x3 ≤ 1 then some (.inr (x4, st6)) else 
lt_ (sv st6 0 10 0) (fun st9 => 
bI1 (lpx (uc2 (f_X8_idleOf_L42 x3 x5)) (0, st9)) (fun st20 => 
bI1 (f_X8_layAll st20) (fun st21 => 
bI1 (f_X8_isSameOrder st21) (fun r22 => 
(if r22 = 0 then lt_ (x4 ||| 0) (fun x24 => 
lt_ (x5 + 1) (fun x25 => 
some (.inl (x24, x25, st21)))) else 
gd x5 4 (lt_ (x4 ||| (ishl 1 (gt st21 13 (x5.toNatClampNeg)))) (fun x27 => 
lt_ (x5 + 1) (fun x28 => 
some (.inl (x27, x28, st21))))))))))))
noncomputable def f_X8_idleOf (st : GS) : Option (Int32 × GS) := 
bI1 (f_X8_keepOrder st) (fun st1 => 
bI1 (f_X8_copy 4 4 13 4 st1) (fun st2 => 
lt_ (gt st2 0 10) (fun x3 => 
bI2 (lpx (uc3 (f_X8_idleOf_L24 x3)) (0, 0, st2)) (fun x29 st30 => 
bI1 (f_X8_copy 13 4 4 4 st30) (fun st31 => 
lt_ (sv st31 0 10 x3) (fun st32 => 
some ((x29, st32))))))))
set_option maxRecDepth 100000 in
set_option maxHeartbeats 4000000 in
theorem c_X8_idleOf (l : Launch) (D : va_G) (cy : ClassId) (h : Nat → Nat)  (st : GS) (r : Int32) (stF : GS) (hf : f_X8_idleOf st = some (r, stF)) : gMi l MSh D cy h yX8_idleOf cX8_idleOf 5 (some .int) 9 st [.ref (h 0)] r stF := by
  unfold f_X8_idleOf at hf
  refine gMi_of (by decide) (Nat.le_of_ble_eq_true rfl) ?_
  intro p e s m args below meth c A ls C hr hlocks G hl
  have C : gC p s m args c cX8_idleOf 5 "LaneOrderModel" MSh D cy h A := C
  have hl : lv_has ls 5 [(0, .ref (h 0))] := hl
  have hx := C.1
  have hb := C.2.1
  have hown := C.2.2.2.1
  have htb := C.2.2.2.2.1
  refine lv_aload_n hx hb dX8_idleOf_0 rfl (lv_at hl 0 rfl) ?_
  obtain ⟨st1, hc1_1, hf⟩ := bI1_some hf
  refine g_callVv C G (As := []) (rest := []) (c_X8_keepOrder l D cy h st st1 hc1_1) cl8 rfl (C8 ok8_0) v_X8_256 (Nat.le_of_ble_eq_true rfl) (Nat.le_of_ble_eq_true rfl) rfl hl.1 rfl (Nat.le_of_ble_eq_true rfl) dX8_idleOf_1 ⟨Nat.zero_le _, Nat.zero_le _⟩ (fun H locs G => ?_)
  refine lv_aload_n hx hb dX8_idleOf_4 rfl (lv_at hl 0 rfl) ?_
  refine g_getr (k := 4) C G cl8 (C8 ok8_0) (j := 9) (by decide) (F8_9 ok8_0) k4_33 dX8_idleOf_5 ?_
  refine lv_aload_n hx hb dX8_idleOf_8 rfl (lv_at hl 0 rfl) ?_
  refine g_getr (k := 13) C G cl8 (C8 ok8_0) (j := 25) (by decide) (F8_25 ok8_0) k4_49 dX8_idleOf_9 ?_
  obtain ⟨st2, hc12_2, hf⟩ := bI1_some hf
  refine g_callSv C G (As := [.ref (h 4), .ref (h 13)]) (rest := []) (c_X8_copy l D cy h 4 4 (A8_9 ok8_0) 13 4 (A8_25 ok8_0) st1 st2 hc12_2) v_X8_252 (Nat.le_of_ble_eq_true rfl) (Nat.le_of_ble_eq_true rfl) rfl hl.1 rfl (Nat.le_of_ble_eq_true rfl) dX8_idleOf_12 ⟨Nat.zero_le _, Nat.zero_le _⟩ (fun H locs G => ?_)
  refine lv_aload_n hx hb dX8_idleOf_15 rfl (lv_at hl 0 rfl) ?_
  refine g_geti C G cl8 (C8 ok8_0) (j := 10) (by decide) (F8_10 ok8_0) k4_34 dX8_idleOf_16 ?_
  refine lv_topi (fun x3 ex3 => ?_)
  have hf := lt_some ex3 hf
  refine lv_istore_n (lv' := [(1, .int x3), (0, .ref (h 0))]) hx hb dX8_idleOf_19 rfl hl (by decide) rfl (fun ls hl => ?_)
  refine lv_iconst (v := 0) hx hb dX8_idleOf_20 (by decide) ?_
  refine lv_istore_n (lv' := [(2, .int 0), (1, .int x3), (0, .ref (h 0))]) hx hb dX8_idleOf_21 rfl hl (by decide) rfl (fun ls hl => ?_)
  refine lv_iconst (v := 0) hx hb dX8_idleOf_22 (by decide) ?_
  refine lv_istore_n (lv' := [(3, .int 0), (2, .int 0), (1, .int x3), (0, .ref (h 0))]) hx hb dX8_idleOf_23 rfl hl (by decide) rfl (fun ls hl => ?_)
  obtain ⟨x29, st30, hn, hf⟩ := bI2_some hf
  obtain ⟨n, hn⟩ := lpx_some hn
  have K118 : ∀ (H : Heap) (locs : List Loc) (ls : Array Slot), gG MSh D cy h A s st30 H locs → lv_has ls 5 [(0, .ref (h 0)), (1, .int x3), (2, .int x29)] → W p l e (gR 9) s m args below meth c H locs 0 0 (MQ below (gQi MSh D cy h A r stF) args s 0 0 A) (F0 m 118 ls []) := by
    intro H locs ls G hl
    refine lv_aload_n hx hb dX8_idleOf_118 rfl (lv_at hl 0 rfl) ?_
    refine g_getr (k := 13) C G cl8 (C8 ok8_0) (j := 25) (by decide) (F8_25 ok8_0) k4_49 dX8_idleOf_119 ?_
    refine lv_aload_n hx hb dX8_idleOf_122 rfl (lv_at hl 0 rfl) ?_
    refine g_getr (k := 4) C G cl8 (C8 ok8_0) (j := 9) (by decide) (F8_9 ok8_0) k4_33 dX8_idleOf_123 ?_
    obtain ⟨st31, hc126_31, hf⟩ := bI1_some hf
    refine g_callSv C G (As := [.ref (h 13), .ref (h 4)]) (rest := []) (c_X8_copy l D cy h 13 4 (A8_25 ok8_0) 4 4 (A8_9 ok8_0) st30 st31 hc126_31) v_X8_252 (Nat.le_of_ble_eq_true rfl) (Nat.le_of_ble_eq_true rfl) rfl hl.1 rfl (Nat.le_of_ble_eq_true rfl) dX8_idleOf_126 ⟨Nat.zero_le _, Nat.zero_le _⟩ (fun H locs G => ?_)
    refine lv_aload_n hx hb dX8_idleOf_129 rfl (lv_at hl 0 rfl) ?_
    refine lv_iload_n hx hb dX8_idleOf_130 rfl (lv_at hl 1 rfl) ?_
    refine g_puti C G cl8 (C8 ok8_0) (j := 10) (by decide) (F8_10 ok8_0) k4_34 rfl rfl rfl dX8_idleOf_131 (fun st32 est32 H locs G => ?_)
    have hf := lt_some est32 hf
    refine lv_iload_n hx hb dX8_idleOf_134 rfl (lv_at hl 2 rfl) ?_
    cases hf
    exact g_iret C G hr hlocks dX8_idleOf_135
  have L24 : ∀ (n : Nat) (x4 : Int32) (x5 : Int32) (st6 : GS) (H : Heap) (locs : List Loc) (ls : Array Slot), gG MSh D cy h A s st6 H locs → lv_has ls 5 [(0, .ref (h 0)), (1, .int x3), (2, .int x4), (3, .int x5)] → lp (uc3 (f_X8_idleOf_L24 x3)) n (x4, x5, st6) = some (x29, st30) → W p l e (gR 9) s m args below meth c H locs 0 0 (MQ below (gQi MSh D cy h A r stF) args s 0 0 A) (F0 m 24 ls []) := by
    intro n
    induction n with
    | zero =>
      intro x4 x5 st6 H locs ls G hl hn
      cases hn
    | succ n ih =>
      intro x4 x5 st6 H locs ls G hl hn
      obtain ⟨q, hf, hq1, hq2⟩ := lp_q hn
      have hf : f_X8_idleOf_L24 x3 x4 x5 st6 = some q := hf
      unfold f_X8_idleOf_L24 at hf
      refine lv_iload_n hx hb dX8_idleOf_24 rfl (lv_at hl 3 rfl) ?_
      refine lv_iload_n hx hb dX8_idleOf_25 rfl (lv_at hl 1 rfl) ?_
      refine lv_icmp_ge (tgt := 118) hx hb dX8_idleOf_26 (by decide) (fun c7 => ?_) (fun c7 => ?_)
      · have hf := ifP c7 hf
        cases hf
        have hz9 := hq2 _ rfl
        cases hz9
        exact K118 _ _ _ G (lv_sub hl [0, 1, 2] rfl)
      · have hf := ifN c7 hf
        refine lv_iload_n hx hb dX8_idleOf_29 rfl (lv_at hl 1 rfl) ?_
        refine lv_iconst (v := 1) hx hb dX8_idleOf_30 (by decide) ?_
        refine lv_icmp_le (tgt := 118) hx hb dX8_idleOf_31 (by decide) (fun c8 => ?_) (fun c8 => ?_)
        · have hf := ifP c8 hf
          cases hf
          have hz9 := hq2 _ rfl
          cases hz9
          exact K118 _ _ _ G (lv_sub hl [0, 1, 2] rfl)
        · have hf := ifN c8 hf
          refine lv_aload_n hx hb dX8_idleOf_34 rfl (lv_at hl 0 rfl) ?_
          refine lv_iconst (v := 0) hx hb dX8_idleOf_35 (by decide) ?_
          refine g_puti C G cl8 (C8 ok8_0) (j := 10) (by decide) (F8_10 ok8_0) k4_34 rfl rfl rfl dX8_idleOf_36 (fun st9 est9 H locs G => ?_)
          have hf := lt_some est9 hf
          refine lv_iconst (v := 0) hx hb dX8_idleOf_39 (by decide) ?_
          refine lv_istore (lv' := [(4, .int 0), (0, .ref (h 0)), (1, .int x3), (2, .int x4), (3, .int x5)]) hx hb dX8_idleOf_40 hl (by decide) rfl (fun ls hl => ?_)
          obtain ⟨st20, hn, hf⟩ := bI1_some hf
          obtain ⟨n, hn⟩ := lpx_some hn
          have K86 : ∀ (H : Heap) (locs : List Loc) (ls : Array Slot), gG MSh D cy h A s st20 H locs → lv_has ls 5 [(0, .ref (h 0)), (1, .int x3), (2, .int x4), (3, .int x5)] → W p l e (gR 9) s m args below meth c H locs 0 0 (MQ below (gQi MSh D cy h A r stF) args s 0 0 A) (F0 m 86 ls []) := by
            intro H locs ls G hl
            refine lv_aload_n hx hb dX8_idleOf_86 rfl (lv_at hl 0 rfl) ?_
            obtain ⟨st21, hc87_21, hf⟩ := bI1_some hf
            refine g_callVv C G (As := []) (rest := []) (c_X8_layAll l D cy h st20 st21 hc87_21) cl8 rfl (C8 ok8_0) v_X8_201 (Nat.le_of_ble_eq_true rfl) (Nat.le_of_ble_eq_true rfl) rfl hl.1 rfl (Nat.le_of_ble_eq_true rfl) dX8_idleOf_87 ⟨Nat.zero_le _, Nat.zero_le _⟩ (fun H locs G => ?_)
            refine lv_iload_n hx hb dX8_idleOf_90 rfl (lv_at hl 2 rfl) ?_
            refine lv_aload_n hx hb dX8_idleOf_91 rfl (lv_at hl 0 rfl) ?_
            obtain ⟨r22, hc92_22, hf⟩ := bI1_some hf
            refine g_callVi C G (As := []) (rest := [.int x4]) (c_X8_isSameOrder l D cy h st21 r22 hc92_22) cl8 rfl (C8 ok8_0) v_X8_259 (Nat.le_of_ble_eq_true rfl) (Nat.le_of_ble_eq_true rfl) rfl hl.1 rfl (Nat.le_of_ble_eq_true rfl) dX8_idleOf_92 ⟨Nat.zero_le _, Nat.zero_le _⟩ (fun H locs G => ?_)
            refine lv_if_eq (tgt := 109) hx hb dX8_idleOf_95 (by decide) (fun c23 => ?_) (fun c23 => ?_)
            · have hf := ifP c23 hf
              refine lv_iconst (v := 0) hx hb dX8_idleOf_109 (by decide) ?_
              refine lv_ior hx hb dX8_idleOf_110 ?_
              refine lv_topi (fun x24 ex24 => ?_)
              have hf := lt_some ex24 hf
              refine lv_istore_n (lv' := [(2, .int x24), (0, .ref (h 0)), (1, .int x3), (3, .int x5)]) hx hb dX8_idleOf_111 rfl hl (by decide) rfl (fun ls hl => ?_)
              obtain ⟨x25, ex25⟩ : ∃ z : Int32, z = (x5 + 1) := ⟨_, rfl⟩
              have hf := lt_some ex25 hf
              refine lv_iinc (v := x25) (lv' := [(3, .int x25), (2, .int x24), (0, .ref (h 0)), (1, .int x3)]) hx hb dX8_idleOf_112 hl (k := 3) rfl (by rw [ex25]; rfl) (by decide) rfl (fun ls hl => ?_)
              refine lv_goto (tgt := 24) hx hb dX8_idleOf_115 (by decide) ?_
              cases hf
              exact ih _ _ _ _ _ _ G (lv_sub hl [2, 3, 1, 0] rfl) (hq1 _ rfl)
            · have hf := ifN c23 hf
              refine lv_iconst (v := 1) hx hb dX8_idleOf_98 (by decide) ?_
              refine lv_aload_n hx hb dX8_idleOf_99 rfl (lv_at hl 0 rfl) ?_
              refine g_getr (k := 13) C G cl8 (C8 ok8_0) (j := 25) (by decide) (F8_25 ok8_0) k4_49 dX8_idleOf_100 ?_
              refine lv_iload_n hx hb dX8_idleOf_103 rfl (lv_at hl 3 rfl) ?_
              obtain ⟨hi104_25, hf⟩ := gd_some hf
              refine g_iald C G (A8_25 ok8_0) (j := x5.toNatClampNeg) rfl hi104_25 dX8_idleOf_104 ?_
              refine g_ishl C dX8_idleOf_105 ?_
              refine lv_goto (tgt := 110) hx hb dX8_idleOf_106 (by decide) ?_
              refine lv_ior hx hb dX8_idleOf_110 ?_
              refine lv_topi (fun x27 ex27 => ?_)
              have hf := lt_some ex27 hf
              refine lv_istore_n (lv' := [(2, .int x27), (0, .ref (h 0)), (1, .int x3), (3, .int x5)]) hx hb dX8_idleOf_111 rfl hl (by decide) rfl (fun ls hl => ?_)
              obtain ⟨x28, ex28⟩ : ∃ z : Int32, z = (x5 + 1) := ⟨_, rfl⟩
              have hf := lt_some ex28 hf
              refine lv_iinc (v := x28) (lv' := [(3, .int x28), (2, .int x27), (0, .ref (h 0)), (1, .int x3)]) hx hb dX8_idleOf_112 hl (k := 3) rfl (by rw [ex28]; rfl) (by decide) rfl (fun ls hl => ?_)
              refine lv_goto (tgt := 24) hx hb dX8_idleOf_115 (by decide) ?_
              cases hf
              exact ih _ _ _ _ _ _ G (lv_sub hl [2, 3, 1, 0] rfl) (hq1 _ rfl)
          have L42 : ∀ (n : Nat) (x10 : Int32) (st11 : GS) (H : Heap) (locs : List Loc) (ls : Array Slot), gG MSh D cy h A s st11 H locs → lv_has ls 5 [(0, .ref (h 0)), (1, .int x3), (2, .int x4), (3, .int x5), (4, .int x10)] → lp (uc2 (f_X8_idleOf_L42 x3 x5)) n (x10, st11) = some (st20) → W p l e (gR 9) s m args below meth c H locs 0 0 (MQ below (gQi MSh D cy h A r stF) args s 0 0 A) (F0 m 42 ls []) := by
            intro n
            induction n with
            | zero =>
              intro x10 st11 H locs ls G hl hn
              cases hn
            | succ n ih =>
              intro x10 st11 H locs ls G hl hn
              obtain ⟨q, hf, hq1, hq2⟩ := lp_q hn
              have hf : f_X8_idleOf_L42 x3 x5 x10 st11 = some q := hf
              unfold f_X8_idleOf_L42 at hf
              refine lv_iload hx hb dX8_idleOf_42 (lv_at hl 4 rfl) ?_
              refine lv_iload_n hx hb dX8_idleOf_44 rfl (lv_at hl 1 rfl) ?_
              refine lv_icmp_ge (tgt := 86) hx hb dX8_idleOf_45 (by decide) (fun c12 => ?_) (fun c12 => ?_)
              · have hf := ifP c12 hf
                cases hf
                have hz9 := hq2 _ rfl
                cases hz9
                exact K86 _ _ _ G (lv_sub hl [0, 1, 2, 3] rfl)
              · have hf := ifN c12 hf
                refine lv_iload hx hb dX8_idleOf_48 (lv_at hl 4 rfl) ?_
                refine lv_iload_n hx hb dX8_idleOf_50 rfl (lv_at hl 3 rfl) ?_
                refine lv_icmp_eq (tgt := 80) hx hb dX8_idleOf_51 (by decide) (fun c13 => ?_) (fun c13 => ?_)
                · have hf := ifP c13 hf
                  obtain ⟨x14, ex14⟩ : ∃ z : Int32, z = (x10 + 1) := ⟨_, rfl⟩
                  have hf := lt_some ex14 hf
                  refine lv_iinc (v := x14) (lv' := [(4, .int x14), (0, .ref (h 0)), (1, .int x3), (2, .int x4), (3, .int x5)]) hx hb dX8_idleOf_80 hl (k := 4) rfl (by rw [ex14]; rfl) (by decide) rfl (fun ls hl => ?_)
                  refine lv_goto (tgt := 42) hx hb dX8_idleOf_83 (by decide) ?_
                  cases hf
                  exact ih _ _ _ _ _ G (lv_sub hl [1, 2, 3, 4, 0] rfl) (hq1 _ rfl)
                · have hf := ifN c13 hf
                  refine lv_aload_n hx hb dX8_idleOf_54 rfl (lv_at hl 0 rfl) ?_
                  refine g_getr (k := 4) C G cl8 (C8 ok8_0) (j := 9) (by decide) (F8_9 ok8_0) k4_33 dX8_idleOf_55 ?_
                  refine lv_aload_n hx hb dX8_idleOf_58 rfl (lv_at hl 0 rfl) ?_
                  refine g_geti C G cl8 (C8 ok8_0) (j := 10) (by decide) (F8_10 ok8_0) k4_34 dX8_idleOf_59 ?_
                  refine lv_aload_n hx hb dX8_idleOf_62 rfl (lv_at hl 0 rfl) ?_
                  refine g_getr (k := 13) C G cl8 (C8 ok8_0) (j := 25) (by decide) (F8_25 ok8_0) k4_49 dX8_idleOf_63 ?_
                  refine lv_iload hx hb dX8_idleOf_66 (lv_at hl 4 rfl) ?_
                  obtain ⟨hi68_14, hf⟩ := gd_some hf
                  refine g_iald C G (A8_25 ok8_0) (j := x10.toNatClampNeg) rfl hi68_14 dX8_idleOf_68 ?_
                  obtain ⟨hi69_15, hf⟩ := gd_some hf
                  refine g_iast C G (A8_9 ok8_0) (j := (gt st11 0 10).toNatClampNeg) rfl hi69_15 dX8_idleOf_69 (fun st17 est17 H locs G => ?_)
                  have hf := lt_some est17 hf
                  refine lv_aload_n hx hb dX8_idleOf_70 rfl (lv_at hl 0 rfl) ?_
                  refine lv_dup hx hb dX8_idleOf_71 rfl ?_
                  refine g_geti C G cl8 (C8 ok8_0) (j := 10) (by decide) (F8_10 ok8_0) k4_34 dX8_idleOf_72 ?_
                  refine lv_iconst (v := 1) hx hb dX8_idleOf_75 (by decide) ?_
                  refine lv_iadd hx hb dX8_idleOf_76 ?_
                  refine g_puti C G cl8 (C8 ok8_0) (j := 10) (by decide) (F8_10 ok8_0) k4_34 rfl rfl rfl dX8_idleOf_77 (fun st18 est18 H locs G => ?_)
                  have hf := lt_some est18 hf
                  obtain ⟨x19, ex19⟩ : ∃ z : Int32, z = (x10 + 1) := ⟨_, rfl⟩
                  have hf := lt_some ex19 hf
                  refine lv_iinc (v := x19) (lv' := [(4, .int x19), (0, .ref (h 0)), (1, .int x3), (2, .int x4), (3, .int x5)]) hx hb dX8_idleOf_80 hl (k := 4) rfl (by rw [ex19]; rfl) (by decide) rfl (fun ls hl => ?_)
                  refine lv_goto (tgt := 42) hx hb dX8_idleOf_83 (by decide) ?_
                  cases hf
                  exact ih _ _ _ _ _ G (lv_sub hl [1, 2, 3, 4, 0] rfl) (hq1 _ rfl)
          exact L42 n _ _ _ _ _ G (lv_sub hl [1, 2, 3, 4, 0] rfl) hn
  exact L24 n _ _ _ _ _ _ G (lv_sub hl [3, 2, 1, 0] rfl) hn

noncomputable def f_X8_idle (st : GS) : Option (Int32 × GS) := 
bI1 (f_X8_lacks st) (fun r1 => 
(if r1 = 0 then bI2 (f_X8_idleOf st) (fun r3 st4 => 
some ((r3, st4))) else 
some (((-103), st))))
set_option maxRecDepth 100000 in
set_option maxHeartbeats 4000000 in
theorem c_X8_idle (l : Launch) (D : va_G) (cy : ClassId) (h : Nat → Nat)  (st : GS) (r : Int32) (stF : GS) (hf : f_X8_idle st = some (r, stF)) : gMi l MSh D cy h yX8_idle cX8_idle 1 (some .int) 10 st [.ref (h 0)] r stF := by
  unfold f_X8_idle at hf
  refine gMi_of (by decide) (Nat.le_of_ble_eq_true rfl) ?_
  intro p e s m args below meth c A ls C hr hlocks G hl
  have C : gC p s m args c cX8_idle 1 "LaneOrderModel" MSh D cy h A := C
  have hl : lv_has ls 1 [(0, .ref (h 0))] := hl
  have hx := C.1
  have hb := C.2.1
  have hown := C.2.2.2.1
  have htb := C.2.2.2.2.1
  refine lv_aload_n hx hb dX8_idle_0 rfl (lv_at hl 0 rfl) ?_
  obtain ⟨r1, hc1_1, hf⟩ := bI1_some hf
  refine g_callVi C G (As := []) (rest := []) (c_X8_lacks l D cy h st r1 hc1_1) cl8 rfl (C8 ok8_0) v_X8_232 (Nat.le_of_ble_eq_true rfl) (Nat.le_of_ble_eq_true rfl) rfl hl.1 rfl (Nat.le_of_ble_eq_true rfl) dX8_idle_1 ⟨Nat.zero_le _, Nat.zero_le _⟩ (fun H locs G => ?_)
  refine lv_if_eq (tgt := 12) hx hb dX8_idle_4 (by decide) (fun c2 => ?_) (fun c2 => ?_)
  · have hf := ifP c2 hf
    refine lv_aload_n hx hb dX8_idle_12 rfl (lv_at hl 0 rfl) ?_
    obtain ⟨r3, st4, hc13_4, hf⟩ := bI2_some hf
    refine g_callVi C G (As := []) (rest := []) (c_X8_idleOf l D cy h st r3 st4 hc13_4) cl8 rfl (C8 ok8_0) v_X8_262 (Nat.le_of_ble_eq_true rfl) (Nat.le_of_ble_eq_true rfl) rfl hl.1 rfl (Nat.le_of_ble_eq_true rfl) dX8_idle_13 ⟨Nat.zero_le _, Nat.zero_le _⟩ (fun H locs G => ?_)
    cases hf
    exact g_iret C G hr hlocks dX8_idle_16
  · have hf := ifN c2 hf
    refine lv_bipush (v := (-103)) hx hb dX8_idle_7 (by decide) ?_
    refine lv_goto (tgt := 16) hx hb dX8_idle_9 (by decide) ?_
    cases hf
    exact g_iret C G hr hlocks dX8_idle_16

noncomputable def f_X8_freeOf_L6  (x1 : Int32) (x2 : Int32) (x3 : Int32) (st4 : GS) : Option ((Int32 × Int32 × Int32 × GS) ⊕ (Int32 × GS)) := 
(if (gt st4 0 5) ≤ x3 then some (.inr (x1, st4)) else 
(if (gt st4 0 5) ≤ 1 then some (.inr (x1, st4)) else 
bI1 (f_X8_layOrder (((ishl 1 (gt st4 0 5)) - 1) &&& ((ishl 1 x3) ^^^ (-1))) st4) (fun st7 => 
bI1 ((if (gt st7 0 18) ≤ x2 then some (x1) else 
some (x3))) (fun (x9 : Int32) => 
(if (gt st7 0 18) ≤ x2 then lt_ (x3 + 1) (fun x11 => 
some (.inl (x9, x2, x11, st7))) else 
lt_ (gt st7 0 18) (fun x12 => 
lt_ (x3 + 1) (fun x13 => 
some (.inl (x9, x12, x13, st7)))))))))
noncomputable def f_X8_freeOf (st : GS) : Option (Int32 × GS) := 
bI2 (lpx (uc4 f_X8_freeOf_L6) ((-1), (-1), 0, st)) (fun x14 st15 => 
some ((x14, st15)))
set_option maxRecDepth 100000 in
set_option maxHeartbeats 4000000 in
theorem c_X8_freeOf (l : Launch) (D : va_G) (cy : ClassId) (h : Nat → Nat)  (st : GS) (r : Int32) (stF : GS) (hf : f_X8_freeOf st = some (r, stF)) : gMi l MSh D cy h yX8_freeOf cX8_freeOf 4 (some .int) 7 st [.ref (h 0)] r stF := by
  unfold f_X8_freeOf at hf
  refine gMi_of (by decide) (Nat.le_of_ble_eq_true rfl) ?_
  intro p e s m args below meth c A ls C hr hlocks G hl
  have C : gC p s m args c cX8_freeOf 4 "LaneOrderModel" MSh D cy h A := C
  have hl : lv_has ls 4 [(0, .ref (h 0))] := hl
  have hx := C.1
  have hb := C.2.1
  have hown := C.2.2.2.1
  have htb := C.2.2.2.2.1
  refine lv_iconst (v := (-1)) hx hb dX8_freeOf_0 (by decide) ?_
  refine lv_istore_n (lv' := [(1, .int (-1)), (0, .ref (h 0))]) hx hb dX8_freeOf_1 rfl hl (by decide) rfl (fun ls hl => ?_)
  refine lv_iconst (v := (-1)) hx hb dX8_freeOf_2 (by decide) ?_
  refine lv_istore_n (lv' := [(2, .int (-1)), (1, .int (-1)), (0, .ref (h 0))]) hx hb dX8_freeOf_3 rfl hl (by decide) rfl (fun ls hl => ?_)
  refine lv_iconst (v := 0) hx hb dX8_freeOf_4 (by decide) ?_
  refine lv_istore_n (lv' := [(3, .int 0), (2, .int (-1)), (1, .int (-1)), (0, .ref (h 0))]) hx hb dX8_freeOf_5 rfl hl (by decide) rfl (fun ls hl => ?_)
  obtain ⟨x14, st15, hn, hf⟩ := bI2_some hf
  obtain ⟨n, hn⟩ := lpx_some hn
  have K77 : ∀ (H : Heap) (locs : List Loc) (ls : Array Slot), gG MSh D cy h A s st15 H locs → lv_has ls 4 [(1, .int x14)] → W p l e (gR 7) s m args below meth c H locs 0 0 (MQ below (gQi MSh D cy h A r stF) args s 0 0 A) (F0 m 77 ls []) := by
    intro H locs ls G hl
    refine lv_iload_n hx hb dX8_freeOf_77 rfl (lv_at hl 0 rfl) ?_
    cases hf
    exact g_iret C G hr hlocks dX8_freeOf_78
  have L6 : ∀ (n : Nat) (x1 : Int32) (x2 : Int32) (x3 : Int32) (st4 : GS) (H : Heap) (locs : List Loc) (ls : Array Slot), gG MSh D cy h A s st4 H locs → lv_has ls 4 [(0, .ref (h 0)), (1, .int x1), (2, .int x2), (3, .int x3)] → lp (uc4 f_X8_freeOf_L6) n (x1, x2, x3, st4) = some (x14, st15) → W p l e (gR 7) s m args below meth c H locs 0 0 (MQ below (gQi MSh D cy h A r stF) args s 0 0 A) (F0 m 6 ls []) := by
    intro n
    induction n with
    | zero =>
      intro x1 x2 x3 st4 H locs ls G hl hn
      cases hn
    | succ n ih =>
      intro x1 x2 x3 st4 H locs ls G hl hn
      obtain ⟨q, hf, hq1, hq2⟩ := lp_q hn
      have hf : f_X8_freeOf_L6 x1 x2 x3 st4 = some q := hf
      unfold f_X8_freeOf_L6 at hf
      refine lv_iload_n hx hb dX8_freeOf_6 rfl (lv_at hl 3 rfl) ?_
      refine lv_aload_n hx hb dX8_freeOf_7 rfl (lv_at hl 0 rfl) ?_
      refine g_geti C G cl8 (C8 ok8_0) (j := 5) (by decide) (F8_5 ok8_0) k4_29 dX8_freeOf_8 ?_
      refine lv_icmp_ge (tgt := 77) hx hb dX8_freeOf_11 (by decide) (fun c5 => ?_) (fun c5 => ?_)
      · have hf := ifP c5 hf
        cases hf
        have hz9 := hq2 _ rfl
        cases hz9
        exact K77 _ _ _ G (lv_sub hl [1] rfl)
      · have hf := ifN c5 hf
        refine lv_aload_n hx hb dX8_freeOf_14 rfl (lv_at hl 0 rfl) ?_
        refine g_geti C G cl8 (C8 ok8_0) (j := 5) (by decide) (F8_5 ok8_0) k4_29 dX8_freeOf_15 ?_
        refine lv_iconst (v := 1) hx hb dX8_freeOf_18 (by decide) ?_
        refine lv_icmp_le (tgt := 77) hx hb dX8_freeOf_19 (by decide) (fun c6 => ?_) (fun c6 => ?_)
        · have hf := ifP c6 hf
          cases hf
          have hz9 := hq2 _ rfl
          cases hz9
          exact K77 _ _ _ G (lv_sub hl [1] rfl)
        · have hf := ifN c6 hf
          refine lv_aload_n hx hb dX8_freeOf_22 rfl (lv_at hl 0 rfl) ?_
          refine lv_iconst (v := 1) hx hb dX8_freeOf_23 (by decide) ?_
          refine lv_aload_n hx hb dX8_freeOf_24 rfl (lv_at hl 0 rfl) ?_
          refine g_geti C G cl8 (C8 ok8_0) (j := 5) (by decide) (F8_5 ok8_0) k4_29 dX8_freeOf_25 ?_
          refine g_ishl C dX8_freeOf_28 ?_
          refine lv_iconst (v := 1) hx hb dX8_freeOf_29 (by decide) ?_
          refine lv_isub hx hb dX8_freeOf_30 ?_
          refine lv_iconst (v := 1) hx hb dX8_freeOf_31 (by decide) ?_
          refine lv_iload_n hx hb dX8_freeOf_32 rfl (lv_at hl 3 rfl) ?_
          refine g_ishl C dX8_freeOf_33 ?_
          refine lv_iconst (v := (-1)) hx hb dX8_freeOf_34 (by decide) ?_
          refine lv_ixor hx hb dX8_freeOf_35 ?_
          refine lv_iand hx hb dX8_freeOf_36 ?_
          obtain ⟨st7, hc37_7, hf⟩ := bI1_some hf
          refine g_callVv C G (As := [.int (((ishl 1 (gt st4 0 5)) - 1) &&& ((ishl 1 x3) ^^^ (-1)))]) (rest := []) (c_X8_layOrder l D cy h (((ishl 1 (gt st4 0 5)) - 1) &&& ((ishl 1 x3) ^^^ (-1))) st4 st7 hc37_7) cl8 rfl (C8 ok8_0) v_X8_198 (Nat.le_of_ble_eq_true rfl) (Nat.le_of_ble_eq_true rfl) rfl hl.1 rfl (Nat.le_of_ble_eq_true rfl) dX8_freeOf_37 ⟨Nat.zero_le _, Nat.zero_le _⟩ (fun H locs G => ?_)
          refine lv_aload_n hx hb dX8_freeOf_40 rfl (lv_at hl 0 rfl) ?_
          refine g_geti C G cl8 (C8 ok8_0) (j := 18) (by decide) (F8_18 ok8_0) k4_42 dX8_freeOf_41 ?_
          refine lv_iload_n hx hb dX8_freeOf_44 rfl (lv_at hl 2 rfl) ?_
          obtain ⟨x9, hj53, hf⟩ := bI1_some hf
          have K53 : ∀ (H : Heap) (locs : List Loc) (ls : Array Slot) , gG MSh D cy h A s st7 H locs → lv_has ls 4 [(0, .ref (h 0)), (2, .int x2), (3, .int x3)] → W p l e (gR 7) s m args below meth c H locs 0 0 (MQ below (gQi MSh D cy h A r stF) args s 0 0 A) (F0 m 53 ls [.int x9]) := by
            intro H locs ls G hl
            refine lv_istore_n (lv' := [(1, .int x9), (0, .ref (h 0)), (2, .int x2), (3, .int x3)]) hx hb dX8_freeOf_53 rfl hl (by decide) rfl (fun ls hl => ?_)
            refine lv_aload_n hx hb dX8_freeOf_54 rfl (lv_at hl 1 rfl) ?_
            refine g_geti C G cl8 (C8 ok8_0) (j := 18) (by decide) (F8_18 ok8_0) k4_42 dX8_freeOf_55 ?_
            refine lv_iload_n hx hb dX8_freeOf_58 rfl (lv_at hl 2 rfl) ?_
            refine lv_icmp_le (tgt := 69) hx hb dX8_freeOf_59 (by decide) (fun c10 => ?_) (fun c10 => ?_)
            · have hf := ifP c10 hf
              refine lv_iload_n hx hb dX8_freeOf_69 rfl (lv_at hl 2 rfl) ?_
              refine lv_istore_n (lv' := [(2, .int x2), (1, .int x9), (0, .ref (h 0)), (3, .int x3)]) hx hb dX8_freeOf_70 rfl hl (by decide) rfl (fun ls hl => ?_)
              obtain ⟨x11, ex11⟩ : ∃ z : Int32, z = (x3 + 1) := ⟨_, rfl⟩
              have hf := lt_some ex11 hf
              refine lv_iinc (v := x11) (lv' := [(3, .int x11), (2, .int x2), (1, .int x9), (0, .ref (h 0))]) hx hb dX8_freeOf_71 hl (k := 3) rfl (by rw [ex11]; rfl) (by decide) rfl (fun ls hl => ?_)
              refine lv_goto (tgt := 6) hx hb dX8_freeOf_74 (by decide) ?_
              cases hf
              exact ih _ _ _ _ _ _ _ G (lv_sub hl [3, 2, 1, 0] rfl) (hq1 _ rfl)
            · have hf := ifN c10 hf
              refine lv_aload_n hx hb dX8_freeOf_62 rfl (lv_at hl 1 rfl) ?_
              refine g_geti C G cl8 (C8 ok8_0) (j := 18) (by decide) (F8_18 ok8_0) k4_42 dX8_freeOf_63 ?_
              refine lv_goto (tgt := 70) hx hb dX8_freeOf_66 (by decide) ?_
              refine lv_topi (fun x12 ex12 => ?_)
              have hf := lt_some ex12 hf
              refine lv_istore_n (lv' := [(2, .int x12), (1, .int x9), (0, .ref (h 0)), (3, .int x3)]) hx hb dX8_freeOf_70 rfl hl (by decide) rfl (fun ls hl => ?_)
              obtain ⟨x13, ex13⟩ : ∃ z : Int32, z = (x3 + 1) := ⟨_, rfl⟩
              have hf := lt_some ex13 hf
              refine lv_iinc (v := x13) (lv' := [(3, .int x13), (2, .int x12), (1, .int x9), (0, .ref (h 0))]) hx hb dX8_freeOf_71 hl (k := 3) rfl (by rw [ex13]; rfl) (by decide) rfl (fun ls hl => ?_)
              refine lv_goto (tgt := 6) hx hb dX8_freeOf_74 (by decide) ?_
              cases hf
              exact ih _ _ _ _ _ _ _ G (lv_sub hl [3, 2, 1, 0] rfl) (hq1 _ rfl)
          clear hf
          refine lv_icmp_le (tgt := 52) hx hb dX8_freeOf_45 (by decide) (fun c8 => ?_) (fun c8 => ?_)
          · have hf := ifP c8 hj53
            refine lv_iload_n hx hb dX8_freeOf_52 rfl (lv_at hl 1 rfl) ?_
            cases hf
            exact K53 _ _ _ G (lv_sub hl [0, 2, 3] rfl)
          · have hf := ifN c8 hj53
            refine lv_iload_n hx hb dX8_freeOf_48 rfl (lv_at hl 3 rfl) ?_
            refine lv_goto (tgt := 53) hx hb dX8_freeOf_49 (by decide) ?_
            cases hf
            exact K53 _ _ _ G (lv_sub hl [0, 2, 3] rfl)
  exact L6 n _ _ _ _ _ _ _ G (lv_sub hl [3, 2, 1, 0] rfl) hn

noncomputable def f_X8_free (st : GS) : Option (Int32 × GS) := 
bI1 (f_X8_lacks st) (fun r1 => 
(if r1 = 0 then bI2 (f_X8_freeOf st) (fun r3 st4 => 
some ((r3, st4))) else 
some (((-103), st))))
set_option maxRecDepth 100000 in
set_option maxHeartbeats 4000000 in
theorem c_X8_free (l : Launch) (D : va_G) (cy : ClassId) (h : Nat → Nat)  (st : GS) (r : Int32) (stF : GS) (hf : f_X8_free st = some (r, stF)) : gMi l MSh D cy h yX8_free cX8_free 1 (some .int) 8 st [.ref (h 0)] r stF := by
  unfold f_X8_free at hf
  refine gMi_of (by decide) (Nat.le_of_ble_eq_true rfl) ?_
  intro p e s m args below meth c A ls C hr hlocks G hl
  have C : gC p s m args c cX8_free 1 "LaneOrderModel" MSh D cy h A := C
  have hl : lv_has ls 1 [(0, .ref (h 0))] := hl
  have hx := C.1
  have hb := C.2.1
  have hown := C.2.2.2.1
  have htb := C.2.2.2.2.1
  refine lv_aload_n hx hb dX8_free_0 rfl (lv_at hl 0 rfl) ?_
  obtain ⟨r1, hc1_1, hf⟩ := bI1_some hf
  refine g_callVi C G (As := []) (rest := []) (c_X8_lacks l D cy h st r1 hc1_1) cl8 rfl (C8 ok8_0) v_X8_232 (Nat.le_of_ble_eq_true rfl) (Nat.le_of_ble_eq_true rfl) rfl hl.1 rfl (Nat.le_of_ble_eq_true rfl) dX8_free_1 ⟨Nat.zero_le _, Nat.zero_le _⟩ (fun H locs G => ?_)
  refine lv_if_eq (tgt := 12) hx hb dX8_free_4 (by decide) (fun c2 => ?_) (fun c2 => ?_)
  · have hf := ifP c2 hf
    refine lv_aload_n hx hb dX8_free_12 rfl (lv_at hl 0 rfl) ?_
    obtain ⟨r3, st4, hc13_4, hf⟩ := bI2_some hf
    refine g_callVi C G (As := []) (rest := []) (c_X8_freeOf l D cy h st r3 st4 hc13_4) cl8 rfl (C8 ok8_0) v_X8_265 (Nat.le_of_ble_eq_true rfl) (Nat.le_of_ble_eq_true rfl) rfl hl.1 rfl (Nat.le_of_ble_eq_true rfl) dX8_free_13 ⟨Nat.zero_le _, Nat.zero_le _⟩ (fun H locs G => ?_)
    cases hf
    exact g_iret C G hr hlocks dX8_free_16
  · have hf := ifN c2 hf
    refine lv_bipush (v := (-103)) hx hb dX8_free_7 (by decide) ?_
    refine lv_goto (tgt := 16) hx hb dX8_free_9 (by decide) ?_
    cases hf
    exact g_iret C G hr hlocks dX8_free_16
