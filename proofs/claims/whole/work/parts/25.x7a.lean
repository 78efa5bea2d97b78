noncomputable def f_X7_letter (a1 : Int32) (st : GS) : Option (Int32 × GS) := 
(if a1 < 1 then some (((-102), st)) else 
(if a1 ≤ 126 then (if (gt st 1 1) < 54 then bI1 (f_X6_add a1 st) (fun st4 => 
some (((gt st4 1 1), st4))) else 
some (((-104), st))) else 
some (((-102), st))))
set_option maxRecDepth 100000 in
set_option maxHeartbeats 4000000 in
theorem c_X7_letter (l : Launch) (D : va_G) (cy : ClassId) (h : Nat → Nat) (a1 : Int32) (st : GS) (r : Int32) (stF : GS) (hf : f_X7_letter a1 st = some (r, stF)) : gMi l XSh D cy h yX7_letter cX7_letter 2 (some .int) 2 st [.ref (h 0), .int a1] r stF := by
  unfold f_X7_letter at hf
  refine gMi_of (by decide) (Nat.le_of_ble_eq_true rfl) ?_
  intro p e s m args below meth c A ls C hr hlocks G hl
  have C : gC p s m args c cX7_letter 2 "LaneOrder" XSh D cy h A := C
  have hl : lv_has ls 2 [(0, .ref (h 0)), (1, .int a1)] := hl
  have hx := C.1
  have hb := C.2.1
  have hown := C.2.2.2.1
  have htb := C.2.2.2.2.1
  refine lv_iload_n hx hb dX7_letter_0 rfl (lv_at hl 1 rfl) ?_
  refine lv_iconst (v := 1) hx hb dX7_letter_1 (by decide) ?_
  refine lv_icmp_lt (tgt := 11) hx hb dX7_letter_2 (by decide) (fun c1 => ?_) (fun c1 => ?_)
  · have hf := ifP c1 hf
    refine lv_bipush (v := (-102)) hx hb dX7_letter_11 (by decide) ?_
    cases hf
    exact g_iret C G hr hlocks dX7_letter_13
  · have hf := ifN c1 hf
    refine lv_iload_n hx hb dX7_letter_5 rfl (lv_at hl 1 rfl) ?_
    refine lv_bipush (v := 126) hx hb dX7_letter_6 (by decide) ?_
    refine lv_icmp_le (tgt := 14) hx hb dX7_letter_8 (by decide) (fun c2 => ?_) (fun c2 => ?_)
    · have hf := ifP c2 hf
      refine lv_aload_n hx hb dX7_letter_14 rfl (lv_at hl 0 rfl) ?_
      refine g_getr (k := 1) C G cl7 (C7 ok7_0) (j := 0) (by decide) (F7_0 ok7_0) k1_231 dX7_letter_15 ?_
      refine g_getiN C G cl6 (C6 (O7_0 ok7_0)) (j := 1) (by decide) (F6_1 (O7_0 ok7_0)) k1_35 dX7_letter_18 ?_
      refine lv_bipush (v := 54) hx hb dX7_letter_21 (by decide) ?_
      refine lv_icmp_lt (tgt := 29) hx hb dX7_letter_23 (by decide) (fun c3 => ?_) (fun c3 => ?_)
      · have hf := ifP c3 hf
        refine lv_aload_n hx hb dX7_letter_29 rfl (lv_at hl 0 rfl) ?_
        refine g_getr (k := 1) C G cl7 (C7 ok7_0) (j := 0) (by decide) (F7_0 ok7_0) k1_231 dX7_letter_30 ?_
        refine lv_iload_n hx hb dX7_letter_33 rfl (lv_at hl 1 rfl) ?_
        obtain ⟨st4, hc34_4, hf⟩ := bI1_some hf
        refine g_callVv C G (As := [.int a1]) (rest := []) (c_X6_add l D cy h a1 st st4 hc34_4) cl6 rfl (C6 (O7_0 ok7_0)) v_X7_54 (Nat.le_of_ble_eq_true rfl) (Nat.le_of_ble_eq_true rfl) rfl hl.1 rfl (Nat.le_of_ble_eq_true rfl) dX7_letter_34 ⟨Nat.zero_le _, Nat.zero_le _⟩ (fun H locs G => ?_)
        refine lv_aload_n hx hb dX7_letter_37 rfl (lv_at hl 0 rfl) ?_
        refine g_getr (k := 1) C G cl7 (C7 ok7_0) (j := 0) (by decide) (F7_0 ok7_0) k1_231 dX7_letter_38 ?_
        refine g_getiN C G cl6 (C6 (O7_0 ok7_0)) (j := 1) (by decide) (F6_1 (O7_0 ok7_0)) k1_35 dX7_letter_41 ?_
        cases hf
        exact g_iret C G hr hlocks dX7_letter_44
      · have hf := ifN c3 hf
        refine lv_bipush (v := (-104)) hx hb dX7_letter_26 (by decide) ?_
        cases hf
        exact g_iret C G hr hlocks dX7_letter_28
    · have hf := ifN c2 hf
      refine lv_bipush (v := (-102)) hx hb dX7_letter_11 (by decide) ?_
      cases hf
      exact g_iret C G hr hlocks dX7_letter_13

noncomputable def f_X7_blank (st : GS) : Option (Int32 × GS) := 
lt_ (gt st 1 1) (fun x1 => 
bI1 (f_X6_clear st) (fun st2 => 
some ((x1, st2))))
set_option maxRecDepth 100000 in
set_option maxHeartbeats 4000000 in
theorem c_X7_blank (l : Launch) (D : va_G) (cy : ClassId) (h : Nat → Nat)  (st : GS) (r : Int32) (stF : GS) (hf : f_X7_blank st = some (r, stF)) : gMi l XSh D cy h yX7_blank cX7_blank 2 (some .int) 2 st [.ref (h 0)] r stF := by
  unfold f_X7_blank at hf
  refine gMi_of (by decide) (Nat.le_of_ble_eq_true rfl) ?_
  intro p e s m args below meth c A ls C hr hlocks G hl
  have C : gC p s m args c cX7_blank 2 "LaneOrder" XSh D cy h A := C
  have hl : lv_has ls 2 [(0, .ref (h 0))] := hl
  have hx := C.1
  have hb := C.2.1
  have hown := C.2.2.2.1
  have htb := C.2.2.2.2.1
  refine lv_aload_n hx hb dX7_blank_0 rfl (lv_at hl 0 rfl) ?_
  refine g_getr (k := 1) C G cl7 (C7 ok7_0) (j := 0) (by decide) (F7_0 ok7_0) k1_231 dX7_blank_1 ?_
  refine g_getiN C G cl6 (C6 (O7_0 ok7_0)) (j := 1) (by decide) (F6_1 (O7_0 ok7_0)) k1_35 dX7_blank_4 ?_
  refine lv_topi (fun x1 ex1 => ?_)
  have hf := lt_some ex1 hf
  refine lv_istore_n (lv' := [(1, .int x1), (0, .ref (h 0))]) hx hb dX7_blank_7 rfl hl (by decide) rfl (fun ls hl => ?_)
  refine lv_aload_n hx hb dX7_blank_8 rfl (lv_at hl 1 rfl) ?_
  refine g_getr (k := 1) C G cl7 (C7 ok7_0) (j := 0) (by decide) (F7_0 ok7_0) k1_231 dX7_blank_9 ?_
  obtain ⟨st2, hc12_2, hf⟩ := bI1_some hf
  refine g_callVv C G (As := []) (rest := []) (c_X6_clear l D cy h st st2 hc12_2) cl6 rfl (C6 (O7_0 ok7_0)) v_X7_58 (Nat.le_of_ble_eq_true rfl) (Nat.le_of_ble_eq_true rfl) rfl hl.1 rfl (Nat.le_of_ble_eq_true rfl) dX7_blank_12 ⟨Nat.zero_le _, Nat.zero_le _⟩ (fun H locs G => ?_)
  refine lv_iload_n hx hb dX7_blank_15 rfl (lv_at hl 0 rfl) ?_
  cases hf
  exact g_iret C G hr hlocks dX7_blank_16

noncomputable def f_X7_fault (st : GS) : Option (Int32) := 
bI1 (f_X6_firstFault st) (fun r1 => 
some (r1))
set_option maxRecDepth 100000 in
set_option maxHeartbeats 4000000 in
theorem c_X7_fault (l : Launch) (D : va_G) (cy : ClassId) (h : Nat → Nat)  (st : GS) (r : Int32) (hf : f_X7_fault st = some r) : gMi l XSh D cy h yX7_fault cX7_fault 1 (some .int) 11 st [.ref (h 0)] r st := by
  unfold f_X7_fault at hf
  refine gMi_of (by decide) (Nat.le_of_ble_eq_true rfl) ?_
  intro p e s m args below meth c A ls C hr hlocks G hl
  have C : gC p s m args c cX7_fault 1 "LaneOrder" XSh D cy h A := C
  have hl : lv_has ls 1 [(0, .ref (h 0))] := hl
  have hx := C.1
  have hb := C.2.1
  have hown := C.2.2.2.1
  have htb := C.2.2.2.2.1
  refine lv_aload_n hx hb dX7_fault_0 rfl (lv_at hl 0 rfl) ?_
  refine g_getr (k := 1) C G cl7 (C7 ok7_0) (j := 0) (by decide) (F7_0 ok7_0) k1_231 dX7_fault_1 ?_
  obtain ⟨r1, hc4_1, hf⟩ := bI1_some hf
  refine g_callVi C G (As := []) (rest := []) (c_X6_firstFault l D cy h st r1 hc4_1) cl6 rfl (C6 (O7_0 ok7_0)) v_X7_61 (Nat.le_of_ble_eq_true rfl) (Nat.le_of_ble_eq_true rfl) rfl hl.1 rfl (Nat.le_of_ble_eq_true rfl) dX7_fault_4 ⟨Nat.zero_le _, Nat.zero_le _⟩ (fun H locs G => ?_)
  cases hf
  exact g_iret C G hr hlocks dX7_fault_7

noncomputable def f_X7_page (st : GS) : Option (Int32 × GS) := 
bI1 (f_X6_isPage st) (fun r1 => 
(if r1 = 0 then some (((-103), st)) else 
bI1 (f_X6_writeTo 4 st) (fun st3 => 
bI1 (f_X3_renew 3 st3) (fun st4 => 
bI1 (f_X6_clear st4) (fun st5 => 
bI1 (f_X4_clear 28 st5) (fun st6 => 
lt_ (sv st6 0 5 0) (fun st7 => 
lt_ (sv st7 0 6 ((gt st7 0 6) + 1)) (fun st8 => 
some (((gt st8 4 5), st8))))))))))
set_option maxRecDepth 100000 in
set_option maxHeartbeats 4000000 in
theorem c_X7_page (l : Launch) (D : va_G) (cy : ClassId) (h : Nat → Nat)  (st : GS) (r : Int32) (stF : GS) (hf : f_X7_page st = some (r, stF)) : gMi l XSh D cy h yX7_page cX7_page 1 (some .int) 16 st [.ref (h 0)] r stF := by
  unfold f_X7_page at hf
  refine gMi_of (by decide) (Nat.le_of_ble_eq_true rfl) ?_
  intro p e s m args below meth c A ls C hr hlocks G hl
  have C : gC p s m args c cX7_page 1 "LaneOrder" XSh D cy h A := C
  have hl : lv_has ls 1 [(0, .ref (h 0))] := hl
  have hx := C.1
  have hb := C.2.1
  have hown := C.2.2.2.1
  have htb := C.2.2.2.2.1
  refine lv_aload_n hx hb dX7_page_0 rfl (lv_at hl 0 rfl) ?_
  refine g_getr (k := 1) C G cl7 (C7 ok7_0) (j := 0) (by decide) (F7_0 ok7_0) k1_231 dX7_page_1 ?_
  obtain ⟨r1, hc4_1, hf⟩ := bI1_some hf
  refine g_callVi C G (As := []) (rest := []) (c_X6_isPage l D cy h st r1 hc4_1) cl6 rfl (C6 (O7_0 ok7_0)) v_X7_65 (Nat.le_of_ble_eq_true rfl) (Nat.le_of_ble_eq_true rfl) rfl hl.1 rfl (Nat.le_of_ble_eq_true rfl) dX7_page_4 ⟨Nat.zero_le _, Nat.zero_le _⟩ (fun H locs G => ?_)
  refine lv_if_ne (tgt := 13) hx hb dX7_page_7 (by decide) (fun c2 => ?_) (fun c2 => ?_)
  · have hf := ifN c2 hf
    refine lv_aload_n hx hb dX7_page_13 rfl (lv_at hl 0 rfl) ?_
    refine g_getr (k := 1) C G cl7 (C7 ok7_0) (j := 0) (by decide) (F7_0 ok7_0) k1_231 dX7_page_14 ?_
    refine lv_aload_n hx hb dX7_page_17 rfl (lv_at hl 0 rfl) ?_
    refine g_getr (k := 3) C G cl7 (C7 ok7_0) (j := 1) (by decide) (F7_1 ok7_0) k1_232 dX7_page_18 ?_
    refine g_getrN (k := 4) C G cl3 (C3 (O7_1 ok7_0)) (j := 0) (by decide) (F3_0 (O7_1 ok7_0)) k1_152 dX7_page_21 ?_
    obtain ⟨st3, hc24_3, hf⟩ := bI1_some hf
    refine g_callVv C G (As := [.ref (h 4)]) (rest := []) (c_X6_writeTo l D cy h 4 (O3_0 (O7_1 ok7_0)) st st3 hc24_3) cl6 rfl (C6 (O7_0 ok7_0)) v_X7_72 (Nat.le_of_ble_eq_true rfl) (Nat.le_of_ble_eq_true rfl) rfl hl.1 rfl (Nat.le_of_ble_eq_true rfl) dX7_page_24 ⟨Nat.zero_le _, Nat.zero_le _⟩ (fun H locs G => ?_)
    refine lv_aload_n hx hb dX7_page_27 rfl (lv_at hl 0 rfl) ?_
    refine g_getr (k := 3) C G cl7 (C7 ok7_0) (j := 1) (by decide) (F7_1 ok7_0) k1_232 dX7_page_28 ?_
    obtain ⟨st4, hc31_4, hf⟩ := bI1_some hf
    refine g_callVv C G (As := []) (rest := []) (c_X3_renew l D cy h 3 (O7_1 ok7_0) st3 st4 hc31_4) cl3 rfl (C3 (O7_1 ok7_0)) v_X7_76 (Nat.le_of_ble_eq_true rfl) (Nat.le_of_ble_eq_true rfl) rfl hl.1 rfl (Nat.le_of_ble_eq_true rfl) dX7_page_31 ⟨Nat.zero_le _, Nat.zero_le _⟩ (fun H locs G => ?_)
    refine lv_aload_n hx hb dX7_page_34 rfl (lv_at hl 0 rfl) ?_
    refine g_getr (k := 1) C G cl7 (C7 ok7_0) (j := 0) (by decide) (F7_0 ok7_0) k1_231 dX7_page_35 ?_
    obtain ⟨st5, hc38_5, hf⟩ := bI1_some hf
    refine g_callVv C G (As := []) (rest := []) (c_X6_clear l D cy h st4 st5 hc38_5) cl6 rfl (C6 (O7_0 ok7_0)) v_X7_58 (Nat.le_of_ble_eq_true rfl) (Nat.le_of_ble_eq_true rfl) rfl hl.1 rfl (Nat.le_of_ble_eq_true rfl) dX7_page_38 ⟨Nat.zero_le _, Nat.zero_le _⟩ (fun H locs G => ?_)
    refine lv_aload_n hx hb dX7_page_41 rfl (lv_at hl 0 rfl) ?_
    refine g_getr (k := 28) C G cl7 (C7 ok7_0) (j := 2) (by decide) (F7_2 ok7_0) k1_233 dX7_page_42 ?_
    obtain ⟨st6, hc45_6, hf⟩ := bI1_some hf
    refine g_callVv C G (As := []) (rest := []) (c_X4_clear l D cy h 28 (O7_2 ok7_0) st5 st6 hc45_6) cl4 rfl (C4 (O7_2 ok7_0)) v_X7_79 (Nat.le_of_ble_eq_true rfl) (Nat.le_of_ble_eq_true rfl) rfl hl.1 rfl (Nat.le_of_ble_eq_true rfl) dX7_page_45 ⟨Nat.zero_le _, Nat.zero_le _⟩ (fun H locs G => ?_)
    refine lv_aload_n hx hb dX7_page_48 rfl (lv_at hl 0 rfl) ?_
    refine lv_iconst (v := 0) hx hb dX7_page_49 (by decide) ?_
    refine g_puti C G cl7 (C7 ok7_0) (j := 5) (by decide) (F7_5 ok7_0) k1_236 rfl rfl rfl dX7_page_50 (fun st7 est7 H locs G => ?_)
    have hf := lt_some est7 hf
    refine lv_aload_n hx hb dX7_page_53 rfl (lv_at hl 0 rfl) ?_
    refine lv_dup hx hb dX7_page_54 rfl ?_
    refine g_geti C G cl7 (C7 ok7_0) (j := 6) (by decide) (F7_6 ok7_0) k1_237 dX7_page_55 ?_
    refine lv_iconst (v := 1) hx hb dX7_page_58 (by decide) ?_
    refine lv_iadd hx hb dX7_page_59 ?_
    refine g_puti C G cl7 (C7 ok7_0) (j := 6) (by decide) (F7_6 ok7_0) k1_237 rfl rfl rfl dX7_page_60 (fun st8 est8 H locs G => ?_)
    have hf := lt_some est8 hf
    refine lv_aload_n hx hb dX7_page_63 rfl (lv_at hl 0 rfl) ?_
    refine g_getr (k := 3) C G cl7 (C7 ok7_0) (j := 1) (by decide) (F7_1 ok7_0) k1_232 dX7_page_64 ?_
    refine g_getrN (k := 4) C G cl3 (C3 (O7_1 ok7_0)) (j := 0) (by decide) (F3_0 (O7_1 ok7_0)) k1_152 dX7_page_67 ?_
    refine g_getiN C G cl5 (C5 (O3_0 (O7_1 ok7_0))) (j := 5) (by decide) (F5_5 (O3_0 (O7_1 ok7_0))) k1_71 dX7_page_70 ?_
    cases hf
    exact g_iret C G hr hlocks dX7_page_73
  · have hf := ifP c2 hf
    refine lv_bipush (v := (-103)) hx hb dX7_page_10 (by decide) ?_
    cases hf
    exact g_iret C G hr hlocks dX7_page_12

noncomputable def f_X7_box (a1 : Int32) (a2 : Int32) (st : GS) : Option (Int32) := 
bI1 (f_X5_has 4 a1 st) (fun r1 => 
(if r1 = 0 then some ((-101)) else 
(if a2 = 0 then gd a1 8 (some ((gt st 5 (a1.toNatClampNeg)))) else 
(if a2 = 1 then gd a1 8 (some ((gt st 6 (a1.toNatClampNeg)))) else 
(if a2 = 2 then gd a1 8 (some ((gt st 7 (a1.toNatClampNeg)))) else 
(if a2 = 3 then gd a1 8 (some ((gt st 8 (a1.toNatClampNeg)))) else 
(if a2 = 4 then gd a1 8 (some ((gt st 9 (a1.toNatClampNeg)))) else 
(if a2 = 5 then gd a1 8 (some ((gt st 12 (a1.toNatClampNeg)))) else 
(if a2 = 6 then gd a1 8 (some ((gt st 13 (a1.toNatClampNeg)))) else 
(if a2 = 7 then gd a1 8 (some ((gt st 14 (a1.toNatClampNeg)))) else 
(if a2 = 8 then bI1 (f_X4_sortsOf 28 a1 st) (fun r12 => 
some (r12)) else 
(if a2 = 9 then bI1 (f_X4_nextQuestionFor 28 a1 st) (fun r13 => 
some (r13)) else 
some ((-102))))))))))))))
set_option maxRecDepth 100000 in
set_option maxHeartbeats 4000000 in
theorem c_X7_box (l : Launch) (D : va_G) (cy : ClassId) (h : Nat → Nat) (a1 : Int32) (a2 : Int32) (st : GS) (r : Int32) (hf : f_X7_box a1 a2 st = some r) : gMi l XSh D cy h yX7_box cX7_box 4 (some .int) 3 st [.ref (h 0), .int a1, .int a2] r st := by
  unfold f_X7_box at hf
  refine gMi_of (by decide) (Nat.le_of_ble_eq_true rfl) ?_
  intro p e s m args below meth c A ls C hr hlocks G hl
  have C : gC p s m args c cX7_box 4 "LaneOrder" XSh D cy h A := C
  have hl : lv_has ls 4 [(0, .ref (h 0)), (1, .int a1), (2, .int a2)] := hl
  have hx := C.1
  have hb := C.2.1
  have hown := C.2.2.2.1
  have htb := C.2.2.2.2.1
  refine lv_aload_n hx hb dX7_box_0 rfl (lv_at hl 0 rfl) ?_
  refine g_getr (k := 3) C G cl7 (C7 ok7_0) (j := 1) (by decide) (F7_1 ok7_0) k1_232 dX7_box_1 ?_
  refine g_getrN (k := 4) C G cl3 (C3 (O7_1 ok7_0)) (j := 0) (by decide) (F3_0 (O7_1 ok7_0)) k1_152 dX7_box_4 ?_
  refine lv_astore_n (lv' := [(3, .ref (h 4)), (0, .ref (h 0)), (1, .int a1), (2, .int a2)]) hx hb dX7_box_7 rfl hl (by decide) rfl (fun ls hl => ?_)
  refine lv_aload_n hx hb dX7_box_8 rfl (lv_at hl 0 rfl) ?_
  refine lv_iload_n hx hb dX7_box_9 rfl (lv_at hl 2 rfl) ?_
  obtain ⟨r1, hc10_1, hf⟩ := bI1_some hf
  refine g_callVi C G (As := [.int a1]) (rest := []) (c_X5_has l D cy h 4 (O3_0 (O7_1 ok7_0)) a1 st r1 hc10_1) cl5 rfl (C5 (O3_0 (O7_1 ok7_0))) v_X7_90 (Nat.le_of_ble_eq_true rfl) (Nat.le_of_ble_eq_true rfl) rfl hl.1 rfl (Nat.le_of_ble_eq_true rfl) dX7_box_10 ⟨Nat.zero_le _, Nat.zero_le _⟩ (fun H locs G => ?_)
  refine lv_if_ne (tgt := 19) hx hb dX7_box_13 (by decide) (fun c2 => ?_) (fun c2 => ?_)
  · have hf := ifN c2 hf
    refine lv_iload_n hx hb dX7_box_19 rfl (lv_at hl 3 rfl) ?_
    by_cases c3_0 : a2 = 0
    · have hf := ifP c3_0 hf
      refine lv_tableIn (tgt := 76) hx hb dX7_box_20 (by rw [c3_0]; decide) (by rw [c3_0]; decide) (by rw [c3_0]; rfl) (by decide) ?_
      refine lv_aload_n hx hb dX7_box_76 rfl (lv_at hl 0 rfl) ?_
      refine g_getrN (k := 5) C G cl5 (C5 (O3_0 (O7_1 ok7_0))) (j := 0) (by decide) (F5_0 (O3_0 (O7_1 ok7_0))) k1_56 dX7_box_77 ?_
      refine lv_iload_n hx hb dX7_box_80 rfl (lv_at hl 2 rfl) ?_
      obtain ⟨hi81_3, hf⟩ := gd_some hf
      refine g_iald C G (A5_0 (O3_0 (O7_1 ok7_0))) (j := a1.toNatClampNeg) rfl hi81_3 dX7_box_81 ?_
      cases hf
      exact g_iret C G hr hlocks dX7_box_82
    · have hf := ifN c3_0 hf
      by_cases c3_1 : a2 = 1
      · have hf := ifP c3_1 hf
        refine lv_tableIn (tgt := 83) hx hb dX7_box_20 (by rw [c3_1]; decide) (by rw [c3_1]; decide) (by rw [c3_1]; rfl) (by decide) ?_
        refine lv_aload_n hx hb dX7_box_83 rfl (lv_at hl 0 rfl) ?_
        refine g_getrN (k := 6) C G cl5 (C5 (O3_0 (O7_1 ok7_0))) (j := 1) (by decide) (F5_1 (O3_0 (O7_1 ok7_0))) k1_59 dX7_box_84 ?_
        refine lv_iload_n hx hb dX7_box_87 rfl (lv_at hl 2 rfl) ?_
        obtain ⟨hi88_4, hf⟩ := gd_some hf
        refine g_iald C G (A5_1 (O3_0 (O7_1 ok7_0))) (j := a1.toNatClampNeg) rfl hi88_4 dX7_box_88 ?_
        cases hf
        exact g_iret C G hr hlocks dX7_box_89
      · have hf := ifN c3_1 hf
        by_cases c3_2 : a2 = 2
        · have hf := ifP c3_2 hf
          refine lv_tableIn (tgt := 90) hx hb dX7_box_20 (by rw [c3_2]; decide) (by rw [c3_2]; decide) (by rw [c3_2]; rfl) (by decide) ?_
          refine lv_aload_n hx hb dX7_box_90 rfl (lv_at hl 0 rfl) ?_
          refine g_getrN (k := 7) C G cl5 (C5 (O3_0 (O7_1 ok7_0))) (j := 2) (by decide) (F5_2 (O3_0 (O7_1 ok7_0))) k1_62 dX7_box_91 ?_
          refine lv_iload_n hx hb dX7_box_94 rfl (lv_at hl 2 rfl) ?_
          obtain ⟨hi95_5, hf⟩ := gd_some hf
          refine g_iald C G (A5_2 (O3_0 (O7_1 ok7_0))) (j := a1.toNatClampNeg) rfl hi95_5 dX7_box_95 ?_
          cases hf
          exact g_iret C G hr hlocks dX7_box_96
        · have hf := ifN c3_2 hf
          by_cases c3_3 : a2 = 3
          · have hf := ifP c3_3 hf
            refine lv_tableIn (tgt := 97) hx hb dX7_box_20 (by rw [c3_3]; decide) (by rw [c3_3]; decide) (by rw [c3_3]; rfl) (by decide) ?_
            refine lv_aload_n hx hb dX7_box_97 rfl (lv_at hl 0 rfl) ?_
            refine g_getrN (k := 8) C G cl5 (C5 (O3_0 (O7_1 ok7_0))) (j := 3) (by decide) (F5_3 (O3_0 (O7_1 ok7_0))) k1_65 dX7_box_98 ?_
            refine lv_iload_n hx hb dX7_box_101 rfl (lv_at hl 2 rfl) ?_
            obtain ⟨hi102_6, hf⟩ := gd_some hf
            refine g_iald C G (A5_3 (O3_0 (O7_1 ok7_0))) (j := a1.toNatClampNeg) rfl hi102_6 dX7_box_102 ?_
            cases hf
            exact g_iret C G hr hlocks dX7_box_103
          · have hf := ifN c3_3 hf
            by_cases c3_4 : a2 = 4
            · have hf := ifP c3_4 hf
              refine lv_tableIn (tgt := 104) hx hb dX7_box_20 (by rw [c3_4]; decide) (by rw [c3_4]; decide) (by rw [c3_4]; rfl) (by decide) ?_
              refine lv_aload_n hx hb dX7_box_104 rfl (lv_at hl 0 rfl) ?_
              refine g_getrN (k := 9) C G cl5 (C5 (O3_0 (O7_1 ok7_0))) (j := 4) (by decide) (F5_4 (O3_0 (O7_1 ok7_0))) k1_68 dX7_box_105 ?_
              refine lv_iload_n hx hb dX7_box_108 rfl (lv_at hl 2 rfl) ?_
              obtain ⟨hi109_7, hf⟩ := gd_some hf
              refine g_iald C G (A5_4 (O3_0 (O7_1 ok7_0))) (j := a1.toNatClampNeg) rfl hi109_7 dX7_box_109 ?_
              cases hf
              exact g_iret C G hr hlocks dX7_box_110
            · have hf := ifN c3_4 hf
              by_cases c3_5 : a2 = 5
              · have hf := ifP c3_5 hf
                refine lv_tableIn (tgt := 111) hx hb dX7_box_20 (by rw [c3_5]; decide) (by rw [c3_5]; decide) (by rw [c3_5]; rfl) (by decide) ?_
                refine lv_aload_n hx hb dX7_box_111 rfl (lv_at hl 1 rfl) ?_
                refine g_getr (k := 3) C G cl7 (C7 ok7_0) (j := 1) (by decide) (F7_1 ok7_0) k1_232 dX7_box_112 ?_
                refine g_getrN (k := 12) C G cl3 (C3 (O7_1 ok7_0)) (j := 3) (by decide) (F3_3 (O7_1 ok7_0)) k1_158 dX7_box_115 ?_
                refine lv_iload_n hx hb dX7_box_118 rfl (lv_at hl 2 rfl) ?_
                obtain ⟨hi119_8, hf⟩ := gd_some hf
                refine g_iald C G (A3_3 (O7_1 ok7_0)) (j := a1.toNatClampNeg) rfl hi119_8 dX7_box_119 ?_
                cases hf
                exact g_iret C G hr hlocks dX7_box_120
              · have hf := ifN c3_5 hf
                by_cases c3_6 : a2 = 6
                · have hf := ifP c3_6 hf
                  refine lv_tableIn (tgt := 121) hx hb dX7_box_20 (by rw [c3_6]; decide) (by rw [c3_6]; decide) (by rw [c3_6]; rfl) (by decide) ?_
                  refine lv_aload_n hx hb dX7_box_121 rfl (lv_at hl 1 rfl) ?_
                  refine g_getr (k := 3) C G cl7 (C7 ok7_0) (j := 1) (by decide) (F7_1 ok7_0) k1_232 dX7_box_122 ?_
                  refine g_getrN (k := 13) C G cl3 (C3 (O7_1 ok7_0)) (j := 4) (by decide) (F3_4 (O7_1 ok7_0)) k1_160 dX7_box_125 ?_
                  refine lv_iload_n hx hb dX7_box_128 rfl (lv_at hl 2 rfl) ?_
                  obtain ⟨hi129_9, hf⟩ := gd_some hf
                  refine g_iald C G (A3_4 (O7_1 ok7_0)) (j := a1.toNatClampNeg) rfl hi129_9 dX7_box_129 ?_
                  cases hf
                  exact g_iret C G hr hlocks dX7_box_130
                · have hf := ifN c3_6 hf
                  by_cases c3_7 : a2 = 7
                  · have hf := ifP c3_7 hf
                    refine lv_tableIn (tgt := 131) hx hb dX7_box_20 (by rw [c3_7]; decide) (by rw [c3_7]; decide) (by rw [c3_7]; rfl) (by decide) ?_
                    refine lv_aload_n hx hb dX7_box_131 rfl (lv_at hl 1 rfl) ?_
                    refine g_getr (k := 3) C G cl7 (C7 ok7_0) (j := 1) (by decide) (F7_1 ok7_0) k1_232 dX7_box_132 ?_
                    refine g_getrN (k := 14) C G cl3 (C3 (O7_1 ok7_0)) (j := 5) (by decide) (F3_5 (O7_1 ok7_0)) k1_162 dX7_box_135 ?_
                    refine lv_iload_n hx hb dX7_box_138 rfl (lv_at hl 2 rfl) ?_
                    obtain ⟨hi139_10, hf⟩ := gd_some hf
                    refine g_iald C G (A3_5 (O7_1 ok7_0)) (j := a1.toNatClampNeg) rfl hi139_10 dX7_box_139 ?_
                    cases hf
                    exact g_iret C G hr hlocks dX7_box_140
                  · have hf := ifN c3_7 hf
                    by_cases c3_8 : a2 = 8
                    · have hf := ifP c3_8 hf
                      refine lv_tableIn (tgt := 141) hx hb dX7_box_20 (by rw [c3_8]; decide) (by rw [c3_8]; decide) (by rw [c3_8]; rfl) (by decide) ?_
                      refine lv_aload_n hx hb dX7_box_141 rfl (lv_at hl 1 rfl) ?_
                      refine g_getr (k := 28) C G cl7 (C7 ok7_0) (j := 2) (by decide) (F7_2 ok7_0) k1_233 dX7_box_142 ?_
                      refine lv_iload_n hx hb dX7_box_145 rfl (lv_at hl 2 rfl) ?_
                      obtain ⟨r12, hc146_12, hf⟩ := bI1_some hf
                      refine g_callVi C G (As := [.int a1]) (rest := []) (c_X4_sortsOf l D cy h 28 (O7_2 ok7_0) a1 st r12 hc146_12) cl4 rfl (C4 (O7_2 ok7_0)) v_X7_119 (Nat.le_of_ble_eq_true rfl) (Nat.le_of_ble_eq_true rfl) rfl hl.1 rfl (Nat.le_of_ble_eq_true rfl) dX7_box_146 ⟨Nat.zero_le _, Nat.zero_le _⟩ (fun H locs G => ?_)
                      cases hf
                      exact g_iret C G hr hlocks dX7_box_149
                    · have hf := ifN c3_8 hf
                      by_cases c3_9 : a2 = 9
                      · have hf := ifP c3_9 hf
                        refine lv_tableIn (tgt := 150) hx hb dX7_box_20 (by rw [c3_9]; decide) (by rw [c3_9]; decide) (by rw [c3_9]; rfl) (by decide) ?_
                        refine lv_aload_n hx hb dX7_box_150 rfl (lv_at hl 1 rfl) ?_
                        refine g_getr (k := 28) C G cl7 (C7 ok7_0) (j := 2) (by decide) (F7_2 ok7_0) k1_233 dX7_box_151 ?_
                        refine lv_iload_n hx hb dX7_box_154 rfl (lv_at hl 2 rfl) ?_
                        obtain ⟨r13, hc155_13, hf⟩ := bI1_some hf
                        refine g_callVi C G (As := [.int a1]) (rest := []) (c_X4_nextQuestionFor l D cy h 28 (O7_2 ok7_0) a1 st r13 hc155_13) cl4 rfl (C4 (O7_2 ok7_0)) v_X7_123 (Nat.le_of_ble_eq_true rfl) (Nat.le_of_ble_eq_true rfl) rfl hl.1 rfl (Nat.le_of_ble_eq_true rfl) dX7_box_155 ⟨Nat.zero_le _, Nat.zero_le _⟩ (fun H locs G => ?_)
                        cases hf
                        exact g_iret C G hr hlocks dX7_box_158
                      · have hf := ifN c3_9 hf
                        refine lv_tableOut (tgt := 159) hx hb dX7_box_20 (tab_9 c3_0 c3_1 c3_2 c3_3 c3_4 c3_5 c3_6 c3_7 c3_8 c3_9) (by decide) ?_
                        refine lv_bipush (v := (-102)) hx hb dX7_box_159 (by decide) ?_
                        cases hf
                        exact g_iret C G hr hlocks dX7_box_161
  · have hf := ifP c2 hf
    refine lv_bipush (v := (-101)) hx hb dX7_box_16 (by decide) ?_
    cases hf
    exact g_iret C G hr hlocks dX7_box_18

noncomputable def f_X7_isKind (a1 : Int32) : Option (Int32) := 
(if a1 < 0 then some (0) else 
(if 5 ≤ a1 then some (0) else 
some (1)))
set_option maxRecDepth 100000 in
set_option maxHeartbeats 4000000 in
theorem c_X7_isKind (l : Launch) (D : va_G) (cy : ClassId) (h : Nat → Nat) (a1 : Int32) (st : GS) (r : Int32) (hf : f_X7_isKind a1 = some r) : gMi l XSh D cy h yX7_isKind cX7_isKind 1 (some .boolean) 1 st [.int a1] r st := by
  unfold f_X7_isKind at hf
  refine gMi_of (by decide) (Nat.le_of_ble_eq_true rfl) ?_
  intro p e s m args below meth c A ls C hr hlocks G hl
  have C : gC p s m args c cX7_isKind 1 "LaneOrder" XSh D cy h A := C
  have hl : lv_has ls 1 [(0, .int a1)] := hl
  have hx := C.1
  have hb := C.2.1
  have hown := C.2.2.2.1
  have htb := C.2.2.2.2.1
  refine lv_iload_n hx hb dX7_isKind_0 rfl (lv_at hl 0 rfl) ?_
  refine lv_if_lt (tgt := 13) hx hb dX7_isKind_1 (by decide) (fun c1 => ?_) (fun c1 => ?_)
  · have hf := ifP c1 hf
    refine lv_iconst (v := 0) hx hb dX7_isKind_13 (by decide) ?_
    cases hf
    exact g_zret C G (Or.inl rfl) hr hlocks dX7_isKind_14
  · have hf := ifN c1 hf
    refine lv_iload_n hx hb dX7_isKind_4 rfl (lv_at hl 0 rfl) ?_
    refine lv_iconst (v := 5) hx hb dX7_isKind_5 (by decide) ?_
    refine lv_icmp_ge (tgt := 13) hx hb dX7_isKind_6 (by decide) (fun c2 => ?_) (fun c2 => ?_)
    · have hf := ifP c2 hf
      refine lv_iconst (v := 0) hx hb dX7_isKind_13 (by decide) ?_
      cases hf
      exact g_zret C G (Or.inl rfl) hr hlocks dX7_isKind_14
    · have hf := ifN c2 hf
      refine lv_iconst (v := 1) hx hb dX7_isKind_9 (by decide) ?_
      refine lv_goto (tgt := 14) hx hb dX7_isKind_10 (by decide) ?_
      cases hf
      exact g_zret C G (Or.inr rfl) hr hlocks dX7_isKind_14

noncomputable def f_X7_as (a1 : Int32) (a2 : Int32) (st : GS) : Option (Int32) := 
bI1 (f_X5_has 4 a1 st) (fun r1 => 
(if r1 = 0 then some ((-101)) else 
bI1 (f_X7_isKind a2) (fun r3 => 
(if r3 = 0 then some ((-102)) else 
bI1 (f_X5_isOfKind 4 a1 a2 st) (fun r5 => 
(if r5 = 0 then some ((-1)) else 
some (a1)))))))
set_option maxRecDepth 100000 in
set_option maxHeartbeats 4000000 in
theorem c_X7_as (l : Launch) (D : va_G) (cy : ClassId) (h : Nat → Nat) (a1 : Int32) (a2 : Int32) (st : GS) (r : Int32) (hf : f_X7_as a1 a2 st = some r) : gMi l XSh D cy h yX7_as cX7_as 3 (some .int) 2 st [.ref (h 0), .int a1, .int a2] r st := by
  unfold f_X7_as at hf
  refine gMi_of (by decide) (Nat.le_of_ble_eq_true rfl) ?_
  intro p e s m args below meth c A ls C hr hlocks G hl
  have C : gC p s m args c cX7_as 3 "LaneOrder" XSh D cy h A := C
  have hl : lv_has ls 3 [(0, .ref (h 0)), (1, .int a1), (2, .int a2)] := hl
  have hx := C.1
  have hb := C.2.1
  have hown := C.2.2.2.1
  have htb := C.2.2.2.2.1
  refine lv_aload_n hx hb dX7_as_0 rfl (lv_at hl 0 rfl) ?_
  refine g_getr (k := 3) C G cl7 (C7 ok7_0) (j := 1) (by decide) (F7_1 ok7_0) k1_232 dX7_as_1 ?_
  refine g_getrN (k := 4) C G cl3 (C3 (O7_1 ok7_0)) (j := 0) (by decide) (F3_0 (O7_1 ok7_0)) k1_152 dX7_as_4 ?_
  refine lv_iload_n hx hb dX7_as_7 rfl (lv_at hl 1 rfl) ?_
  obtain ⟨r1, hc8_1, hf⟩ := bI1_some hf
  refine g_callVi C G (As := [.int a1]) (rest := []) (c_X5_has l D cy h 4 (O3_0 (O7_1 ok7_0)) a1 st r1 hc8_1) cl5 rfl (C5 (O3_0 (O7_1 ok7_0))) v_X7_90 (Nat.le_of_ble_eq_true rfl) (Nat.le_of_ble_eq_true rfl) rfl hl.1 rfl (Nat.le_of_ble_eq_true rfl) dX7_as_8 ⟨Nat.zero_le _, Nat.zero_le _⟩ (fun H locs G => ?_)
  refine lv_if_ne (tgt := 17) hx hb dX7_as_11 (by decide) (fun c2 => ?_) (fun c2 => ?_)
  · have hf := ifN c2 hf
    refine lv_iload_n hx hb dX7_as_17 rfl (lv_at hl 2 rfl) ?_
    obtain ⟨r3, hc18_3, hf⟩ := bI1_some hf
    refine g_callSi C G (As := [.int a2]) (rest := []) (c_X7_isKind l D cy h a2 st r3 hc18_3) v_X7_126 (Nat.le_of_ble_eq_true rfl) (Nat.le_of_ble_eq_true rfl) rfl hl.1 rfl (Nat.le_of_ble_eq_true rfl) dX7_as_18 ⟨Nat.zero_le _, Nat.zero_le _⟩ (fun H locs G => ?_)
    refine lv_if_ne (tgt := 27) hx hb dX7_as_21 (by decide) (fun c4 => ?_) (fun c4 => ?_)
    · have hf := ifN c4 hf
      refine lv_aload_n hx hb dX7_as_27 rfl (lv_at hl 0 rfl) ?_
      refine g_getr (k := 3) C G cl7 (C7 ok7_0) (j := 1) (by decide) (F7_1 ok7_0) k1_232 dX7_as_28 ?_
      refine g_getrN (k := 4) C G cl3 (C3 (O7_1 ok7_0)) (j := 0) (by decide) (F3_0 (O7_1 ok7_0)) k1_152 dX7_as_31 ?_
      refine lv_iload_n hx hb dX7_as_34 rfl (lv_at hl 1 rfl) ?_
      refine lv_iload_n hx hb dX7_as_35 rfl (lv_at hl 2 rfl) ?_
      obtain ⟨r5, hc36_5, hf⟩ := bI1_some hf
      refine g_callVi C G (As := [.int a1, .int a2]) (rest := []) (c_X5_isOfKind l D cy h 4 (O3_0 (O7_1 ok7_0)) a1 a2 st r5 hc36_5) cl5 rfl (C5 (O3_0 (O7_1 ok7_0))) v_X7_129 (Nat.le_of_ble_eq_true rfl) (Nat.le_of_ble_eq_true rfl) rfl hl.1 rfl (Nat.le_of_ble_eq_true rfl) dX7_as_36 ⟨Nat.zero_le _, Nat.zero_le _⟩ (fun H locs G => ?_)
      refine lv_if_eq (tgt := 46) hx hb dX7_as_39 (by decide) (fun c6 => ?_) (fun c6 => ?_)
      · have hf := ifP c6 hf
        refine lv_iconst (v := (-1)) hx hb dX7_as_46 (by decide) ?_
        cases hf
        exact g_iret C G hr hlocks dX7_as_47
      · have hf := ifN c6 hf
        refine lv_iload_n hx hb dX7_as_42 rfl (lv_at hl 1 rfl) ?_
        refine lv_goto (tgt := 47) hx hb dX7_as_43 (by decide) ?_
        cases hf
        exact g_iret C G hr hlocks dX7_as_47
    · have hf := ifP c4 hf
      refine lv_bipush (v := (-102)) hx hb dX7_as_24 (by decide) ?_
      cases hf
      exact g_iret C G hr hlocks dX7_as_26
  · have hf := ifP c2 hf
    refine lv_bipush (v := (-101)) hx hb dX7_as_14 (by decide) ?_
    cases hf
    exact g_iret C G hr hlocks dX7_as_16

noncomputable def f_X7_order (a1 : Int32) (st : GS) : Option (Int32) := 
(if a1 < 0 then some ((-101)) else 
(if (gt st 3 2) ≤ a1 then some ((-101)) else 
gd a1 8 (some ((gt st 11 (a1.toNatClampNeg))))))
set_option maxRecDepth 100000 in
set_option maxHeartbeats 4000000 in
theorem c_X7_order (l : Launch) (D : va_G) (cy : ClassId) (h : Nat → Nat) (a1 : Int32) (st : GS) (r : Int32) (hf : f_X7_order a1 st = some r) : gMi l XSh D cy h yX7_order cX7_order 2 (some .int) 1 st [.ref (h 0), .int a1] r st := by
  unfold f_X7_order at hf
  refine gMi_of (by decide) (Nat.le_of_ble_eq_true rfl) ?_
  intro p e s m args below meth c A ls C hr hlocks G hl
  have C : gC p s m args c cX7_order 2 "LaneOrder" XSh D cy h A := C
  have hl : lv_has ls 2 [(0, .ref (h 0)), (1, .int a1)] := hl
  have hx := C.1
  have hb := C.2.1
  have hown := C.2.2.2.1
  have htb := C.2.2.2.2.1
  refine lv_iload_n hx hb dX7_order_0 rfl (lv_at hl 1 rfl) ?_
  refine lv_if_lt (tgt := 27) hx hb dX7_order_1 (by decide) (fun c1 => ?_) (fun c1 => ?_)
  · have hf := ifP c1 hf
    refine lv_bipush (v := (-101)) hx hb dX7_order_27 (by decide) ?_
    cases hf
    exact g_iret C G hr hlocks dX7_order_29
  · have hf := ifN c1 hf
    refine lv_iload_n hx hb dX7_order_4 rfl (lv_at hl 1 rfl) ?_
    refine lv_aload_n hx hb dX7_order_5 rfl (lv_at hl 0 rfl) ?_
    refine g_getr (k := 3) C G cl7 (C7 ok7_0) (j := 1) (by decide) (F7_1 ok7_0) k1_232 dX7_order_6 ?_
    refine g_getiN C G cl3 (C3 (O7_1 ok7_0)) (j := 2) (by decide) (F3_2 (O7_1 ok7_0)) k1_156 dX7_order_9 ?_
    refine lv_icmp_ge (tgt := 27) hx hb dX7_order_12 (by decide) (fun c2 => ?_) (fun c2 => ?_)
    · have hf := ifP c2 hf
      refine lv_bipush (v := (-101)) hx hb dX7_order_27 (by decide) ?_
      cases hf
      exact g_iret C G hr hlocks dX7_order_29
    · have hf := ifN c2 hf
      refine lv_aload_n hx hb dX7_order_15 rfl (lv_at hl 0 rfl) ?_
      refine g_getr (k := 3) C G cl7 (C7 ok7_0) (j := 1) (by decide) (F7_1 ok7_0) k1_232 dX7_order_16 ?_
      refine g_getrN (k := 11) C G cl3 (C3 (O7_1 ok7_0)) (j := 1) (by decide) (F3_1 (O7_1 ok7_0)) k1_154 dX7_order_19 ?_
      refine lv_iload_n hx hb dX7_order_22 rfl (lv_at hl 1 rfl) ?_
      obtain ⟨hi23_2, hf⟩ := gd_some hf
      refine g_iald C G (A3_1 (O7_1 ok7_0)) (j := a1.toNatClampNeg) rfl hi23_2 dX7_order_23 ?_
      refine lv_goto (tgt := 29) hx hb dX7_order_24 (by decide) ?_
      cases hf
      exact g_iret C G hr hlocks dX7_order_29

noncomputable def f_X7_cut (a1 : Int32) (a2 : Int32) (st : GS) : Option (Int32) := 
(if a1 < 0 then some ((-101)) else 
(if a1 < (gt st 16 5) then (if a2 = 0 then gd a1 7 (some ((gt st 17 (a1.toNatClampNeg)))) else 
(if a2 = 1 then gd a1 7 (some ((gt st 18 (a1.toNatClampNeg)))) else 
(if a2 = 2 then gd a1 7 (some ((gt st 19 (a1.toNatClampNeg)))) else 
(if a2 = 3 then gd a1 7 (some ((gt st 20 (a1.toNatClampNeg)))) else 
(if a2 = 4 then gd a1 7 (some ((gt st 21 (a1.toNatClampNeg)))) else 
some ((-102))))))) else 
some ((-101))))
set_option maxRecDepth 100000 in
set_option maxHeartbeats 4000000 in
theorem c_X7_cut (l : Launch) (D : va_G) (cy : ClassId) (h : Nat → Nat) (a1 : Int32) (a2 : Int32) (st : GS) (r : Int32) (hf : f_X7_cut a1 a2 st = some r) : gMi l XSh D cy h yX7_cut cX7_cut 4 (some .int) 1 st [.ref (h 0), .int a1, .int a2] r st := by
  unfold f_X7_cut at hf
  refine gMi_of (by decide) (Nat.le_of_ble_eq_true rfl) ?_
  intro p e s m args below meth c A ls C hr hlocks G hl
  have C : gC p s m args c cX7_cut 4 "LaneOrder" XSh D cy h A := C
  have hl : lv_has ls 4 [(0, .ref (h 0)), (1, .int a1), (2, .int a2)] := hl
  have hx := C.1
  have hb := C.2.1
  have hown := C.2.2.2.1
  have htb := C.2.2.2.2.1
  refine lv_aload_n hx hb dX7_cut_0 rfl (lv_at hl 0 rfl) ?_
  refine g_getr (k := 3) C G cl7 (C7 ok7_0) (j := 1) (by decide) (F7_1 ok7_0) k1_232 dX7_cut_1 ?_
  refine g_getrN (k := 16) C G cl3 (C3 (O7_1 ok7_0)) (j := 8) (by decide) (F3_8 (O7_1 ok7_0)) k1_167 dX7_cut_4 ?_
  refine lv_astore_n (lv' := [(3, .ref (h 16)), (0, .ref (h 0)), (1, .int a1), (2, .int a2)]) hx hb dX7_cut_7 rfl hl (by decide) rfl (fun ls hl => ?_)
  refine lv_iload_n hx hb dX7_cut_8 rfl (lv_at hl 2 rfl) ?_
  refine lv_if_lt (tgt := 20) hx hb dX7_cut_9 (by decide) (fun c1 => ?_) (fun c1 => ?_)
  · have hf := ifP c1 hf
    refine lv_bipush (v := (-101)) hx hb dX7_cut_20 (by decide) ?_
    cases hf
    exact g_iret C G hr hlocks dX7_cut_22
  · have hf := ifN c1 hf
    refine lv_iload_n hx hb dX7_cut_12 rfl (lv_at hl 2 rfl) ?_
    refine lv_aload_n hx hb dX7_cut_13 rfl (lv_at hl 0 rfl) ?_
    refine g_getiN C G cl0 (C0 (O3_8 (O7_1 ok7_0))) (j := 5) (by decide) (F0_5 (O3_8 (O7_1 ok7_0))) k1_110 dX7_cut_14 ?_
    refine lv_icmp_lt (tgt := 23) hx hb dX7_cut_17 (by decide) (fun c2 => ?_) (fun c2 => ?_)
    · have hf := ifP c2 hf
      refine lv_iload_n hx hb dX7_cut_23 rfl (lv_at hl 3 rfl) ?_
      by_cases c3_0 : a2 = 0
      · have hf := ifP c3_0 hf
        refine lv_tableIn (tgt := 60) hx hb dX7_cut_24 (by rw [c3_0]; decide) (by rw [c3_0]; decide) (by rw [c3_0]; rfl) (by decide) ?_
        refine lv_aload_n hx hb dX7_cut_60 rfl (lv_at hl 0 rfl) ?_
        refine g_getrN (k := 17) C G cl0 (C0 (O3_8 (O7_1 ok7_0))) (j := 0) (by decide) (F0_0 (O3_8 (O7_1 ok7_0))) k1_100 dX7_cut_61 ?_
        refine lv_iload_n hx hb dX7_cut_64 rfl (lv_at hl 2 rfl) ?_
        obtain ⟨hi65_3, hf⟩ := gd_some hf
        refine g_iald C G (A0_0 (O3_8 (O7_1 ok7_0))) (j := a1.toNatClampNeg) rfl hi65_3 dX7_cut_65 ?_
        cases hf
        exact g_iret C G hr hlocks dX7_cut_66
      · have hf := ifN c3_0 hf
        by_cases c3_1 : a2 = 1
        · have hf := ifP c3_1 hf
          refine lv_tableIn (tgt := 67) hx hb dX7_cut_24 (by rw [c3_1]; decide) (by rw [c3_1]; decide) (by rw [c3_1]; rfl) (by decide) ?_
          refine lv_aload_n hx hb dX7_cut_67 rfl (lv_at hl 0 rfl) ?_
          refine g_getrN (k := 18) C G cl0 (C0 (O3_8 (O7_1 ok7_0))) (j := 1) (by decide) (F0_1 (O3_8 (O7_1 ok7_0))) k1_102 dX7_cut_68 ?_
          refine lv_iload_n hx hb dX7_cut_71 rfl (lv_at hl 2 rfl) ?_
          obtain ⟨hi72_4, hf⟩ := gd_some hf
          refine g_iald C G (A0_1 (O3_8 (O7_1 ok7_0))) (j := a1.toNatClampNeg) rfl hi72_4 dX7_cut_72 ?_
          cases hf
          exact g_iret C G hr hlocks dX7_cut_73
        · have hf := ifN c3_1 hf
          by_cases c3_2 : a2 = 2
          · have hf := ifP c3_2 hf
            refine lv_tableIn (tgt := 74) hx hb dX7_cut_24 (by rw [c3_2]; decide) (by rw [c3_2]; decide) (by rw [c3_2]; rfl) (by decide) ?_
            refine lv_aload_n hx hb dX7_cut_74 rfl (lv_at hl 0 rfl) ?_
            refine g_getrN (k := 19) C G cl0 (C0 (O3_8 (O7_1 ok7_0))) (j := 2) (by decide) (F0_2 (O3_8 (O7_1 ok7_0))) k1_104 dX7_cut_75 ?_
            refine lv_iload_n hx hb dX7_cut_78 rfl (lv_at hl 2 rfl) ?_
            obtain ⟨hi79_5, hf⟩ := gd_some hf
            refine g_iald C G (A0_2 (O3_8 (O7_1 ok7_0))) (j := a1.toNatClampNeg) rfl hi79_5 dX7_cut_79 ?_
            cases hf
            exact g_iret C G hr hlocks dX7_cut_80
          · have hf := ifN c3_2 hf
            by_cases c3_3 : a2 = 3
            · have hf := ifP c3_3 hf
              refine lv_tableIn (tgt := 81) hx hb dX7_cut_24 (by rw [c3_3]; decide) (by rw [c3_3]; decide) (by rw [c3_3]; rfl) (by decide) ?_
              refine lv_aload_n hx hb dX7_cut_81 rfl (lv_at hl 0 rfl) ?_
              refine g_getrN (k := 20) C G cl0 (C0 (O3_8 (O7_1 ok7_0))) (j := 3) (by decide) (F0_3 (O3_8 (O7_1 ok7_0))) k1_106 dX7_cut_82 ?_
              refine lv_iload_n hx hb dX7_cut_85 rfl (lv_at hl 2 rfl) ?_
              obtain ⟨hi86_6, hf⟩ := gd_some hf
              refine g_iald C G (A0_3 (O3_8 (O7_1 ok7_0))) (j := a1.toNatClampNeg) rfl hi86_6 dX7_cut_86 ?_
              cases hf
              exact g_iret C G hr hlocks dX7_cut_87
            · have hf := ifN c3_3 hf
              by_cases c3_4 : a2 = 4
              · have hf := ifP c3_4 hf
                refine lv_tableIn (tgt := 88) hx hb dX7_cut_24 (by rw [c3_4]; decide) (by rw [c3_4]; decide) (by rw [c3_4]; rfl) (by decide) ?_
                refine lv_aload_n hx hb dX7_cut_88 rfl (lv_at hl 0 rfl) ?_
                refine g_getrN (k := 21) C G cl0 (C0 (O3_8 (O7_1 ok7_0))) (j := 4) (by decide) (F0_4 (O3_8 (O7_1 ok7_0))) k1_108 dX7_cut_89 ?_
                refine lv_iload_n hx hb dX7_cut_92 rfl (lv_at hl 2 rfl) ?_
                obtain ⟨hi93_7, hf⟩ := gd_some hf
                refine g_iald C G (A0_4 (O3_8 (O7_1 ok7_0))) (j := a1.toNatClampNeg) rfl hi93_7 dX7_cut_93 ?_
                cases hf
                exact g_iret C G hr hlocks dX7_cut_94
              · have hf := ifN c3_4 hf
                refine lv_tableOut (tgt := 95) hx hb dX7_cut_24 (tab_4 c3_0 c3_1 c3_2 c3_3 c3_4) (by decide) ?_
                refine lv_bipush (v := (-102)) hx hb dX7_cut_95 (by decide) ?_
                cases hf
                exact g_iret C G hr hlocks dX7_cut_97
    · have hf := ifN c2 hf
      refine lv_bipush (v := (-101)) hx hb dX7_cut_20 (by decide) ?_
      cases hf
      exact g_iret C G hr hlocks dX7_cut_22

noncomputable def f_X7_lane (a1 : Int32) (a2 : Int32) (st : GS) : Option (Int32 × GS) := 
bI1 (f_X3_gatherLanes 3 0 (gt st 3 11) st) (fun st1 => 
(if a1 < 0 then some (((-101), st1)) else 
(if a1 < (gt st1 22 3) then (if a2 = 0 then gd a1 14 (some (((gt st1 23 (a1.toNatClampNeg)), st1))) else 
(if a2 = 1 then gd a1 14 (some (((gt st1 24 (a1.toNatClampNeg)), st1))) else 
(if a2 = 2 then gd a1 14 (some (((gt st1 25 (a1.toNatClampNeg)), st1))) else 
some (((-102), st1))))) else 
some (((-101), st1)))))
set_option maxRecDepth 100000 in
set_option maxHeartbeats 4000000 in
theorem c_X7_lane (l : Launch) (D : va_G) (cy : ClassId) (h : Nat → Nat) (a1 : Int32) (a2 : Int32) (st : GS) (r : Int32) (stF : GS) (hf : f_X7_lane a1 a2 st = some (r, stF)) : gMi l XSh D cy h yX7_lane cX7_lane 4 (some .int) 5 st [.ref (h 0), .int a1, .int a2] r stF := by
  unfold f_X7_lane at hf
  refine gMi_of (by decide) (Nat.le_of_ble_eq_true rfl) ?_
  intro p e s m args below meth c A ls C hr hlocks G hl
  have C : gC p s m args c cX7_lane 4 "LaneOrder" XSh D cy h A := C
  have hl : lv_has ls 4 [(0, .ref (h 0)), (1, .int a1), (2, .int a2)] := hl
  have hx := C.1
  have hb := C.2.1
  have hown := C.2.2.2.1
  have htb := C.2.2.2.2.1
  refine lv_aload_n hx hb dX7_lane_0 rfl (lv_at hl 0 rfl) ?_
  refine g_getr (k := 3) C G cl7 (C7 ok7_0) (j := 1) (by decide) (F7_1 ok7_0) k1_232 dX7_lane_1 ?_
  refine lv_iconst (v := 0) hx hb dX7_lane_4 (by decide) ?_
  refine lv_aload_n hx hb dX7_lane_5 rfl (lv_at hl 0 rfl) ?_
  refine g_getr (k := 3) C G cl7 (C7 ok7_0) (j := 1) (by decide) (F7_1 ok7_0) k1_232 dX7_lane_6 ?_
  refine g_getiN C G cl3 (C3 (O7_1 ok7_0)) (j := 11) (by decide) (F3_11 (O7_1 ok7_0)) k1_172 dX7_lane_9 ?_
  obtain ⟨st1, hc12_1, hf⟩ := bI1_some hf
  refine g_callVv C G (As := [.int 0, .int (gt st 3 11)]) (rest := []) (c_X3_gatherLanes l D cy h 3 (O7_1 ok7_0) 0 (gt st 3 11) st st1 hc12_1) cl3 rfl (C3 (O7_1 ok7_0)) v_X7_164 (Nat.le_of_ble_eq_true rfl) (Nat.le_of_ble_eq_true rfl) rfl hl.1 rfl (Nat.le_of_ble_eq_true rfl) dX7_lane_12 ⟨Nat.zero_le _, Nat.zero_le _⟩ (fun H locs G => ?_)
  refine lv_aload_n hx hb dX7_lane_15 rfl (lv_at hl 0 rfl) ?_
  refine g_getr (k := 3) C G cl7 (C7 ok7_0) (j := 1) (by decide) (F7_1 ok7_0) k1_232 dX7_lane_16 ?_
  refine g_getrN (k := 22) C G cl3 (C3 (O7_1 ok7_0)) (j := 9) (by decide) (F3_9 (O7_1 ok7_0)) k1_169 dX7_lane_19 ?_
  refine lv_astore_n (lv' := [(3, .ref (h 22)), (0, .ref (h 0)), (1, .int a1), (2, .int a2)]) hx hb dX7_lane_22 rfl hl (by decide) rfl (fun ls hl => ?_)
  refine lv_iload_n hx hb dX7_lane_23 rfl (lv_at hl 2 rfl) ?_
  refine lv_if_lt (tgt := 35) hx hb dX7_lane_24 (by decide) (fun c2 => ?_) (fun c2 => ?_)
  · have hf := ifP c2 hf
    refine lv_bipush (v := (-101)) hx hb dX7_lane_35 (by decide) ?_
    cases hf
    exact g_iret C G hr hlocks dX7_lane_37
  · have hf := ifN c2 hf
    refine lv_iload_n hx hb dX7_lane_27 rfl (lv_at hl 2 rfl) ?_
    refine lv_aload_n hx hb dX7_lane_28 rfl (lv_at hl 0 rfl) ?_
    refine g_getiN C G cl2 (C2 (O3_9 (O7_1 ok7_0))) (j := 3) (by decide) (F2_3 (O3_9 (O7_1 ok7_0))) k1_141 dX7_lane_29 ?_
    refine lv_icmp_lt (tgt := 38) hx hb dX7_lane_32 (by decide) (fun c3 => ?_) (fun c3 => ?_)
    · have hf := ifP c3 hf
      refine lv_iload_n hx hb dX7_lane_38 rfl (lv_at hl 3 rfl) ?_
      by_cases c4_0 : a2 = 0
      · have hf := ifP c4_0 hf
        refine lv_tableIn (tgt := 64) hx hb dX7_lane_39 (by rw [c4_0]; decide) (by rw [c4_0]; decide) (by rw [c4_0]; rfl) (by decide) ?_
        refine lv_aload_n hx hb dX7_lane_64 rfl (lv_at hl 0 rfl) ?_
        refine g_getrN (k := 23) C G cl2 (C2 (O3_9 (O7_1 ok7_0))) (j := 0) (by decide) (F2_0 (O3_9 (O7_1 ok7_0))) k1_132 dX7_lane_65 ?_
        refine lv_iload_n hx hb dX7_lane_68 rfl (lv_at hl 2 rfl) ?_
        obtain ⟨hi69_4, hf⟩ := gd_some hf
        refine g_iald C G (A2_0 (O3_9 (O7_1 ok7_0))) (j := a1.toNatClampNeg) rfl hi69_4 dX7_lane_69 ?_
        cases hf
        exact g_iret C G hr hlocks dX7_lane_70
      · have hf := ifN c4_0 hf
        by_cases c4_1 : a2 = 1
        · have hf := ifP c4_1 hf
          refine lv_tableIn (tgt := 71) hx hb dX7_lane_39 (by rw [c4_1]; decide) (by rw [c4_1]; decide) (by rw [c4_1]; rfl) (by decide) ?_
          refine lv_aload_n hx hb dX7_lane_71 rfl (lv_at hl 0 rfl) ?_
          refine g_getrN (k := 24) C G cl2 (C2 (O3_9 (O7_1 ok7_0))) (j := 1) (by decide) (F2_1 (O3_9 (O7_1 ok7_0))) k1_135 dX7_lane_72 ?_
          refine lv_iload_n hx hb dX7_lane_75 rfl (lv_at hl 2 rfl) ?_
          obtain ⟨hi76_5, hf⟩ := gd_some hf
          refine g_iald C G (A2_1 (O3_9 (O7_1 ok7_0))) (j := a1.toNatClampNeg) rfl hi76_5 dX7_lane_76 ?_
          cases hf
          exact g_iret C G hr hlocks dX7_lane_77
        · have hf := ifN c4_1 hf
          by_cases c4_2 : a2 = 2
          · have hf := ifP c4_2 hf
            refine lv_tableIn (tgt := 78) hx hb dX7_lane_39 (by rw [c4_2]; decide) (by rw [c4_2]; decide) (by rw [c4_2]; rfl) (by decide) ?_
            refine lv_aload_n hx hb dX7_lane_78 rfl (lv_at hl 0 rfl) ?_
            refine g_getrN (k := 25) C G cl2 (C2 (O3_9 (O7_1 ok7_0))) (j := 2) (by decide) (F2_2 (O3_9 (O7_1 ok7_0))) k1_138 dX7_lane_79 ?_
            refine lv_iload_n hx hb dX7_lane_82 rfl (lv_at hl 2 rfl) ?_
            obtain ⟨hi83_6, hf⟩ := gd_some hf
            refine g_iald C G (A2_2 (O3_9 (O7_1 ok7_0))) (j := a1.toNatClampNeg) rfl hi83_6 dX7_lane_83 ?_
            cases hf
            exact g_iret C G hr hlocks dX7_lane_84
          · have hf := ifN c4_2 hf
            refine lv_tableOut (tgt := 85) hx hb dX7_lane_39 (tab_2 c4_0 c4_1 c4_2) (by decide) ?_
            refine lv_bipush (v := (-102)) hx hb dX7_lane_85 (by decide) ?_
            cases hf
            exact g_iret C G hr hlocks dX7_lane_87
    · have hf := ifN c3 hf
      refine lv_bipush (v := (-101)) hx hb dX7_lane_35 (by decide) ?_
      cases hf
      exact g_iret C G hr hlocks dX7_lane_37

noncomputable def f_X7_why (a1 : Int32) (a2 : Int32) (st : GS) : Option (Int32) := 
bI1 (f_X5_has 4 a1 st) (fun r1 => 
(if r1 = 0 then some ((-101)) else 
bI1 (f_X5_has 4 a2 st) (fun r3 => 
(if r3 = 0 then some ((-101)) else 
(if a1 = a2 then some ((-101)) else 
gd a1 8 (gd a2 8 (bI1 ((if (gt st 12 (a2.toNatClampNeg)) ≤ (gt st 12 (a1.toNatClampNeg)) then some (a2) else 
some (a1))) (fun (x9 : Int32) => 
bI1 (f_X3_reason 3 a1 a2 st) (fun r10 => 
some (((10 * x9) + r10)))))))))))
set_option maxRecDepth 100000 in
set_option maxHeartbeats 4000000 in
theorem c_X7_why (l : Launch) (D : va_G) (cy : ClassId) (h : Nat → Nat) (a1 : Int32) (a2 : Int32) (st : GS) (r : Int32) (hf : f_X7_why a1 a2 st = some r) : gMi l XSh D cy h yX7_why cX7_why 4 (some .int) 5 st [.ref (h 0), .int a1, .int a2] r st := by
  unfold f_X7_why at hf
  refine gMi_of (by decide) (Nat.le_of_ble_eq_true rfl) ?_
  intro p e s m args below meth c A ls C hr hlocks G hl
  have C : gC p s m args c cX7_why 4 "LaneOrder" XSh D cy h A := C
  have hl : lv_has ls 4 [(0, .ref (h 0)), (1, .int a1), (2, .int a2)] := hl
  have hx := C.1
  have hb := C.2.1
  have hown := C.2.2.2.1
  have htb := C.2.2.2.2.1
  refine lv_aload_n hx hb dX7_why_0 rfl (lv_at hl 0 rfl) ?_
  refine g_getr (k := 3) C G cl7 (C7 ok7_0) (j := 1) (by decide) (F7_1 ok7_0) k1_232 dX7_why_1 ?_
  refine g_getrN (k := 4) C G cl3 (C3 (O7_1 ok7_0)) (j := 0) (by decide) (F3_0 (O7_1 ok7_0)) k1_152 dX7_why_4 ?_
  refine lv_iload_n hx hb dX7_why_7 rfl (lv_at hl 1 rfl) ?_
  obtain ⟨r1, hc8_1, hf⟩ := bI1_some hf
  refine g_callVi C G (As := [.int a1]) (rest := []) (c_X5_has l D cy h 4 (O3_0 (O7_1 ok7_0)) a1 st r1 hc8_1) cl5 rfl (C5 (O3_0 (O7_1 ok7_0))) v_X7_90 (Nat.le_of_ble_eq_true rfl) (Nat.le_of_ble_eq_true rfl) rfl hl.1 rfl (Nat.le_of_ble_eq_true rfl) dX7_why_8 ⟨Nat.zero_le _, Nat.zero_le _⟩ (fun H locs G => ?_)
  refine lv_if_eq (tgt := 33) hx hb dX7_why_11 (by decide) (fun c2 => ?_) (fun c2 => ?_)
  · have hf := ifP c2 hf
    refine lv_bipush (v := (-101)) hx hb dX7_why_33 (by decide) ?_
    cases hf
    exact g_iret C G hr hlocks dX7_why_35
  · have hf := ifN c2 hf
    refine lv_aload_n hx hb dX7_why_14 rfl (lv_at hl 0 rfl) ?_
    refine g_getr (k := 3) C G cl7 (C7 ok7_0) (j := 1) (by decide) (F7_1 ok7_0) k1_232 dX7_why_15 ?_
    refine g_getrN (k := 4) C G cl3 (C3 (O7_1 ok7_0)) (j := 0) (by decide) (F3_0 (O7_1 ok7_0)) k1_152 dX7_why_18 ?_
    refine lv_iload_n hx hb dX7_why_21 rfl (lv_at hl 2 rfl) ?_
    obtain ⟨r3, hc22_3, hf⟩ := bI1_some hf
    refine g_callVi C G (As := [.int a2]) (rest := []) (c_X5_has l D cy h 4 (O3_0 (O7_1 ok7_0)) a2 st r3 hc22_3) cl5 rfl (C5 (O3_0 (O7_1 ok7_0))) v_X7_90 (Nat.le_of_ble_eq_true rfl) (Nat.le_of_ble_eq_true rfl) rfl hl.1 rfl (Nat.le_of_ble_eq_true rfl) dX7_why_22 ⟨Nat.zero_le _, Nat.zero_le _⟩ (fun H locs G => ?_)
    refine lv_if_eq (tgt := 33) hx hb dX7_why_25 (by decide) (fun c4 => ?_) (fun c4 => ?_)
    · have hf := ifP c4 hf
      refine lv_bipush (v := (-101)) hx hb dX7_why_33 (by decide) ?_
      cases hf
      exact g_iret C G hr hlocks dX7_why_35
    · have hf := ifN c4 hf
      refine lv_iload_n hx hb dX7_why_28 rfl (lv_at hl 1 rfl) ?_
      refine lv_iload_n hx hb dX7_why_29 rfl (lv_at hl 2 rfl) ?_
      refine lv_icmp_ne (tgt := 36) hx hb dX7_why_30 (by decide) (fun c5 => ?_) (fun c5 => ?_)
      · have hf := ifN c5 hf
        refine lv_aload_n hx hb dX7_why_36 rfl (lv_at hl 0 rfl) ?_
        refine g_getr (k := 3) C G cl7 (C7 ok7_0) (j := 1) (by decide) (F7_1 ok7_0) k1_232 dX7_why_37 ?_
        refine g_getrN (k := 12) C G cl3 (C3 (O7_1 ok7_0)) (j := 3) (by decide) (F3_3 (O7_1 ok7_0)) k1_158 dX7_why_40 ?_
        refine lv_iload_n hx hb dX7_why_43 rfl (lv_at hl 1 rfl) ?_
        obtain ⟨hi44_5, hf⟩ := gd_some hf
        refine g_iald C G (A3_3 (O7_1 ok7_0)) (j := a1.toNatClampNeg) rfl hi44_5 dX7_why_44 ?_
        refine lv_aload_n hx hb dX7_why_45 rfl (lv_at hl 0 rfl) ?_
        refine g_getr (k := 3) C G cl7 (C7 ok7_0) (j := 1) (by decide) (F7_1 ok7_0) k1_232 dX7_why_46 ?_
        refine g_getrN (k := 12) C G cl3 (C3 (O7_1 ok7_0)) (j := 3) (by decide) (F3_3 (O7_1 ok7_0)) k1_158 dX7_why_49 ?_
        refine lv_iload_n hx hb dX7_why_52 rfl (lv_at hl 2 rfl) ?_
        obtain ⟨hi53_6, hf⟩ := gd_some hf
        refine g_iald C G (A3_3 (O7_1 ok7_0)) (j := a2.toNatClampNeg) rfl hi53_6 dX7_why_53 ?_
        obtain ⟨x9, hj62, hf⟩ := bI1_some hf
        have K62 : ∀ (H : Heap) (locs : List Loc) (ls : Array Slot) , gG XSh D cy h A s st H locs → lv_has ls 4 [(0, .ref (h 0)), (1, .int a1), (2, .int a2)] → W p l e (gR 5) s m args below meth c H locs 0 0 (MQ below (gQi XSh D cy h A r st) args s 0 0 A) (F0 m 62 ls [.int x9]) := by
          intro H locs ls G hl
          refine lv_istore_n (lv' := [(3, .int x9), (0, .ref (h 0)), (1, .int a1), (2, .int a2)]) hx hb dX7_why_62 rfl hl (by decide) rfl (fun ls hl => ?_)
          refine lv_bipush (v := 10) hx hb dX7_why_63 (by decide) ?_
          refine lv_iload_n hx hb dX7_why_65 rfl (lv_at hl 0 rfl) ?_
          refine lv_imul hx hb dX7_why_66 ?_
          refine lv_aload_n hx hb dX7_why_67 rfl (lv_at hl 1 rfl) ?_
          refine g_getr (k := 3) C G cl7 (C7 ok7_0) (j := 1) (by decide) (F7_1 ok7_0) k1_232 dX7_why_68 ?_
          refine lv_iload_n hx hb dX7_why_71 rfl (lv_at hl 2 rfl) ?_
          refine lv_iload_n hx hb dX7_why_72 rfl (lv_at hl 3 rfl) ?_
          obtain ⟨r10, hc73_10, hf⟩ := bI1_some hf
          refine g_callVi C G (As := [.int a1, .int a2]) (rest := [.int (10 * x9)]) (c_X3_reason l D cy h 3 (O7_1 ok7_0) a1 a2 st r10 hc73_10) cl3 rfl (C3 (O7_1 ok7_0)) v_X7_178 (Nat.le_of_ble_eq_true rfl) (Nat.le_of_ble_eq_true rfl) rfl hl.1 rfl (Nat.le_of_ble_eq_true rfl) dX7_why_73 ⟨Nat.zero_le _, Nat.zero_le _⟩ (fun H locs G => ?_)
          refine lv_iadd hx hb dX7_why_76 ?_
          cases hf
          exact g_iret C G hr hlocks dX7_why_77
        clear hf
        refine lv_icmp_ge (tgt := 61) hx hb dX7_why_54 (by decide) (fun c8 => ?_) (fun c8 => ?_)
        · have hf := ifP c8 hj62
          refine lv_iload_n hx hb dX7_why_61 rfl (lv_at hl 2 rfl) ?_
          cases hf
          exact K62 _ _ _ G hl
        · have hf := ifN c8 hj62
          refine lv_iload_n hx hb dX7_why_57 rfl (lv_at hl 1 rfl) ?_
          refine lv_goto (tgt := 62) hx hb dX7_why_58 (by decide) ?_
          cases hf
          exact K62 _ _ _ G hl
      · have hf := ifP c5 hf
        refine lv_bipush (v := (-101)) hx hb dX7_why_33 (by decide) ?_
        cases hf
        exact g_iret C G hr hlocks dX7_why_35

noncomputable def f_X7_hasNoPage (st : GS) : Option (Int32) := 
(if (gt st 4 5) = 0 then some (1) else 
some (0))
set_option maxRecDepth 100000 in
set_option maxHeartbeats 4000000 in
theorem c_X7_hasNoPage (l : Launch) (D : va_G) (cy : ClassId) (h : Nat → Nat)  (st : GS) (r : Int32) (hf : f_X7_hasNoPage st = some r) : gMi l XSh D cy h yX7_hasNoPage cX7_hasNoPage 1 (some .boolean) 1 st [.ref (h 0)] r st := by
  unfold f_X7_hasNoPage at hf
  refine gMi_of (by decide) (Nat.le_of_ble_eq_true rfl) ?_
  intro p e s m args below meth c A ls C hr hlocks G hl
  have C : gC p s m args c cX7_hasNoPage 1 "LaneOrder" XSh D cy h A := C
  have hl : lv_has ls 1 [(0, .ref (h 0))] := hl
  have hx := C.1
  have hb := C.2.1
  have hown := C.2.2.2.1
  have htb := C.2.2.2.2.1
  refine lv_aload_n hx hb dX7_hasNoPage_0 rfl (lv_at hl 0 rfl) ?_
  refine g_getr (k := 3) C G cl7 (C7 ok7_0) (j := 1) (by decide) (F7_1 ok7_0) k1_232 dX7_hasNoPage_1 ?_
  refine g_getrN (k := 4) C G cl3 (C3 (O7_1 ok7_0)) (j := 0) (by decide) (F3_0 (O7_1 ok7_0)) k1_152 dX7_hasNoPage_4 ?_
  refine g_getiN C G cl5 (C5 (O3_0 (O7_1 ok7_0))) (j := 5) (by decide) (F5_5 (O3_0 (O7_1 ok7_0))) k1_71 dX7_hasNoPage_7 ?_
  refine lv_if_ne (tgt := 17) hx hb dX7_hasNoPage_10 (by decide) (fun c1 => ?_) (fun c1 => ?_)
  · have hf := ifN c1 hf
    refine lv_iconst (v := 0) hx hb dX7_hasNoPage_17 (by decide) ?_
    cases hf
    exact g_zret C G (Or.inl rfl) hr hlocks dX7_hasNoPage_18
  · have hf := ifP c1 hf
    refine lv_iconst (v := 1) hx hb dX7_hasNoPage_13 (by decide) ?_
    refine lv_goto (tgt := 18) hx hb dX7_hasNoPage_14 (by decide) ?_
    cases hf
    exact g_zret C G (Or.inr rfl) hr hlocks dX7_hasNoPage_18

noncomputable def f_X7_put (a1 : Int32) (a2 : Int32) (st : GS) : Option (Int32 × GS) := 
(if a1 < 0 then some (((-102), st)) else 
(if 900 < a1 then some (((-102), st)) else 
(if a2 < 0 then some (((-102), st)) else 
(if a2 ≤ 900 then bI1 (f_X7_hasNoPage st) (fun r5 => 
(if r5 = 0 then (if (gt st 4 5) < 8 then bI1 (f_X5_add 4 0 a1 a2 (a1 + 2) (a2 + 2) st) (fun st8 => 
bI1 (f_X3_renew 3 st8) (fun st9 => 
some (((gt st9 4 5), st9)))) else 
some (((-104), st))) else 
some (((-103), st)))) else 
some (((-102), st))))))
set_option maxRecDepth 100000 in
set_option maxHeartbeats 4000000 in
theorem c_X7_put (l : Launch) (D : va_G) (cy : ClassId) (h : Nat → Nat) (a1 : Int32) (a2 : Int32) (st : GS) (r : Int32) (stF : GS) (hf : f_X7_put a1 a2 st = some (r, stF)) : gMi l XSh D cy h yX7_put cX7_put 3 (some .int) 16 st [.ref (h 0), .int a1, .int a2] r stF := by
  unfold f_X7_put at hf
  refine gMi_of (by decide) (Nat.le_of_ble_eq_true rfl) ?_
  intro p e s m args below meth c A ls C hr hlocks G hl
  have C : gC p s m args c cX7_put 3 "LaneOrder" XSh D cy h A := C
  have hl : lv_has ls 3 [(0, .ref (h 0)), (1, .int a1), (2, .int a2)] := hl
  have hx := C.1
  have hb := C.2.1
  have hown := C.2.2.2.1
  have htb := C.2.2.2.2.1
  refine lv_iload_n hx hb dX7_put_0 rfl (lv_at hl 1 rfl) ?_
  refine lv_if_lt (tgt := 22) hx hb dX7_put_1 (by decide) (fun c1 => ?_) (fun c1 => ?_)
  · have hf := ifP c1 hf
    refine lv_bipush (v := (-102)) hx hb dX7_put_22 (by decide) ?_
    cases hf
    exact g_iret C G hr hlocks dX7_put_24
  · have hf := ifN c1 hf
    refine lv_iload_n hx hb dX7_put_4 rfl (lv_at hl 1 rfl) ?_
    refine lv_sipush (v := 900) hx hb dX7_put_5 (by decide) ?_
    refine lv_icmp_gt (tgt := 22) hx hb dX7_put_8 (by decide) (fun c2 => ?_) (fun c2 => ?_)
    · have hf := ifP c2 hf
      refine lv_bipush (v := (-102)) hx hb dX7_put_22 (by decide) ?_
      cases hf
      exact g_iret C G hr hlocks dX7_put_24
    · have hf := ifN c2 hf
      refine lv_iload_n hx hb dX7_put_11 rfl (lv_at hl 2 rfl) ?_
      refine lv_if_lt (tgt := 22) hx hb dX7_put_12 (by decide) (fun c3 => ?_) (fun c3 => ?_)
      · have hf := ifP c3 hf
        refine lv_bipush (v := (-102)) hx hb dX7_put_22 (by decide) ?_
        cases hf
        exact g_iret C G hr hlocks dX7_put_24
      · have hf := ifN c3 hf
        refine lv_iload_n hx hb dX7_put_15 rfl (lv_at hl 2 rfl) ?_
        refine lv_sipush (v := 900) hx hb dX7_put_16 (by decide) ?_
        refine lv_icmp_le (tgt := 25) hx hb dX7_put_19 (by decide) (fun c4 => ?_) (fun c4 => ?_)
        · have hf := ifP c4 hf
          refine lv_aload_n hx hb dX7_put_25 rfl (lv_at hl 0 rfl) ?_
          obtain ⟨r5, hc26_5, hf⟩ := bI1_some hf
          refine g_callVi C G (As := []) (rest := []) (c_X7_hasNoPage l D cy h st r5 hc26_5) cl7 rfl (C7 ok7_0) v_X7_182 (Nat.le_of_ble_eq_true rfl) (Nat.le_of_ble_eq_true rfl) rfl hl.1 rfl (Nat.le_of_ble_eq_true rfl) dX7_put_26 ⟨Nat.zero_le _, Nat.zero_le _⟩ (fun H locs G => ?_)
          refine lv_if_eq (tgt := 35) hx hb dX7_put_29 (by decide) (fun c6 => ?_) (fun c6 => ?_)
          · have hf := ifP c6 hf
            refine lv_aload_n hx hb dX7_put_35 rfl (lv_at hl 0 rfl) ?_
            refine g_getr (k := 3) C G cl7 (C7 ok7_0) (j := 1) (by decide) (F7_1 ok7_0) k1_232 dX7_put_36 ?_
            refine g_getrN (k := 4) C G cl3 (C3 (O7_1 ok7_0)) (j := 0) (by decide) (F3_0 (O7_1 ok7_0)) k1_152 dX7_put_39 ?_
            refine g_getiN C G cl5 (C5 (O3_0 (O7_1 ok7_0))) (j := 5) (by decide) (F5_5 (O3_0 (O7_1 ok7_0))) k1_71 dX7_put_42 ?_
            refine lv_bipush (v := 8) hx hb dX7_put_45 (by decide) ?_
            refine lv_icmp_lt (tgt := 53) hx hb dX7_put_47 (by decide) (fun c7 => ?_) (fun c7 => ?_)
            · have hf := ifP c7 hf
              refine lv_aload_n hx hb dX7_put_53 rfl (lv_at hl 0 rfl) ?_
              refine g_getr (k := 3) C G cl7 (C7 ok7_0) (j := 1) (by decide) (F7_1 ok7_0) k1_232 dX7_put_54 ?_
              refine g_getrN (k := 4) C G cl3 (C3 (O7_1 ok7_0)) (j := 0) (by decide) (F3_0 (O7_1 ok7_0)) k1_152 dX7_put_57 ?_
              refine lv_iconst (v := 0) hx hb dX7_put_60 (by decide) ?_
              refine lv_iload_n hx hb dX7_put_61 rfl (lv_at hl 1 rfl) ?_
              refine lv_iload_n hx hb dX7_put_62 rfl (lv_at hl 2 rfl) ?_
              refine lv_iload_n hx hb dX7_put_63 rfl (lv_at hl 1 rfl) ?_
              refine lv_iconst (v := 2) hx hb dX7_put_64 (by decide) ?_
              refine lv_iadd hx hb dX7_put_65 ?_
              refine lv_iload_n hx hb dX7_put_66 rfl (lv_at hl 2 rfl) ?_
              refine lv_iconst (v := 2) hx hb dX7_put_67 (by decide) ?_
              refine lv_iadd hx hb dX7_put_68 ?_
              obtain ⟨st8, hc69_8, hf⟩ := bI1_some hf
              refine g_callVv C G (As := [.int 0, .int a1, .int a2, .int (a1 + 2), .int (a2 + 2)]) (rest := []) (c_X5_add l D cy h 4 (O3_0 (O7_1 ok7_0)) 0 a1 a2 (a1 + 2) (a2 + 2) st st8 hc69_8) cl5 rfl (C5 (O3_0 (O7_1 ok7_0))) v_X7_185 (Nat.le_of_ble_eq_true rfl) (Nat.le_of_ble_eq_true rfl) rfl hl.1 rfl (Nat.le_of_ble_eq_true rfl) dX7_put_69 ⟨Nat.zero_le _, Nat.zero_le _⟩ (fun H locs G => ?_)
              refine lv_aload_n hx hb dX7_put_72 rfl (lv_at hl 0 rfl) ?_
              refine g_getr (k := 3) C G cl7 (C7 ok7_0) (j := 1) (by decide) (F7_1 ok7_0) k1_232 dX7_put_73 ?_
              obtain ⟨st9, hc76_9, hf⟩ := bI1_some hf
              refine g_callVv C G (As := []) (rest := []) (c_X3_renew l D cy h 3 (O7_1 ok7_0) st8 st9 hc76_9) cl3 rfl (C3 (O7_1 ok7_0)) v_X7_76 (Nat.le_of_ble_eq_true rfl) (Nat.le_of_ble_eq_true rfl) rfl hl.1 rfl (Nat.le_of_ble_eq_true rfl) dX7_put_76 ⟨Nat.zero_le _, Nat.zero_le _⟩ (fun H locs G => ?_)
              refine lv_aload_n hx hb dX7_put_79 rfl (lv_at hl 0 rfl) ?_
              refine g_getr (k := 3) C G cl7 (C7 ok7_0) (j := 1) (by decide) (F7_1 ok7_0) k1_232 dX7_put_80 ?_
              refine g_getrN (k := 4) C G cl3 (C3 (O7_1 ok7_0)) (j := 0) (by decide) (F3_0 (O7_1 ok7_0)) k1_152 dX7_put_83 ?_
              refine g_getiN C G cl5 (C5 (O3_0 (O7_1 ok7_0))) (j := 5) (by decide) (F5_5 (O3_0 (O7_1 ok7_0))) k1_71 dX7_put_86 ?_
              cases hf
              exact g_iret C G hr hlocks dX7_put_89
            · have hf := ifN c7 hf
              refine lv_bipush (v := (-104)) hx hb dX7_put_50 (by decide) ?_
              cases hf
              exact g_iret C G hr hlocks dX7_put_52
          · have hf := ifN c6 hf
            refine lv_bipush (v := (-103)) hx hb dX7_put_32 (by decide) ?_
            cases hf
            exact g_iret C G hr hlocks dX7_put_34
        · have hf := ifN c4 hf
          refine lv_bipush (v := (-102)) hx hb dX7_put_22 (by decide) ?_
          cases hf
          exact g_iret C G hr hlocks dX7_put_24

noncomputable def f_X7_take (a1 : Int32) (st : GS) : Option (Int32 × GS) := 
bI1 (f_X5_has 4 a1 st) (fun r1 => 
(if r1 = 0 then some (((-101), st)) else 
(if (gt st 4 5) = 1 then some (((-103), st)) else 
bI1 (f_X5_remove 4 a1 st) (fun st4 => 
bI1 (f_X3_renew 3 st4) (fun st5 => 
some (((gt st5 4 5), st5)))))))
set_option maxRecDepth 100000 in
set_option maxHeartbeats 4000000 in
theorem c_X7_take (l : Launch) (D : va_G) (cy : ClassId) (h : Nat → Nat) (a1 : Int32) (st : GS) (r : Int32) (stF : GS) (hf : f_X7_take a1 st = some (r, stF)) : gMi l XSh D cy h yX7_take cX7_take 2 (some .int) 16 st [.ref (h 0), .int a1] r stF := by
  unfold f_X7_take at hf
  refine gMi_of (by decide) (Nat.le_of_ble_eq_true rfl) ?_
  intro p e s m args below meth c A ls C hr hlocks G hl
  have C : gC p s m args c cX7_take 2 "LaneOrder" XSh D cy h A := C
  have hl : lv_has ls 2 [(0, .ref (h 0)), (1, .int a1)] := hl
  have hx := C.1
  have hb := C.2.1
  have hown := C.2.2.2.1
  have htb := C.2.2.2.2.1
  refine lv_aload_n hx hb dX7_take_0 rfl (lv_at hl 0 rfl) ?_
  refine g_getr (k := 3) C G cl7 (C7 ok7_0) (j := 1) (by decide) (F7_1 ok7_0) k1_232 dX7_take_1 ?_
  refine g_getrN (k := 4) C G cl3 (C3 (O7_1 ok7_0)) (j := 0) (by decide) (F3_0 (O7_1 ok7_0)) k1_152 dX7_take_4 ?_
  refine lv_iload_n hx hb dX7_take_7 rfl (lv_at hl 1 rfl) ?_
  obtain ⟨r1, hc8_1, hf⟩ := bI1_some hf
  refine g_callVi C G (As := [.int a1]) (rest := []) (c_X5_has l D cy h 4 (O3_0 (O7_1 ok7_0)) a1 st r1 hc8_1) cl5 rfl (C5 (O3_0 (O7_1 ok7_0))) v_X7_90 (Nat.le_of_ble_eq_true rfl) (Nat.le_of_ble_eq_true rfl) rfl hl.1 rfl (Nat.le_of_ble_eq_true rfl) dX7_take_8 ⟨Nat.zero_le _, Nat.zero_le _⟩ (fun H locs G => ?_)
  refine lv_if_ne (tgt := 17) hx hb dX7_take_11 (by decide) (fun c2 => ?_) (fun c2 => ?_)
  · have hf := ifN c2 hf
    refine lv_aload_n hx hb dX7_take_17 rfl (lv_at hl 0 rfl) ?_
    refine g_getr (k := 3) C G cl7 (C7 ok7_0) (j := 1) (by decide) (F7_1 ok7_0) k1_232 dX7_take_18 ?_
    refine g_getrN (k := 4) C G cl3 (C3 (O7_1 ok7_0)) (j := 0) (by decide) (F3_0 (O7_1 ok7_0)) k1_152 dX7_take_21 ?_
    refine g_getiN C G cl5 (C5 (O3_0 (O7_1 ok7_0))) (j := 5) (by decide) (F5_5 (O3_0 (O7_1 ok7_0))) k1_71 dX7_take_24 ?_
    refine lv_iconst (v := 1) hx hb dX7_take_27 (by decide) ?_
    refine lv_icmp_ne (tgt := 34) hx hb dX7_take_28 (by decide) (fun c3 => ?_) (fun c3 => ?_)
    · have hf := ifN c3 hf
      refine lv_aload_n hx hb dX7_take_34 rfl (lv_at hl 0 rfl) ?_
      refine g_getr (k := 3) C G cl7 (C7 ok7_0) (j := 1) (by decide) (F7_1 ok7_0) k1_232 dX7_take_35 ?_
      refine g_getrN (k := 4) C G cl3 (C3 (O7_1 ok7_0)) (j := 0) (by decide) (F3_0 (O7_1 ok7_0)) k1_152 dX7_take_38 ?_
      refine lv_iload_n hx hb dX7_take_41 rfl (lv_at hl 1 rfl) ?_
      obtain ⟨st4, hc42_4, hf⟩ := bI1_some hf
      refine g_callVv C G (As := [.int a1]) (rest := []) (c_X5_remove l D cy h 4 (O3_0 (O7_1 ok7_0)) a1 st st4 hc42_4) cl5 rfl (C5 (O3_0 (O7_1 ok7_0))) v_X7_188 (Nat.le_of_ble_eq_true rfl) (Nat.le_of_ble_eq_true rfl) rfl hl.1 rfl (Nat.le_of_ble_eq_true rfl) dX7_take_42 ⟨Nat.zero_le _, Nat.zero_le _⟩ (fun H locs G => ?_)
      refine lv_aload_n hx hb dX7_take_45 rfl (lv_at hl 0 rfl) ?_
      refine g_getr (k := 3) C G cl7 (C7 ok7_0) (j := 1) (by decide) (F7_1 ok7_0) k1_232 dX7_take_46 ?_
      obtain ⟨st5, hc49_5, hf⟩ := bI1_some hf
      refine g_callVv C G (As := []) (rest := []) (c_X3_renew l D cy h 3 (O7_1 ok7_0) st4 st5 hc49_5) cl3 rfl (C3 (O7_1 ok7_0)) v_X7_76 (Nat.le_of_ble_eq_true rfl) (Nat.le_of_ble_eq_true rfl) rfl hl.1 rfl (Nat.le_of_ble_eq_true rfl) dX7_take_49 ⟨Nat.zero_le _, Nat.zero_le _⟩ (fun H locs G => ?_)
      refine lv_aload_n hx hb dX7_take_52 rfl (lv_at hl 0 rfl) ?_
      refine g_getr (k := 3) C G cl7 (C7 ok7_0) (j := 1) (by decide) (F7_1 ok7_0) k1_232 dX7_take_53 ?_
      refine g_getrN (k := 4) C G cl3 (C3 (O7_1 ok7_0)) (j := 0) (by decide) (F3_0 (O7_1 ok7_0)) k1_152 dX7_take_56 ?_
      refine g_getiN C G cl5 (C5 (O3_0 (O7_1 ok7_0))) (j := 5) (by decide) (F5_5 (O3_0 (O7_1 ok7_0))) k1_71 dX7_take_59 ?_
      cases hf
      exact g_iret C G hr hlocks dX7_take_62
    · have hf := ifP c3 hf
      refine lv_bipush (v := (-103)) hx hb dX7_take_31 (by decide) ?_
      cases hf
      exact g_iret C G hr hlocks dX7_take_33
  · have hf := ifP c2 hf
    refine lv_bipush (v := (-101)) hx hb dX7_take_14 (by decide) ?_
    cases hf
    exact g_iret C G hr hlocks dX7_take_16

noncomputable def f_X7_isStep (a1 : Int32) : Option (Int32) := 
(if a1 < (-9) then some (0) else 
(if 9 < a1 then some (0) else 
some (1)))
set_option maxRecDepth 100000 in
set_option maxHeartbeats 4000000 in
theorem c_X7_isStep (l : Launch) (D : va_G) (cy : ClassId) (h : Nat → Nat) (a1 : Int32) (st : GS) (r : Int32) (hf : f_X7_isStep a1 = some r) : gMi l XSh D cy h yX7_isStep cX7_isStep 1 (some .boolean) 1 st [.int a1] r st := by
  unfold f_X7_isStep at hf
  refine gMi_of (by decide) (Nat.le_of_ble_eq_true rfl) ?_
  intro p e s m args below meth c A ls C hr hlocks G hl
  have C : gC p s m args c cX7_isStep 1 "LaneOrder" XSh D cy h A := C
  have hl : lv_has ls 1 [(0, .int a1)] := hl
  have hx := C.1
  have hb := C.2.1
  have hown := C.2.2.2.1
  have htb := C.2.2.2.2.1
  refine lv_iload_n hx hb dX7_isStep_0 rfl (lv_at hl 0 rfl) ?_
  refine lv_bipush (v := (-9)) hx hb dX7_isStep_1 (by decide) ?_
  refine lv_icmp_lt (tgt := 16) hx hb dX7_isStep_3 (by decide) (fun c1 => ?_) (fun c1 => ?_)
  · have hf := ifP c1 hf
    refine lv_iconst (v := 0) hx hb dX7_isStep_16 (by decide) ?_
    cases hf
    exact g_zret C G (Or.inl rfl) hr hlocks dX7_isStep_17
  · have hf := ifN c1 hf
    refine lv_iload_n hx hb dX7_isStep_6 rfl (lv_at hl 0 rfl) ?_
    refine lv_bipush (v := 9) hx hb dX7_isStep_7 (by decide) ?_
    refine lv_icmp_gt (tgt := 16) hx hb dX7_isStep_9 (by decide) (fun c2 => ?_) (fun c2 => ?_)
    · have hf := ifP c2 hf
      refine lv_iconst (v := 0) hx hb dX7_isStep_16 (by decide) ?_
      cases hf
      exact g_zret C G (Or.inl rfl) hr hlocks dX7_isStep_17
    · have hf := ifN c2 hf
      refine lv_iconst (v := 1) hx hb dX7_isStep_12 (by decide) ?_
      refine lv_goto (tgt := 17) hx hb dX7_isStep_13 (by decide) ?_
      cases hf
      exact g_zret C G (Or.inr rfl) hr hlocks dX7_isStep_17

noncomputable def f_X7_move (a1 : Int32) (a2 : Int32) (a3 : Int32) (st : GS) : Option (Int32 × GS) := 
bI1 (f_X5_has 4 a1 st) (fun r1 => 
(if r1 = 0 then some (((-101), st)) else 
bI1 (f_X7_isStep a2) (fun r3 => 
(if r3 = 0 then some (((-102), st)) else 
bI1 (f_X7_isStep a3) (fun r5 => 
(if r5 = 0 then some (((-102), st)) else 
bI1 (f_X5_staysInside 4 a1 a2 a3 st) (fun r7 => 
(if r7 = 0 then some (((-102), st)) else 
bI1 (f_X5_shift 4 a1 a2 a3 st) (fun st9 => 
bI1 (f_X3_renew 3 st9) (fun st10 => 
some (((gt st10 16 5), st10))))))))))))
set_option maxRecDepth 100000 in
set_option maxHeartbeats 4000000 in
theorem c_X7_move (l : Launch) (D : va_G) (cy : ClassId) (h : Nat → Nat) (a1 : Int32) (a2 : Int32) (a3 : Int32) (st : GS) (r : Int32) (stF : GS) (hf : f_X7_move a1 a2 a3 st = some (r, stF)) : gMi l XSh D cy h yX7_move cX7_move 4 (some .int) 16 st [.ref (h 0), .int a1, .int a2, .int a3] r stF := by
  unfold f_X7_move at hf
  refine gMi_of (by decide) (Nat.le_of_ble_eq_true rfl) ?_
  intro p e s m args below meth c A ls C hr hlocks G hl
  have C : gC p s m args c cX7_move 4 "LaneOrder" XSh D cy h A := C
  have hl : lv_has ls 4 [(0, .ref (h 0)), (1, .int a1), (2, .int a2), (3, .int a3)] := hl
  have hx := C.1
  have hb := C.2.1
  have hown := C.2.2.2.1
  have htb := C.2.2.2.2.1
  refine lv_aload_n hx hb dX7_move_0 rfl (lv_at hl 0 rfl) ?_
  refine g_getr (k := 3) C G cl7 (C7 ok7_0) (j := 1) (by decide) (F7_1 ok7_0) k1_232 dX7_move_1 ?_
  refine g_getrN (k := 4) C G cl3 (C3 (O7_1 ok7_0)) (j := 0) (by decide) (F3_0 (O7_1 ok7_0)) k1_152 dX7_move_4 ?_
  refine lv_iload_n hx hb dX7_move_7 rfl (lv_at hl 1 rfl) ?_
  obtain ⟨r1, hc8_1, hf⟩ := bI1_some hf
  refine g_callVi C G (As := [.int a1]) (rest := []) (c_X5_has l D cy h 4 (O3_0 (O7_1 ok7_0)) a1 st r1 hc8_1) cl5 rfl (C5 (O3_0 (O7_1 ok7_0))) v_X7_90 (Nat.le_of_ble_eq_true rfl) (Nat.le_of_ble_eq_true rfl) rfl hl.1 rfl (Nat.le_of_ble_eq_true rfl) dX7_move_8 ⟨Nat.zero_le _, Nat.zero_le _⟩ (fun H locs G => ?_)
  refine lv_if_ne (tgt := 17) hx hb dX7_move_11 (by decide) (fun c2 => ?_) (fun c2 => ?_)
  · have hf := ifN c2 hf
    refine lv_iload_n hx hb dX7_move_17 rfl (lv_at hl 2 rfl) ?_
    obtain ⟨r3, hc18_3, hf⟩ := bI1_some hf
    refine g_callSi C G (As := [.int a2]) (rest := []) (c_X7_isStep l D cy h a2 st r3 hc18_3) v_X7_191 (Nat.le_of_ble_eq_true rfl) (Nat.le_of_ble_eq_true rfl) rfl hl.1 rfl (Nat.le_of_ble_eq_true rfl) dX7_move_18 ⟨Nat.zero_le _, Nat.zero_le _⟩ (fun H locs G => ?_)
    refine lv_if_eq (tgt := 47) hx hb dX7_move_21 (by decide) (fun c4 => ?_) (fun c4 => ?_)
    · have hf := ifP c4 hf
      refine lv_bipush (v := (-102)) hx hb dX7_move_47 (by decide) ?_
      cases hf
      exact g_iret C G hr hlocks dX7_move_49
    · have hf := ifN c4 hf
      refine lv_iload_n hx hb dX7_move_24 rfl (lv_at hl 3 rfl) ?_
      obtain ⟨r5, hc25_5, hf⟩ := bI1_some hf
      refine g_callSi C G (As := [.int a3]) (rest := []) (c_X7_isStep l D cy h a3 st r5 hc25_5) v_X7_191 (Nat.le_of_ble_eq_true rfl) (Nat.le_of_ble_eq_true rfl) rfl hl.1 rfl (Nat.le_of_ble_eq_true rfl) dX7_move_25 ⟨Nat.zero_le _, Nat.zero_le _⟩ (fun H locs G => ?_)
      refine lv_if_eq (tgt := 47) hx hb dX7_move_28 (by decide) (fun c6 => ?_) (fun c6 => ?_)
      · have hf := ifP c6 hf
        refine lv_bipush (v := (-102)) hx hb dX7_move_47 (by decide) ?_
        cases hf
        exact g_iret C G hr hlocks dX7_move_49
      · have hf := ifN c6 hf
        refine lv_aload_n hx hb dX7_move_31 rfl (lv_at hl 0 rfl) ?_
        refine g_getr (k := 3) C G cl7 (C7 ok7_0) (j := 1) (by decide) (F7_1 ok7_0) k1_232 dX7_move_32 ?_
        refine g_getrN (k := 4) C G cl3 (C3 (O7_1 ok7_0)) (j := 0) (by decide) (F3_0 (O7_1 ok7_0)) k1_152 dX7_move_35 ?_
        refine lv_iload_n hx hb dX7_move_38 rfl (lv_at hl 1 rfl) ?_
        refine lv_iload_n hx hb dX7_move_39 rfl (lv_at hl 2 rfl) ?_
        refine lv_iload_n hx hb dX7_move_40 rfl (lv_at hl 3 rfl) ?_
        obtain ⟨r7, hc41_7, hf⟩ := bI1_some hf
        refine g_callVi C G (As := [.int a1, .int a2, .int a3]) (rest := []) (c_X5_staysInside l D cy h 4 (O3_0 (O7_1 ok7_0)) a1 a2 a3 st r7 hc41_7) cl5 rfl (C5 (O3_0 (O7_1 ok7_0))) v_X7_194 (Nat.le_of_ble_eq_true rfl) (Nat.le_of_ble_eq_true rfl) rfl hl.1 rfl (Nat.le_of_ble_eq_true rfl) dX7_move_41 ⟨Nat.zero_le _, Nat.zero_le _⟩ (fun H locs G => ?_)
        refine lv_if_ne (tgt := 50) hx hb dX7_move_44 (by decide) (fun c8 => ?_) (fun c8 => ?_)
        · have hf := ifN c8 hf
          refine lv_aload_n hx hb dX7_move_50 rfl (lv_at hl 0 rfl) ?_
          refine g_getr (k := 3) C G cl7 (C7 ok7_0) (j := 1) (by decide) (F7_1 ok7_0) k1_232 dX7_move_51 ?_
          refine g_getrN (k := 4) C G cl3 (C3 (O7_1 ok7_0)) (j := 0) (by decide) (F3_0 (O7_1 ok7_0)) k1_152 dX7_move_54 ?_
          refine lv_iload_n hx hb dX7_move_57 rfl (lv_at hl 1 rfl) ?_
          refine lv_iload_n hx hb dX7_move_58 rfl (lv_at hl 2 rfl) ?_
          refine lv_iload_n hx hb dX7_move_59 rfl (lv_at hl 3 rfl) ?_
          obtain ⟨st9, hc60_9, hf⟩ := bI1_some hf
          refine g_callVv C G (As := [.int a1, .int a2, .int a3]) (rest := []) (c_X5_shift l D cy h 4 (O3_0 (O7_1 ok7_0)) a1 a2 a3 st st9 hc60_9) cl5 rfl (C5 (O3_0 (O7_1 ok7_0))) v_X7_198 (Nat.le_of_ble_eq_true rfl) (Nat.le_of_ble_eq_true rfl) rfl hl.1 rfl (Nat.le_of_ble_eq_true rfl) dX7_move_60 ⟨Nat.zero_le _, Nat.zero_le _⟩ (fun H locs G => ?_)
          refine lv_aload_n hx hb dX7_move_63 rfl (lv_at hl 0 rfl) ?_
          refine g_getr (k := 3) C G cl7 (C7 ok7_0) (j := 1) (by decide) (F7_1 ok7_0) k1_232 dX7_move_64 ?_
          obtain ⟨st10, hc67_10, hf⟩ := bI1_some hf
          refine g_callVv C G (As := []) (rest := []) (c_X3_renew l D cy h 3 (O7_1 ok7_0) st9 st10 hc67_10) cl3 rfl (C3 (O7_1 ok7_0)) v_X7_76 (Nat.le_of_ble_eq_true rfl) (Nat.le_of_ble_eq_true rfl) rfl hl.1 rfl (Nat.le_of_ble_eq_true rfl) dX7_move_67 ⟨Nat.zero_le _, Nat.zero_le _⟩ (fun H locs G => ?_)
          refine lv_aload_n hx hb dX7_move_70 rfl (lv_at hl 0 rfl) ?_
          refine g_getr (k := 3) C G cl7 (C7 ok7_0) (j := 1) (by decide) (F7_1 ok7_0) k1_232 dX7_move_71 ?_
          refine g_getrN (k := 16) C G cl3 (C3 (O7_1 ok7_0)) (j := 8) (by decide) (F3_8 (O7_1 ok7_0)) k1_167 dX7_move_74 ?_
          refine g_getiN C G cl0 (C0 (O3_8 (O7_1 ok7_0))) (j := 5) (by decide) (F0_5 (O3_8 (O7_1 ok7_0))) k1_110 dX7_move_77 ?_
          cases hf
          exact g_iret C G hr hlocks dX7_move_80
        · have hf := ifP c8 hf
          refine lv_bipush (v := (-102)) hx hb dX7_move_47 (by decide) ?_
          cases hf
          exact g_iret C G hr hlocks dX7_move_49
  · have hf := ifP c2 hf
    refine lv_bipush (v := (-101)) hx hb dX7_move_14 (by decide) ?_
    cases hf
    exact g_iret C G hr hlocks dX7_move_16
