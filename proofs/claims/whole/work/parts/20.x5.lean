noncomputable def f_X5_clear (o : Nat) (st : GS) : Option (GS) := 
lt_ (sv st o 5 0) (fun st1 => 
lt_ (sv st1 o 7 0) (fun st2 => 
some (st2)))
set_option maxRecDepth 100000 in
set_option maxHeartbeats 4000000 in
theorem c_X5_clear (l : Launch) (D : va_G) (cy : ClassId) (h : Nat → Nat) (o : Nat) (ho : ok5 o) (st : GS) (stF : GS) (hf : f_X5_clear o st = some stF) : gMv l XSh D cy h yX5_clear cX5_clear 1 none 1 st [.ref (h o)] stF := by
  unfold f_X5_clear at hf
  refine gMv_of (by decide) (Nat.le_of_ble_eq_true rfl) ?_
  intro p e s m args below meth c A ls C hr hlocks G hl
  have C : gC p s m args c cX5_clear 1 "LaneOrder$Sheet" XSh D cy h A := C
  have hl : lv_has ls 1 [(0, .ref (h o))] := hl
  have hx := C.1
  have hb := C.2.1
  have hown := C.2.2.2.1
  have htb := C.2.2.2.2.1
  refine lv_aload_n hx hb dX5_clear_0 rfl (lv_at hl 0 rfl) ?_
  refine lv_iconst (v := 0) hx hb dX5_clear_1 (by decide) ?_
  refine g_puti C G cl5 (C5 ho) (j := 5) (by decide) (F5_5 ho) k1_69 rfl rfl rfl dX5_clear_2 (fun st1 est1 H locs G => ?_)
  have hf := lt_some est1 hf
  refine lv_aload_n hx hb dX5_clear_5 rfl (lv_at hl 0 rfl) ?_
  refine lv_iconst (v := 0) hx hb dX5_clear_6 (by decide) ?_
  refine g_puti C G cl5 (C5 ho) (j := 7) (by decide) (F5_7 ho) k1_74 rfl rfl rfl dX5_clear_7 (fun st2 est2 H locs G => ?_)
  have hf := lt_some est2 hf
  cases hf
  exact g_vret C G hr hlocks dX5_clear_10

noncomputable def f_X5_add (o : Nat) (a1 : Int32) (a2 : Int32) (a3 : Int32) (a4 : Int32) (a5 : Int32) (st : GS) : Option (GS) := 
(if 8 ≤ (gt st o 5) then some (st) else 
gd (gt st o 5) 8 (lt_ (sv st (o + 1) ((gt st o 5).toNatClampNeg) a1) (fun st3 => 
gd (gt st3 o 5) 8 (lt_ (sv st3 (o + 2) ((gt st3 o 5).toNatClampNeg) a2) (fun st5 => 
gd (gt st5 o 5) 8 (lt_ (sv st5 (o + 3) ((gt st5 o 5).toNatClampNeg) a3) (fun st7 => 
gd (gt st7 o 5) 8 (lt_ (sv st7 (o + 4) ((gt st7 o 5).toNatClampNeg) a4) (fun st9 => 
gd (gt st9 o 5) 8 (lt_ (sv st9 (o + 5) ((gt st9 o 5).toNatClampNeg) a5) (fun st11 => 
lt_ (sv st11 o 5 ((gt st11 o 5) + 1)) (fun st12 => 
some (st12)))))))))))))
set_option maxRecDepth 100000 in
set_option maxHeartbeats 4000000 in
theorem c_X5_add (l : Launch) (D : va_G) (cy : ClassId) (h : Nat → Nat) (o : Nat) (ho : ok5 o) (a1 : Int32) (a2 : Int32) (a3 : Int32) (a4 : Int32) (a5 : Int32) (st : GS) (stF : GS) (hf : f_X5_add o a1 a2 a3 a4 a5 st = some stF) : gMv l XSh D cy h yX5_add cX5_add 6 none 1 st [.ref (h o), .int a1, .int a2, .int a3, .int a4, .int a5] stF := by
  unfold f_X5_add at hf
  refine gMv_of (by decide) (Nat.le_of_ble_eq_true rfl) ?_
  intro p e s m args below meth c A ls C hr hlocks G hl
  have C : gC p s m args c cX5_add 6 "LaneOrder$Sheet" XSh D cy h A := C
  have hl : lv_has ls 6 [(0, .ref (h o)), (1, .int a1), (2, .int a2), (3, .int a3), (4, .int a4), (5, .int a5)] := hl
  have hx := C.1
  have hb := C.2.1
  have hown := C.2.2.2.1
  have htb := C.2.2.2.2.1
  refine lv_aload_n hx hb dX5_add_0 rfl (lv_at hl 0 rfl) ?_
  refine g_geti C G cl5 (C5 ho) (j := 5) (by decide) (F5_5 ho) k1_69 dX5_add_1 ?_
  refine lv_bipush (v := 8) hx hb dX5_add_4 (by decide) ?_
  refine lv_icmp_ge (tgt := 71) hx hb dX5_add_6 (by decide) (fun c1 => ?_) (fun c1 => ?_)
  · have hf := ifP c1 hf
    cases hf
    exact g_vret C G hr hlocks dX5_add_71
  · have hf := ifN c1 hf
    refine lv_aload_n hx hb dX5_add_9 rfl (lv_at hl 0 rfl) ?_
    refine g_getr (k := (o + 1)) C G cl5 (C5 ho) (j := 0) (by decide) (F5_0 ho) k1_54 dX5_add_10 ?_
    refine lv_aload_n hx hb dX5_add_13 rfl (lv_at hl 0 rfl) ?_
    refine g_geti C G cl5 (C5 ho) (j := 5) (by decide) (F5_5 ho) k1_69 dX5_add_14 ?_
    refine lv_iload_n hx hb dX5_add_17 rfl (lv_at hl 1 rfl) ?_
    obtain ⟨hi18_1, hf⟩ := gd_some hf
    refine g_iast C G (A5_0 ho) (j := (gt st o 5).toNatClampNeg) rfl hi18_1 dX5_add_18 (fun st3 est3 H locs G => ?_)
    have hf := lt_some est3 hf
    refine lv_aload_n hx hb dX5_add_19 rfl (lv_at hl 0 rfl) ?_
    refine g_getr (k := (o + 2)) C G cl5 (C5 ho) (j := 1) (by decide) (F5_1 ho) k1_57 dX5_add_20 ?_
    refine lv_aload_n hx hb dX5_add_23 rfl (lv_at hl 0 rfl) ?_
    refine g_geti C G cl5 (C5 ho) (j := 5) (by decide) (F5_5 ho) k1_69 dX5_add_24 ?_
    refine lv_iload_n hx hb dX5_add_27 rfl (lv_at hl 2 rfl) ?_
    obtain ⟨hi28_3, hf⟩ := gd_some hf
    refine g_iast C G (A5_1 ho) (j := (gt st3 o 5).toNatClampNeg) rfl hi28_3 dX5_add_28 (fun st5 est5 H locs G => ?_)
    have hf := lt_some est5 hf
    refine lv_aload_n hx hb dX5_add_29 rfl (lv_at hl 0 rfl) ?_
    refine g_getr (k := (o + 3)) C G cl5 (C5 ho) (j := 2) (by decide) (F5_2 ho) k1_60 dX5_add_30 ?_
    refine lv_aload_n hx hb dX5_add_33 rfl (lv_at hl 0 rfl) ?_
    refine g_geti C G cl5 (C5 ho) (j := 5) (by decide) (F5_5 ho) k1_69 dX5_add_34 ?_
    refine lv_iload_n hx hb dX5_add_37 rfl (lv_at hl 3 rfl) ?_
    obtain ⟨hi38_5, hf⟩ := gd_some hf
    refine g_iast C G (A5_2 ho) (j := (gt st5 o 5).toNatClampNeg) rfl hi38_5 dX5_add_38 (fun st7 est7 H locs G => ?_)
    have hf := lt_some est7 hf
    refine lv_aload_n hx hb dX5_add_39 rfl (lv_at hl 0 rfl) ?_
    refine g_getr (k := (o + 4)) C G cl5 (C5 ho) (j := 3) (by decide) (F5_3 ho) k1_63 dX5_add_40 ?_
    refine lv_aload_n hx hb dX5_add_43 rfl (lv_at hl 0 rfl) ?_
    refine g_geti C G cl5 (C5 ho) (j := 5) (by decide) (F5_5 ho) k1_69 dX5_add_44 ?_
    refine lv_iload hx hb dX5_add_47 (lv_at hl 4 rfl) ?_
    obtain ⟨hi49_7, hf⟩ := gd_some hf
    refine g_iast C G (A5_3 ho) (j := (gt st7 o 5).toNatClampNeg) rfl hi49_7 dX5_add_49 (fun st9 est9 H locs G => ?_)
    have hf := lt_some est9 hf
    refine lv_aload_n hx hb dX5_add_50 rfl (lv_at hl 0 rfl) ?_
    refine g_getr (k := (o + 5)) C G cl5 (C5 ho) (j := 4) (by decide) (F5_4 ho) k1_66 dX5_add_51 ?_
    refine lv_aload_n hx hb dX5_add_54 rfl (lv_at hl 0 rfl) ?_
    refine g_geti C G cl5 (C5 ho) (j := 5) (by decide) (F5_5 ho) k1_69 dX5_add_55 ?_
    refine lv_iload hx hb dX5_add_58 (lv_at hl 5 rfl) ?_
    obtain ⟨hi60_9, hf⟩ := gd_some hf
    refine g_iast C G (A5_4 ho) (j := (gt st9 o 5).toNatClampNeg) rfl hi60_9 dX5_add_60 (fun st11 est11 H locs G => ?_)
    have hf := lt_some est11 hf
    refine lv_aload_n hx hb dX5_add_61 rfl (lv_at hl 0 rfl) ?_
    refine lv_dup hx hb dX5_add_62 rfl ?_
    refine g_geti C G cl5 (C5 ho) (j := 5) (by decide) (F5_5 ho) k1_69 dX5_add_63 ?_
    refine lv_iconst (v := 1) hx hb dX5_add_66 (by decide) ?_
    refine lv_iadd hx hb dX5_add_67 ?_
    refine g_puti C G cl5 (C5 ho) (j := 5) (by decide) (F5_5 ho) k1_69 rfl rfl rfl dX5_add_68 (fun st12 est12 H locs G => ?_)
    have hf := lt_some est12 hf
    cases hf
    exact g_vret C G hr hlocks dX5_add_71

noncomputable def f_X5_addRule (o : Nat) (a1 : Int32) (st : GS) : Option (GS) := 
(if 4 ≤ (gt st o 7) then some (st) else 
gd (gt st o 7) 4 (lt_ (sv st (o + 6) ((gt st o 7).toNatClampNeg) a1) (fun st3 => 
lt_ (sv st3 o 7 ((gt st3 o 7) + 1)) (fun st4 => 
some (st4)))))
set_option maxRecDepth 100000 in
set_option maxHeartbeats 4000000 in
theorem c_X5_addRule (l : Launch) (D : va_G) (cy : ClassId) (h : Nat → Nat) (o : Nat) (ho : ok5 o) (a1 : Int32) (st : GS) (stF : GS) (hf : f_X5_addRule o a1 st = some stF) : gMv l XSh D cy h yX5_addRule cX5_addRule 2 none 1 st [.ref (h o), .int a1] stF := by
  unfold f_X5_addRule at hf
  refine gMv_of (by decide) (Nat.le_of_ble_eq_true rfl) ?_
  intro p e s m args below meth c A ls C hr hlocks G hl
  have C : gC p s m args c cX5_addRule 2 "LaneOrder$Sheet" XSh D cy h A := C
  have hl : lv_has ls 2 [(0, .ref (h o)), (1, .int a1)] := hl
  have hx := C.1
  have hb := C.2.1
  have hown := C.2.2.2.1
  have htb := C.2.2.2.2.1
  refine lv_aload_n hx hb dX5_addRule_0 rfl (lv_at hl 0 rfl) ?_
  refine g_geti C G cl5 (C5 ho) (j := 7) (by decide) (F5_7 ho) k1_74 dX5_addRule_1 ?_
  refine lv_iconst (v := 4) hx hb dX5_addRule_4 (by decide) ?_
  refine lv_icmp_ge (tgt := 28) hx hb dX5_addRule_5 (by decide) (fun c1 => ?_) (fun c1 => ?_)
  · have hf := ifP c1 hf
    cases hf
    exact g_vret C G hr hlocks dX5_addRule_28
  · have hf := ifN c1 hf
    refine lv_aload_n hx hb dX5_addRule_8 rfl (lv_at hl 0 rfl) ?_
    refine g_getr (k := (o + 6)) C G cl5 (C5 ho) (j := 6) (by decide) (F5_6 ho) k1_72 dX5_addRule_9 ?_
    refine lv_aload_n hx hb dX5_addRule_12 rfl (lv_at hl 0 rfl) ?_
    refine g_geti C G cl5 (C5 ho) (j := 7) (by decide) (F5_7 ho) k1_74 dX5_addRule_13 ?_
    refine lv_iload_n hx hb dX5_addRule_16 rfl (lv_at hl 1 rfl) ?_
    obtain ⟨hi17_1, hf⟩ := gd_some hf
    refine g_iast C G (A5_6 ho) (j := (gt st o 7).toNatClampNeg) rfl hi17_1 dX5_addRule_17 (fun st3 est3 H locs G => ?_)
    have hf := lt_some est3 hf
    refine lv_aload_n hx hb dX5_addRule_18 rfl (lv_at hl 0 rfl) ?_
    refine lv_dup hx hb dX5_addRule_19 rfl ?_
    refine g_geti C G cl5 (C5 ho) (j := 7) (by decide) (F5_7 ho) k1_74 dX5_addRule_20 ?_
    refine lv_iconst (v := 1) hx hb dX5_addRule_23 (by decide) ?_
    refine lv_iadd hx hb dX5_addRule_24 ?_
    refine g_puti C G cl5 (C5 ho) (j := 7) (by decide) (F5_7 ho) k1_74 rfl rfl rfl dX5_addRule_25 (fun st4 est4 H locs G => ?_)
    have hf := lt_some est4 hf
    cases hf
    exact g_vret C G hr hlocks dX5_addRule_28

noncomputable def f_X5_gap (a1 : Int32) (a2 : Int32) (a3 : Int32) (a4 : Int32) : Option (Int32) := 
some ((imax 0 (imax (a3 - a2) (a1 - a4))))
set_option maxRecDepth 100000 in
set_option maxHeartbeats 4000000 in
theorem c_X5_gap (l : Launch) (D : va_G) (cy : ClassId) (h : Nat → Nat) (a1 : Int32) (a2 : Int32) (a3 : Int32) (a4 : Int32) (st : GS) (r : Int32) (hf : f_X5_gap a1 a2 a3 a4 = some r) : gMi l XSh D cy h yX5_gap cX5_gap 4 (some .int) 1 st [.int a1, .int a2, .int a3, .int a4] r st := by
  unfold f_X5_gap at hf
  refine gMi_of (by decide) (Nat.le_of_ble_eq_true rfl) ?_
  intro p e s m args below meth c A ls C hr hlocks G hl
  have C : gC p s m args c cX5_gap 4 "LaneOrder$Sheet" XSh D cy h A := C
  have hl : lv_has ls 4 [(0, .int a1), (1, .int a2), (2, .int a3), (3, .int a4)] := hl
  have hx := C.1
  have hb := C.2.1
  have hown := C.2.2.2.1
  have htb := C.2.2.2.2.1
  refine lv_iconst (v := 0) hx hb dX5_gap_0 (by decide) ?_
  refine lv_iload_n hx hb dX5_gap_1 rfl (lv_at hl 2 rfl) ?_
  refine lv_iload_n hx hb dX5_gap_2 rfl (lv_at hl 1 rfl) ?_
  refine lv_isub hx hb dX5_gap_3 ?_
  refine lv_iload_n hx hb dX5_gap_4 rfl (lv_at hl 0 rfl) ?_
  refine lv_iload_n hx hb dX5_gap_5 rfl (lv_at hl 3 rfl) ?_
  refine lv_isub hx hb dX5_gap_6 ?_
  refine g_max C hl.1 kl_X5_55 mmax_s ini_java_lang_Math mmax_c (Nat.le_of_ble_eq_true rfl) (Nat.le_of_ble_eq_true rfl) (Nat.zero_le _) (Nat.zero_le _) dX5_gap_7 ?_
  refine g_max C hl.1 kl_X5_55 mmax_s ini_java_lang_Math mmax_c (Nat.le_of_ble_eq_true rfl) (Nat.le_of_ble_eq_true rfl) (Nat.zero_le _) (Nat.zero_le _) dX5_gap_10 ?_
  cases hf
  exact g_iret C G hr hlocks dX5_gap_13

noncomputable def f_X5_distance (o : Nat) (a1 : Int32) (a2 : Int32) (st : GS) : Option (Int32) := 
gd a1 8 (gd a1 8 (gd a2 8 (gd a2 8 (bI1 (f_X5_gap (gt st (o + 2) (a1.toNatClampNeg)) (gt st (o + 4) (a1.toNatClampNeg)) (gt st (o + 2) (a2.toNatClampNeg)) (gt st (o + 4) (a2.toNatClampNeg))) (fun r5 => 
gd a1 8 (gd a1 8 (gd a2 8 (gd a2 8 (bI1 (f_X5_gap (gt st (o + 3) (a1.toNatClampNeg)) (gt st (o + 5) (a1.toNatClampNeg)) (gt st (o + 3) (a2.toNatClampNeg)) (gt st (o + 5) (a2.toNatClampNeg))) (fun r10 => 
some ((r5 + r10))))))))))))
set_option maxRecDepth 100000 in
set_option maxHeartbeats 4000000 in
theorem c_X5_distance (l : Launch) (D : va_G) (cy : ClassId) (h : Nat → Nat) (o : Nat) (ho : ok5 o) (a1 : Int32) (a2 : Int32) (st : GS) (r : Int32) (hf : f_X5_distance o a1 a2 st = some r) : gMi l XSh D cy h yX5_distance cX5_distance 3 (some .int) 2 st [.ref (h o), .int a1, .int a2] r st := by
  unfold f_X5_distance at hf
  refine gMi_of (by decide) (Nat.le_of_ble_eq_true rfl) ?_
  intro p e s m args below meth c A ls C hr hlocks G hl
  have C : gC p s m args c cX5_distance 3 "LaneOrder$Sheet" XSh D cy h A := C
  have hl : lv_has ls 3 [(0, .ref (h o)), (1, .int a1), (2, .int a2)] := hl
  have hx := C.1
  have hb := C.2.1
  have hown := C.2.2.2.1
  have htb := C.2.2.2.2.1
  refine lv_aload_n hx hb dX5_distance_0 rfl (lv_at hl 0 rfl) ?_
  refine g_getr (k := (o + 2)) C G cl5 (C5 ho) (j := 1) (by decide) (F5_1 ho) k1_57 dX5_distance_1 ?_
  refine lv_iload_n hx hb dX5_distance_4 rfl (lv_at hl 1 rfl) ?_
  obtain ⟨hi5_0, hf⟩ := gd_some hf
  refine g_iald C G (A5_1 ho) (j := a1.toNatClampNeg) rfl hi5_0 dX5_distance_5 ?_
  refine lv_aload_n hx hb dX5_distance_6 rfl (lv_at hl 0 rfl) ?_
  refine g_getr (k := (o + 4)) C G cl5 (C5 ho) (j := 3) (by decide) (F5_3 ho) k1_63 dX5_distance_7 ?_
  refine lv_iload_n hx hb dX5_distance_10 rfl (lv_at hl 1 rfl) ?_
  obtain ⟨hi11_1, hf⟩ := gd_some hf
  refine g_iald C G (A5_3 ho) (j := a1.toNatClampNeg) rfl hi11_1 dX5_distance_11 ?_
  refine lv_aload_n hx hb dX5_distance_12 rfl (lv_at hl 0 rfl) ?_
  refine g_getr (k := (o + 2)) C G cl5 (C5 ho) (j := 1) (by decide) (F5_1 ho) k1_57 dX5_distance_13 ?_
  refine lv_iload_n hx hb dX5_distance_16 rfl (lv_at hl 2 rfl) ?_
  obtain ⟨hi17_2, hf⟩ := gd_some hf
  refine g_iald C G (A5_1 ho) (j := a2.toNatClampNeg) rfl hi17_2 dX5_distance_17 ?_
  refine lv_aload_n hx hb dX5_distance_18 rfl (lv_at hl 0 rfl) ?_
  refine g_getr (k := (o + 4)) C G cl5 (C5 ho) (j := 3) (by decide) (F5_3 ho) k1_63 dX5_distance_19 ?_
  refine lv_iload_n hx hb dX5_distance_22 rfl (lv_at hl 2 rfl) ?_
  obtain ⟨hi23_3, hf⟩ := gd_some hf
  refine g_iald C G (A5_3 ho) (j := a2.toNatClampNeg) rfl hi23_3 dX5_distance_23 ?_
  obtain ⟨r5, hc24_5, hf⟩ := bI1_some hf
  refine g_callSi C G (As := [.int (gt st (o + 2) (a1.toNatClampNeg)), .int (gt st (o + 4) (a1.toNatClampNeg)), .int (gt st (o + 2) (a2.toNatClampNeg)), .int (gt st (o + 4) (a2.toNatClampNeg))]) (rest := []) (c_X5_gap l D cy h (gt st (o + 2) (a1.toNatClampNeg)) (gt st (o + 4) (a1.toNatClampNeg)) (gt st (o + 2) (a2.toNatClampNeg)) (gt st (o + 4) (a2.toNatClampNeg)) st r5 hc24_5) v_X5_71 (Nat.le_of_ble_eq_true rfl) (Nat.le_of_ble_eq_true rfl) rfl hl.1 rfl (Nat.le_of_ble_eq_true rfl) dX5_distance_24 ⟨Nat.zero_le _, Nat.zero_le _⟩ (fun H locs G => ?_)
  refine lv_aload_n hx hb dX5_distance_27 rfl (lv_at hl 0 rfl) ?_
  refine g_getr (k := (o + 3)) C G cl5 (C5 ho) (j := 2) (by decide) (F5_2 ho) k1_60 dX5_distance_28 ?_
  refine lv_iload_n hx hb dX5_distance_31 rfl (lv_at hl 1 rfl) ?_
  obtain ⟨hi32_5, hf⟩ := gd_some hf
  refine g_iald C G (A5_2 ho) (j := a1.toNatClampNeg) rfl hi32_5 dX5_distance_32 ?_
  refine lv_aload_n hx hb dX5_distance_33 rfl (lv_at hl 0 rfl) ?_
  refine g_getr (k := (o + 5)) C G cl5 (C5 ho) (j := 4) (by decide) (F5_4 ho) k1_66 dX5_distance_34 ?_
  refine lv_iload_n hx hb dX5_distance_37 rfl (lv_at hl 1 rfl) ?_
  obtain ⟨hi38_6, hf⟩ := gd_some hf
  refine g_iald C G (A5_4 ho) (j := a1.toNatClampNeg) rfl hi38_6 dX5_distance_38 ?_
  refine lv_aload_n hx hb dX5_distance_39 rfl (lv_at hl 0 rfl) ?_
  refine g_getr (k := (o + 3)) C G cl5 (C5 ho) (j := 2) (by decide) (F5_2 ho) k1_60 dX5_distance_40 ?_
  refine lv_iload_n hx hb dX5_distance_43 rfl (lv_at hl 2 rfl) ?_
  obtain ⟨hi44_7, hf⟩ := gd_some hf
  refine g_iald C G (A5_2 ho) (j := a2.toNatClampNeg) rfl hi44_7 dX5_distance_44 ?_
  refine lv_aload_n hx hb dX5_distance_45 rfl (lv_at hl 0 rfl) ?_
  refine g_getr (k := (o + 5)) C G cl5 (C5 ho) (j := 4) (by decide) (F5_4 ho) k1_66 dX5_distance_46 ?_
  refine lv_iload_n hx hb dX5_distance_49 rfl (lv_at hl 2 rfl) ?_
  obtain ⟨hi50_8, hf⟩ := gd_some hf
  refine g_iald C G (A5_4 ho) (j := a2.toNatClampNeg) rfl hi50_8 dX5_distance_50 ?_
  obtain ⟨r10, hc51_10, hf⟩ := bI1_some hf
  refine g_callSi C G (As := [.int (gt st (o + 3) (a1.toNatClampNeg)), .int (gt st (o + 5) (a1.toNatClampNeg)), .int (gt st (o + 3) (a2.toNatClampNeg)), .int (gt st (o + 5) (a2.toNatClampNeg))]) (rest := [.int r5]) (c_X5_gap l D cy h (gt st (o + 3) (a1.toNatClampNeg)) (gt st (o + 5) (a1.toNatClampNeg)) (gt st (o + 3) (a2.toNatClampNeg)) (gt st (o + 5) (a2.toNatClampNeg)) st r10 hc51_10) v_X5_71 (Nat.le_of_ble_eq_true rfl) (Nat.le_of_ble_eq_true rfl) rfl hl.1 rfl (Nat.le_of_ble_eq_true rfl) dX5_distance_51 ⟨Nat.zero_le _, Nat.zero_le _⟩ (fun H locs G => ?_)
  refine lv_iadd hx hb dX5_distance_54 ?_
  cases hf
  exact g_iret C G hr hlocks dX5_distance_55

noncomputable def f_X5_isOfKind (o : Nat) (a1 : Int32) (a2 : Int32) (st : GS) : Option (Int32) := 
(if a2 = 0 then some (1) else 
gd a1 8 ((if (gt st (o + 1) (a1.toNatClampNeg)) = a2 then some (1) else 
(if a2 = 2 then gd a1 8 ((if (gt st (o + 1) (a1.toNatClampNeg)) = 4 then some (1) else 
some (0))) else 
some (0)))))
set_option maxRecDepth 100000 in
set_option maxHeartbeats 4000000 in
theorem c_X5_isOfKind (l : Launch) (D : va_G) (cy : ClassId) (h : Nat → Nat) (o : Nat) (ho : ok5 o) (a1 : Int32) (a2 : Int32) (st : GS) (r : Int32) (hf : f_X5_isOfKind o a1 a2 st = some r) : gMi l XSh D cy h yX5_isOfKind cX5_isOfKind 3 (some .boolean) 1 st [.ref (h o), .int a1, .int a2] r st := by
  unfold f_X5_isOfKind at hf
  refine gMi_of (by decide) (Nat.le_of_ble_eq_true rfl) ?_
  intro p e s m args below meth c A ls C hr hlocks G hl
  have C : gC p s m args c cX5_isOfKind 3 "LaneOrder$Sheet" XSh D cy h A := C
  have hl : lv_has ls 3 [(0, .ref (h o)), (1, .int a1), (2, .int a2)] := hl
  have hx := C.1
  have hb := C.2.1
  have hown := C.2.2.2.1
  have htb := C.2.2.2.2.1
  refine lv_iload_n hx hb dX5_isOfKind_0 rfl (lv_at hl 2 rfl) ?_
  refine lv_if_eq (tgt := 29) hx hb dX5_isOfKind_1 (by decide) (fun c1 => ?_) (fun c1 => ?_)
  · have hf := ifP c1 hf
    refine lv_iconst (v := 1) hx hb dX5_isOfKind_29 (by decide) ?_
    refine lv_goto (tgt := 34) hx hb dX5_isOfKind_30 (by decide) ?_
    cases hf
    exact g_zret C G (Or.inr rfl) hr hlocks dX5_isOfKind_34
  · have hf := ifN c1 hf
    refine lv_aload_n hx hb dX5_isOfKind_4 rfl (lv_at hl 0 rfl) ?_
    refine g_getr (k := (o + 1)) C G cl5 (C5 ho) (j := 0) (by decide) (F5_0 ho) k1_54 dX5_isOfKind_5 ?_
    refine lv_iload_n hx hb dX5_isOfKind_8 rfl (lv_at hl 1 rfl) ?_
    obtain ⟨hi9_1, hf⟩ := gd_some hf
    refine g_iald C G (A5_0 ho) (j := a1.toNatClampNeg) rfl hi9_1 dX5_isOfKind_9 ?_
    refine lv_iload_n hx hb dX5_isOfKind_10 rfl (lv_at hl 2 rfl) ?_
    refine lv_icmp_eq (tgt := 29) hx hb dX5_isOfKind_11 (by decide) (fun c3 => ?_) (fun c3 => ?_)
    · have hf := ifP c3 hf
      refine lv_iconst (v := 1) hx hb dX5_isOfKind_29 (by decide) ?_
      refine lv_goto (tgt := 34) hx hb dX5_isOfKind_30 (by decide) ?_
      cases hf
      exact g_zret C G (Or.inr rfl) hr hlocks dX5_isOfKind_34
    · have hf := ifN c3 hf
      refine lv_iload_n hx hb dX5_isOfKind_14 rfl (lv_at hl 2 rfl) ?_
      refine lv_iconst (v := 2) hx hb dX5_isOfKind_15 (by decide) ?_
      refine lv_icmp_ne (tgt := 33) hx hb dX5_isOfKind_16 (by decide) (fun c4 => ?_) (fun c4 => ?_)
      · have hf := ifN c4 hf
        refine lv_iconst (v := 0) hx hb dX5_isOfKind_33 (by decide) ?_
        cases hf
        exact g_zret C G (Or.inl rfl) hr hlocks dX5_isOfKind_34
      · have hf := ifP c4 hf
        refine lv_aload_n hx hb dX5_isOfKind_19 rfl (lv_at hl 0 rfl) ?_
        refine g_getr (k := (o + 1)) C G cl5 (C5 ho) (j := 0) (by decide) (F5_0 ho) k1_54 dX5_isOfKind_20 ?_
        refine lv_iload_n hx hb dX5_isOfKind_23 rfl (lv_at hl 1 rfl) ?_
        obtain ⟨hi24_4, hf⟩ := gd_some hf
        refine g_iald C G (A5_0 ho) (j := a1.toNatClampNeg) rfl hi24_4 dX5_isOfKind_24 ?_
        refine lv_iconst (v := 4) hx hb dX5_isOfKind_25 (by decide) ?_
        refine lv_icmp_ne (tgt := 33) hx hb dX5_isOfKind_26 (by decide) (fun c6 => ?_) (fun c6 => ?_)
        · have hf := ifN c6 hf
          refine lv_iconst (v := 0) hx hb dX5_isOfKind_33 (by decide) ?_
          cases hf
          exact g_zret C G (Or.inl rfl) hr hlocks dX5_isOfKind_34
        · have hf := ifP c6 hf
          refine lv_iconst (v := 1) hx hb dX5_isOfKind_29 (by decide) ?_
          refine lv_goto (tgt := 34) hx hb dX5_isOfKind_30 (by decide) ?_
          cases hf
          exact g_zret C G (Or.inr rfl) hr hlocks dX5_isOfKind_34

noncomputable def f_X5_rank (o : Nat) (a1 : Int32) (a2 : Int32) (st : GS) : Option (Int32) := 
(if a1 = 0 then bI1 (f_X5_isOfKind o a2 1 st) (fun r2 => 
(if r2 = 0 then some (1) else 
some (0))) else 
(if a1 = 1 then bI1 (f_X5_isOfKind o a2 2 st) (fun r4 => 
(if r4 = 0 then some (0) else 
some (1))) else 
(if a1 = 2 then gd a2 8 (some ((gt st (o + 3) (a2.toNatClampNeg)))) else 
gd a2 8 (some ((gt st (o + 2) (a2.toNatClampNeg)))))))
set_option maxRecDepth 100000 in
set_option maxHeartbeats 4000000 in
theorem c_X5_rank (l : Launch) (D : va_G) (cy : ClassId) (h : Nat → Nat) (o : Nat) (ho : ok5 o) (a1 : Int32) (a2 : Int32) (st : GS) (r : Int32) (hf : f_X5_rank o a1 a2 st = some r) : gMi l XSh D cy h yX5_rank cX5_rank 3 (some .int) 2 st [.ref (h o), .int a1, .int a2] r st := by
  unfold f_X5_rank at hf
  refine gMi_of (by decide) (Nat.le_of_ble_eq_true rfl) ?_
  intro p e s m args below meth c A ls C hr hlocks G hl
  have C : gC p s m args c cX5_rank 3 "LaneOrder$Sheet" XSh D cy h A := C
  have hl : lv_has ls 3 [(0, .ref (h o)), (1, .int a1), (2, .int a2)] := hl
  have hx := C.1
  have hb := C.2.1
  have hown := C.2.2.2.1
  have htb := C.2.2.2.2.1
  refine lv_iload_n hx hb dX5_rank_0 rfl (lv_at hl 1 rfl) ?_
  by_cases c1_0 : a1 = 0
  · have hf := ifP c1_0 hf
    refine lv_tableIn (tgt := 28) hx hb dX5_rank_1 (by rw [c1_0]; decide) (by rw [c1_0]; decide) (by rw [c1_0]; rfl) (by decide) ?_
    refine lv_aload_n hx hb dX5_rank_28 rfl (lv_at hl 0 rfl) ?_
    refine lv_iload_n hx hb dX5_rank_29 rfl (lv_at hl 2 rfl) ?_
    refine lv_iconst (v := 1) hx hb dX5_rank_30 (by decide) ?_
    obtain ⟨r2, hc31_2, hf⟩ := bI1_some hf
    refine g_callVi C G (As := [.int a2, .int 1]) (rest := []) (c_X5_isOfKind l D cy h o ho a2 1 st r2 hc31_2) cl5 rfl (C5 ho) v_X5_64 (Nat.le_of_ble_eq_true rfl) (Nat.le_of_ble_eq_true rfl) rfl hl.1 rfl (Nat.le_of_ble_eq_true rfl) dX5_rank_31 ⟨Nat.zero_le _, Nat.zero_le _⟩ (fun H locs G => ?_)
    refine lv_if_eq (tgt := 41) hx hb dX5_rank_34 (by decide) (fun c3 => ?_) (fun c3 => ?_)
    · have hf := ifP c3 hf
      refine lv_iconst (v := 1) hx hb dX5_rank_41 (by decide) ?_
      cases hf
      exact g_iret C G hr hlocks dX5_rank_42
    · have hf := ifN c3 hf
      refine lv_iconst (v := 0) hx hb dX5_rank_37 (by decide) ?_
      refine lv_goto (tgt := 42) hx hb dX5_rank_38 (by decide) ?_
      cases hf
      exact g_iret C G hr hlocks dX5_rank_42
  · have hf := ifN c1_0 hf
    by_cases c1_1 : a1 = 1
    · have hf := ifP c1_1 hf
      refine lv_tableIn (tgt := 43) hx hb dX5_rank_1 (by rw [c1_1]; decide) (by rw [c1_1]; decide) (by rw [c1_1]; rfl) (by decide) ?_
      refine lv_aload_n hx hb dX5_rank_43 rfl (lv_at hl 0 rfl) ?_
      refine lv_iload_n hx hb dX5_rank_44 rfl (lv_at hl 2 rfl) ?_
      refine lv_iconst (v := 2) hx hb dX5_rank_45 (by decide) ?_
      obtain ⟨r4, hc46_4, hf⟩ := bI1_some hf
      refine g_callVi C G (As := [.int a2, .int 2]) (rest := []) (c_X5_isOfKind l D cy h o ho a2 2 st r4 hc46_4) cl5 rfl (C5 ho) v_X5_64 (Nat.le_of_ble_eq_true rfl) (Nat.le_of_ble_eq_true rfl) rfl hl.1 rfl (Nat.le_of_ble_eq_true rfl) dX5_rank_46 ⟨Nat.zero_le _, Nat.zero_le _⟩ (fun H locs G => ?_)
      refine lv_if_eq (tgt := 56) hx hb dX5_rank_49 (by decide) (fun c5 => ?_) (fun c5 => ?_)
      · have hf := ifP c5 hf
        refine lv_iconst (v := 0) hx hb dX5_rank_56 (by decide) ?_
        cases hf
        exact g_iret C G hr hlocks dX5_rank_57
      · have hf := ifN c5 hf
        refine lv_iconst (v := 1) hx hb dX5_rank_52 (by decide) ?_
        refine lv_goto (tgt := 57) hx hb dX5_rank_53 (by decide) ?_
        cases hf
        exact g_iret C G hr hlocks dX5_rank_57
    · have hf := ifN c1_1 hf
      by_cases c1_2 : a1 = 2
      · have hf := ifP c1_2 hf
        refine lv_tableIn (tgt := 58) hx hb dX5_rank_1 (by rw [c1_2]; decide) (by rw [c1_2]; decide) (by rw [c1_2]; rfl) (by decide) ?_
        refine lv_aload_n hx hb dX5_rank_58 rfl (lv_at hl 0 rfl) ?_
        refine g_getr (k := (o + 3)) C G cl5 (C5 ho) (j := 2) (by decide) (F5_2 ho) k1_60 dX5_rank_59 ?_
        refine lv_iload_n hx hb dX5_rank_62 rfl (lv_at hl 2 rfl) ?_
        obtain ⟨hi63_5, hf⟩ := gd_some hf
        refine g_iald C G (A5_2 ho) (j := a2.toNatClampNeg) rfl hi63_5 dX5_rank_63 ?_
        cases hf
        exact g_iret C G hr hlocks dX5_rank_64
      · have hf := ifN c1_2 hf
        refine lv_tableOut (tgt := 65) hx hb dX5_rank_1 (tab_2 c1_0 c1_1 c1_2) (by decide) ?_
        refine lv_aload_n hx hb dX5_rank_65 rfl (lv_at hl 0 rfl) ?_
        refine g_getr (k := (o + 2)) C G cl5 (C5 ho) (j := 1) (by decide) (F5_1 ho) k1_57 dX5_rank_66 ?_
        refine lv_iload_n hx hb dX5_rank_69 rfl (lv_at hl 2 rfl) ?_
        obtain ⟨hi70_6, hf⟩ := gd_some hf
        refine g_iald C G (A5_1 ho) (j := a2.toNatClampNeg) rfl hi70_6 dX5_rank_70 ?_
        cases hf
        exact g_iret C G hr hlocks dX5_rank_71

noncomputable def f_X5_isAhead_L2 (o : Nat) (a1 : Int32) (a2 : Int32) (st : GS) (x1 : Int32) : Option ((Int32) ⊕ (Int32)) := 
(if (gt st o 7) ≤ x1 then (if a2 ≤ a1 then some (.inr (0)) else 
some (.inr (1))) else 
gd x1 4 (bI1 (f_X5_rank o (gt st (o + 6) (x1.toNatClampNeg)) a2 st) (fun r5 => 
gd x1 4 (bI1 (f_X5_rank o (gt st (o + 6) (x1.toNatClampNeg)) a1 st) (fun r7 => 
lt_ (r5 - r7) (fun x8 => 
(if x8 = 0 then lt_ (x1 + 1) (fun x10 => 
some (.inl (x10))) else 
(if x8 ≤ 0 then some (.inr (0)) else 
some (.inr (1))))))))))
noncomputable def f_X5_isAhead (o : Nat) (a1 : Int32) (a2 : Int32) (st : GS) : Option (Int32) := 
lpx (uc1 (f_X5_isAhead_L2 o a1 a2 st)) (0)
set_option maxRecDepth 100000 in
set_option maxHeartbeats 4000000 in
theorem c_X5_isAhead (l : Launch) (D : va_G) (cy : ClassId) (h : Nat → Nat) (o : Nat) (ho : ok5 o) (a1 : Int32) (a2 : Int32) (st : GS) (r : Int32) (hf : f_X5_isAhead o a1 a2 st = some r) : gMi l XSh D cy h yX5_isAhead cX5_isAhead 5 (some .boolean) 3 st [.ref (h o), .int a1, .int a2] r st := by
  unfold f_X5_isAhead at hf
  refine gMi_of (by decide) (Nat.le_of_ble_eq_true rfl) ?_
  intro p e s m args below meth c A ls C hr hlocks G hl
  have C : gC p s m args c cX5_isAhead 5 "LaneOrder$Sheet" XSh D cy h A := C
  have hl : lv_has ls 5 [(0, .ref (h o)), (1, .int a1), (2, .int a2)] := hl
  have hx := C.1
  have hb := C.2.1
  have hown := C.2.2.2.1
  have htb := C.2.2.2.2.1
  refine lv_iconst (v := 0) hx hb dX5_isAhead_0 (by decide) ?_
  refine lv_istore_n (lv' := [(3, .int 0), (0, .ref (h o)), (1, .int a1), (2, .int a2)]) hx hb dX5_isAhead_1 rfl hl (by decide) rfl (fun ls hl => ?_)
  obtain ⟨n, hn⟩ := lpx_some hf
  have L2 : ∀ (n : Nat) (x1 : Int32) (H : Heap) (locs : List Loc) (ls : Array Slot), gG XSh D cy h A s st H locs → lv_has ls 5 [(0, .ref (h o)), (1, .int a1), (2, .int a2), (3, .int x1)] → lp (uc1 (f_X5_isAhead_L2 o a1 a2 st)) n (x1) = some r → W p l e (gR 3) s m args below meth c H locs 0 0 (MQ below (gQi XSh D cy h A r st) args s 0 0 A) (F0 m 2 ls []) := by
    intro n
    induction n with
    | zero =>
      intro x1 H locs ls G hl hn
      cases hn
    | succ n ih =>
      intro x1 H locs ls G hl hn
      obtain ⟨q, hf, hq1, hq2⟩ := lp_q hn
      have hf : f_X5_isAhead_L2 o a1 a2 st x1 = some q := hf
      unfold f_X5_isAhead_L2 at hf
      refine lv_iload_n hx hb dX5_isAhead_2 rfl (lv_at hl 3 rfl) ?_
      refine lv_aload_n hx hb dX5_isAhead_3 rfl (lv_at hl 0 rfl) ?_
      refine g_geti C G cl5 (C5 ho) (j := 7) (by decide) (F5_7 ho) k1_74 dX5_isAhead_4 ?_
      refine lv_icmp_ge (tgt := 57) hx hb dX5_isAhead_7 (by decide) (fun c2 => ?_) (fun c2 => ?_)
      · have hf := ifP c2 hf
        refine lv_iload_n hx hb dX5_isAhead_57 rfl (lv_at hl 1 rfl) ?_
        refine lv_iload_n hx hb dX5_isAhead_58 rfl (lv_at hl 2 rfl) ?_
        refine lv_icmp_ge (tgt := 66) hx hb dX5_isAhead_59 (by decide) (fun c3 => ?_) (fun c3 => ?_)
        · have hf := ifP c3 hf
          refine lv_iconst (v := 0) hx hb dX5_isAhead_66 (by decide) ?_
          cases hf
          have hz9 := hq2 _ rfl
          cases hz9
          exact g_zret C G (Or.inl rfl) hr hlocks dX5_isAhead_67
        · have hf := ifN c3 hf
          refine lv_iconst (v := 1) hx hb dX5_isAhead_62 (by decide) ?_
          refine lv_goto (tgt := 67) hx hb dX5_isAhead_63 (by decide) ?_
          cases hf
          have hz9 := hq2 _ rfl
          cases hz9
          exact g_zret C G (Or.inr rfl) hr hlocks dX5_isAhead_67
      · have hf := ifN c2 hf
        refine lv_aload_n hx hb dX5_isAhead_10 rfl (lv_at hl 0 rfl) ?_
        refine lv_aload_n hx hb dX5_isAhead_11 rfl (lv_at hl 0 rfl) ?_
        refine g_getr (k := (o + 6)) C G cl5 (C5 ho) (j := 6) (by decide) (F5_6 ho) k1_72 dX5_isAhead_12 ?_
        refine lv_iload_n hx hb dX5_isAhead_15 rfl (lv_at hl 3 rfl) ?_
        obtain ⟨hi16_3, hf⟩ := gd_some hf
        refine g_iald C G (A5_6 ho) (j := x1.toNatClampNeg) rfl hi16_3 dX5_isAhead_16 ?_
        refine lv_iload_n hx hb dX5_isAhead_17 rfl (lv_at hl 2 rfl) ?_
        obtain ⟨r5, hc18_5, hf⟩ := bI1_some hf
        refine g_callVi C G (As := [.int (gt st (o + 6) (x1.toNatClampNeg)), .int a2]) (rest := []) (c_X5_rank l D cy h o ho (gt st (o + 6) (x1.toNatClampNeg)) a2 st r5 hc18_5) cl5 rfl (C5 ho) v_X5_68 (Nat.le_of_ble_eq_true rfl) (Nat.le_of_ble_eq_true rfl) rfl hl.1 rfl (Nat.le_of_ble_eq_true rfl) dX5_isAhead_18 ⟨Nat.zero_le _, Nat.zero_le _⟩ (fun H locs G => ?_)
        refine lv_aload_n hx hb dX5_isAhead_21 rfl (lv_at hl 0 rfl) ?_
        refine lv_aload_n hx hb dX5_isAhead_22 rfl (lv_at hl 0 rfl) ?_
        refine g_getr (k := (o + 6)) C G cl5 (C5 ho) (j := 6) (by decide) (F5_6 ho) k1_72 dX5_isAhead_23 ?_
        refine lv_iload_n hx hb dX5_isAhead_26 rfl (lv_at hl 3 rfl) ?_
        obtain ⟨hi27_5, hf⟩ := gd_some hf
        refine g_iald C G (A5_6 ho) (j := x1.toNatClampNeg) rfl hi27_5 dX5_isAhead_27 ?_
        refine lv_iload_n hx hb dX5_isAhead_28 rfl (lv_at hl 1 rfl) ?_
        obtain ⟨r7, hc29_7, hf⟩ := bI1_some hf
        refine g_callVi C G (As := [.int (gt st (o + 6) (x1.toNatClampNeg)), .int a1]) (rest := [.int r5]) (c_X5_rank l D cy h o ho (gt st (o + 6) (x1.toNatClampNeg)) a1 st r7 hc29_7) cl5 rfl (C5 ho) v_X5_68 (Nat.le_of_ble_eq_true rfl) (Nat.le_of_ble_eq_true rfl) rfl hl.1 rfl (Nat.le_of_ble_eq_true rfl) dX5_isAhead_29 ⟨Nat.zero_le _, Nat.zero_le _⟩ (fun H locs G => ?_)
        refine lv_isub hx hb dX5_isAhead_32 ?_
        refine lv_topi (fun x8 ex8 => ?_)
        have hf := lt_some ex8 hf
        refine lv_istore (lv' := [(4, .int x8), (0, .ref (h o)), (1, .int a1), (2, .int a2), (3, .int x1)]) hx hb dX5_isAhead_33 hl (by decide) rfl (fun ls hl => ?_)
        refine lv_iload hx hb dX5_isAhead_35 (lv_at hl 0 rfl) ?_
        refine lv_if_eq (tgt := 51) hx hb dX5_isAhead_37 (by decide) (fun c9 => ?_) (fun c9 => ?_)
        · have hf := ifP c9 hf
          obtain ⟨x10, ex10⟩ : ∃ z : Int32, z = (x1 + 1) := ⟨_, rfl⟩
          have hf := lt_some ex10 hf
          refine lv_iinc (v := x10) (lv' := [(3, .int x10), (4, .int x8), (0, .ref (h o)), (1, .int a1), (2, .int a2)]) hx hb dX5_isAhead_51 hl (k := 4) rfl (by rw [ex10]; rfl) (by decide) rfl (fun ls hl => ?_)
          refine lv_goto (tgt := 2) hx hb dX5_isAhead_54 (by decide) ?_
          cases hf
          exact ih _ _ _ _ G (lv_sub hl [2, 3, 4, 0] rfl) (hq1 _ rfl)
        · have hf := ifN c9 hf
          refine lv_iload hx hb dX5_isAhead_40 (lv_at hl 0 rfl) ?_
          refine lv_if_le (tgt := 49) hx hb dX5_isAhead_42 (by decide) (fun c11 => ?_) (fun c11 => ?_)
          · have hf := ifP c11 hf
            refine lv_iconst (v := 0) hx hb dX5_isAhead_49 (by decide) ?_
            cases hf
            have hz9 := hq2 _ rfl
            cases hz9
            exact g_zret C G (Or.inl rfl) hr hlocks dX5_isAhead_50
          · have hf := ifN c11 hf
            refine lv_iconst (v := 1) hx hb dX5_isAhead_45 (by decide) ?_
            refine lv_goto (tgt := 50) hx hb dX5_isAhead_46 (by decide) ?_
            cases hf
            have hz9 := hq2 _ rfl
            cases hz9
            exact g_zret C G (Or.inr rfl) hr hlocks dX5_isAhead_50
  exact L2 n _ _ _ _ G (lv_sub hl [1, 2, 3, 0] rfl) hn

noncomputable def f_X5_ruleThatTells_L2 (o : Nat) (a1 : Int32) (a2 : Int32) (st : GS) (x1 : Int32) : Option ((Int32) ⊕ (Int32)) := 
(if (gt st o 7) ≤ x1 then some (.inr (-1)) else 
gd x1 4 (bI1 (f_X5_rank o (gt st (o + 6) (x1.toNatClampNeg)) a1 st) (fun r4 => 
gd x1 4 (bI1 (f_X5_rank o (gt st (o + 6) (x1.toNatClampNeg)) a2 st) (fun r6 => 
(if r4 = r6 then lt_ (x1 + 1) (fun x8 => 
some (.inl (x8))) else 
gd x1 4 (some (.inr (gt st (o + 6) (x1.toNatClampNeg))))))))))
noncomputable def f_X5_ruleThatTells (o : Nat) (a1 : Int32) (a2 : Int32) (st : GS) : Option (Int32) := 
lpx (uc1 (f_X5_ruleThatTells_L2 o a1 a2 st)) (0)
set_option maxRecDepth 100000 in
set_option maxHeartbeats 4000000 in
theorem c_X5_ruleThatTells (l : Launch) (D : va_G) (cy : ClassId) (h : Nat → Nat) (o : Nat) (ho : ok5 o) (a1 : Int32) (a2 : Int32) (st : GS) (r : Int32) (hf : f_X5_ruleThatTells o a1 a2 st = some r) : gMi l XSh D cy h yX5_ruleThatTells cX5_ruleThatTells 4 (some .int) 3 st [.ref (h o), .int a1, .int a2] r st := by
  unfold f_X5_ruleThatTells at hf
  refine gMi_of (by decide) (Nat.le_of_ble_eq_true rfl) ?_
  intro p e s m args below meth c A ls C hr hlocks G hl
  have C : gC p s m args c cX5_ruleThatTells 4 "LaneOrder$Sheet" XSh D cy h A := C
  have hl : lv_has ls 4 [(0, .ref (h o)), (1, .int a1), (2, .int a2)] := hl
  have hx := C.1
  have hb := C.2.1
  have hown := C.2.2.2.1
  have htb := C.2.2.2.2.1
  refine lv_iconst (v := 0) hx hb dX5_ruleThatTells_0 (by decide) ?_
  refine lv_istore_n (lv' := [(3, .int 0), (0, .ref (h o)), (1, .int a1), (2, .int a2)]) hx hb dX5_ruleThatTells_1 rfl hl (by decide) rfl (fun ls hl => ?_)
  obtain ⟨n, hn⟩ := lpx_some hf
  have L2 : ∀ (n : Nat) (x1 : Int32) (H : Heap) (locs : List Loc) (ls : Array Slot), gG XSh D cy h A s st H locs → lv_has ls 4 [(0, .ref (h o)), (1, .int a1), (2, .int a2), (3, .int x1)] → lp (uc1 (f_X5_ruleThatTells_L2 o a1 a2 st)) n (x1) = some r → W p l e (gR 3) s m args below meth c H locs 0 0 (MQ below (gQi XSh D cy h A r st) args s 0 0 A) (F0 m 2 ls []) := by
    intro n
    induction n with
    | zero =>
      intro x1 H locs ls G hl hn
      cases hn
    | succ n ih =>
      intro x1 H locs ls G hl hn
      obtain ⟨q, hf, hq1, hq2⟩ := lp_q hn
      have hf : f_X5_ruleThatTells_L2 o a1 a2 st x1 = some q := hf
      unfold f_X5_ruleThatTells_L2 at hf
      refine lv_iload_n hx hb dX5_ruleThatTells_2 rfl (lv_at hl 3 rfl) ?_
      refine lv_aload_n hx hb dX5_ruleThatTells_3 rfl (lv_at hl 0 rfl) ?_
      refine g_geti C G cl5 (C5 ho) (j := 7) (by decide) (F5_7 ho) k1_74 dX5_ruleThatTells_4 ?_
      refine lv_icmp_ge (tgt := 48) hx hb dX5_ruleThatTells_7 (by decide) (fun c2 => ?_) (fun c2 => ?_)
      · have hf := ifP c2 hf
        refine lv_iconst (v := (-1)) hx hb dX5_ruleThatTells_48 (by decide) ?_
        cases hf
        have hz9 := hq2 _ rfl
        cases hz9
        exact g_iret C G hr hlocks dX5_ruleThatTells_49
      · have hf := ifN c2 hf
        refine lv_aload_n hx hb dX5_ruleThatTells_10 rfl (lv_at hl 0 rfl) ?_
        refine lv_aload_n hx hb dX5_ruleThatTells_11 rfl (lv_at hl 0 rfl) ?_
        refine g_getr (k := (o + 6)) C G cl5 (C5 ho) (j := 6) (by decide) (F5_6 ho) k1_72 dX5_ruleThatTells_12 ?_
        refine lv_iload_n hx hb dX5_ruleThatTells_15 rfl (lv_at hl 3 rfl) ?_
        obtain ⟨hi16_2, hf⟩ := gd_some hf
        refine g_iald C G (A5_6 ho) (j := x1.toNatClampNeg) rfl hi16_2 dX5_ruleThatTells_16 ?_
        refine lv_iload_n hx hb dX5_ruleThatTells_17 rfl (lv_at hl 1 rfl) ?_
        obtain ⟨r4, hc18_4, hf⟩ := bI1_some hf
        refine g_callVi C G (As := [.int (gt st (o + 6) (x1.toNatClampNeg)), .int a1]) (rest := []) (c_X5_rank l D cy h o ho (gt st (o + 6) (x1.toNatClampNeg)) a1 st r4 hc18_4) cl5 rfl (C5 ho) v_X5_68 (Nat.le_of_ble_eq_true rfl) (Nat.le_of_ble_eq_true rfl) rfl hl.1 rfl (Nat.le_of_ble_eq_true rfl) dX5_ruleThatTells_18 ⟨Nat.zero_le _, Nat.zero_le _⟩ (fun H locs G => ?_)
        refine lv_aload_n hx hb dX5_ruleThatTells_21 rfl (lv_at hl 0 rfl) ?_
        refine lv_aload_n hx hb dX5_ruleThatTells_22 rfl (lv_at hl 0 rfl) ?_
        refine g_getr (k := (o + 6)) C G cl5 (C5 ho) (j := 6) (by decide) (F5_6 ho) k1_72 dX5_ruleThatTells_23 ?_
        refine lv_iload_n hx hb dX5_ruleThatTells_26 rfl (lv_at hl 3 rfl) ?_
        obtain ⟨hi27_4, hf⟩ := gd_some hf
        refine g_iald C G (A5_6 ho) (j := x1.toNatClampNeg) rfl hi27_4 dX5_ruleThatTells_27 ?_
        refine lv_iload_n hx hb dX5_ruleThatTells_28 rfl (lv_at hl 2 rfl) ?_
        obtain ⟨r6, hc29_6, hf⟩ := bI1_some hf
        refine g_callVi C G (As := [.int (gt st (o + 6) (x1.toNatClampNeg)), .int a2]) (rest := [.int r4]) (c_X5_rank l D cy h o ho (gt st (o + 6) (x1.toNatClampNeg)) a2 st r6 hc29_6) cl5 rfl (C5 ho) v_X5_68 (Nat.le_of_ble_eq_true rfl) (Nat.le_of_ble_eq_true rfl) rfl hl.1 rfl (Nat.le_of_ble_eq_true rfl) dX5_ruleThatTells_29 ⟨Nat.zero_le _, Nat.zero_le _⟩ (fun H locs G => ?_)
        refine lv_icmp_eq (tgt := 42) hx hb dX5_ruleThatTells_32 (by decide) (fun c7 => ?_) (fun c7 => ?_)
        · have hf := ifP c7 hf
          obtain ⟨x8, ex8⟩ : ∃ z : Int32, z = (x1 + 1) := ⟨_, rfl⟩
          have hf := lt_some ex8 hf
          refine lv_iinc (v := x8) (lv' := [(3, .int x8), (0, .ref (h o)), (1, .int a1), (2, .int a2)]) hx hb dX5_ruleThatTells_42 hl (k := 3) rfl (by rw [ex8]; rfl) (by decide) rfl (fun ls hl => ?_)
          refine lv_goto (tgt := 2) hx hb dX5_ruleThatTells_45 (by decide) ?_
          cases hf
          exact ih _ _ _ _ G (lv_sub hl [1, 2, 3, 0] rfl) (hq1 _ rfl)
        · have hf := ifN c7 hf
          refine lv_aload_n hx hb dX5_ruleThatTells_35 rfl (lv_at hl 0 rfl) ?_
          refine g_getr (k := (o + 6)) C G cl5 (C5 ho) (j := 6) (by decide) (F5_6 ho) k1_72 dX5_ruleThatTells_36 ?_
          refine lv_iload_n hx hb dX5_ruleThatTells_39 rfl (lv_at hl 3 rfl) ?_
          obtain ⟨hi40_8, hf⟩ := gd_some hf
          refine g_iald C G (A5_6 ho) (j := x1.toNatClampNeg) rfl hi40_8 dX5_ruleThatTells_40 ?_
          cases hf
          have hz9 := hq2 _ rfl
          cases hz9
          exact g_iret C G hr hlocks dX5_ruleThatTells_41
  exact L2 n _ _ _ _ G (lv_sub hl [1, 2, 3, 0] rfl) hn

noncomputable def f_X5_has (o : Nat) (a1 : Int32) (st : GS) : Option (Int32) := 
(if a1 < 0 then some (0) else 
(if (gt st o 5) ≤ a1 then some (0) else 
some (1)))
set_option maxRecDepth 100000 in
set_option maxHeartbeats 4000000 in
theorem c_X5_has (l : Launch) (D : va_G) (cy : ClassId) (h : Nat → Nat) (o : Nat) (ho : ok5 o) (a1 : Int32) (st : GS) (r : Int32) (hf : f_X5_has o a1 st = some r) : gMi l XSh D cy h yX5_has cX5_has 2 (some .boolean) 1 st [.ref (h o), .int a1] r st := by
  unfold f_X5_has at hf
  refine gMi_of (by decide) (Nat.le_of_ble_eq_true rfl) ?_
  intro p e s m args below meth c A ls C hr hlocks G hl
  have C : gC p s m args c cX5_has 2 "LaneOrder$Sheet" XSh D cy h A := C
  have hl : lv_has ls 2 [(0, .ref (h o)), (1, .int a1)] := hl
  have hx := C.1
  have hb := C.2.1
  have hown := C.2.2.2.1
  have htb := C.2.2.2.2.1
  refine lv_iload_n hx hb dX5_has_0 rfl (lv_at hl 1 rfl) ?_
  refine lv_if_lt (tgt := 16) hx hb dX5_has_1 (by decide) (fun c1 => ?_) (fun c1 => ?_)
  · have hf := ifP c1 hf
    refine lv_iconst (v := 0) hx hb dX5_has_16 (by decide) ?_
    cases hf
    exact g_zret C G (Or.inl rfl) hr hlocks dX5_has_17
  · have hf := ifN c1 hf
    refine lv_iload_n hx hb dX5_has_4 rfl (lv_at hl 1 rfl) ?_
    refine lv_aload_n hx hb dX5_has_5 rfl (lv_at hl 0 rfl) ?_
    refine g_geti C G cl5 (C5 ho) (j := 5) (by decide) (F5_5 ho) k1_69 dX5_has_6 ?_
    refine lv_icmp_ge (tgt := 16) hx hb dX5_has_9 (by decide) (fun c2 => ?_) (fun c2 => ?_)
    · have hf := ifP c2 hf
      refine lv_iconst (v := 0) hx hb dX5_has_16 (by decide) ?_
      cases hf
      exact g_zret C G (Or.inl rfl) hr hlocks dX5_has_17
    · have hf := ifN c2 hf
      refine lv_iconst (v := 1) hx hb dX5_has_12 (by decide) ?_
      refine lv_goto (tgt := 17) hx hb dX5_has_13 (by decide) ?_
      cases hf
      exact g_zret C G (Or.inr rfl) hr hlocks dX5_has_17

noncomputable def f_X5_copy (o : Nat) (a1 : Nat) (st : GS) : Option (GS) := 
gq (¬ (0 : Int32) < 0 ∧ ¬ (0 : Int32) < 0 ∧ ¬ (8 : Int32) < 0 ∧ Int32.toNatClampNeg 0 + Int32.toNatClampNeg 8 ≤ 8 ∧ Int32.toNatClampNeg 0 + Int32.toNatClampNeg 8 ≤ 8) (lt_ (sc st (a1 + 1) (o + 1) (Int32.toNatClampNeg 0) (Int32.toNatClampNeg 0) (Int32.toNatClampNeg 8)) (fun st1 => 
gq (¬ (0 : Int32) < 0 ∧ ¬ (0 : Int32) < 0 ∧ ¬ (8 : Int32) < 0 ∧ Int32.toNatClampNeg 0 + Int32.toNatClampNeg 8 ≤ 8 ∧ Int32.toNatClampNeg 0 + Int32.toNatClampNeg 8 ≤ 8) (lt_ (sc st1 (a1 + 2) (o + 2) (Int32.toNatClampNeg 0) (Int32.toNatClampNeg 0) (Int32.toNatClampNeg 8)) (fun st2 => 
gq (¬ (0 : Int32) < 0 ∧ ¬ (0 : Int32) < 0 ∧ ¬ (8 : Int32) < 0 ∧ Int32.toNatClampNeg 0 + Int32.toNatClampNeg 8 ≤ 8 ∧ Int32.toNatClampNeg 0 + Int32.toNatClampNeg 8 ≤ 8) (lt_ (sc st2 (a1 + 3) (o + 3) (Int32.toNatClampNeg 0) (Int32.toNatClampNeg 0) (Int32.toNatClampNeg 8)) (fun st3 => 
gq (¬ (0 : Int32) < 0 ∧ ¬ (0 : Int32) < 0 ∧ ¬ (8 : Int32) < 0 ∧ Int32.toNatClampNeg 0 + Int32.toNatClampNeg 8 ≤ 8 ∧ Int32.toNatClampNeg 0 + Int32.toNatClampNeg 8 ≤ 8) (lt_ (sc st3 (a1 + 4) (o + 4) (Int32.toNatClampNeg 0) (Int32.toNatClampNeg 0) (Int32.toNatClampNeg 8)) (fun st4 => 
gq (¬ (0 : Int32) < 0 ∧ ¬ (0 : Int32) < 0 ∧ ¬ (8 : Int32) < 0 ∧ Int32.toNatClampNeg 0 + Int32.toNatClampNeg 8 ≤ 8 ∧ Int32.toNatClampNeg 0 + Int32.toNatClampNeg 8 ≤ 8) (lt_ (sc st4 (a1 + 5) (o + 5) (Int32.toNatClampNeg 0) (Int32.toNatClampNeg 0) (Int32.toNatClampNeg 8)) (fun st5 => 
gq (¬ (0 : Int32) < 0 ∧ ¬ (0 : Int32) < 0 ∧ ¬ (4 : Int32) < 0 ∧ Int32.toNatClampNeg 0 + Int32.toNatClampNeg 4 ≤ 4 ∧ Int32.toNatClampNeg 0 + Int32.toNatClampNeg 4 ≤ 4) (lt_ (sc st5 (a1 + 6) (o + 6) (Int32.toNatClampNeg 0) (Int32.toNatClampNeg 0) (Int32.toNatClampNeg 4)) (fun st6 => 
lt_ (sv st6 o 5 (gt st6 a1 5)) (fun st7 => 
lt_ (sv st7 o 7 (gt st7 a1 7)) (fun st8 => 
some (st8)))))))))))))))
set_option maxRecDepth 100000 in
set_option maxHeartbeats 4000000 in
theorem c_X5_copy (l : Launch) (D : va_G) (cy : ClassId) (h : Nat → Nat) (o : Nat) (ho : ok5 o) (a1 : Nat) (ha1 : ok5 a1) (st : GS) (stF : GS) (hf : f_X5_copy o a1 st = some stF) : gMv l XSh D cy h yX5_copy cX5_copy 2 none 1 st [.ref (h o), .ref (h a1)] stF := by
  unfold f_X5_copy at hf
  refine gMv_of (by decide) (Nat.le_of_ble_eq_true rfl) ?_
  intro p e s m args below meth c A ls C hr hlocks G hl
  have C : gC p s m args c cX5_copy 2 "LaneOrder$Sheet" XSh D cy h A := C
  have hl : lv_has ls 2 [(0, .ref (h o)), (1, .ref (h a1))] := hl
  have hx := C.1
  have hb := C.2.1
  have hown := C.2.2.2.1
  have htb := C.2.2.2.2.1
  refine lv_aload_n hx hb dX5_copy_0 rfl (lv_at hl 1 rfl) ?_
  refine g_getr (k := (a1 + 1)) C G cl5 (C5 ha1) (j := 0) (by decide) (F5_0 ha1) k1_54 dX5_copy_1 ?_
  refine lv_iconst (v := 0) hx hb dX5_copy_4 (by decide) ?_
  refine lv_aload_n hx hb dX5_copy_5 rfl (lv_at hl 0 rfl) ?_
  refine g_getr (k := (o + 1)) C G cl5 (C5 ho) (j := 0) (by decide) (F5_0 ho) k1_54 dX5_copy_6 ?_
  refine lv_iconst (v := 0) hx hb dX5_copy_9 (by decide) ?_
  refine lv_bipush (v := 8) hx hb dX5_copy_10 (by decide) ?_
  obtain ⟨hac, hf⟩ := gq_some hf
  refine g_copy C G (rest := []) hl.1 (A5_0 ha1) (A5_0 ho) kl_X5_37 ac_n ac_s ini_java_lang_System hac.1 hac.2.1 hac.2.2.1 hac.2.2.2.1 hac.2.2.2.2 (Nat.le_of_ble_eq_true rfl) (Nat.le_of_ble_eq_true rfl) dX5_copy_12 (fun st1 est1 H locs G => ?_)
  have hf := lt_some est1 hf
  refine lv_aload_n hx hb dX5_copy_15 rfl (lv_at hl 1 rfl) ?_
  refine g_getr (k := (a1 + 2)) C G cl5 (C5 ha1) (j := 1) (by decide) (F5_1 ha1) k1_57 dX5_copy_16 ?_
  refine lv_iconst (v := 0) hx hb dX5_copy_19 (by decide) ?_
  refine lv_aload_n hx hb dX5_copy_20 rfl (lv_at hl 0 rfl) ?_
  refine g_getr (k := (o + 2)) C G cl5 (C5 ho) (j := 1) (by decide) (F5_1 ho) k1_57 dX5_copy_21 ?_
  refine lv_iconst (v := 0) hx hb dX5_copy_24 (by decide) ?_
  refine lv_bipush (v := 8) hx hb dX5_copy_25 (by decide) ?_
  obtain ⟨hac, hf⟩ := gq_some hf
  refine g_copy C G (rest := []) hl.1 (A5_1 ha1) (A5_1 ho) kl_X5_37 ac_n ac_s ini_java_lang_System hac.1 hac.2.1 hac.2.2.1 hac.2.2.2.1 hac.2.2.2.2 (Nat.le_of_ble_eq_true rfl) (Nat.le_of_ble_eq_true rfl) dX5_copy_27 (fun st2 est2 H locs G => ?_)
  have hf := lt_some est2 hf
  refine lv_aload_n hx hb dX5_copy_30 rfl (lv_at hl 1 rfl) ?_
  refine g_getr (k := (a1 + 3)) C G cl5 (C5 ha1) (j := 2) (by decide) (F5_2 ha1) k1_60 dX5_copy_31 ?_
  refine lv_iconst (v := 0) hx hb dX5_copy_34 (by decide) ?_
  refine lv_aload_n hx hb dX5_copy_35 rfl (lv_at hl 0 rfl) ?_
  refine g_getr (k := (o + 3)) C G cl5 (C5 ho) (j := 2) (by decide) (F5_2 ho) k1_60 dX5_copy_36 ?_
  refine lv_iconst (v := 0) hx hb dX5_copy_39 (by decide) ?_
  refine lv_bipush (v := 8) hx hb dX5_copy_40 (by decide) ?_
  obtain ⟨hac, hf⟩ := gq_some hf
  refine g_copy C G (rest := []) hl.1 (A5_2 ha1) (A5_2 ho) kl_X5_37 ac_n ac_s ini_java_lang_System hac.1 hac.2.1 hac.2.2.1 hac.2.2.2.1 hac.2.2.2.2 (Nat.le_of_ble_eq_true rfl) (Nat.le_of_ble_eq_true rfl) dX5_copy_42 (fun st3 est3 H locs G => ?_)
  have hf := lt_some est3 hf
  refine lv_aload_n hx hb dX5_copy_45 rfl (lv_at hl 1 rfl) ?_
  refine g_getr (k := (a1 + 4)) C G cl5 (C5 ha1) (j := 3) (by decide) (F5_3 ha1) k1_63 dX5_copy_46 ?_
  refine lv_iconst (v := 0) hx hb dX5_copy_49 (by decide) ?_
  refine lv_aload_n hx hb dX5_copy_50 rfl (lv_at hl 0 rfl) ?_
  refine g_getr (k := (o + 4)) C G cl5 (C5 ho) (j := 3) (by decide) (F5_3 ho) k1_63 dX5_copy_51 ?_
  refine lv_iconst (v := 0) hx hb dX5_copy_54 (by decide) ?_
  refine lv_bipush (v := 8) hx hb dX5_copy_55 (by decide) ?_
  obtain ⟨hac, hf⟩ := gq_some hf
  refine g_copy C G (rest := []) hl.1 (A5_3 ha1) (A5_3 ho) kl_X5_37 ac_n ac_s ini_java_lang_System hac.1 hac.2.1 hac.2.2.1 hac.2.2.2.1 hac.2.2.2.2 (Nat.le_of_ble_eq_true rfl) (Nat.le_of_ble_eq_true rfl) dX5_copy_57 (fun st4 est4 H locs G => ?_)
  have hf := lt_some est4 hf
  refine lv_aload_n hx hb dX5_copy_60 rfl (lv_at hl 1 rfl) ?_
  refine g_getr (k := (a1 + 5)) C G cl5 (C5 ha1) (j := 4) (by decide) (F5_4 ha1) k1_66 dX5_copy_61 ?_
  refine lv_iconst (v := 0) hx hb dX5_copy_64 (by decide) ?_
  refine lv_aload_n hx hb dX5_copy_65 rfl (lv_at hl 0 rfl) ?_
  refine g_getr (k := (o + 5)) C G cl5 (C5 ho) (j := 4) (by decide) (F5_4 ho) k1_66 dX5_copy_66 ?_
  refine lv_iconst (v := 0) hx hb dX5_copy_69 (by decide) ?_
  refine lv_bipush (v := 8) hx hb dX5_copy_70 (by decide) ?_
  obtain ⟨hac, hf⟩ := gq_some hf
  refine g_copy C G (rest := []) hl.1 (A5_4 ha1) (A5_4 ho) kl_X5_37 ac_n ac_s ini_java_lang_System hac.1 hac.2.1 hac.2.2.1 hac.2.2.2.1 hac.2.2.2.2 (Nat.le_of_ble_eq_true rfl) (Nat.le_of_ble_eq_true rfl) dX5_copy_72 (fun st5 est5 H locs G => ?_)
  have hf := lt_some est5 hf
  refine lv_aload_n hx hb dX5_copy_75 rfl (lv_at hl 1 rfl) ?_
  refine g_getr (k := (a1 + 6)) C G cl5 (C5 ha1) (j := 6) (by decide) (F5_6 ha1) k1_72 dX5_copy_76 ?_
  refine lv_iconst (v := 0) hx hb dX5_copy_79 (by decide) ?_
  refine lv_aload_n hx hb dX5_copy_80 rfl (lv_at hl 0 rfl) ?_
  refine g_getr (k := (o + 6)) C G cl5 (C5 ho) (j := 6) (by decide) (F5_6 ho) k1_72 dX5_copy_81 ?_
  refine lv_iconst (v := 0) hx hb dX5_copy_84 (by decide) ?_
  refine lv_iconst (v := 4) hx hb dX5_copy_85 (by decide) ?_
  obtain ⟨hac, hf⟩ := gq_some hf
  refine g_copy C G (rest := []) hl.1 (A5_6 ha1) (A5_6 ho) kl_X5_37 ac_n ac_s ini_java_lang_System hac.1 hac.2.1 hac.2.2.1 hac.2.2.2.1 hac.2.2.2.2 (Nat.le_of_ble_eq_true rfl) (Nat.le_of_ble_eq_true rfl) dX5_copy_86 (fun st6 est6 H locs G => ?_)
  have hf := lt_some est6 hf
  refine lv_aload_n hx hb dX5_copy_89 rfl (lv_at hl 0 rfl) ?_
  refine lv_aload_n hx hb dX5_copy_90 rfl (lv_at hl 1 rfl) ?_
  refine g_geti C G cl5 (C5 ha1) (j := 5) (by decide) (F5_5 ha1) k1_69 dX5_copy_91 ?_
  refine g_puti C G cl5 (C5 ho) (j := 5) (by decide) (F5_5 ho) k1_69 rfl rfl rfl dX5_copy_94 (fun st7 est7 H locs G => ?_)
  have hf := lt_some est7 hf
  refine lv_aload_n hx hb dX5_copy_97 rfl (lv_at hl 0 rfl) ?_
  refine lv_aload_n hx hb dX5_copy_98 rfl (lv_at hl 1 rfl) ?_
  refine g_geti C G cl5 (C5 ha1) (j := 7) (by decide) (F5_7 ha1) k1_74 dX5_copy_99 ?_
  refine g_puti C G cl5 (C5 ho) (j := 7) (by decide) (F5_7 ho) k1_74 rfl rfl rfl dX5_copy_102 (fun st8 est8 H locs G => ?_)
  have hf := lt_some est8 hf
  cases hf
  exact g_vret C G hr hlocks dX5_copy_105

noncomputable def f_X5_remove_L11 (o : Nat) (x3 : Int32) (st4 : GS) : Option ((Int32 × GS) ⊕ (GS)) := 
(if (gt st4 o 5) ≤ (x3 + 1) then some (.inr (st4)) else 
gd (x3 + 1) 8 (gd x3 8 (lt_ (sv st4 (o + 1) (x3.toNatClampNeg) (gt st4 (o + 1) ((x3 + 1).toNatClampNeg))) (fun st8 => 
gd (x3 + 1) 8 (gd x3 8 (lt_ (sv st8 (o + 2) (x3.toNatClampNeg) (gt st8 (o + 2) ((x3 + 1).toNatClampNeg))) (fun st11 => 
gd (x3 + 1) 8 (gd x3 8 (lt_ (sv st11 (o + 3) (x3.toNatClampNeg) (gt st11 (o + 3) ((x3 + 1).toNatClampNeg))) (fun st14 => 
gd (x3 + 1) 8 (gd x3 8 (lt_ (sv st14 (o + 4) (x3.toNatClampNeg) (gt st14 (o + 4) ((x3 + 1).toNatClampNeg))) (fun st17 => 
gd (x3 + 1) 8 (gd x3 8 (lt_ (sv st17 (o + 5) (x3.toNatClampNeg) (gt st17 (o + 5) ((x3 + 1).toNatClampNeg))) (fun st20 => 
lt_ (x3 + 1) (fun x21 => 
some (.inl (x21, st20)))))))))))))))))))
noncomputable def f_X5_remove (o : Nat) (a1 : Int32) (st : GS) : Option (GS) := 
bI1 (f_X5_has o a1 st) (fun r1 => 
(if r1 = 0 then some (st) else 
bI1 (lpx (uc2 (f_X5_remove_L11 o)) (a1, st)) (fun st22 => 
lt_ (sv st22 o 5 ((gt st22 o 5) - 1)) (fun st23 => 
some (st23)))))
set_option maxRecDepth 100000 in
set_option maxHeartbeats 4000000 in
theorem c_X5_remove (l : Launch) (D : va_G) (cy : ClassId) (h : Nat → Nat) (o : Nat) (ho : ok5 o) (a1 : Int32) (st : GS) (stF : GS) (hf : f_X5_remove o a1 st = some stF) : gMv l XSh D cy h yX5_remove cX5_remove 3 none 2 st [.ref (h o), .int a1] stF := by
  unfold f_X5_remove at hf
  refine gMv_of (by decide) (Nat.le_of_ble_eq_true rfl) ?_
  intro p e s m args below meth c A ls C hr hlocks G hl
  have C : gC p s m args c cX5_remove 3 "LaneOrder$Sheet" XSh D cy h A := C
  have hl : lv_has ls 3 [(0, .ref (h o)), (1, .int a1)] := hl
  have hx := C.1
  have hb := C.2.1
  have hown := C.2.2.2.1
  have htb := C.2.2.2.2.1
  refine lv_aload_n hx hb dX5_remove_0 rfl (lv_at hl 0 rfl) ?_
  refine lv_iload_n hx hb dX5_remove_1 rfl (lv_at hl 1 rfl) ?_
  obtain ⟨r1, hc2_1, hf⟩ := bI1_some hf
  refine g_callVi C G (As := [.int a1]) (rest := []) (c_X5_has l D cy h o ho a1 st r1 hc2_1) cl5 rfl (C5 ho) v_X5_51 (Nat.le_of_ble_eq_true rfl) (Nat.le_of_ble_eq_true rfl) rfl hl.1 rfl (Nat.le_of_ble_eq_true rfl) dX5_remove_2 ⟨Nat.zero_le _, Nat.zero_le _⟩ (fun H locs G => ?_)
  refine lv_if_ne (tgt := 9) hx hb dX5_remove_5 (by decide) (fun c2 => ?_) (fun c2 => ?_)
  · have hf := ifN c2 hf
    refine lv_iload_n hx hb dX5_remove_9 rfl (lv_at hl 1 rfl) ?_
    refine lv_istore_n (lv' := [(2, .int a1), (0, .ref (h o)), (1, .int a1)]) hx hb dX5_remove_10 rfl hl (by decide) rfl (fun ls hl => ?_)
    obtain ⟨st22, hn, hf⟩ := bI1_some hf
    obtain ⟨n, hn⟩ := lpx_some hn
    have K97 : ∀ (H : Heap) (locs : List Loc) (ls : Array Slot), gG XSh D cy h A s st22 H locs → lv_has ls 3 [(0, .ref (h o))] → W p l e (gR 2) s m args below meth c H locs 0 0 (MQ below (gQv XSh D cy h A stF) args s 0 0 A) (F0 m 97 ls []) := by
      intro H locs ls G hl
      refine lv_aload_n hx hb dX5_remove_97 rfl (lv_at hl 0 rfl) ?_
      refine lv_dup hx hb dX5_remove_98 rfl ?_
      refine g_geti C G cl5 (C5 ho) (j := 5) (by decide) (F5_5 ho) k1_69 dX5_remove_99 ?_
      refine lv_iconst (v := 1) hx hb dX5_remove_102 (by decide) ?_
      refine lv_isub hx hb dX5_remove_103 ?_
      refine g_puti C G cl5 (C5 ho) (j := 5) (by decide) (F5_5 ho) k1_69 rfl rfl rfl dX5_remove_104 (fun st23 est23 H locs G => ?_)
      have hf := lt_some est23 hf
      cases hf
      exact g_vret C G hr hlocks dX5_remove_107
    have L11 : ∀ (n : Nat) (x3 : Int32) (st4 : GS) (H : Heap) (locs : List Loc) (ls : Array Slot), gG XSh D cy h A s st4 H locs → lv_has ls 3 [(0, .ref (h o)), (2, .int x3)] → lp (uc2 (f_X5_remove_L11 o)) n (x3, st4) = some (st22) → W p l e (gR 2) s m args below meth c H locs 0 0 (MQ below (gQv XSh D cy h A stF) args s 0 0 A) (F0 m 11 ls []) := by
      intro n
      induction n with
      | zero =>
        intro x3 st4 H locs ls G hl hn
        cases hn
      | succ n ih =>
        intro x3 st4 H locs ls G hl hn
        obtain ⟨q, hf, hq1, hq2⟩ := lp_q hn
        have hf : f_X5_remove_L11 o x3 st4 = some q := hf
        unfold f_X5_remove_L11 at hf
        refine lv_iload_n hx hb dX5_remove_11 rfl (lv_at hl 1 rfl) ?_
        refine lv_iconst (v := 1) hx hb dX5_remove_12 (by decide) ?_
        refine lv_iadd hx hb dX5_remove_13 ?_
        refine lv_aload_n hx hb dX5_remove_14 rfl (lv_at hl 0 rfl) ?_
        refine g_geti C G cl5 (C5 ho) (j := 5) (by decide) (F5_5 ho) k1_69 dX5_remove_15 ?_
        refine lv_icmp_ge (tgt := 97) hx hb dX5_remove_18 (by decide) (fun c5 => ?_) (fun c5 => ?_)
        · have hf := ifP c5 hf
          cases hf
          have hz9 := hq2 _ rfl
          cases hz9
          exact K97 _ _ _ G (lv_sub hl [0] rfl)
        · have hf := ifN c5 hf
          refine lv_aload_n hx hb dX5_remove_21 rfl (lv_at hl 0 rfl) ?_
          refine g_getr (k := (o + 1)) C G cl5 (C5 ho) (j := 0) (by decide) (F5_0 ho) k1_54 dX5_remove_22 ?_
          refine lv_iload_n hx hb dX5_remove_25 rfl (lv_at hl 1 rfl) ?_
          refine lv_aload_n hx hb dX5_remove_26 rfl (lv_at hl 0 rfl) ?_
          refine g_getr (k := (o + 1)) C G cl5 (C5 ho) (j := 0) (by decide) (F5_0 ho) k1_54 dX5_remove_27 ?_
          refine lv_iload_n hx hb dX5_remove_30 rfl (lv_at hl 1 rfl) ?_
          refine lv_iconst (v := 1) hx hb dX5_remove_31 (by decide) ?_
          refine lv_iadd hx hb dX5_remove_32 ?_
          obtain ⟨hi33_5, hf⟩ := gd_some hf
          refine g_iald C G (A5_0 ho) (j := (x3 + 1).toNatClampNeg) rfl hi33_5 dX5_remove_33 ?_
          obtain ⟨hi34_6, hf⟩ := gd_some hf
          refine g_iast C G (A5_0 ho) (j := x3.toNatClampNeg) rfl hi34_6 dX5_remove_34 (fun st8 est8 H locs G => ?_)
          have hf := lt_some est8 hf
          refine lv_aload_n hx hb dX5_remove_35 rfl (lv_at hl 0 rfl) ?_
          refine g_getr (k := (o + 2)) C G cl5 (C5 ho) (j := 1) (by decide) (F5_1 ho) k1_57 dX5_remove_36 ?_
          refine lv_iload_n hx hb dX5_remove_39 rfl (lv_at hl 1 rfl) ?_
          refine lv_aload_n hx hb dX5_remove_40 rfl (lv_at hl 0 rfl) ?_
          refine g_getr (k := (o + 2)) C G cl5 (C5 ho) (j := 1) (by decide) (F5_1 ho) k1_57 dX5_remove_41 ?_
          refine lv_iload_n hx hb dX5_remove_44 rfl (lv_at hl 1 rfl) ?_
          refine lv_iconst (v := 1) hx hb dX5_remove_45 (by decide) ?_
          refine lv_iadd hx hb dX5_remove_46 ?_
          obtain ⟨hi47_8, hf⟩ := gd_some hf
          refine g_iald C G (A5_1 ho) (j := (x3 + 1).toNatClampNeg) rfl hi47_8 dX5_remove_47 ?_
          obtain ⟨hi48_9, hf⟩ := gd_some hf
          refine g_iast C G (A5_1 ho) (j := x3.toNatClampNeg) rfl hi48_9 dX5_remove_48 (fun st11 est11 H locs G => ?_)
          have hf := lt_some est11 hf
          refine lv_aload_n hx hb dX5_remove_49 rfl (lv_at hl 0 rfl) ?_
          refine g_getr (k := (o + 3)) C G cl5 (C5 ho) (j := 2) (by decide) (F5_2 ho) k1_60 dX5_remove_50 ?_
          refine lv_iload_n hx hb dX5_remove_53 rfl (lv_at hl 1 rfl) ?_
          refine lv_aload_n hx hb dX5_remove_54 rfl (lv_at hl 0 rfl) ?_
          refine g_getr (k := (o + 3)) C G cl5 (C5 ho) (j := 2) (by decide) (F5_2 ho) k1_60 dX5_remove_55 ?_
          refine lv_iload_n hx hb dX5_remove_58 rfl (lv_at hl 1 rfl) ?_
          refine lv_iconst (v := 1) hx hb dX5_remove_59 (by decide) ?_
          refine lv_iadd hx hb dX5_remove_60 ?_
          obtain ⟨hi61_11, hf⟩ := gd_some hf
          refine g_iald C G (A5_2 ho) (j := (x3 + 1).toNatClampNeg) rfl hi61_11 dX5_remove_61 ?_
          obtain ⟨hi62_12, hf⟩ := gd_some hf
          refine g_iast C G (A5_2 ho) (j := x3.toNatClampNeg) rfl hi62_12 dX5_remove_62 (fun st14 est14 H locs G => ?_)
          have hf := lt_some est14 hf
          refine lv_aload_n hx hb dX5_remove_63 rfl (lv_at hl 0 rfl) ?_
          refine g_getr (k := (o + 4)) C G cl5 (C5 ho) (j := 3) (by decide) (F5_3 ho) k1_63 dX5_remove_64 ?_
          refine lv_iload_n hx hb dX5_remove_67 rfl (lv_at hl 1 rfl) ?_
          refine lv_aload_n hx hb dX5_remove_68 rfl (lv_at hl 0 rfl) ?_
          refine g_getr (k := (o + 4)) C G cl5 (C5 ho) (j := 3) (by decide) (F5_3 ho) k1_63 dX5_remove_69 ?_
          refine lv_iload_n hx hb dX5_remove_72 rfl (lv_at hl 1 rfl) ?_
          refine lv_iconst (v := 1) hx hb dX5_remove_73 (by decide) ?_
          refine lv_iadd hx hb dX5_remove_74 ?_
          obtain ⟨hi75_14, hf⟩ := gd_some hf
          refine g_iald C G (A5_3 ho) (j := (x3 + 1).toNatClampNeg) rfl hi75_14 dX5_remove_75 ?_
          obtain ⟨hi76_15, hf⟩ := gd_some hf
          refine g_iast C G (A5_3 ho) (j := x3.toNatClampNeg) rfl hi76_15 dX5_remove_76 (fun st17 est17 H locs G => ?_)
          have hf := lt_some est17 hf
          refine lv_aload_n hx hb dX5_remove_77 rfl (lv_at hl 0 rfl) ?_
          refine g_getr (k := (o + 5)) C G cl5 (C5 ho) (j := 4) (by decide) (F5_4 ho) k1_66 dX5_remove_78 ?_
          refine lv_iload_n hx hb dX5_remove_81 rfl (lv_at hl 1 rfl) ?_
          refine lv_aload_n hx hb dX5_remove_82 rfl (lv_at hl 0 rfl) ?_
          refine g_getr (k := (o + 5)) C G cl5 (C5 ho) (j := 4) (by decide) (F5_4 ho) k1_66 dX5_remove_83 ?_
          refine lv_iload_n hx hb dX5_remove_86 rfl (lv_at hl 1 rfl) ?_
          refine lv_iconst (v := 1) hx hb dX5_remove_87 (by decide) ?_
          refine lv_iadd hx hb dX5_remove_88 ?_
          obtain ⟨hi89_17, hf⟩ := gd_some hf
          refine g_iald C G (A5_4 ho) (j := (x3 + 1).toNatClampNeg) rfl hi89_17 dX5_remove_89 ?_
          obtain ⟨hi90_18, hf⟩ := gd_some hf
          refine g_iast C G (A5_4 ho) (j := x3.toNatClampNeg) rfl hi90_18 dX5_remove_90 (fun st20 est20 H locs G => ?_)
          have hf := lt_some est20 hf
          obtain ⟨x21, ex21⟩ : ∃ z : Int32, z = (x3 + 1) := ⟨_, rfl⟩
          have hf := lt_some ex21 hf
          refine lv_iinc (v := x21) (lv' := [(2, .int x21), (0, .ref (h o))]) hx hb dX5_remove_91 hl (k := 1) rfl (by rw [ex21]; rfl) (by decide) rfl (fun ls hl => ?_)
          refine lv_goto (tgt := 11) hx hb dX5_remove_94 (by decide) ?_
          cases hf
          exact ih _ _ _ _ _ G (lv_sub hl [1, 0] rfl) (hq1 _ rfl)
    exact L11 n _ _ _ _ _ G (lv_sub hl [1, 0] rfl) hn
  · have hf := ifP c2 hf
    cases hf
    exact g_vret C G hr hlocks dX5_remove_8

noncomputable def f_X5_copyWithout (o : Nat) (a1 : Nat) (a2 : Int32) (st : GS) : Option (GS) := 
bI1 (f_X5_copy o a1 st) (fun st1 => 
bI1 (f_X5_remove o a2 st1) (fun st2 => 
some (st2)))
set_option maxRecDepth 100000 in
set_option maxHeartbeats 4000000 in
theorem c_X5_copyWithout (l : Launch) (D : va_G) (cy : ClassId) (h : Nat → Nat) (o : Nat) (ho : ok5 o) (a1 : Nat) (ha1 : ok5 a1) (a2 : Int32) (st : GS) (stF : GS) (hf : f_X5_copyWithout o a1 a2 st = some stF) : gMv l XSh D cy h yX5_copyWithout cX5_copyWithout 3 none 3 st [.ref (h o), .ref (h a1), .int a2] stF := by
  unfold f_X5_copyWithout at hf
  refine gMv_of (by decide) (Nat.le_of_ble_eq_true rfl) ?_
  intro p e s m args below meth c A ls C hr hlocks G hl
  have C : gC p s m args c cX5_copyWithout 3 "LaneOrder$Sheet" XSh D cy h A := C
  have hl : lv_has ls 3 [(0, .ref (h o)), (1, .ref (h a1)), (2, .int a2)] := hl
  have hx := C.1
  have hb := C.2.1
  have hown := C.2.2.2.1
  have htb := C.2.2.2.2.1
  refine lv_aload_n hx hb dX5_copyWithout_0 rfl (lv_at hl 0 rfl) ?_
  refine lv_aload_n hx hb dX5_copyWithout_1 rfl (lv_at hl 1 rfl) ?_
  obtain ⟨st1, hc2_1, hf⟩ := bI1_some hf
  refine g_callVv C G (As := [.ref (h a1)]) (rest := []) (c_X5_copy l D cy h o ho a1 ha1 st st1 hc2_1) cl5 rfl (C5 ho) v_X5_43 (Nat.le_of_ble_eq_true rfl) (Nat.le_of_ble_eq_true rfl) rfl hl.1 rfl (Nat.le_of_ble_eq_true rfl) dX5_copyWithout_2 ⟨Nat.zero_le _, Nat.zero_le _⟩ (fun H locs G => ?_)
  refine lv_aload_n hx hb dX5_copyWithout_5 rfl (lv_at hl 0 rfl) ?_
  refine lv_iload_n hx hb dX5_copyWithout_6 rfl (lv_at hl 2 rfl) ?_
  obtain ⟨st2, hc7_2, hf⟩ := bI1_some hf
  refine g_callVv C G (As := [.int a2]) (rest := []) (c_X5_remove l D cy h o ho a2 st1 st2 hc7_2) cl5 rfl (C5 ho) v_X5_47 (Nat.le_of_ble_eq_true rfl) (Nat.le_of_ble_eq_true rfl) rfl hl.1 rfl (Nat.le_of_ble_eq_true rfl) dX5_copyWithout_7 ⟨Nat.zero_le _, Nat.zero_le _⟩ (fun H locs G => ?_)
  cases hf
  exact g_vret C G hr hlocks dX5_copyWithout_10

noncomputable def f_X5_shift (o : Nat) (a1 : Int32) (a2 : Int32) (a3 : Int32) (st : GS) : Option (GS) := 
bI1 (f_X5_has o a1 st) (fun r1 => 
(if r1 = 0 then some (st) else 
gd a1 8 (gd a1 8 (lt_ (sv st (o + 2) (a1.toNatClampNeg) ((gt st (o + 2) (a1.toNatClampNeg)) + a2)) (fun st5 => 
gd a1 8 (gd a1 8 (lt_ (sv st5 (o + 4) (a1.toNatClampNeg) ((gt st5 (o + 4) (a1.toNatClampNeg)) + a2)) (fun st8 => 
gd a1 8 (gd a1 8 (lt_ (sv st8 (o + 3) (a1.toNatClampNeg) ((gt st8 (o + 3) (a1.toNatClampNeg)) + a3)) (fun st11 => 
gd a1 8 (gd a1 8 (lt_ (sv st11 (o + 5) (a1.toNatClampNeg) ((gt st11 (o + 5) (a1.toNatClampNeg)) + a3)) (fun st14 => 
some (st14)))))))))))))))
set_option maxRecDepth 100000 in
set_option maxHeartbeats 4000000 in
theorem c_X5_shift (l : Launch) (D : va_G) (cy : ClassId) (h : Nat → Nat) (o : Nat) (ho : ok5 o) (a1 : Int32) (a2 : Int32) (a3 : Int32) (st : GS) (stF : GS) (hf : f_X5_shift o a1 a2 a3 st = some stF) : gMv l XSh D cy h yX5_shift cX5_shift 4 none 2 st [.ref (h o), .int a1, .int a2, .int a3] stF := by
  unfold f_X5_shift at hf
  refine gMv_of (by decide) (Nat.le_of_ble_eq_true rfl) ?_
  intro p e s m args below meth c A ls C hr hlocks G hl
  have C : gC p s m args c cX5_shift 4 "LaneOrder$Sheet" XSh D cy h A := C
  have hl : lv_has ls 4 [(0, .ref (h o)), (1, .int a1), (2, .int a2), (3, .int a3)] := hl
  have hx := C.1
  have hb := C.2.1
  have hown := C.2.2.2.1
  have htb := C.2.2.2.2.1
  refine lv_aload_n hx hb dX5_shift_0 rfl (lv_at hl 0 rfl) ?_
  refine lv_iload_n hx hb dX5_shift_1 rfl (lv_at hl 1 rfl) ?_
  obtain ⟨r1, hc2_1, hf⟩ := bI1_some hf
  refine g_callVi C G (As := [.int a1]) (rest := []) (c_X5_has l D cy h o ho a1 st r1 hc2_1) cl5 rfl (C5 ho) v_X5_51 (Nat.le_of_ble_eq_true rfl) (Nat.le_of_ble_eq_true rfl) rfl hl.1 rfl (Nat.le_of_ble_eq_true rfl) dX5_shift_2 ⟨Nat.zero_le _, Nat.zero_le _⟩ (fun H locs G => ?_)
  refine lv_if_ne (tgt := 9) hx hb dX5_shift_5 (by decide) (fun c2 => ?_) (fun c2 => ?_)
  · have hf := ifN c2 hf
    refine lv_aload_n hx hb dX5_shift_9 rfl (lv_at hl 0 rfl) ?_
    refine g_getr (k := (o + 2)) C G cl5 (C5 ho) (j := 1) (by decide) (F5_1 ho) k1_57 dX5_shift_10 ?_
    refine lv_iload_n hx hb dX5_shift_13 rfl (lv_at hl 1 rfl) ?_
    refine lv_dup2_11 hx hb dX5_shift_14 rfl rfl ?_
    obtain ⟨hi15_2, hf⟩ := gd_some hf
    refine g_iald C G (A5_1 ho) (j := a1.toNatClampNeg) rfl hi15_2 dX5_shift_15 ?_
    refine lv_iload_n hx hb dX5_shift_16 rfl (lv_at hl 2 rfl) ?_
    refine lv_iadd hx hb dX5_shift_17 ?_
    obtain ⟨hi18_3, hf⟩ := gd_some hf
    refine g_iast C G (A5_1 ho) (j := a1.toNatClampNeg) rfl hi18_3 dX5_shift_18 (fun st5 est5 H locs G => ?_)
    have hf := lt_some est5 hf
    refine lv_aload_n hx hb dX5_shift_19 rfl (lv_at hl 0 rfl) ?_
    refine g_getr (k := (o + 4)) C G cl5 (C5 ho) (j := 3) (by decide) (F5_3 ho) k1_63 dX5_shift_20 ?_
    refine lv_iload_n hx hb dX5_shift_23 rfl (lv_at hl 1 rfl) ?_
    refine lv_dup2_11 hx hb dX5_shift_24 rfl rfl ?_
    obtain ⟨hi25_5, hf⟩ := gd_some hf
    refine g_iald C G (A5_3 ho) (j := a1.toNatClampNeg) rfl hi25_5 dX5_shift_25 ?_
    refine lv_iload_n hx hb dX5_shift_26 rfl (lv_at hl 2 rfl) ?_
    refine lv_iadd hx hb dX5_shift_27 ?_
    obtain ⟨hi28_6, hf⟩ := gd_some hf
    refine g_iast C G (A5_3 ho) (j := a1.toNatClampNeg) rfl hi28_6 dX5_shift_28 (fun st8 est8 H locs G => ?_)
    have hf := lt_some est8 hf
    refine lv_aload_n hx hb dX5_shift_29 rfl (lv_at hl 0 rfl) ?_
    refine g_getr (k := (o + 3)) C G cl5 (C5 ho) (j := 2) (by decide) (F5_2 ho) k1_60 dX5_shift_30 ?_
    refine lv_iload_n hx hb dX5_shift_33 rfl (lv_at hl 1 rfl) ?_
    refine lv_dup2_11 hx hb dX5_shift_34 rfl rfl ?_
    obtain ⟨hi35_8, hf⟩ := gd_some hf
    refine g_iald C G (A5_2 ho) (j := a1.toNatClampNeg) rfl hi35_8 dX5_shift_35 ?_
    refine lv_iload_n hx hb dX5_shift_36 rfl (lv_at hl 3 rfl) ?_
    refine lv_iadd hx hb dX5_shift_37 ?_
    obtain ⟨hi38_9, hf⟩ := gd_some hf
    refine g_iast C G (A5_2 ho) (j := a1.toNatClampNeg) rfl hi38_9 dX5_shift_38 (fun st11 est11 H locs G => ?_)
    have hf := lt_some est11 hf
    refine lv_aload_n hx hb dX5_shift_39 rfl (lv_at hl 0 rfl) ?_
    refine g_getr (k := (o + 5)) C G cl5 (C5 ho) (j := 4) (by decide) (F5_4 ho) k1_66 dX5_shift_40 ?_
    refine lv_iload_n hx hb dX5_shift_43 rfl (lv_at hl 1 rfl) ?_
    refine lv_dup2_11 hx hb dX5_shift_44 rfl rfl ?_
    obtain ⟨hi45_11, hf⟩ := gd_some hf
    refine g_iald C G (A5_4 ho) (j := a1.toNatClampNeg) rfl hi45_11 dX5_shift_45 ?_
    refine lv_iload_n hx hb dX5_shift_46 rfl (lv_at hl 3 rfl) ?_
    refine lv_iadd hx hb dX5_shift_47 ?_
    obtain ⟨hi48_12, hf⟩ := gd_some hf
    refine g_iast C G (A5_4 ho) (j := a1.toNatClampNeg) rfl hi48_12 dX5_shift_48 (fun st14 est14 H locs G => ?_)
    have hf := lt_some est14 hf
    cases hf
    exact g_vret C G hr hlocks dX5_shift_49
  · have hf := ifP c2 hf
    cases hf
    exact g_vret C G hr hlocks dX5_shift_8

noncomputable def f_X5_staysInside (o : Nat) (a1 : Int32) (a2 : Int32) (a3 : Int32) (st : GS) : Option (Int32) := 
gd a1 8 ((if ((gt st (o + 2) (a1.toNatClampNeg)) + a2) < 0 then some (0) else 
gd a1 8 ((if 999 < ((gt st (o + 4) (a1.toNatClampNeg)) + a2) then some (0) else 
gd a1 8 ((if ((gt st (o + 3) (a1.toNatClampNeg)) + a3) < 0 then some (0) else 
gd a1 8 ((if 999 < ((gt st (o + 5) (a1.toNatClampNeg)) + a3) then some (0) else 
some (1)))))))))
set_option maxRecDepth 100000 in
set_option maxHeartbeats 4000000 in
theorem c_X5_staysInside (l : Launch) (D : va_G) (cy : ClassId) (h : Nat → Nat) (o : Nat) (ho : ok5 o) (a1 : Int32) (a2 : Int32) (a3 : Int32) (st : GS) (r : Int32) (hf : f_X5_staysInside o a1 a2 a3 st = some r) : gMi l XSh D cy h yX5_staysInside cX5_staysInside 4 (some .boolean) 1 st [.ref (h o), .int a1, .int a2, .int a3] r st := by
  unfold f_X5_staysInside at hf
  refine gMi_of (by decide) (Nat.le_of_ble_eq_true rfl) ?_
  intro p e s m args below meth c A ls C hr hlocks G hl
  have C : gC p s m args c cX5_staysInside 4 "LaneOrder$Sheet" XSh D cy h A := C
  have hl : lv_has ls 4 [(0, .ref (h o)), (1, .int a1), (2, .int a2), (3, .int a3)] := hl
  have hx := C.1
  have hb := C.2.1
  have hown := C.2.2.2.1
  have htb := C.2.2.2.2.1
  refine lv_aload_n hx hb dX5_staysInside_0 rfl (lv_at hl 0 rfl) ?_
  refine g_getr (k := (o + 2)) C G cl5 (C5 ho) (j := 1) (by decide) (F5_1 ho) k1_57 dX5_staysInside_1 ?_
  refine lv_iload_n hx hb dX5_staysInside_4 rfl (lv_at hl 1 rfl) ?_
  obtain ⟨hi5_0, hf⟩ := gd_some hf
  refine g_iald C G (A5_1 ho) (j := a1.toNatClampNeg) rfl hi5_0 dX5_staysInside_5 ?_
  refine lv_iload_n hx hb dX5_staysInside_6 rfl (lv_at hl 2 rfl) ?_
  refine lv_iadd hx hb dX5_staysInside_7 ?_
  refine lv_if_lt (tgt := 54) hx hb dX5_staysInside_8 (by decide) (fun c2 => ?_) (fun c2 => ?_)
  · have hf := ifP c2 hf
    refine lv_iconst (v := 0) hx hb dX5_staysInside_54 (by decide) ?_
    cases hf
    exact g_zret C G (Or.inl rfl) hr hlocks dX5_staysInside_55
  · have hf := ifN c2 hf
    refine lv_aload_n hx hb dX5_staysInside_11 rfl (lv_at hl 0 rfl) ?_
    refine g_getr (k := (o + 4)) C G cl5 (C5 ho) (j := 3) (by decide) (F5_3 ho) k1_63 dX5_staysInside_12 ?_
    refine lv_iload_n hx hb dX5_staysInside_15 rfl (lv_at hl 1 rfl) ?_
    obtain ⟨hi16_2, hf⟩ := gd_some hf
    refine g_iald C G (A5_3 ho) (j := a1.toNatClampNeg) rfl hi16_2 dX5_staysInside_16 ?_
    refine lv_iload_n hx hb dX5_staysInside_17 rfl (lv_at hl 2 rfl) ?_
    refine lv_iadd hx hb dX5_staysInside_18 ?_
    refine lv_sipush (v := 999) hx hb dX5_staysInside_19 (by decide) ?_
    refine lv_icmp_gt (tgt := 54) hx hb dX5_staysInside_22 (by decide) (fun c4 => ?_) (fun c4 => ?_)
    · have hf := ifP c4 hf
      refine lv_iconst (v := 0) hx hb dX5_staysInside_54 (by decide) ?_
      cases hf
      exact g_zret C G (Or.inl rfl) hr hlocks dX5_staysInside_55
    · have hf := ifN c4 hf
      refine lv_aload_n hx hb dX5_staysInside_25 rfl (lv_at hl 0 rfl) ?_
      refine g_getr (k := (o + 3)) C G cl5 (C5 ho) (j := 2) (by decide) (F5_2 ho) k1_60 dX5_staysInside_26 ?_
      refine lv_iload_n hx hb dX5_staysInside_29 rfl (lv_at hl 1 rfl) ?_
      obtain ⟨hi30_4, hf⟩ := gd_some hf
      refine g_iald C G (A5_2 ho) (j := a1.toNatClampNeg) rfl hi30_4 dX5_staysInside_30 ?_
      refine lv_iload_n hx hb dX5_staysInside_31 rfl (lv_at hl 3 rfl) ?_
      refine lv_iadd hx hb dX5_staysInside_32 ?_
      refine lv_if_lt (tgt := 54) hx hb dX5_staysInside_33 (by decide) (fun c6 => ?_) (fun c6 => ?_)
      · have hf := ifP c6 hf
        refine lv_iconst (v := 0) hx hb dX5_staysInside_54 (by decide) ?_
        cases hf
        exact g_zret C G (Or.inl rfl) hr hlocks dX5_staysInside_55
      · have hf := ifN c6 hf
        refine lv_aload_n hx hb dX5_staysInside_36 rfl (lv_at hl 0 rfl) ?_
        refine g_getr (k := (o + 5)) C G cl5 (C5 ho) (j := 4) (by decide) (F5_4 ho) k1_66 dX5_staysInside_37 ?_
        refine lv_iload_n hx hb dX5_staysInside_40 rfl (lv_at hl 1 rfl) ?_
        obtain ⟨hi41_6, hf⟩ := gd_some hf
        refine g_iald C G (A5_4 ho) (j := a1.toNatClampNeg) rfl hi41_6 dX5_staysInside_41 ?_
        refine lv_iload_n hx hb dX5_staysInside_42 rfl (lv_at hl 3 rfl) ?_
        refine lv_iadd hx hb dX5_staysInside_43 ?_
        refine lv_sipush (v := 999) hx hb dX5_staysInside_44 (by decide) ?_
        refine lv_icmp_gt (tgt := 54) hx hb dX5_staysInside_47 (by decide) (fun c8 => ?_) (fun c8 => ?_)
        · have hf := ifP c8 hf
          refine lv_iconst (v := 0) hx hb dX5_staysInside_54 (by decide) ?_
          cases hf
          exact g_zret C G (Or.inl rfl) hr hlocks dX5_staysInside_55
        · have hf := ifN c8 hf
          refine lv_iconst (v := 1) hx hb dX5_staysInside_50 (by decide) ?_
          refine lv_goto (tgt := 55) hx hb dX5_staysInside_51 (by decide) ?_
          cases hf
          exact g_zret C G (Or.inr rfl) hr hlocks dX5_staysInside_55

noncomputable def f_X5_greatestNumber_L4 (o : Nat) (st : GS) (x1 : Int32) (x2 : Int32) : Option ((Int32 × Int32) ⊕ (Int32)) := 
(if (gt st o 5) ≤ x2 then some (.inr (x1)) else 
gd x2 8 (gd x2 8 (lt_ (imax x1 (imax (gt st (o + 4) (x2.toNatClampNeg)) (gt st (o + 5) (x2.toNatClampNeg)))) (fun x6 => 
lt_ (x2 + 1) (fun x7 => 
some (.inl (x6, x7)))))))
noncomputable def f_X5_greatestNumber (o : Nat) (st : GS) : Option (Int32) := 
bI1 (lpx (uc2 (f_X5_greatestNumber_L4 o st)) (0, 0)) (fun x8 => 
some (x8))
set_option maxRecDepth 100000 in
set_option maxHeartbeats 4000000 in
theorem c_X5_greatestNumber (l : Launch) (D : va_G) (cy : ClassId) (h : Nat → Nat) (o : Nat) (ho : ok5 o) (st : GS) (r : Int32) (hf : f_X5_greatestNumber o st = some r) : gMi l XSh D cy h yX5_greatestNumber cX5_greatestNumber 3 (some .int) 1 st [.ref (h o)] r st := by
  unfold f_X5_greatestNumber at hf
  refine gMi_of (by decide) (Nat.le_of_ble_eq_true rfl) ?_
  intro p e s m args below meth c A ls C hr hlocks G hl
  have C : gC p s m args c cX5_greatestNumber 3 "LaneOrder$Sheet" XSh D cy h A := C
  have hl : lv_has ls 3 [(0, .ref (h o))] := hl
  have hx := C.1
  have hb := C.2.1
  have hown := C.2.2.2.1
  have htb := C.2.2.2.2.1
  refine lv_iconst (v := 0) hx hb dX5_greatestNumber_0 (by decide) ?_
  refine lv_istore_n (lv' := [(1, .int 0), (0, .ref (h o))]) hx hb dX5_greatestNumber_1 rfl hl (by decide) rfl (fun ls hl => ?_)
  refine lv_iconst (v := 0) hx hb dX5_greatestNumber_2 (by decide) ?_
  refine lv_istore_n (lv' := [(2, .int 0), (1, .int 0), (0, .ref (h o))]) hx hb dX5_greatestNumber_3 rfl hl (by decide) rfl (fun ls hl => ?_)
  obtain ⟨x8, hn, hf⟩ := bI1_some hf
  obtain ⟨n, hn⟩ := lpx_some hn
  have K38 : ∀ (H : Heap) (locs : List Loc) (ls : Array Slot), gG XSh D cy h A s st H locs → lv_has ls 3 [(1, .int x8)] → W p l e (gR 1) s m args below meth c H locs 0 0 (MQ below (gQi XSh D cy h A r st) args s 0 0 A) (F0 m 38 ls []) := by
    intro H locs ls G hl
    refine lv_iload_n hx hb dX5_greatestNumber_38 rfl (lv_at hl 0 rfl) ?_
    cases hf
    exact g_iret C G hr hlocks dX5_greatestNumber_39
  have L4 : ∀ (n : Nat) (x1 : Int32) (x2 : Int32) (H : Heap) (locs : List Loc) (ls : Array Slot), gG XSh D cy h A s st H locs → lv_has ls 3 [(0, .ref (h o)), (1, .int x1), (2, .int x2)] → lp (uc2 (f_X5_greatestNumber_L4 o st)) n (x1, x2) = some (x8) → W p l e (gR 1) s m args below meth c H locs 0 0 (MQ below (gQi XSh D cy h A r st) args s 0 0 A) (F0 m 4 ls []) := by
    intro n
    induction n with
    | zero =>
      intro x1 x2 H locs ls G hl hn
      cases hn
    | succ n ih =>
      intro x1 x2 H locs ls G hl hn
      obtain ⟨q, hf, hq1, hq2⟩ := lp_q hn
      have hf : f_X5_greatestNumber_L4 o st x1 x2 = some q := hf
      unfold f_X5_greatestNumber_L4 at hf
      refine lv_iload_n hx hb dX5_greatestNumber_4 rfl (lv_at hl 2 rfl) ?_
      refine lv_aload_n hx hb dX5_greatestNumber_5 rfl (lv_at hl 0 rfl) ?_
      refine g_geti C G cl5 (C5 ho) (j := 5) (by decide) (F5_5 ho) k1_69 dX5_greatestNumber_6 ?_
      refine lv_icmp_ge (tgt := 38) hx hb dX5_greatestNumber_9 (by decide) (fun c3 => ?_) (fun c3 => ?_)
      · have hf := ifP c3 hf
        cases hf
        have hz9 := hq2 _ rfl
        cases hz9
        exact K38 _ _ _ G (lv_sub hl [1] rfl)
      · have hf := ifN c3 hf
        refine lv_iload_n hx hb dX5_greatestNumber_12 rfl (lv_at hl 1 rfl) ?_
        refine lv_aload_n hx hb dX5_greatestNumber_13 rfl (lv_at hl 0 rfl) ?_
        refine g_getr (k := (o + 4)) C G cl5 (C5 ho) (j := 3) (by decide) (F5_3 ho) k1_63 dX5_greatestNumber_14 ?_
        refine lv_iload_n hx hb dX5_greatestNumber_17 rfl (lv_at hl 2 rfl) ?_
        obtain ⟨hi18_3, hf⟩ := gd_some hf
        refine g_iald C G (A5_3 ho) (j := x2.toNatClampNeg) rfl hi18_3 dX5_greatestNumber_18 ?_
        refine lv_aload_n hx hb dX5_greatestNumber_19 rfl (lv_at hl 0 rfl) ?_
        refine g_getr (k := (o + 5)) C G cl5 (C5 ho) (j := 4) (by decide) (F5_4 ho) k1_66 dX5_greatestNumber_20 ?_
        refine lv_iload_n hx hb dX5_greatestNumber_23 rfl (lv_at hl 2 rfl) ?_
        obtain ⟨hi24_4, hf⟩ := gd_some hf
        refine g_iald C G (A5_4 ho) (j := x2.toNatClampNeg) rfl hi24_4 dX5_greatestNumber_24 ?_
        refine g_max C hl.1 kl_X5_55 mmax_s ini_java_lang_Math mmax_c (Nat.le_of_ble_eq_true rfl) (Nat.le_of_ble_eq_true rfl) (Nat.zero_le _) (Nat.zero_le _) dX5_greatestNumber_25 ?_
        refine g_max C hl.1 kl_X5_55 mmax_s ini_java_lang_Math mmax_c (Nat.le_of_ble_eq_true rfl) (Nat.le_of_ble_eq_true rfl) (Nat.zero_le _) (Nat.zero_le _) dX5_greatestNumber_28 ?_
        refine lv_topi (fun x6 ex6 => ?_)
        have hf := lt_some ex6 hf
        refine lv_istore_n (lv' := [(1, .int x6), (0, .ref (h o)), (2, .int x2)]) hx hb dX5_greatestNumber_31 rfl hl (by decide) rfl (fun ls hl => ?_)
        obtain ⟨x7, ex7⟩ : ∃ z : Int32, z = (x2 + 1) := ⟨_, rfl⟩
        have hf := lt_some ex7 hf
        refine lv_iinc (v := x7) (lv' := [(2, .int x7), (1, .int x6), (0, .ref (h o))]) hx hb dX5_greatestNumber_32 hl (k := 2) rfl (by rw [ex7]; rfl) (by decide) rfl (fun ls hl => ?_)
        refine lv_goto (tgt := 4) hx hb dX5_greatestNumber_35 (by decide) ?_
        cases hf
        exact ih _ _ _ _ _ G (lv_sub hl [2, 1, 0] rfl) (hq1 _ rfl)
  exact L4 n _ _ _ _ _ G (lv_sub hl [2, 1, 0] rfl) hn

noncomputable def f_X5_stretch_L2 (o : Nat) (a1 : Int32) (x1 : Int32) (st2 : GS) : Option ((Int32 × GS) ⊕ (GS)) := 
(if (gt st2 o 5) ≤ x1 then some (.inr (st2)) else 
gd x1 8 (gd x1 8 (lt_ (sv st2 (o + 2) (x1.toNatClampNeg) ((gt st2 (o + 2) (x1.toNatClampNeg)) * a1)) (fun st6 => 
gd x1 8 (gd x1 8 (lt_ (sv st6 (o + 3) (x1.toNatClampNeg) ((gt st6 (o + 3) (x1.toNatClampNeg)) * a1)) (fun st9 => 
gd x1 8 (gd x1 8 (lt_ (sv st9 (o + 4) (x1.toNatClampNeg) ((gt st9 (o + 4) (x1.toNatClampNeg)) * a1)) (fun st12 => 
gd x1 8 (gd x1 8 (lt_ (sv st12 (o + 5) (x1.toNatClampNeg) ((gt st12 (o + 5) (x1.toNatClampNeg)) * a1)) (fun st15 => 
lt_ (x1 + 1) (fun x16 => 
some (.inl (x16, st15))))))))))))))))
noncomputable def f_X5_stretch (o : Nat) (a1 : Int32) (st : GS) : Option (GS) := 
bI1 (lpx (uc2 (f_X5_stretch_L2 o a1)) (0, st)) (fun st17 => 
some (st17))
set_option maxRecDepth 100000 in
set_option maxHeartbeats 4000000 in
theorem c_X5_stretch (l : Launch) (D : va_G) (cy : ClassId) (h : Nat → Nat) (o : Nat) (ho : ok5 o) (a1 : Int32) (st : GS) (stF : GS) (hf : f_X5_stretch o a1 st = some stF) : gMv l XSh D cy h yX5_stretch cX5_stretch 3 none 1 st [.ref (h o), .int a1] stF := by
  unfold f_X5_stretch at hf
  refine gMv_of (by decide) (Nat.le_of_ble_eq_true rfl) ?_
  intro p e s m args below meth c A ls C hr hlocks G hl
  have C : gC p s m args c cX5_stretch 3 "LaneOrder$Sheet" XSh D cy h A := C
  have hl : lv_has ls 3 [(0, .ref (h o)), (1, .int a1)] := hl
  have hx := C.1
  have hb := C.2.1
  have hown := C.2.2.2.1
  have htb := C.2.2.2.2.1
  refine lv_iconst (v := 0) hx hb dX5_stretch_0 (by decide) ?_
  refine lv_istore_n (lv' := [(2, .int 0), (0, .ref (h o)), (1, .int a1)]) hx hb dX5_stretch_1 rfl hl (by decide) rfl (fun ls hl => ?_)
  obtain ⟨st17, hn, hf⟩ := bI1_some hf
  obtain ⟨n, hn⟩ := lpx_some hn
  have K56 : ∀ (H : Heap) (locs : List Loc) (ls : Array Slot), gG XSh D cy h A s st17 H locs → lv_has ls 3 [] → W p l e (gR 1) s m args below meth c H locs 0 0 (MQ below (gQv XSh D cy h A stF) args s 0 0 A) (F0 m 56 ls []) := by
    intro H locs ls G hl
    cases hf
    exact g_vret C G hr hlocks dX5_stretch_56
  have L2 : ∀ (n : Nat) (x1 : Int32) (st2 : GS) (H : Heap) (locs : List Loc) (ls : Array Slot), gG XSh D cy h A s st2 H locs → lv_has ls 3 [(0, .ref (h o)), (1, .int a1), (2, .int x1)] → lp (uc2 (f_X5_stretch_L2 o a1)) n (x1, st2) = some (st17) → W p l e (gR 1) s m args below meth c H locs 0 0 (MQ below (gQv XSh D cy h A stF) args s 0 0 A) (F0 m 2 ls []) := by
    intro n
    induction n with
    | zero =>
      intro x1 st2 H locs ls G hl hn
      cases hn
    | succ n ih =>
      intro x1 st2 H locs ls G hl hn
      obtain ⟨q, hf, hq1, hq2⟩ := lp_q hn
      have hf : f_X5_stretch_L2 o a1 x1 st2 = some q := hf
      unfold f_X5_stretch_L2 at hf
      refine lv_iload_n hx hb dX5_stretch_2 rfl (lv_at hl 2 rfl) ?_
      refine lv_aload_n hx hb dX5_stretch_3 rfl (lv_at hl 0 rfl) ?_
      refine g_geti C G cl5 (C5 ho) (j := 5) (by decide) (F5_5 ho) k1_69 dX5_stretch_4 ?_
      refine lv_icmp_ge (tgt := 56) hx hb dX5_stretch_7 (by decide) (fun c3 => ?_) (fun c3 => ?_)
      · have hf := ifP c3 hf
        cases hf
        have hz9 := hq2 _ rfl
        cases hz9
        exact K56 _ _ _ G (lv_sub hl [] rfl)
      · have hf := ifN c3 hf
        refine lv_aload_n hx hb dX5_stretch_10 rfl (lv_at hl 0 rfl) ?_
        refine g_getr (k := (o + 2)) C G cl5 (C5 ho) (j := 1) (by decide) (F5_1 ho) k1_57 dX5_stretch_11 ?_
        refine lv_iload_n hx hb dX5_stretch_14 rfl (lv_at hl 2 rfl) ?_
        refine lv_dup2_11 hx hb dX5_stretch_15 rfl rfl ?_
        obtain ⟨hi16_3, hf⟩ := gd_some hf
        refine g_iald C G (A5_1 ho) (j := x1.toNatClampNeg) rfl hi16_3 dX5_stretch_16 ?_
        refine lv_iload_n hx hb dX5_stretch_17 rfl (lv_at hl 1 rfl) ?_
        refine lv_imul hx hb dX5_stretch_18 ?_
        obtain ⟨hi19_4, hf⟩ := gd_some hf
        refine g_iast C G (A5_1 ho) (j := x1.toNatClampNeg) rfl hi19_4 dX5_stretch_19 (fun st6 est6 H locs G => ?_)
        have hf := lt_some est6 hf
        refine lv_aload_n hx hb dX5_stretch_20 rfl (lv_at hl 0 rfl) ?_
        refine g_getr (k := (o + 3)) C G cl5 (C5 ho) (j := 2) (by decide) (F5_2 ho) k1_60 dX5_stretch_21 ?_
        refine lv_iload_n hx hb dX5_stretch_24 rfl (lv_at hl 2 rfl) ?_
        refine lv_dup2_11 hx hb dX5_stretch_25 rfl rfl ?_
        obtain ⟨hi26_6, hf⟩ := gd_some hf
        refine g_iald C G (A5_2 ho) (j := x1.toNatClampNeg) rfl hi26_6 dX5_stretch_26 ?_
        refine lv_iload_n hx hb dX5_stretch_27 rfl (lv_at hl 1 rfl) ?_
        refine lv_imul hx hb dX5_stretch_28 ?_
        obtain ⟨hi29_7, hf⟩ := gd_some hf
        refine g_iast C G (A5_2 ho) (j := x1.toNatClampNeg) rfl hi29_7 dX5_stretch_29 (fun st9 est9 H locs G => ?_)
        have hf := lt_some est9 hf
        refine lv_aload_n hx hb dX5_stretch_30 rfl (lv_at hl 0 rfl) ?_
        refine g_getr (k := (o + 4)) C G cl5 (C5 ho) (j := 3) (by decide) (F5_3 ho) k1_63 dX5_stretch_31 ?_
        refine lv_iload_n hx hb dX5_stretch_34 rfl (lv_at hl 2 rfl) ?_
        refine lv_dup2_11 hx hb dX5_stretch_35 rfl rfl ?_
        obtain ⟨hi36_9, hf⟩ := gd_some hf
        refine g_iald C G (A5_3 ho) (j := x1.toNatClampNeg) rfl hi36_9 dX5_stretch_36 ?_
        refine lv_iload_n hx hb dX5_stretch_37 rfl (lv_at hl 1 rfl) ?_
        refine lv_imul hx hb dX5_stretch_38 ?_
        obtain ⟨hi39_10, hf⟩ := gd_some hf
        refine g_iast C G (A5_3 ho) (j := x1.toNatClampNeg) rfl hi39_10 dX5_stretch_39 (fun st12 est12 H locs G => ?_)
        have hf := lt_some est12 hf
        refine lv_aload_n hx hb dX5_stretch_40 rfl (lv_at hl 0 rfl) ?_
        refine g_getr (k := (o + 5)) C G cl5 (C5 ho) (j := 4) (by decide) (F5_4 ho) k1_66 dX5_stretch_41 ?_
        refine lv_iload_n hx hb dX5_stretch_44 rfl (lv_at hl 2 rfl) ?_
        refine lv_dup2_11 hx hb dX5_stretch_45 rfl rfl ?_
        obtain ⟨hi46_12, hf⟩ := gd_some hf
        refine g_iald C G (A5_4 ho) (j := x1.toNatClampNeg) rfl hi46_12 dX5_stretch_46 ?_
        refine lv_iload_n hx hb dX5_stretch_47 rfl (lv_at hl 1 rfl) ?_
        refine lv_imul hx hb dX5_stretch_48 ?_
        obtain ⟨hi49_13, hf⟩ := gd_some hf
        refine g_iast C G (A5_4 ho) (j := x1.toNatClampNeg) rfl hi49_13 dX5_stretch_49 (fun st15 est15 H locs G => ?_)
        have hf := lt_some est15 hf
        obtain ⟨x16, ex16⟩ : ∃ z : Int32, z = (x1 + 1) := ⟨_, rfl⟩
        have hf := lt_some ex16 hf
        refine lv_iinc (v := x16) (lv' := [(2, .int x16), (0, .ref (h o)), (1, .int a1)]) hx hb dX5_stretch_50 hl (k := 2) rfl (by rw [ex16]; rfl) (by decide) rfl (fun ls hl => ?_)
        refine lv_goto (tgt := 2) hx hb dX5_stretch_53 (by decide) ?_
        cases hf
        exact ih _ _ _ _ _ G (lv_sub hl [1, 2, 0] rfl) (hq1 _ rfl)
  exact L2 n _ _ _ _ _ G (lv_sub hl [1, 2, 0] rfl) hn

noncomputable def f_X5_dropRule_L15 (o : Nat) (x3 : Int32) (st4 : GS) : Option ((Int32 × GS) ⊕ (GS)) := 
(if (gt st4 o 7) ≤ (x3 + 1) then some (.inr (st4)) else 
gd (x3 + 1) 4 (gd x3 4 (lt_ (sv st4 (o + 6) (x3.toNatClampNeg) (gt st4 (o + 6) ((x3 + 1).toNatClampNeg))) (fun st8 => 
lt_ (x3 + 1) (fun x9 => 
some (.inl (x9, st8)))))))
noncomputable def f_X5_dropRule (o : Nat) (a1 : Int32) (st : GS) : Option (GS) := 
(if a1 < 0 then some (st) else 
(if a1 < (gt st o 7) then bI1 (lpx (uc2 (f_X5_dropRule_L15 o)) (a1, st)) (fun st10 => 
lt_ (sv st10 o 7 ((gt st10 o 7) - 1)) (fun st11 => 
some (st11))) else 
some (st)))
set_option maxRecDepth 100000 in
set_option maxHeartbeats 4000000 in
theorem c_X5_dropRule (l : Launch) (D : va_G) (cy : ClassId) (h : Nat → Nat) (o : Nat) (ho : ok5 o) (a1 : Int32) (st : GS) (stF : GS) (hf : f_X5_dropRule o a1 st = some stF) : gMv l XSh D cy h yX5_dropRule cX5_dropRule 3 none 1 st [.ref (h o), .int a1] stF := by
  unfold f_X5_dropRule at hf
  refine gMv_of (by decide) (Nat.le_of_ble_eq_true rfl) ?_
  intro p e s m args below meth c A ls C hr hlocks G hl
  have C : gC p s m args c cX5_dropRule 3 "LaneOrder$Sheet" XSh D cy h A := C
  have hl : lv_has ls 3 [(0, .ref (h o)), (1, .int a1)] := hl
  have hx := C.1
  have hb := C.2.1
  have hown := C.2.2.2.1
  have htb := C.2.2.2.2.1
  refine lv_iload_n hx hb dX5_dropRule_0 rfl (lv_at hl 1 rfl) ?_
  refine lv_if_lt (tgt := 12) hx hb dX5_dropRule_1 (by decide) (fun c1 => ?_) (fun c1 => ?_)
  · have hf := ifP c1 hf
    cases hf
    exact g_vret C G hr hlocks dX5_dropRule_12
  · have hf := ifN c1 hf
    refine lv_iload_n hx hb dX5_dropRule_4 rfl (lv_at hl 1 rfl) ?_
    refine lv_aload_n hx hb dX5_dropRule_5 rfl (lv_at hl 0 rfl) ?_
    refine g_geti C G cl5 (C5 ho) (j := 7) (by decide) (F5_7 ho) k1_74 dX5_dropRule_6 ?_
    refine lv_icmp_lt (tgt := 13) hx hb dX5_dropRule_9 (by decide) (fun c2 => ?_) (fun c2 => ?_)
    · have hf := ifP c2 hf
      refine lv_iload_n hx hb dX5_dropRule_13 rfl (lv_at hl 1 rfl) ?_
      refine lv_istore_n (lv' := [(2, .int a1), (0, .ref (h o)), (1, .int a1)]) hx hb dX5_dropRule_14 rfl hl (by decide) rfl (fun ls hl => ?_)
      obtain ⟨st10, hn, hf⟩ := bI1_some hf
      obtain ⟨n, hn⟩ := lpx_some hn
      have K45 : ∀ (H : Heap) (locs : List Loc) (ls : Array Slot), gG XSh D cy h A s st10 H locs → lv_has ls 3 [(0, .ref (h o))] → W p l e (gR 1) s m args below meth c H locs 0 0 (MQ below (gQv XSh D cy h A stF) args s 0 0 A) (F0 m 45 ls []) := by
        intro H locs ls G hl
        refine lv_aload_n hx hb dX5_dropRule_45 rfl (lv_at hl 0 rfl) ?_
        refine lv_dup hx hb dX5_dropRule_46 rfl ?_
        refine g_geti C G cl5 (C5 ho) (j := 7) (by decide) (F5_7 ho) k1_74 dX5_dropRule_47 ?_
        refine lv_iconst (v := 1) hx hb dX5_dropRule_50 (by decide) ?_
        refine lv_isub hx hb dX5_dropRule_51 ?_
        refine g_puti C G cl5 (C5 ho) (j := 7) (by decide) (F5_7 ho) k1_74 rfl rfl rfl dX5_dropRule_52 (fun st11 est11 H locs G => ?_)
        have hf := lt_some est11 hf
        cases hf
        exact g_vret C G hr hlocks dX5_dropRule_55
      have L15 : ∀ (n : Nat) (x3 : Int32) (st4 : GS) (H : Heap) (locs : List Loc) (ls : Array Slot), gG XSh D cy h A s st4 H locs → lv_has ls 3 [(0, .ref (h o)), (2, .int x3)] → lp (uc2 (f_X5_dropRule_L15 o)) n (x3, st4) = some (st10) → W p l e (gR 1) s m args below meth c H locs 0 0 (MQ below (gQv XSh D cy h A stF) args s 0 0 A) (F0 m 15 ls []) := by
        intro n
        induction n with
        | zero =>
          intro x3 st4 H locs ls G hl hn
          cases hn
        | succ n ih =>
          intro x3 st4 H locs ls G hl hn
          obtain ⟨q, hf, hq1, hq2⟩ := lp_q hn
          have hf : f_X5_dropRule_L15 o x3 st4 = some q := hf
          unfold f_X5_dropRule_L15 at hf
          refine lv_iload_n hx hb dX5_dropRule_15 rfl (lv_at hl 1 rfl) ?_
          refine lv_iconst (v := 1) hx hb dX5_dropRule_16 (by decide) ?_
          refine lv_iadd hx hb dX5_dropRule_17 ?_
          refine lv_aload_n hx hb dX5_dropRule_18 rfl (lv_at hl 0 rfl) ?_
          refine g_geti C G cl5 (C5 ho) (j := 7) (by decide) (F5_7 ho) k1_74 dX5_dropRule_19 ?_
          refine lv_icmp_ge (tgt := 45) hx hb dX5_dropRule_22 (by decide) (fun c5 => ?_) (fun c5 => ?_)
          · have hf := ifP c5 hf
            cases hf
            have hz9 := hq2 _ rfl
            cases hz9
            exact K45 _ _ _ G (lv_sub hl [0] rfl)
          · have hf := ifN c5 hf
            refine lv_aload_n hx hb dX5_dropRule_25 rfl (lv_at hl 0 rfl) ?_
            refine g_getr (k := (o + 6)) C G cl5 (C5 ho) (j := 6) (by decide) (F5_6 ho) k1_72 dX5_dropRule_26 ?_
            refine lv_iload_n hx hb dX5_dropRule_29 rfl (lv_at hl 1 rfl) ?_
            refine lv_aload_n hx hb dX5_dropRule_30 rfl (lv_at hl 0 rfl) ?_
            refine g_getr (k := (o + 6)) C G cl5 (C5 ho) (j := 6) (by decide) (F5_6 ho) k1_72 dX5_dropRule_31 ?_
            refine lv_iload_n hx hb dX5_dropRule_34 rfl (lv_at hl 1 rfl) ?_
            refine lv_iconst (v := 1) hx hb dX5_dropRule_35 (by decide) ?_
            refine lv_iadd hx hb dX5_dropRule_36 ?_
            obtain ⟨hi37_5, hf⟩ := gd_some hf
            refine g_iald C G (A5_6 ho) (j := (x3 + 1).toNatClampNeg) rfl hi37_5 dX5_dropRule_37 ?_
            obtain ⟨hi38_6, hf⟩ := gd_some hf
            refine g_iast C G (A5_6 ho) (j := x3.toNatClampNeg) rfl hi38_6 dX5_dropRule_38 (fun st8 est8 H locs G => ?_)
            have hf := lt_some est8 hf
            obtain ⟨x9, ex9⟩ : ∃ z : Int32, z = (x3 + 1) := ⟨_, rfl⟩
            have hf := lt_some ex9 hf
            refine lv_iinc (v := x9) (lv' := [(2, .int x9), (0, .ref (h o))]) hx hb dX5_dropRule_39 hl (k := 1) rfl (by rw [ex9]; rfl) (by decide) rfl (fun ls hl => ?_)
            refine lv_goto (tgt := 15) hx hb dX5_dropRule_42 (by decide) ?_
            cases hf
            exact ih _ _ _ _ _ G (lv_sub hl [1, 0] rfl) (hq1 _ rfl)
      exact L15 n _ _ _ _ _ G (lv_sub hl [1, 0] rfl) hn
    · have hf := ifN c2 hf
      cases hf
      exact g_vret C G hr hlocks dX5_dropRule_12

noncomputable def f_X5_takeRules_L9 (o : Nat) (a1 : Int32) (x2 : Int32) (st3 : GS) : Option ((Int32 × GS) ⊕ (GS)) := 
(if x2 ≤ 0 then some (.inr (st3)) else 
gq (¬ x2 = 0) (lt_ (irem (a1 / x2) 10) (fun x5 => 
(if x5 = 0 then lt_ (x2 / 10) (fun x7 => 
some (.inl (x7, st3))) else 
bI1 (f_X5_addRule o (irem x5 4) st3) (fun st8 => 
lt_ (x2 / 10) (fun x9 => 
some (.inl (x9, st8))))))))
noncomputable def f_X5_takeRules (o : Nat) (a1 : Int32) (st : GS) : Option (GS) := 
lt_ (sv st o 7 0) (fun st1 => 
bI1 (lpx (uc2 (f_X5_takeRules_L9 o a1)) (1000, st1)) (fun st10 => 
some (st10)))
set_option maxRecDepth 100000 in
set_option maxHeartbeats 4000000 in
theorem c_X5_takeRules (l : Launch) (D : va_G) (cy : ClassId) (h : Nat → Nat) (o : Nat) (ho : ok5 o) (a1 : Int32) (st : GS) (stF : GS) (hf : f_X5_takeRules o a1 st = some stF) : gMv l XSh D cy h yX5_takeRules cX5_takeRules 4 none 2 st [.ref (h o), .int a1] stF := by
  unfold f_X5_takeRules at hf
  refine gMv_of (by decide) (Nat.le_of_ble_eq_true rfl) ?_
  intro p e s m args below meth c A ls C hr hlocks G hl
  have C : gC p s m args c cX5_takeRules 4 "LaneOrder$Sheet" XSh D cy h A := C
  have hl : lv_has ls 4 [(0, .ref (h o)), (1, .int a1)] := hl
  have hx := C.1
  have hb := C.2.1
  have hown := C.2.2.2.1
  have htb := C.2.2.2.2.1
  refine lv_aload_n hx hb dX5_takeRules_0 rfl (lv_at hl 0 rfl) ?_
  refine lv_iconst (v := 0) hx hb dX5_takeRules_1 (by decide) ?_
  refine g_puti C G cl5 (C5 ho) (j := 7) (by decide) (F5_7 ho) k1_74 rfl rfl rfl dX5_takeRules_2 (fun st1 est1 H locs G => ?_)
  have hf := lt_some est1 hf
  refine lv_sipush (v := 1000) hx hb dX5_takeRules_5 (by decide) ?_
  refine lv_istore_n (lv' := [(2, .int 1000), (0, .ref (h o)), (1, .int a1)]) hx hb dX5_takeRules_8 rfl hl (by decide) rfl (fun ls hl => ?_)
  obtain ⟨st10, hn, hf⟩ := bI1_some hf
  obtain ⟨n, hn⟩ := lpx_some hn
  have K39 : ∀ (H : Heap) (locs : List Loc) (ls : Array Slot), gG XSh D cy h A s st10 H locs → lv_has ls 4 [] → W p l e (gR 2) s m args below meth c H locs 0 0 (MQ below (gQv XSh D cy h A stF) args s 0 0 A) (F0 m 39 ls []) := by
    intro H locs ls G hl
    cases hf
    exact g_vret C G hr hlocks dX5_takeRules_39
  have L9 : ∀ (n : Nat) (x2 : Int32) (st3 : GS) (H : Heap) (locs : List Loc) (ls : Array Slot), gG XSh D cy h A s st3 H locs → lv_has ls 4 [(0, .ref (h o)), (1, .int a1), (2, .int x2)] → lp (uc2 (f_X5_takeRules_L9 o a1)) n (x2, st3) = some (st10) → W p l e (gR 2) s m args below meth c H locs 0 0 (MQ below (gQv XSh D cy h A stF) args s 0 0 A) (F0 m 9 ls []) := by
    intro n
    induction n with
    | zero =>
      intro x2 st3 H locs ls G hl hn
      cases hn
    | succ n ih =>
      intro x2 st3 H locs ls G hl hn
      obtain ⟨q, hf, hq1, hq2⟩ := lp_q hn
      have hf : f_X5_takeRules_L9 o a1 x2 st3 = some q := hf
      unfold f_X5_takeRules_L9 at hf
      refine lv_iload_n hx hb dX5_takeRules_9 rfl (lv_at hl 2 rfl) ?_
      refine lv_if_le (tgt := 39) hx hb dX5_takeRules_10 (by decide) (fun c4 => ?_) (fun c4 => ?_)
      · have hf := ifP c4 hf
        cases hf
        have hz9 := hq2 _ rfl
        cases hz9
        exact K39 _ _ _ G (lv_sub hl [] rfl)
      · have hf := ifN c4 hf
        refine lv_iload_n hx hb dX5_takeRules_13 rfl (lv_at hl 1 rfl) ?_
        refine lv_iload_n hx hb dX5_takeRules_14 rfl (lv_at hl 2 rfl) ?_
        obtain ⟨hn15, hf⟩ := gq_some hf
        refine lv_idiv hx hb dX5_takeRules_15 hn15 ?_
        refine lv_bipush (v := 10) hx hb dX5_takeRules_16 (by decide) ?_
        refine g_irem C dX5_takeRules_18 (by decide) ?_
        refine lv_topi (fun x5 ex5 => ?_)
        have hf := lt_some ex5 hf
        refine lv_istore_n (lv' := [(3, .int x5), (0, .ref (h o)), (1, .int a1), (2, .int x2)]) hx hb dX5_takeRules_19 rfl hl (by decide) rfl (fun ls hl => ?_)
        refine lv_iload_n hx hb dX5_takeRules_20 rfl (lv_at hl 0 rfl) ?_
        refine lv_if_eq (tgt := 31) hx hb dX5_takeRules_21 (by decide) (fun c6 => ?_) (fun c6 => ?_)
        · have hf := ifP c6 hf
          refine lv_iload_n hx hb dX5_takeRules_31 rfl (lv_at hl 3 rfl) ?_
          refine lv_bipush (v := 10) hx hb dX5_takeRules_32 (by decide) ?_
          refine lv_idiv hx hb dX5_takeRules_34 (by decide) ?_
          refine lv_topi (fun x7 ex7 => ?_)
          have hf := lt_some ex7 hf
          refine lv_istore_n (lv' := [(2, .int x7), (3, .int x5), (0, .ref (h o)), (1, .int a1)]) hx hb dX5_takeRules_35 rfl hl (by decide) rfl (fun ls hl => ?_)
          refine lv_goto (tgt := 9) hx hb dX5_takeRules_36 (by decide) ?_
          cases hf
          exact ih _ _ _ _ _ G (lv_sub hl [2, 3, 0] rfl) (hq1 _ rfl)
        · have hf := ifN c6 hf
          refine lv_aload_n hx hb dX5_takeRules_24 rfl (lv_at hl 1 rfl) ?_
          refine lv_iload_n hx hb dX5_takeRules_25 rfl (lv_at hl 0 rfl) ?_
          refine lv_iconst (v := 4) hx hb dX5_takeRules_26 (by decide) ?_
          refine g_irem C dX5_takeRules_27 (by decide) ?_
          obtain ⟨st8, hc28_8, hf⟩ := bI1_some hf
          refine g_callVv C G (As := [.int (irem x5 4)]) (rest := []) (c_X5_addRule l D cy h o ho (irem x5 4) st3 st8 hc28_8) cl5 rfl (C5 ho) v_X5_61 (Nat.le_of_ble_eq_true rfl) (Nat.le_of_ble_eq_true rfl) rfl hl.1 rfl (Nat.le_of_ble_eq_true rfl) dX5_takeRules_28 ⟨Nat.zero_le _, Nat.zero_le _⟩ (fun H locs G => ?_)
          refine lv_iload_n hx hb dX5_takeRules_31 rfl (lv_at hl 3 rfl) ?_
          refine lv_bipush (v := 10) hx hb dX5_takeRules_32 (by decide) ?_
          refine lv_idiv hx hb dX5_takeRules_34 (by decide) ?_
          refine lv_topi (fun x9 ex9 => ?_)
          have hf := lt_some ex9 hf
          refine lv_istore_n (lv' := [(2, .int x9), (3, .int x5), (0, .ref (h o)), (1, .int a1)]) hx hb dX5_takeRules_35 rfl hl (by decide) rfl (fun ls hl => ?_)
          refine lv_goto (tgt := 9) hx hb dX5_takeRules_36 (by decide) ?_
          cases hf
          exact ih _ _ _ _ _ G (lv_sub hl [2, 3, 0] rfl) (hq1 _ rfl)
  exact L9 n _ _ _ _ _ G (lv_sub hl [1, 2, 0] rfl) hn
