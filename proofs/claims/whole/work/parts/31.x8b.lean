noncomputable def f_X8_apart (a1 : Int32) (a2 : Int32) (st : GS) : Option (Int32) := 
gd (4 * a1) 32 (gd ((4 * a1) + 2) 32 (gd (4 * a2) 32 (gd ((4 * a2) + 2) 32 (bI1 (f_X8_gap (gt st 3 ((4 * a1).toNatClampNeg)) (gt st 3 (((4 * a1) + 2).toNatClampNeg)) (gt st 3 ((4 * a2).toNatClampNeg)) (gt st 3 (((4 * a2) + 2).toNatClampNeg))) (fun r5 => 
gd ((4 * a1) + 1) 32 (gd ((4 * a1) + 3) 32 (gd ((4 * a2) + 1) 32 (gd ((4 * a2) + 3) 32 (bI1 (f_X8_gap (gt st 3 (((4 * a1) + 1).toNatClampNeg)) (gt st 3 (((4 * a1) + 3).toNatClampNeg)) (gt st 3 (((4 * a2) + 1).toNatClampNeg)) (gt st 3 (((4 * a2) + 3).toNatClampNeg))) (fun r10 => 
some ((r5 + r10))))))))))))
set_option maxRecDepth 100000 in
set_option maxHeartbeats 4000000 in
theorem c_X8_apart (l : Launch) (D : va_G) (cy : ClassId) (h : Nat → Nat) (a1 : Int32) (a2 : Int32) (st : GS) (r : Int32) (hf : f_X8_apart a1 a2 st = some r) : gMi l MSh D cy h yX8_apart cX8_apart 4 (some .int) 2 st [.ref (h 0), .int a1, .int a2] r st := by
  unfold f_X8_apart at hf
  refine gMi_of (by decide) (Nat.le_of_ble_eq_true rfl) ?_
  intro p e s m args below meth c A ls C hr hlocks G hl
  have C : gC p s m args c cX8_apart 4 "LaneOrderModel" MSh D cy h A := C
  have hl : lv_has ls 4 [(0, .ref (h 0)), (1, .int a1), (2, .int a2)] := hl
  have hx := C.1
  have hb := C.2.1
  have hown := C.2.2.2.1
  have htb := C.2.2.2.2.1
  refine lv_aload_n hx hb dX8_apart_0 rfl (lv_at hl 0 rfl) ?_
  refine g_getr (k := 3) C G cl8 (C8 ok8_0) (j := 8) (by decide) (F8_8 ok8_0) k4_32 dX8_apart_1 ?_
  refine lv_iconst (v := 4) hx hb dX8_apart_4 (by decide) ?_
  refine lv_iload_n hx hb dX8_apart_5 rfl (lv_at hl 1 rfl) ?_
  refine lv_imul hx hb dX8_apart_6 ?_
  obtain ⟨hi7_0, hf⟩ := gd_some hf
  refine g_iald C G (A8_8 ok8_0) (j := (4 * a1).toNatClampNeg) rfl hi7_0 dX8_apart_7 ?_
  refine lv_aload_n hx hb dX8_apart_8 rfl (lv_at hl 0 rfl) ?_
  refine g_getr (k := 3) C G cl8 (C8 ok8_0) (j := 8) (by decide) (F8_8 ok8_0) k4_32 dX8_apart_9 ?_
  refine lv_iconst (v := 4) hx hb dX8_apart_12 (by decide) ?_
  refine lv_iload_n hx hb dX8_apart_13 rfl (lv_at hl 1 rfl) ?_
  refine lv_imul hx hb dX8_apart_14 ?_
  refine lv_iconst (v := 2) hx hb dX8_apart_15 (by decide) ?_
  refine lv_iadd hx hb dX8_apart_16 ?_
  obtain ⟨hi17_1, hf⟩ := gd_some hf
  refine g_iald C G (A8_8 ok8_0) (j := ((4 * a1) + 2).toNatClampNeg) rfl hi17_1 dX8_apart_17 ?_
  refine lv_aload_n hx hb dX8_apart_18 rfl (lv_at hl 0 rfl) ?_
  refine g_getr (k := 3) C G cl8 (C8 ok8_0) (j := 8) (by decide) (F8_8 ok8_0) k4_32 dX8_apart_19 ?_
  refine lv_iconst (v := 4) hx hb dX8_apart_22 (by decide) ?_
  refine lv_iload_n hx hb dX8_apart_23 rfl (lv_at hl 2 rfl) ?_
  refine lv_imul hx hb dX8_apart_24 ?_
  obtain ⟨hi25_2, hf⟩ := gd_some hf
  refine g_iald C G (A8_8 ok8_0) (j := (4 * a2).toNatClampNeg) rfl hi25_2 dX8_apart_25 ?_
  refine lv_aload_n hx hb dX8_apart_26 rfl (lv_at hl 0 rfl) ?_
  refine g_getr (k := 3) C G cl8 (C8 ok8_0) (j := 8) (by decide) (F8_8 ok8_0) k4_32 dX8_apart_27 ?_
  refine lv_iconst (v := 4) hx hb dX8_apart_30 (by decide) ?_
  refine lv_iload_n hx hb dX8_apart_31 rfl (lv_at hl 2 rfl) ?_
  refine lv_imul hx hb dX8_apart_32 ?_
  refine lv_iconst (v := 2) hx hb dX8_apart_33 (by decide) ?_
  refine lv_iadd hx hb dX8_apart_34 ?_
  obtain ⟨hi35_3, hf⟩ := gd_some hf
  refine g_iald C G (A8_8 ok8_0) (j := ((4 * a2) + 2).toNatClampNeg) rfl hi35_3 dX8_apart_35 ?_
  obtain ⟨r5, hc36_5, hf⟩ := bI1_some hf
  refine g_callSi C G (As := [.int (gt st 3 ((4 * a1).toNatClampNeg)), .int (gt st 3 (((4 * a1) + 2).toNatClampNeg)), .int (gt st 3 ((4 * a2).toNatClampNeg)), .int (gt st 3 (((4 * a2) + 2).toNatClampNeg))]) (rest := []) (c_X8_gap l D cy h (gt st 3 ((4 * a1).toNatClampNeg)) (gt st 3 (((4 * a1) + 2).toNatClampNeg)) (gt st 3 ((4 * a2).toNatClampNeg)) (gt st 3 (((4 * a2) + 2).toNatClampNeg)) st r5 hc36_5) v_X8_131 (Nat.le_of_ble_eq_true rfl) (Nat.le_of_ble_eq_true rfl) rfl hl.1 rfl (Nat.le_of_ble_eq_true rfl) dX8_apart_36 ⟨Nat.zero_le _, Nat.zero_le _⟩ (fun H locs G => ?_)
  refine lv_istore_n (lv' := [(3, .int r5), (0, .ref (h 0)), (1, .int a1), (2, .int a2)]) hx hb dX8_apart_39 rfl hl (by decide) rfl (fun ls hl => ?_)
  refine lv_iload_n hx hb dX8_apart_40 rfl (lv_at hl 0 rfl) ?_
  refine lv_aload_n hx hb dX8_apart_41 rfl (lv_at hl 1 rfl) ?_
  refine g_getr (k := 3) C G cl8 (C8 ok8_0) (j := 8) (by decide) (F8_8 ok8_0) k4_32 dX8_apart_42 ?_
  refine lv_iconst (v := 4) hx hb dX8_apart_45 (by decide) ?_
  refine lv_iload_n hx hb dX8_apart_46 rfl (lv_at hl 2 rfl) ?_
  refine lv_imul hx hb dX8_apart_47 ?_
  refine lv_iconst (v := 1) hx hb dX8_apart_48 (by decide) ?_
  refine lv_iadd hx hb dX8_apart_49 ?_
  obtain ⟨hi50_5, hf⟩ := gd_some hf
  refine g_iald C G (A8_8 ok8_0) (j := ((4 * a1) + 1).toNatClampNeg) rfl hi50_5 dX8_apart_50 ?_
  refine lv_aload_n hx hb dX8_apart_51 rfl (lv_at hl 1 rfl) ?_
  refine g_getr (k := 3) C G cl8 (C8 ok8_0) (j := 8) (by decide) (F8_8 ok8_0) k4_32 dX8_apart_52 ?_
  refine lv_iconst (v := 4) hx hb dX8_apart_55 (by decide) ?_
  refine lv_iload_n hx hb dX8_apart_56 rfl (lv_at hl 2 rfl) ?_
  refine lv_imul hx hb dX8_apart_57 ?_
  refine lv_iconst (v := 3) hx hb dX8_apart_58 (by decide) ?_
  refine lv_iadd hx hb dX8_apart_59 ?_
  obtain ⟨hi60_6, hf⟩ := gd_some hf
  refine g_iald C G (A8_8 ok8_0) (j := ((4 * a1) + 3).toNatClampNeg) rfl hi60_6 dX8_apart_60 ?_
  refine lv_aload_n hx hb dX8_apart_61 rfl (lv_at hl 1 rfl) ?_
  refine g_getr (k := 3) C G cl8 (C8 ok8_0) (j := 8) (by decide) (F8_8 ok8_0) k4_32 dX8_apart_62 ?_
  refine lv_iconst (v := 4) hx hb dX8_apart_65 (by decide) ?_
  refine lv_iload_n hx hb dX8_apart_66 rfl (lv_at hl 3 rfl) ?_
  refine lv_imul hx hb dX8_apart_67 ?_
  refine lv_iconst (v := 1) hx hb dX8_apart_68 (by decide) ?_
  refine lv_iadd hx hb dX8_apart_69 ?_
  obtain ⟨hi70_7, hf⟩ := gd_some hf
  refine g_iald C G (A8_8 ok8_0) (j := ((4 * a2) + 1).toNatClampNeg) rfl hi70_7 dX8_apart_70 ?_
  refine lv_aload_n hx hb dX8_apart_71 rfl (lv_at hl 1 rfl) ?_
  refine g_getr (k := 3) C G cl8 (C8 ok8_0) (j := 8) (by decide) (F8_8 ok8_0) k4_32 dX8_apart_72 ?_
  refine lv_iconst (v := 4) hx hb dX8_apart_75 (by decide) ?_
  refine lv_iload_n hx hb dX8_apart_76 rfl (lv_at hl 3 rfl) ?_
  refine lv_imul hx hb dX8_apart_77 ?_
  refine lv_iconst (v := 3) hx hb dX8_apart_78 (by decide) ?_
  refine lv_iadd hx hb dX8_apart_79 ?_
  obtain ⟨hi80_8, hf⟩ := gd_some hf
  refine g_iald C G (A8_8 ok8_0) (j := ((4 * a2) + 3).toNatClampNeg) rfl hi80_8 dX8_apart_80 ?_
  obtain ⟨r10, hc81_10, hf⟩ := bI1_some hf
  refine g_callSi C G (As := [.int (gt st 3 (((4 * a1) + 1).toNatClampNeg)), .int (gt st 3 (((4 * a1) + 3).toNatClampNeg)), .int (gt st 3 (((4 * a2) + 1).toNatClampNeg)), .int (gt st 3 (((4 * a2) + 3).toNatClampNeg))]) (rest := [.int r5]) (c_X8_gap l D cy h (gt st 3 (((4 * a1) + 1).toNatClampNeg)) (gt st 3 (((4 * a1) + 3).toNatClampNeg)) (gt st 3 (((4 * a2) + 1).toNatClampNeg)) (gt st 3 (((4 * a2) + 3).toNatClampNeg)) st r10 hc81_10) v_X8_131 (Nat.le_of_ble_eq_true rfl) (Nat.le_of_ble_eq_true rfl) rfl hl.1 rfl (Nat.le_of_ble_eq_true rfl) dX8_apart_81 ⟨Nat.zero_le _, Nat.zero_le _⟩ (fun H locs G => ?_)
  refine lv_iadd hx hb dX8_apart_84 ?_
  cases hf
  exact g_iret C G hr hlocks dX8_apart_85

noncomputable def f_X8_layBound_L25 (a1 : Int32) (x2 : Int32) (x7 : Int32) (x8 : Int32) (st9 : GS) : Option ((Int32 × Int32 × GS) ⊕ (GS)) := 
(if (gt st9 0 5) ≤ x8 then some (.inr (st9)) else 
bI1 (f_X8_has a1 x2) (fun r11 => 
(if r11 = 0 then some (.inr (st9)) else 
gd x2 8 ((if (gt st9 2 (x2.toNatClampNeg)) = 4 then bI1 (f_X8_has a1 x8) (fun r15 => 
bI1 ((if r15 = 0 then some (0) else 
gd x8 8 ((if (gt st9 2 (x8.toNatClampNeg)) = 3 then some (1) else 
some (0))))) (fun (x17 : Int32) => 
(if x17 = 0 then lt_ (x8 + 1) (fun x21 => 
some (.inl (x7, x21, st9))) else 
gd x2 8 ((if (gt st9 5 (x2.toNatClampNeg)) = (-1) then gd x2 8 (lt_ (sv st9 5 (x2.toNatClampNeg) x8) (fun st25 => 
bI1 (f_X8_apart x2 x8 st25) (fun r26 => 
lt_ (x8 + 1) (fun x27 => 
some (.inl (r26, x27, st25)))))) else 
bI1 (f_X8_apart x2 x8 st9) (fun r28 => 
(if x7 ≤ r28 then lt_ (x8 + 1) (fun x30 => 
some (.inl (x7, x30, st9))) else 
gd x2 8 (lt_ (sv st9 5 (x2.toNatClampNeg) x8) (fun st32 => 
bI1 (f_X8_apart x2 x8 st32) (fun r33 => 
lt_ (x8 + 1) (fun x34 => 
some (.inl (r33, x34, st32))))))))))))) else 
some (.inr (st9)))))))
noncomputable def f_X8_layBound_L4 (a1 : Int32) (x1 : Int32) (x2 : Int32) (st3 : GS) : Option ((Int32 × Int32 × GS) ⊕ (Int32 × GS)) := 
(if (gt st3 0 5) ≤ x2 then some (.inr (x1, st3)) else 
gd x2 8 (lt_ (sv st3 5 (x2.toNatClampNeg) (-1)) (fun st6 => 
bI1 (lpx (uc3 (f_X8_layBound_L25 a1 x2)) (0, 0, st6)) (fun st35 => 
gd x2 8 ((if (gt st35 5 (x2.toNatClampNeg)) = (-1) then lt_ (x1 &&& (-1)) (fun x40 => 
lt_ (x2 + 1) (fun x41 => 
some (.inl (x40, x41, st35)))) else 
lt_ (x1 &&& ((ishl 1 x2) ^^^ (-1))) (fun x38 => 
lt_ (x2 + 1) (fun x39 => 
some (.inl (x38, x39, st35))))))))))
noncomputable def f_X8_layBound (a1 : Int32) (st : GS) : Option (Int32 × GS) := 
bI2 (lpx (uc3 (f_X8_layBound_L4 a1)) (a1, 0, st)) (fun x42 st43 => 
some ((x42, st43)))
set_option maxRecDepth 100000 in
set_option maxHeartbeats 4000000 in
theorem c_X8_layBound (l : Launch) (D : va_G) (cy : ClassId) (h : Nat → Nat) (a1 : Int32) (st : GS) (r : Int32) (stF : GS) (hf : f_X8_layBound a1 st = some (r, stF)) : gMi l MSh D cy h yX8_layBound cX8_layBound 7 (some .int) 3 st [.ref (h 0), .int a1] r stF := by
  unfold f_X8_layBound at hf
  refine gMi_of (by decide) (Nat.le_of_ble_eq_true rfl) ?_
  intro p e s m args below meth c A ls C hr hlocks G hl
  have C : gC p s m args c cX8_layBound 7 "LaneOrderModel" MSh D cy h A := C
  have hl : lv_has ls 7 [(0, .ref (h 0)), (1, .int a1)] := hl
  have hx := C.1
  have hb := C.2.1
  have hown := C.2.2.2.1
  have htb := C.2.2.2.2.1
  refine lv_iload_n hx hb dX8_layBound_0 rfl (lv_at hl 1 rfl) ?_
  refine lv_istore_n (lv' := [(2, .int a1), (0, .ref (h 0)), (1, .int a1)]) hx hb dX8_layBound_1 rfl hl (by decide) rfl (fun ls hl => ?_)
  refine lv_iconst (v := 0) hx hb dX8_layBound_2 (by decide) ?_
  refine lv_istore_n (lv' := [(3, .int 0), (2, .int a1), (0, .ref (h 0)), (1, .int a1)]) hx hb dX8_layBound_3 rfl hl (by decide) rfl (fun ls hl => ?_)
  obtain ⟨x42, st43, hn, hf⟩ := bI2_some hf
  obtain ⟨n, hn⟩ := lpx_some hn
  have K157 : ∀ (H : Heap) (locs : List Loc) (ls : Array Slot), gG MSh D cy h A s st43 H locs → lv_has ls 7 [(2, .int x42)] → W p l e (gR 3) s m args below meth c H locs 0 0 (MQ below (gQi MSh D cy h A r stF) args s 0 0 A) (F0 m 157 ls []) := by
    intro H locs ls G hl
    refine lv_iload_n hx hb dX8_layBound_157 rfl (lv_at hl 0 rfl) ?_
    cases hf
    exact g_iret C G hr hlocks dX8_layBound_158
  have L4 : ∀ (n : Nat) (x1 : Int32) (x2 : Int32) (st3 : GS) (H : Heap) (locs : List Loc) (ls : Array Slot), gG MSh D cy h A s st3 H locs → lv_has ls 7 [(0, .ref (h 0)), (1, .int a1), (2, .int x1), (3, .int x2)] → lp (uc3 (f_X8_layBound_L4 a1)) n (x1, x2, st3) = some (x42, st43) → W p l e (gR 3) s m args below meth c H locs 0 0 (MQ below (gQi MSh D cy h A r stF) args s 0 0 A) (F0 m 4 ls []) := by
    intro n
    induction n with
    | zero =>
      intro x1 x2 st3 H locs ls G hl hn
      cases hn
    | succ n ih =>
      intro x1 x2 st3 H locs ls G hl hn
      obtain ⟨q, hf, hq1, hq2⟩ := lp_q hn
      have hf : f_X8_layBound_L4 a1 x1 x2 st3 = some q := hf
      unfold f_X8_layBound_L4 at hf
      refine lv_iload_n hx hb dX8_layBound_4 rfl (lv_at hl 3 rfl) ?_
      refine lv_aload_n hx hb dX8_layBound_5 rfl (lv_at hl 0 rfl) ?_
      refine g_geti C G cl8 (C8 ok8_0) (j := 5) (by decide) (F8_5 ok8_0) k4_29 dX8_layBound_6 ?_
      refine lv_icmp_ge (tgt := 157) hx hb dX8_layBound_9 (by decide) (fun c4 => ?_) (fun c4 => ?_)
      · have hf := ifP c4 hf
        cases hf
        have hz9 := hq2 _ rfl
        cases hz9
        exact K157 _ _ _ G (lv_sub hl [2] rfl)
      · have hf := ifN c4 hf
        refine lv_aload_n hx hb dX8_layBound_12 rfl (lv_at hl 0 rfl) ?_
        refine g_getr (k := 5) C G cl8 (C8 ok8_0) (j := 11) (by decide) (F8_11 ok8_0) k4_35 dX8_layBound_13 ?_
        refine lv_iload_n hx hb dX8_layBound_16 rfl (lv_at hl 3 rfl) ?_
        refine lv_iconst (v := (-1)) hx hb dX8_layBound_17 (by decide) ?_
        obtain ⟨hi18_4, hf⟩ := gd_some hf
        refine g_iast C G (A8_11 ok8_0) (j := x2.toNatClampNeg) rfl hi18_4 dX8_layBound_18 (fun st6 est6 H locs G => ?_)
        have hf := lt_some est6 hf
        refine lv_iconst (v := 0) hx hb dX8_layBound_19 (by decide) ?_
        refine lv_istore (lv' := [(4, .int 0), (0, .ref (h 0)), (1, .int a1), (2, .int x1), (3, .int x2)]) hx hb dX8_layBound_20 hl (by decide) rfl (fun ls hl => ?_)
        refine lv_iconst (v := 0) hx hb dX8_layBound_22 (by decide) ?_
        refine lv_istore (lv' := [(5, .int 0), (4, .int 0), (0, .ref (h 0)), (1, .int a1), (2, .int x1), (3, .int x2)]) hx hb dX8_layBound_23 hl (by decide) rfl (fun ls hl => ?_)
        obtain ⟨st35, hn, hf⟩ := bI1_some hf
        obtain ⟨n, hn⟩ := lpx_some hn
        have K129 : ∀ (H : Heap) (locs : List Loc) (ls : Array Slot), gG MSh D cy h A s st35 H locs → lv_has ls 7 [(0, .ref (h 0)), (1, .int a1), (2, .int x1), (3, .int x2)] → W p l e (gR 3) s m args below meth c H locs 0 0 (MQ below (gQi MSh D cy h A r stF) args s 0 0 A) (F0 m 129 ls []) := by
          intro H locs ls G hl
          refine lv_iload_n hx hb dX8_layBound_129 rfl (lv_at hl 2 rfl) ?_
          refine lv_aload_n hx hb dX8_layBound_130 rfl (lv_at hl 0 rfl) ?_
          refine g_getr (k := 5) C G cl8 (C8 ok8_0) (j := 11) (by decide) (F8_11 ok8_0) k4_35 dX8_layBound_131 ?_
          refine lv_iload_n hx hb dX8_layBound_134 rfl (lv_at hl 3 rfl) ?_
          obtain ⟨hi135_35, hf⟩ := gd_some hf
          refine g_iald C G (A8_11 ok8_0) (j := x2.toNatClampNeg) rfl hi135_35 dX8_layBound_135 ?_
          refine lv_iconst (v := (-1)) hx hb dX8_layBound_136 (by decide) ?_
          refine lv_icmp_ne (tgt := 144) hx hb dX8_layBound_137 (by decide) (fun c37 => ?_) (fun c37 => ?_)
          · have hf := ifN c37 hf
            refine lv_iconst (v := 1) hx hb dX8_layBound_144 (by decide) ?_
            refine lv_iload_n hx hb dX8_layBound_145 rfl (lv_at hl 3 rfl) ?_
            refine g_ishl C dX8_layBound_146 ?_
            refine lv_iconst (v := (-1)) hx hb dX8_layBound_147 (by decide) ?_
            refine lv_ixor hx hb dX8_layBound_148 ?_
            refine lv_iand hx hb dX8_layBound_149 ?_
            refine lv_topi (fun x38 ex38 => ?_)
            have hf := lt_some ex38 hf
            refine lv_istore_n (lv' := [(2, .int x38), (0, .ref (h 0)), (1, .int a1), (3, .int x2)]) hx hb dX8_layBound_150 rfl hl (by decide) rfl (fun ls hl => ?_)
            obtain ⟨x39, ex39⟩ : ∃ z : Int32, z = (x2 + 1) := ⟨_, rfl⟩
            have hf := lt_some ex39 hf
            refine lv_iinc (v := x39) (lv' := [(3, .int x39), (2, .int x38), (0, .ref (h 0)), (1, .int a1)]) hx hb dX8_layBound_151 hl (k := 3) rfl (by rw [ex39]; rfl) (by decide) rfl (fun ls hl => ?_)
            refine lv_goto (tgt := 4) hx hb dX8_layBound_154 (by decide) ?_
            cases hf
            exact ih _ _ _ _ _ _ G (lv_sub hl [2, 3, 1, 0] rfl) (hq1 _ rfl)
          · have hf := ifP c37 hf
            refine lv_iconst (v := (-1)) hx hb dX8_layBound_140 (by decide) ?_
            refine lv_goto (tgt := 149) hx hb dX8_layBound_141 (by decide) ?_
            refine lv_iand hx hb dX8_layBound_149 ?_
            refine lv_topi (fun x40 ex40 => ?_)
            have hf := lt_some ex40 hf
            refine lv_istore_n (lv' := [(2, .int x40), (0, .ref (h 0)), (1, .int a1), (3, .int x2)]) hx hb dX8_layBound_150 rfl hl (by decide) rfl (fun ls hl => ?_)
            obtain ⟨x41, ex41⟩ : ∃ z : Int32, z = (x2 + 1) := ⟨_, rfl⟩
            have hf := lt_some ex41 hf
            refine lv_iinc (v := x41) (lv' := [(3, .int x41), (2, .int x40), (0, .ref (h 0)), (1, .int a1)]) hx hb dX8_layBound_151 hl (k := 3) rfl (by rw [ex41]; rfl) (by decide) rfl (fun ls hl => ?_)
            refine lv_goto (tgt := 4) hx hb dX8_layBound_154 (by decide) ?_
            cases hf
            exact ih _ _ _ _ _ _ G (lv_sub hl [2, 3, 1, 0] rfl) (hq1 _ rfl)
        have L25 : ∀ (n : Nat) (x7 : Int32) (x8 : Int32) (st9 : GS) (H : Heap) (locs : List Loc) (ls : Array Slot), gG MSh D cy h A s st9 H locs → lv_has ls 7 [(0, .ref (h 0)), (1, .int a1), (2, .int x1), (3, .int x2), (4, .int x7), (5, .int x8)] → lp (uc3 (f_X8_layBound_L25 a1 x2)) n (x7, x8, st9) = some (st35) → W p l e (gR 3) s m args below meth c H locs 0 0 (MQ below (gQi MSh D cy h A r stF) args s 0 0 A) (F0 m 25 ls []) := by
          intro n
          induction n with
          | zero =>
            intro x7 x8 st9 H locs ls G hl hn
            cases hn
          | succ n ih =>
            intro x7 x8 st9 H locs ls G hl hn
            obtain ⟨q, hf, hq1, hq2⟩ := lp_q hn
            have hf : f_X8_layBound_L25 a1 x2 x7 x8 st9 = some q := hf
            unfold f_X8_layBound_L25 at hf
            refine lv_iload hx hb dX8_layBound_25 (lv_at hl 5 rfl) ?_
            refine lv_aload_n hx hb dX8_layBound_27 rfl (lv_at hl 0 rfl) ?_
            refine g_geti C G cl8 (C8 ok8_0) (j := 5) (by decide) (F8_5 ok8_0) k4_29 dX8_layBound_28 ?_
            refine lv_icmp_ge (tgt := 129) hx hb dX8_layBound_31 (by decide) (fun c10 => ?_) (fun c10 => ?_)
            · have hf := ifP c10 hf
              cases hf
              have hz9 := hq2 _ rfl
              cases hz9
              exact K129 _ _ _ G (lv_sub hl [0, 1, 2, 3] rfl)
            · have hf := ifN c10 hf
              refine lv_iload_n hx hb dX8_layBound_34 rfl (lv_at hl 1 rfl) ?_
              refine lv_iload_n hx hb dX8_layBound_35 rfl (lv_at hl 3 rfl) ?_
              obtain ⟨r11, hc36_11, hf⟩ := bI1_some hf
              refine g_callSi C G (As := [.int a1, .int x2]) (rest := []) (c_X8_has l D cy h a1 x2 st9 r11 hc36_11) v_X8_101 (Nat.le_of_ble_eq_true rfl) (Nat.le_of_ble_eq_true rfl) rfl hl.1 rfl (Nat.le_of_ble_eq_true rfl) dX8_layBound_36 ⟨Nat.zero_le _, Nat.zero_le _⟩ (fun H locs G => ?_)
              refine lv_if_eq (tgt := 129) hx hb dX8_layBound_39 (by decide) (fun c12 => ?_) (fun c12 => ?_)
              · have hf := ifP c12 hf
                cases hf
                have hz9 := hq2 _ rfl
                cases hz9
                exact K129 _ _ _ G (lv_sub hl [0, 1, 2, 3] rfl)
              · have hf := ifN c12 hf
                refine lv_aload_n hx hb dX8_layBound_42 rfl (lv_at hl 0 rfl) ?_
                refine g_getr (k := 2) C G cl8 (C8 ok8_0) (j := 7) (by decide) (F8_7 ok8_0) k4_31 dX8_layBound_43 ?_
                refine lv_iload_n hx hb dX8_layBound_46 rfl (lv_at hl 3 rfl) ?_
                obtain ⟨hi47_12, hf⟩ := gd_some hf
                refine g_iald C G (A8_7 ok8_0) (j := x2.toNatClampNeg) rfl hi47_12 dX8_layBound_47 ?_
                refine lv_iconst (v := 4) hx hb dX8_layBound_48 (by decide) ?_
                refine lv_icmp_ne (tgt := 129) hx hb dX8_layBound_49 (by decide) (fun c14 => ?_) (fun c14 => ?_)
                · have hf := ifN c14 hf
                  cases hf
                  have hz9 := hq2 _ rfl
                  cases hz9
                  exact K129 _ _ _ G (lv_sub hl [0, 1, 2, 3] rfl)
                · have hf := ifP c14 hf
                  refine lv_iload_n hx hb dX8_layBound_52 rfl (lv_at hl 1 rfl) ?_
                  refine lv_iload hx hb dX8_layBound_53 (lv_at hl 5 rfl) ?_
                  obtain ⟨r15, hc55_15, hf⟩ := bI1_some hf
                  refine g_callSi C G (As := [.int a1, .int x8]) (rest := []) (c_X8_has l D cy h a1 x8 st9 r15 hc55_15) v_X8_101 (Nat.le_of_ble_eq_true rfl) (Nat.le_of_ble_eq_true rfl) rfl hl.1 rfl (Nat.le_of_ble_eq_true rfl) dX8_layBound_55 ⟨Nat.zero_le _, Nat.zero_le _⟩ (fun H locs G => ?_)
                  obtain ⟨x17, hj77, hf⟩ := bI1_some hf
                  have K77 : ∀ (H : Heap) (locs : List Loc) (ls : Array Slot) , gG MSh D cy h A s st9 H locs → lv_has ls 7 [(0, .ref (h 0)), (1, .int a1), (2, .int x1), (3, .int x2), (4, .int x7), (5, .int x8)] → W p l e (gR 3) s m args below meth c H locs 0 0 (MQ below (gQi MSh D cy h A r stF) args s 0 0 A) (F0 m 77 ls [.int x17]) := by
                    intro H locs ls G hl
                    refine lv_istore (lv' := [(6, .int x17), (0, .ref (h 0)), (1, .int a1), (2, .int x1), (3, .int x2), (4, .int x7), (5, .int x8)]) hx hb dX8_layBound_77 hl (by decide) rfl (fun ls hl => ?_)
                    refine lv_iload hx hb dX8_layBound_79 (lv_at hl 0 rfl) ?_
                    refine lv_if_eq (tgt := 123) hx hb dX8_layBound_81 (by decide) (fun c20 => ?_) (fun c20 => ?_)
                    · have hf := ifP c20 hf
                      obtain ⟨x21, ex21⟩ : ∃ z : Int32, z = (x8 + 1) := ⟨_, rfl⟩
                      have hf := lt_some ex21 hf
                      refine lv_iinc (v := x21) (lv' := [(5, .int x21), (6, .int x17), (0, .ref (h 0)), (1, .int a1), (2, .int x1), (3, .int x2), (4, .int x7)]) hx hb dX8_layBound_123 hl (k := 6) rfl (by rw [ex21]; rfl) (by decide) rfl (fun ls hl => ?_)
                      refine lv_goto (tgt := 25) hx hb dX8_layBound_126 (by decide) ?_
                      cases hf
                      exact ih _ _ _ _ _ _ G (lv_sub hl [2, 3, 4, 5, 6, 0] rfl) (hq1 _ rfl)
                    · have hf := ifN c20 hf
                      refine lv_aload_n hx hb dX8_layBound_84 rfl (lv_at hl 1 rfl) ?_
                      refine g_getr (k := 5) C G cl8 (C8 ok8_0) (j := 11) (by decide) (F8_11 ok8_0) k4_35 dX8_layBound_85 ?_
                      refine lv_iload_n hx hb dX8_layBound_88 rfl (lv_at hl 4 rfl) ?_
                      obtain ⟨hi89_21, hf⟩ := gd_some hf
                      refine g_iald C G (A8_11 ok8_0) (j := x2.toNatClampNeg) rfl hi89_21 dX8_layBound_89 ?_
                      refine lv_iconst (v := (-1)) hx hb dX8_layBound_90 (by decide) ?_
                      refine lv_icmp_eq (tgt := 106) hx hb dX8_layBound_91 (by decide) (fun c23 => ?_) (fun c23 => ?_)
                      · have hf := ifP c23 hf
                        refine lv_aload_n hx hb dX8_layBound_106 rfl (lv_at hl 1 rfl) ?_
                        refine g_getr (k := 5) C G cl8 (C8 ok8_0) (j := 11) (by decide) (F8_11 ok8_0) k4_35 dX8_layBound_107 ?_
                        refine lv_iload_n hx hb dX8_layBound_110 rfl (lv_at hl 4 rfl) ?_
                        refine lv_iload hx hb dX8_layBound_111 (lv_at hl 6 rfl) ?_
                        obtain ⟨hi113_23, hf⟩ := gd_some hf
                        refine g_iast C G (A8_11 ok8_0) (j := x2.toNatClampNeg) rfl hi113_23 dX8_layBound_113 (fun st25 est25 H locs G => ?_)
                        have hf := lt_some est25 hf
                        refine lv_aload_n hx hb dX8_layBound_114 rfl (lv_at hl 1 rfl) ?_
                        refine lv_iload_n hx hb dX8_layBound_115 rfl (lv_at hl 4 rfl) ?_
                        refine lv_iload hx hb dX8_layBound_116 (lv_at hl 6 rfl) ?_
                        obtain ⟨r26, hc118_26, hf⟩ := bI1_some hf
                        refine g_callVi C G (As := [.int x2, .int x8]) (rest := []) (c_X8_apart l D cy h x2 x8 st25 r26 hc118_26) cl8 rfl (C8 ok8_0) v_X8_135 (Nat.le_of_ble_eq_true rfl) (Nat.le_of_ble_eq_true rfl) rfl hl.1 rfl (Nat.le_of_ble_eq_true rfl) dX8_layBound_118 ⟨Nat.zero_le _, Nat.zero_le _⟩ (fun H locs G => ?_)
                        refine lv_istore (lv' := [(4, .int r26), (6, .int x17), (0, .ref (h 0)), (1, .int a1), (2, .int x1), (3, .int x2), (5, .int x8)]) hx hb dX8_layBound_121 hl (by decide) rfl (fun ls hl => ?_)
                        obtain ⟨x27, ex27⟩ : ∃ z : Int32, z = (x8 + 1) := ⟨_, rfl⟩
                        have hf := lt_some ex27 hf
                        refine lv_iinc (v := x27) (lv' := [(5, .int x27), (4, .int r26), (6, .int x17), (0, .ref (h 0)), (1, .int a1), (2, .int x1), (3, .int x2)]) hx hb dX8_layBound_123 hl (k := 6) rfl (by rw [ex27]; rfl) (by decide) rfl (fun ls hl => ?_)
                        refine lv_goto (tgt := 25) hx hb dX8_layBound_126 (by decide) ?_
                        cases hf
                        exact ih _ _ _ _ _ _ G (lv_sub hl [3, 4, 5, 6, 1, 0] rfl) (hq1 _ rfl)
                      · have hf := ifN c23 hf
                        refine lv_aload_n hx hb dX8_layBound_94 rfl (lv_at hl 1 rfl) ?_
                        refine lv_iload_n hx hb dX8_layBound_95 rfl (lv_at hl 4 rfl) ?_
                        refine lv_iload hx hb dX8_layBound_96 (lv_at hl 6 rfl) ?_
                        obtain ⟨r28, hc98_28, hf⟩ := bI1_some hf
                        refine g_callVi C G (As := [.int x2, .int x8]) (rest := []) (c_X8_apart l D cy h x2 x8 st9 r28 hc98_28) cl8 rfl (C8 ok8_0) v_X8_135 (Nat.le_of_ble_eq_true rfl) (Nat.le_of_ble_eq_true rfl) rfl hl.1 rfl (Nat.le_of_ble_eq_true rfl) dX8_layBound_98 ⟨Nat.zero_le _, Nat.zero_le _⟩ (fun H locs G => ?_)
                        refine lv_iload hx hb dX8_layBound_101 (lv_at hl 5 rfl) ?_
                        refine lv_icmp_ge (tgt := 123) hx hb dX8_layBound_103 (by decide) (fun c29 => ?_) (fun c29 => ?_)
                        · have hf := ifP c29 hf
                          obtain ⟨x30, ex30⟩ : ∃ z : Int32, z = (x8 + 1) := ⟨_, rfl⟩
                          have hf := lt_some ex30 hf
                          refine lv_iinc (v := x30) (lv' := [(5, .int x30), (6, .int x17), (0, .ref (h 0)), (1, .int a1), (2, .int x1), (3, .int x2), (4, .int x7)]) hx hb dX8_layBound_123 hl (k := 6) rfl (by rw [ex30]; rfl) (by decide) rfl (fun ls hl => ?_)
                          refine lv_goto (tgt := 25) hx hb dX8_layBound_126 (by decide) ?_
                          cases hf
                          exact ih _ _ _ _ _ _ G (lv_sub hl [2, 3, 4, 5, 6, 0] rfl) (hq1 _ rfl)
                        · have hf := ifN c29 hf
                          refine lv_aload_n hx hb dX8_layBound_106 rfl (lv_at hl 1 rfl) ?_
                          refine g_getr (k := 5) C G cl8 (C8 ok8_0) (j := 11) (by decide) (F8_11 ok8_0) k4_35 dX8_layBound_107 ?_
                          refine lv_iload_n hx hb dX8_layBound_110 rfl (lv_at hl 4 rfl) ?_
                          refine lv_iload hx hb dX8_layBound_111 (lv_at hl 6 rfl) ?_
                          obtain ⟨hi113_30, hf⟩ := gd_some hf
                          refine g_iast C G (A8_11 ok8_0) (j := x2.toNatClampNeg) rfl hi113_30 dX8_layBound_113 (fun st32 est32 H locs G => ?_)
                          have hf := lt_some est32 hf
                          refine lv_aload_n hx hb dX8_layBound_114 rfl (lv_at hl 1 rfl) ?_
                          refine lv_iload_n hx hb dX8_layBound_115 rfl (lv_at hl 4 rfl) ?_
                          refine lv_iload hx hb dX8_layBound_116 (lv_at hl 6 rfl) ?_
                          obtain ⟨r33, hc118_33, hf⟩ := bI1_some hf
                          refine g_callVi C G (As := [.int x2, .int x8]) (rest := []) (c_X8_apart l D cy h x2 x8 st32 r33 hc118_33) cl8 rfl (C8 ok8_0) v_X8_135 (Nat.le_of_ble_eq_true rfl) (Nat.le_of_ble_eq_true rfl) rfl hl.1 rfl (Nat.le_of_ble_eq_true rfl) dX8_layBound_118 ⟨Nat.zero_le _, Nat.zero_le _⟩ (fun H locs G => ?_)
                          refine lv_istore (lv' := [(4, .int r33), (6, .int x17), (0, .ref (h 0)), (1, .int a1), (2, .int x1), (3, .int x2), (5, .int x8)]) hx hb dX8_layBound_121 hl (by decide) rfl (fun ls hl => ?_)
                          obtain ⟨x34, ex34⟩ : ∃ z : Int32, z = (x8 + 1) := ⟨_, rfl⟩
                          have hf := lt_some ex34 hf
                          refine lv_iinc (v := x34) (lv' := [(5, .int x34), (4, .int r33), (6, .int x17), (0, .ref (h 0)), (1, .int a1), (2, .int x1), (3, .int x2)]) hx hb dX8_layBound_123 hl (k := 6) rfl (by rw [ex34]; rfl) (by decide) rfl (fun ls hl => ?_)
                          refine lv_goto (tgt := 25) hx hb dX8_layBound_126 (by decide) ?_
                          cases hf
                          exact ih _ _ _ _ _ _ G (lv_sub hl [3, 4, 5, 6, 1, 0] rfl) (hq1 _ rfl)
                  clear hf
                  refine lv_if_eq (tgt := 76) hx hb dX8_layBound_58 (by decide) (fun c16 => ?_) (fun c16 => ?_)
                  · have hf := ifP c16 hj77
                    refine lv_iconst (v := 0) hx hb dX8_layBound_76 (by decide) ?_
                    cases hf
                    exact K77 _ _ _ G hl
                  · have hf := ifN c16 hj77
                    refine lv_aload_n hx hb dX8_layBound_61 rfl (lv_at hl 0 rfl) ?_
                    refine g_getr (k := 2) C G cl8 (C8 ok8_0) (j := 7) (by decide) (F8_7 ok8_0) k4_31 dX8_layBound_62 ?_
                    refine lv_iload hx hb dX8_layBound_65 (lv_at hl 5 rfl) ?_
                    obtain ⟨hi67_17, hf⟩ := gd_some hf
                    refine g_iald C G (A8_7 ok8_0) (j := x8.toNatClampNeg) rfl hi67_17 dX8_layBound_67 ?_
                    refine lv_iconst (v := 3) hx hb dX8_layBound_68 (by decide) ?_
                    refine lv_icmp_ne (tgt := 76) hx hb dX8_layBound_69 (by decide) (fun c19 => ?_) (fun c19 => ?_)
                    · have hf := ifN c19 hf
                      refine lv_iconst (v := 0) hx hb dX8_layBound_76 (by decide) ?_
                      cases hf
                      exact K77 _ _ _ G hl
                    · have hf := ifP c19 hf
                      refine lv_iconst (v := 1) hx hb dX8_layBound_72 (by decide) ?_
                      refine lv_goto (tgt := 77) hx hb dX8_layBound_73 (by decide) ?_
                      cases hf
                      exact K77 _ _ _ G hl
        exact L25 n _ _ _ _ _ _ G (lv_sub hl [2, 3, 4, 5, 1, 0] rfl) hn
  exact L4 n _ _ _ _ _ _ G (lv_sub hl [2, 3, 1, 0] rfl) hn

noncomputable def f_X8_isLane_L3 (a1 : Int32) (a2 : Int32) (a3 : Int32) (a4 : Int32) (st : GS) (x1 : Int32) : Option ((Int32) ⊕ (Int32)) := 
(if (gt st 0 5) ≤ x1 then some (.inr (1)) else 
bI1 (f_X8_has a1 x1) (fun r3 => 
(if r3 = 0 then lt_ (x1 + 1) (fun x5 => 
some (.inl (x5))) else 
gd ((4 * x1) + a2) 32 ((if a4 ≤ (gt st 3 (((4 * x1) + a2).toNatClampNeg)) then lt_ (x1 + 1) (fun x8 => 
some (.inl (x8))) else 
gd (((4 * x1) + 2) + a2) 32 ((if (gt st 3 ((((4 * x1) + 2) + a2).toNatClampNeg)) ≤ a3 then lt_ (x1 + 1) (fun x11 => 
some (.inl (x11))) else 
some (.inr (0)))))))))
noncomputable def f_X8_isLane (a1 : Int32) (a2 : Int32) (a3 : Int32) (a4 : Int32) (st : GS) : Option (Int32) := 
lpx (uc1 (f_X8_isLane_L3 a1 a2 a3 a4 st)) (0)
set_option maxRecDepth 100000 in
set_option maxHeartbeats 4000000 in
theorem c_X8_isLane (l : Launch) (D : va_G) (cy : ClassId) (h : Nat → Nat) (a1 : Int32) (a2 : Int32) (a3 : Int32) (a4 : Int32) (st : GS) (r : Int32) (hf : f_X8_isLane a1 a2 a3 a4 st = some r) : gMi l MSh D cy h yX8_isLane cX8_isLane 6 (some .boolean) 2 st [.ref (h 0), .int a1, .int a2, .int a3, .int a4] r st := by
  unfold f_X8_isLane at hf
  refine gMi_of (by decide) (Nat.le_of_ble_eq_true rfl) ?_
  intro p e s m args below meth c A ls C hr hlocks G hl
  have C : gC p s m args c cX8_isLane 6 "LaneOrderModel" MSh D cy h A := C
  have hl : lv_has ls 6 [(0, .ref (h 0)), (1, .int a1), (2, .int a2), (3, .int a3), (4, .int a4)] := hl
  have hx := C.1
  have hb := C.2.1
  have hown := C.2.2.2.1
  have htb := C.2.2.2.2.1
  refine lv_iconst (v := 0) hx hb dX8_isLane_0 (by decide) ?_
  refine lv_istore (lv' := [(5, .int 0), (0, .ref (h 0)), (1, .int a1), (2, .int a2), (3, .int a3), (4, .int a4)]) hx hb dX8_isLane_1 hl (by decide) rfl (fun ls hl => ?_)
  obtain ⟨n, hn⟩ := lpx_some hf
  have L3 : ∀ (n : Nat) (x1 : Int32) (H : Heap) (locs : List Loc) (ls : Array Slot), gG MSh D cy h A s st H locs → lv_has ls 6 [(0, .ref (h 0)), (1, .int a1), (2, .int a2), (3, .int a3), (4, .int a4), (5, .int x1)] → lp (uc1 (f_X8_isLane_L3 a1 a2 a3 a4 st)) n (x1) = some r → W p l e (gR 2) s m args below meth c H locs 0 0 (MQ below (gQi MSh D cy h A r st) args s 0 0 A) (F0 m 3 ls []) := by
    intro n
    induction n with
    | zero =>
      intro x1 H locs ls G hl hn
      cases hn
    | succ n ih =>
      intro x1 H locs ls G hl hn
      obtain ⟨q, hf, hq1, hq2⟩ := lp_q hn
      have hf : f_X8_isLane_L3 a1 a2 a3 a4 st x1 = some q := hf
      unfold f_X8_isLane_L3 at hf
      refine lv_iload hx hb dX8_isLane_3 (lv_at hl 5 rfl) ?_
      refine lv_aload_n hx hb dX8_isLane_5 rfl (lv_at hl 0 rfl) ?_
      refine g_geti C G cl8 (C8 ok8_0) (j := 5) (by decide) (F8_5 ok8_0) k4_29 dX8_isLane_6 ?_
      refine lv_icmp_ge (tgt := 62) hx hb dX8_isLane_9 (by decide) (fun c2 => ?_) (fun c2 => ?_)
      · have hf := ifP c2 hf
        refine lv_iconst (v := 1) hx hb dX8_isLane_62 (by decide) ?_
        cases hf
        have hz9 := hq2 _ rfl
        cases hz9
        exact g_zret C G (Or.inr rfl) hr hlocks dX8_isLane_63
      · have hf := ifN c2 hf
        refine lv_iload_n hx hb dX8_isLane_12 rfl (lv_at hl 1 rfl) ?_
        refine lv_iload hx hb dX8_isLane_13 (lv_at hl 5 rfl) ?_
        obtain ⟨r3, hc15_3, hf⟩ := bI1_some hf
        refine g_callSi C G (As := [.int a1, .int x1]) (rest := []) (c_X8_has l D cy h a1 x1 st r3 hc15_3) v_X8_101 (Nat.le_of_ble_eq_true rfl) (Nat.le_of_ble_eq_true rfl) rfl hl.1 rfl (Nat.le_of_ble_eq_true rfl) dX8_isLane_15 ⟨Nat.zero_le _, Nat.zero_le _⟩ (fun H locs G => ?_)
        refine lv_if_eq (tgt := 56) hx hb dX8_isLane_18 (by decide) (fun c4 => ?_) (fun c4 => ?_)
        · have hf := ifP c4 hf
          obtain ⟨x5, ex5⟩ : ∃ z : Int32, z = (x1 + 1) := ⟨_, rfl⟩
          have hf := lt_some ex5 hf
          refine lv_iinc (v := x5) (lv' := [(5, .int x5), (0, .ref (h 0)), (1, .int a1), (2, .int a2), (3, .int a3), (4, .int a4)]) hx hb dX8_isLane_56 hl (k := 5) rfl (by rw [ex5]; rfl) (by decide) rfl (fun ls hl => ?_)
          refine lv_goto (tgt := 3) hx hb dX8_isLane_59 (by decide) ?_
          cases hf
          exact ih _ _ _ _ G (lv_sub hl [1, 2, 3, 4, 5, 0] rfl) (hq1 _ rfl)
        · have hf := ifN c4 hf
          refine lv_aload_n hx hb dX8_isLane_21 rfl (lv_at hl 0 rfl) ?_
          refine g_getr (k := 3) C G cl8 (C8 ok8_0) (j := 8) (by decide) (F8_8 ok8_0) k4_32 dX8_isLane_22 ?_
          refine lv_iconst (v := 4) hx hb dX8_isLane_25 (by decide) ?_
          refine lv_iload hx hb dX8_isLane_26 (lv_at hl 5 rfl) ?_
          refine lv_imul hx hb dX8_isLane_28 ?_
          refine lv_iload_n hx hb dX8_isLane_29 rfl (lv_at hl 2 rfl) ?_
          refine lv_iadd hx hb dX8_isLane_30 ?_
          obtain ⟨hi31_5, hf⟩ := gd_some hf
          refine g_iald C G (A8_8 ok8_0) (j := ((4 * x1) + a2).toNatClampNeg) rfl hi31_5 dX8_isLane_31 ?_
          refine lv_iload hx hb dX8_isLane_32 (lv_at hl 4 rfl) ?_
          refine lv_icmp_ge (tgt := 56) hx hb dX8_isLane_34 (by decide) (fun c7 => ?_) (fun c7 => ?_)
          · have hf := ifP c7 hf
            obtain ⟨x8, ex8⟩ : ∃ z : Int32, z = (x1 + 1) := ⟨_, rfl⟩
            have hf := lt_some ex8 hf
            refine lv_iinc (v := x8) (lv' := [(5, .int x8), (0, .ref (h 0)), (1, .int a1), (2, .int a2), (3, .int a3), (4, .int a4)]) hx hb dX8_isLane_56 hl (k := 5) rfl (by rw [ex8]; rfl) (by decide) rfl (fun ls hl => ?_)
            refine lv_goto (tgt := 3) hx hb dX8_isLane_59 (by decide) ?_
            cases hf
            exact ih _ _ _ _ G (lv_sub hl [1, 2, 3, 4, 5, 0] rfl) (hq1 _ rfl)
          · have hf := ifN c7 hf
            refine lv_aload_n hx hb dX8_isLane_37 rfl (lv_at hl 0 rfl) ?_
            refine g_getr (k := 3) C G cl8 (C8 ok8_0) (j := 8) (by decide) (F8_8 ok8_0) k4_32 dX8_isLane_38 ?_
            refine lv_iconst (v := 4) hx hb dX8_isLane_41 (by decide) ?_
            refine lv_iload hx hb dX8_isLane_42 (lv_at hl 5 rfl) ?_
            refine lv_imul hx hb dX8_isLane_44 ?_
            refine lv_iconst (v := 2) hx hb dX8_isLane_45 (by decide) ?_
            refine lv_iadd hx hb dX8_isLane_46 ?_
            refine lv_iload_n hx hb dX8_isLane_47 rfl (lv_at hl 2 rfl) ?_
            refine lv_iadd hx hb dX8_isLane_48 ?_
            obtain ⟨hi49_8, hf⟩ := gd_some hf
            refine g_iald C G (A8_8 ok8_0) (j := (((4 * x1) + 2) + a2).toNatClampNeg) rfl hi49_8 dX8_isLane_49 ?_
            refine lv_iload_n hx hb dX8_isLane_50 rfl (lv_at hl 3 rfl) ?_
            refine lv_icmp_le (tgt := 56) hx hb dX8_isLane_51 (by decide) (fun c10 => ?_) (fun c10 => ?_)
            · have hf := ifP c10 hf
              obtain ⟨x11, ex11⟩ : ∃ z : Int32, z = (x1 + 1) := ⟨_, rfl⟩
              have hf := lt_some ex11 hf
              refine lv_iinc (v := x11) (lv' := [(5, .int x11), (0, .ref (h 0)), (1, .int a1), (2, .int a2), (3, .int a3), (4, .int a4)]) hx hb dX8_isLane_56 hl (k := 5) rfl (by rw [ex11]; rfl) (by decide) rfl (fun ls hl => ?_)
              refine lv_goto (tgt := 3) hx hb dX8_isLane_59 (by decide) ?_
              cases hf
              exact ih _ _ _ _ G (lv_sub hl [1, 2, 3, 4, 5, 0] rfl) (hq1 _ rfl)
            · have hf := ifN c10 hf
              refine lv_iconst (v := 0) hx hb dX8_isLane_54 (by decide) ?_
              cases hf
              have hz9 := hq2 _ rfl
              cases hz9
              exact g_zret C G (Or.inl rfl) hr hlocks dX8_isLane_55
  exact L3 n _ _ _ _ G (lv_sub hl [1, 2, 3, 4, 5, 0] rfl) hn

noncomputable def f_X8_tryLane (a1 : Int32) (a2 : Int32) (a3 : Int32) (a4 : Int32) (st : GS) : Option (GS) := 
bI1 ((if (gt st 0 14) < (a4 - a3) then some (1) else 
(if (a4 - a3) = (gt st 0 14) then (if a2 = (gt st 0 12) then (if (gt st 0 13) ≤ a3 then some (0) else 
some (1)) else 
some (0)) else 
some (0)))) (fun (x2 : Int32) => 
(if a4 ≤ a3 then some (st) else 
(if x2 = 0 then some (st) else 
bI1 (f_X8_isLane a1 a2 a3 a4 st) (fun r8 => 
(if r8 = 0 then some (st) else 
lt_ (sv st 0 12 a2) (fun st10 => 
lt_ (sv st10 0 13 a3) (fun st11 => 
lt_ (sv st11 0 14 (a4 - a3)) (fun st12 => 
some (st12)))))))))
set_option maxRecDepth 100000 in
set_option maxHeartbeats 4000000 in
theorem c_X8_tryLane (l : Launch) (D : va_G) (cy : ClassId) (h : Nat → Nat) (a1 : Int32) (a2 : Int32) (a3 : Int32) (a4 : Int32) (st : GS) (stF : GS) (hf : f_X8_tryLane a1 a2 a3 a4 st = some stF) : gMv l MSh D cy h yX8_tryLane cX8_tryLane 6 none 3 st [.ref (h 0), .int a1, .int a2, .int a3, .int a4] stF := by
  unfold f_X8_tryLane at hf
  refine gMv_of (by decide) (Nat.le_of_ble_eq_true rfl) ?_
  intro p e s m args below meth c A ls C hr hlocks G hl
  have C : gC p s m args c cX8_tryLane 6 "LaneOrderModel" MSh D cy h A := C
  have hl : lv_has ls 6 [(0, .ref (h 0)), (1, .int a1), (2, .int a2), (3, .int a3), (4, .int a4)] := hl
  have hx := C.1
  have hb := C.2.1
  have hown := C.2.2.2.1
  have htb := C.2.2.2.2.1
  refine lv_iload hx hb dX8_tryLane_0 (lv_at hl 4 rfl) ?_
  refine lv_iload_n hx hb dX8_tryLane_2 rfl (lv_at hl 3 rfl) ?_
  refine lv_isub hx hb dX8_tryLane_3 ?_
  refine lv_aload_n hx hb dX8_tryLane_4 rfl (lv_at hl 0 rfl) ?_
  refine g_geti C G cl8 (C8 ok8_0) (j := 14) (by decide) (F8_14 ok8_0) k4_38 dX8_tryLane_5 ?_
  obtain ⟨x2, hj43, hf⟩ := bI1_some hf
  have K43 : ∀ (H : Heap) (locs : List Loc) (ls : Array Slot) , gG MSh D cy h A s st H locs → lv_has ls 6 [(0, .ref (h 0)), (1, .int a1), (2, .int a2), (3, .int a3), (4, .int a4)] → W p l e (gR 3) s m args below meth c H locs 0 0 (MQ below (gQv MSh D cy h A stF) args s 0 0 A) (F0 m 43 ls [.int x2]) := by
    intro H locs ls G hl
    refine lv_istore (lv' := [(5, .int x2), (0, .ref (h 0)), (1, .int a1), (2, .int a2), (3, .int a3), (4, .int a4)]) hx hb dX8_tryLane_43 hl (by decide) rfl (fun ls hl => ?_)
    refine lv_iload hx hb dX8_tryLane_45 (lv_at hl 5 rfl) ?_
    refine lv_iload_n hx hb dX8_tryLane_47 rfl (lv_at hl 4 rfl) ?_
    refine lv_icmp_le (tgt := 86) hx hb dX8_tryLane_48 (by decide) (fun c6 => ?_) (fun c6 => ?_)
    · have hf := ifP c6 hf
      cases hf
      exact g_vret C G hr hlocks dX8_tryLane_86
    · have hf := ifN c6 hf
      refine lv_iload hx hb dX8_tryLane_51 (lv_at hl 0 rfl) ?_
      refine lv_if_eq (tgt := 86) hx hb dX8_tryLane_53 (by decide) (fun c7 => ?_) (fun c7 => ?_)
      · have hf := ifP c7 hf
        cases hf
        exact g_vret C G hr hlocks dX8_tryLane_86
      · have hf := ifN c7 hf
        refine lv_aload_n hx hb dX8_tryLane_56 rfl (lv_at hl 1 rfl) ?_
        refine lv_iload_n hx hb dX8_tryLane_57 rfl (lv_at hl 2 rfl) ?_
        refine lv_iload_n hx hb dX8_tryLane_58 rfl (lv_at hl 3 rfl) ?_
        refine lv_iload_n hx hb dX8_tryLane_59 rfl (lv_at hl 4 rfl) ?_
        refine lv_iload hx hb dX8_tryLane_60 (lv_at hl 5 rfl) ?_
        obtain ⟨r8, hc62_8, hf⟩ := bI1_some hf
        refine g_callVi C G (As := [.int a1, .int a2, .int a3, .int a4]) (rest := []) (c_X8_isLane l D cy h a1 a2 a3 a4 st r8 hc62_8) cl8 rfl (C8 ok8_0) v_X8_148 (Nat.le_of_ble_eq_true rfl) (Nat.le_of_ble_eq_true rfl) rfl hl.1 rfl (Nat.le_of_ble_eq_true rfl) dX8_tryLane_62 ⟨Nat.zero_le _, Nat.zero_le _⟩ (fun H locs G => ?_)
        refine lv_if_eq (tgt := 86) hx hb dX8_tryLane_65 (by decide) (fun c9 => ?_) (fun c9 => ?_)
        · have hf := ifP c9 hf
          cases hf
          exact g_vret C G hr hlocks dX8_tryLane_86
        · have hf := ifN c9 hf
          refine lv_aload_n hx hb dX8_tryLane_68 rfl (lv_at hl 1 rfl) ?_
          refine lv_iload_n hx hb dX8_tryLane_69 rfl (lv_at hl 3 rfl) ?_
          refine g_puti C G cl8 (C8 ok8_0) (j := 12) (by decide) (F8_12 ok8_0) k4_36 rfl rfl rfl dX8_tryLane_70 (fun st10 est10 H locs G => ?_)
          have hf := lt_some est10 hf
          refine lv_aload_n hx hb dX8_tryLane_73 rfl (lv_at hl 1 rfl) ?_
          refine lv_iload_n hx hb dX8_tryLane_74 rfl (lv_at hl 4 rfl) ?_
          refine g_puti C G cl8 (C8 ok8_0) (j := 13) (by decide) (F8_13 ok8_0) k4_37 rfl rfl rfl dX8_tryLane_75 (fun st11 est11 H locs G => ?_)
          have hf := lt_some est11 hf
          refine lv_aload_n hx hb dX8_tryLane_78 rfl (lv_at hl 1 rfl) ?_
          refine lv_iload hx hb dX8_tryLane_79 (lv_at hl 5 rfl) ?_
          refine lv_iload_n hx hb dX8_tryLane_81 rfl (lv_at hl 4 rfl) ?_
          refine lv_isub hx hb dX8_tryLane_82 ?_
          refine g_puti C G cl8 (C8 ok8_0) (j := 14) (by decide) (F8_14 ok8_0) k4_38 rfl rfl rfl dX8_tryLane_83 (fun st12 est12 H locs G => ?_)
          have hf := lt_some est12 hf
          cases hf
          exact g_vret C G hr hlocks dX8_tryLane_86
  clear hf
  refine lv_icmp_gt (tgt := 38) hx hb dX8_tryLane_8 (by decide) (fun c1 => ?_) (fun c1 => ?_)
  · have hf := ifP c1 hj43
    refine lv_iconst (v := 1) hx hb dX8_tryLane_38 (by decide) ?_
    refine lv_goto (tgt := 43) hx hb dX8_tryLane_39 (by decide) ?_
    cases hf
    exact K43 _ _ _ G hl
  · have hf := ifN c1 hj43
    refine lv_iload hx hb dX8_tryLane_11 (lv_at hl 4 rfl) ?_
    refine lv_iload_n hx hb dX8_tryLane_13 rfl (lv_at hl 3 rfl) ?_
    refine lv_isub hx hb dX8_tryLane_14 ?_
    refine lv_aload_n hx hb dX8_tryLane_15 rfl (lv_at hl 0 rfl) ?_
    refine g_geti C G cl8 (C8 ok8_0) (j := 14) (by decide) (F8_14 ok8_0) k4_38 dX8_tryLane_16 ?_
    refine lv_icmp_ne (tgt := 42) hx hb dX8_tryLane_19 (by decide) (fun c3 => ?_) (fun c3 => ?_)
    · have hf := ifN c3 hf
      refine lv_iconst (v := 0) hx hb dX8_tryLane_42 (by decide) ?_
      cases hf
      exact K43 _ _ _ G hl
    · have hf := ifP c3 hf
      refine lv_iload_n hx hb dX8_tryLane_22 rfl (lv_at hl 2 rfl) ?_
      refine lv_aload_n hx hb dX8_tryLane_23 rfl (lv_at hl 0 rfl) ?_
      refine g_geti C G cl8 (C8 ok8_0) (j := 12) (by decide) (F8_12 ok8_0) k4_36 dX8_tryLane_24 ?_
      refine lv_icmp_ne (tgt := 42) hx hb dX8_tryLane_27 (by decide) (fun c4 => ?_) (fun c4 => ?_)
      · have hf := ifN c4 hf
        refine lv_iconst (v := 0) hx hb dX8_tryLane_42 (by decide) ?_
        cases hf
        exact K43 _ _ _ G hl
      · have hf := ifP c4 hf
        refine lv_iload_n hx hb dX8_tryLane_30 rfl (lv_at hl 3 rfl) ?_
        refine lv_aload_n hx hb dX8_tryLane_31 rfl (lv_at hl 0 rfl) ?_
        refine g_geti C G cl8 (C8 ok8_0) (j := 13) (by decide) (F8_13 ok8_0) k4_37 dX8_tryLane_32 ?_
        refine lv_icmp_ge (tgt := 42) hx hb dX8_tryLane_35 (by decide) (fun c5 => ?_) (fun c5 => ?_)
        · have hf := ifP c5 hf
          refine lv_iconst (v := 0) hx hb dX8_tryLane_42 (by decide) ?_
          cases hf
          exact K43 _ _ _ G hl
        · have hf := ifN c5 hf
          refine lv_iconst (v := 1) hx hb dX8_tryLane_38 (by decide) ?_
          refine lv_goto (tgt := 43) hx hb dX8_tryLane_39 (by decide) ?_
          cases hf
          exact K43 _ _ _ G hl

noncomputable def f_X8_layLane_L23 (a1 : Int32) (x4 : Int32) (x7 : Int32) (st8 : GS) : Option ((Int32 × GS) ⊕ (GS)) := 
(if 64 ≤ x7 then some (.inr (st8)) else 
lt_ (x7 / 8) (fun x10 => 
lt_ (irem x7 8) (fun x11 => 
bI1 (f_X8_has a1 x10) (fun r12 => 
(if r12 = 0 then lt_ (x7 + 1) (fun x14 => 
some (.inl (x14, st8))) else 
bI1 (f_X8_has a1 x11) (fun r15 => 
(if r15 = 0 then lt_ (x7 + 1) (fun x17 => 
some (.inl (x17, st8))) else 
gd (((4 * x10) + 2) + x4) 32 (gd ((4 * x11) + x4) 32 (bI1 (f_X8_tryLane a1 x4 (gt st8 3 ((((4 * x10) + 2) + x4).toNatClampNeg)) (gt st8 3 (((4 * x11) + x4).toNatClampNeg)) st8) (fun st20 => 
lt_ (x7 + 1) (fun x21 => 
some (.inl (x21, st20)))))))))))))
noncomputable def f_X8_layLane_L17 (a1 : Int32) (x4 : Int32) (st5 : GS) : Option ((Int32 × GS) ⊕ (GS)) := 
(if x4 < 0 then some (.inr (st5)) else 
bI1 (lpx (uc2 (f_X8_layLane_L23 a1 x4)) (0, st5)) (fun st22 => 
lt_ (x4 + (-1)) (fun x23 => 
some (.inl (x23, st22)))))
noncomputable def f_X8_layLane (a1 : Int32) (st : GS) : Option (GS) := 
lt_ (sv st 0 12 (-1)) (fun st1 => 
lt_ (sv st1 0 13 (-1)) (fun st2 => 
lt_ (sv st2 0 14 0) (fun st3 => 
bI1 (lpx (uc2 (f_X8_layLane_L17 a1)) (1, st3)) (fun st24 => 
some (st24)))))
set_option maxRecDepth 100000 in
set_option maxHeartbeats 4000000 in
theorem c_X8_layLane (l : Launch) (D : va_G) (cy : ClassId) (h : Nat → Nat) (a1 : Int32) (st : GS) (stF : GS) (hf : f_X8_layLane a1 st = some stF) : gMv l MSh D cy h yX8_layLane cX8_layLane 6 none 4 st [.ref (h 0), .int a1] stF := by
  unfold f_X8_layLane at hf
  refine gMv_of (by decide) (Nat.le_of_ble_eq_true rfl) ?_
  intro p e s m args below meth c A ls C hr hlocks G hl
  have C : gC p s m args c cX8_layLane 6 "LaneOrderModel" MSh D cy h A := C
  have hl : lv_has ls 6 [(0, .ref (h 0)), (1, .int a1)] := hl
  have hx := C.1
  have hb := C.2.1
  have hown := C.2.2.2.1
  have htb := C.2.2.2.2.1
  refine lv_aload_n hx hb dX8_layLane_0 rfl (lv_at hl 0 rfl) ?_
  refine lv_iconst (v := (-1)) hx hb dX8_layLane_1 (by decide) ?_
  refine g_puti C G cl8 (C8 ok8_0) (j := 12) (by decide) (F8_12 ok8_0) k4_36 rfl rfl rfl dX8_layLane_2 (fun st1 est1 H locs G => ?_)
  have hf := lt_some est1 hf
  refine lv_aload_n hx hb dX8_layLane_5 rfl (lv_at hl 0 rfl) ?_
  refine lv_iconst (v := (-1)) hx hb dX8_layLane_6 (by decide) ?_
  refine g_puti C G cl8 (C8 ok8_0) (j := 13) (by decide) (F8_13 ok8_0) k4_37 rfl rfl rfl dX8_layLane_7 (fun st2 est2 H locs G => ?_)
  have hf := lt_some est2 hf
  refine lv_aload_n hx hb dX8_layLane_10 rfl (lv_at hl 0 rfl) ?_
  refine lv_iconst (v := 0) hx hb dX8_layLane_11 (by decide) ?_
  refine g_puti C G cl8 (C8 ok8_0) (j := 14) (by decide) (F8_14 ok8_0) k4_38 rfl rfl rfl dX8_layLane_12 (fun st3 est3 H locs G => ?_)
  have hf := lt_some est3 hf
  refine lv_iconst (v := 1) hx hb dX8_layLane_15 (by decide) ?_
  refine lv_istore_n (lv' := [(2, .int 1), (0, .ref (h 0)), (1, .int a1)]) hx hb dX8_layLane_16 rfl hl (by decide) rfl (fun ls hl => ?_)
  obtain ⟨st24, hn, hf⟩ := bI1_some hf
  obtain ⟨n, hn⟩ := lpx_some hn
  have K101 : ∀ (H : Heap) (locs : List Loc) (ls : Array Slot), gG MSh D cy h A s st24 H locs → lv_has ls 6 [] → W p l e (gR 4) s m args below meth c H locs 0 0 (MQ below (gQv MSh D cy h A stF) args s 0 0 A) (F0 m 101 ls []) := by
    intro H locs ls G hl
    cases hf
    exact g_vret C G hr hlocks dX8_layLane_101
  have L17 : ∀ (n : Nat) (x4 : Int32) (st5 : GS) (H : Heap) (locs : List Loc) (ls : Array Slot), gG MSh D cy h A s st5 H locs → lv_has ls 6 [(0, .ref (h 0)), (1, .int a1), (2, .int x4)] → lp (uc2 (f_X8_layLane_L17 a1)) n (x4, st5) = some (st24) → W p l e (gR 4) s m args below meth c H locs 0 0 (MQ below (gQv MSh D cy h A stF) args s 0 0 A) (F0 m 17 ls []) := by
    intro n
    induction n with
    | zero =>
      intro x4 st5 H locs ls G hl hn
      cases hn
    | succ n ih =>
      intro x4 st5 H locs ls G hl hn
      obtain ⟨q, hf, hq1, hq2⟩ := lp_q hn
      have hf : f_X8_layLane_L17 a1 x4 st5 = some q := hf
      unfold f_X8_layLane_L17 at hf
      refine lv_iload_n hx hb dX8_layLane_17 rfl (lv_at hl 2 rfl) ?_
      refine lv_if_lt (tgt := 101) hx hb dX8_layLane_18 (by decide) (fun c6 => ?_) (fun c6 => ?_)
      · have hf := ifP c6 hf
        cases hf
        have hz9 := hq2 _ rfl
        cases hz9
        exact K101 _ _ _ G (lv_sub hl [] rfl)
      · have hf := ifN c6 hf
        refine lv_iconst (v := 0) hx hb dX8_layLane_21 (by decide) ?_
        refine lv_istore_n (lv' := [(3, .int 0), (0, .ref (h 0)), (1, .int a1), (2, .int x4)]) hx hb dX8_layLane_22 rfl hl (by decide) rfl (fun ls hl => ?_)
        obtain ⟨st22, hn, hf⟩ := bI1_some hf
        obtain ⟨n, hn⟩ := lpx_some hn
        have K95 : ∀ (H : Heap) (locs : List Loc) (ls : Array Slot), gG MSh D cy h A s st22 H locs → lv_has ls 6 [(0, .ref (h 0)), (1, .int a1), (2, .int x4)] → W p l e (gR 4) s m args below meth c H locs 0 0 (MQ below (gQv MSh D cy h A stF) args s 0 0 A) (F0 m 95 ls []) := by
          intro H locs ls G hl
          obtain ⟨x23, ex23⟩ : ∃ z : Int32, z = (x4 + (-1)) := ⟨_, rfl⟩
          have hf := lt_some ex23 hf
          refine lv_iinc (v := x23) (lv' := [(2, .int x23), (0, .ref (h 0)), (1, .int a1)]) hx hb dX8_layLane_95 hl (k := 2) rfl (by rw [ex23]; rfl) (by decide) rfl (fun ls hl => ?_)
          refine lv_goto (tgt := 17) hx hb dX8_layLane_98 (by decide) ?_
          cases hf
          exact ih _ _ _ _ _ G (lv_sub hl [1, 2, 0] rfl) (hq1 _ rfl)
        have L23 : ∀ (n : Nat) (x7 : Int32) (st8 : GS) (H : Heap) (locs : List Loc) (ls : Array Slot), gG MSh D cy h A s st8 H locs → lv_has ls 6 [(0, .ref (h 0)), (1, .int a1), (2, .int x4), (3, .int x7)] → lp (uc2 (f_X8_layLane_L23 a1 x4)) n (x7, st8) = some (st22) → W p l e (gR 4) s m args below meth c H locs 0 0 (MQ below (gQv MSh D cy h A stF) args s 0 0 A) (F0 m 23 ls []) := by
          intro n
          induction n with
          | zero =>
            intro x7 st8 H locs ls G hl hn
            cases hn
          | succ n ih =>
            intro x7 st8 H locs ls G hl hn
            obtain ⟨q, hf, hq1, hq2⟩ := lp_q hn
            have hf : f_X8_layLane_L23 a1 x4 x7 st8 = some q := hf
            unfold f_X8_layLane_L23 at hf
            refine lv_iload_n hx hb dX8_layLane_23 rfl (lv_at hl 3 rfl) ?_
            refine lv_bipush (v := 64) hx hb dX8_layLane_24 (by decide) ?_
            refine lv_icmp_ge (tgt := 95) hx hb dX8_layLane_26 (by decide) (fun c9 => ?_) (fun c9 => ?_)
            · have hf := ifP c9 hf
              cases hf
              have hz9 := hq2 _ rfl
              cases hz9
              exact K95 _ _ _ G (lv_sub hl [0, 1, 2] rfl)
            · have hf := ifN c9 hf
              refine lv_iload_n hx hb dX8_layLane_29 rfl (lv_at hl 3 rfl) ?_
              refine lv_bipush (v := 8) hx hb dX8_layLane_30 (by decide) ?_
              refine lv_idiv hx hb dX8_layLane_32 (by decide) ?_
              refine lv_topi (fun x10 ex10 => ?_)
              have hf := lt_some ex10 hf
              refine lv_istore (lv' := [(4, .int x10), (0, .ref (h 0)), (1, .int a1), (2, .int x4), (3, .int x7)]) hx hb dX8_layLane_33 hl (by decide) rfl (fun ls hl => ?_)
              refine lv_iload_n hx hb dX8_layLane_35 rfl (lv_at hl 4 rfl) ?_
              refine lv_bipush (v := 8) hx hb dX8_layLane_36 (by decide) ?_
              refine g_irem C dX8_layLane_38 (by decide) ?_
              refine lv_topi (fun x11 ex11 => ?_)
              have hf := lt_some ex11 hf
              refine lv_istore (lv' := [(5, .int x11), (4, .int x10), (0, .ref (h 0)), (1, .int a1), (2, .int x4), (3, .int x7)]) hx hb dX8_layLane_39 hl (by decide) rfl (fun ls hl => ?_)
              refine lv_iload_n hx hb dX8_layLane_41 rfl (lv_at hl 3 rfl) ?_
              refine lv_iload hx hb dX8_layLane_42 (lv_at hl 1 rfl) ?_
              obtain ⟨r12, hc44_12, hf⟩ := bI1_some hf
              refine g_callSi C G (As := [.int a1, .int x10]) (rest := []) (c_X8_has l D cy h a1 x10 st8 r12 hc44_12) v_X8_101 (Nat.le_of_ble_eq_true rfl) (Nat.le_of_ble_eq_true rfl) rfl hl.1 rfl (Nat.le_of_ble_eq_true rfl) dX8_layLane_44 ⟨Nat.zero_le _, Nat.zero_le _⟩ (fun H locs G => ?_)
              refine lv_if_eq (tgt := 89) hx hb dX8_layLane_47 (by decide) (fun c13 => ?_) (fun c13 => ?_)
              · have hf := ifP c13 hf
                obtain ⟨x14, ex14⟩ : ∃ z : Int32, z = (x7 + 1) := ⟨_, rfl⟩
                have hf := lt_some ex14 hf
                refine lv_iinc (v := x14) (lv' := [(3, .int x14), (5, .int x11), (4, .int x10), (0, .ref (h 0)), (1, .int a1), (2, .int x4)]) hx hb dX8_layLane_89 hl (k := 5) rfl (by rw [ex14]; rfl) (by decide) rfl (fun ls hl => ?_)
                refine lv_goto (tgt := 23) hx hb dX8_layLane_92 (by decide) ?_
                cases hf
                exact ih _ _ _ _ _ G (lv_sub hl [3, 4, 5, 0] rfl) (hq1 _ rfl)
              · have hf := ifN c13 hf
                refine lv_iload_n hx hb dX8_layLane_50 rfl (lv_at hl 3 rfl) ?_
                refine lv_iload hx hb dX8_layLane_51 (lv_at hl 0 rfl) ?_
                obtain ⟨r15, hc53_15, hf⟩ := bI1_some hf
                refine g_callSi C G (As := [.int a1, .int x11]) (rest := []) (c_X8_has l D cy h a1 x11 st8 r15 hc53_15) v_X8_101 (Nat.le_of_ble_eq_true rfl) (Nat.le_of_ble_eq_true rfl) rfl hl.1 rfl (Nat.le_of_ble_eq_true rfl) dX8_layLane_53 ⟨Nat.zero_le _, Nat.zero_le _⟩ (fun H locs G => ?_)
                refine lv_if_eq (tgt := 89) hx hb dX8_layLane_56 (by decide) (fun c16 => ?_) (fun c16 => ?_)
                · have hf := ifP c16 hf
                  obtain ⟨x17, ex17⟩ : ∃ z : Int32, z = (x7 + 1) := ⟨_, rfl⟩
                  have hf := lt_some ex17 hf
                  refine lv_iinc (v := x17) (lv' := [(3, .int x17), (5, .int x11), (4, .int x10), (0, .ref (h 0)), (1, .int a1), (2, .int x4)]) hx hb dX8_layLane_89 hl (k := 5) rfl (by rw [ex17]; rfl) (by decide) rfl (fun ls hl => ?_)
                  refine lv_goto (tgt := 23) hx hb dX8_layLane_92 (by decide) ?_
                  cases hf
                  exact ih _ _ _ _ _ G (lv_sub hl [3, 4, 5, 0] rfl) (hq1 _ rfl)
                · have hf := ifN c16 hf
                  refine lv_aload_n hx hb dX8_layLane_59 rfl (lv_at hl 2 rfl) ?_
                  refine lv_iload_n hx hb dX8_layLane_60 rfl (lv_at hl 3 rfl) ?_
                  refine lv_iload_n hx hb dX8_layLane_61 rfl (lv_at hl 4 rfl) ?_
                  refine lv_aload_n hx hb dX8_layLane_62 rfl (lv_at hl 2 rfl) ?_
                  refine g_getr (k := 3) C G cl8 (C8 ok8_0) (j := 8) (by decide) (F8_8 ok8_0) k4_32 dX8_layLane_63 ?_
                  refine lv_iconst (v := 4) hx hb dX8_layLane_66 (by decide) ?_
                  refine lv_iload hx hb dX8_layLane_67 (lv_at hl 1 rfl) ?_
                  refine lv_imul hx hb dX8_layLane_69 ?_
                  refine lv_iconst (v := 2) hx hb dX8_layLane_70 (by decide) ?_
                  refine lv_iadd hx hb dX8_layLane_71 ?_
                  refine lv_iload_n hx hb dX8_layLane_72 rfl (lv_at hl 4 rfl) ?_
                  refine lv_iadd hx hb dX8_layLane_73 ?_
                  obtain ⟨hi74_17, hf⟩ := gd_some hf
                  refine g_iald C G (A8_8 ok8_0) (j := (((4 * x10) + 2) + x4).toNatClampNeg) rfl hi74_17 dX8_layLane_74 ?_
                  refine lv_aload_n hx hb dX8_layLane_75 rfl (lv_at hl 2 rfl) ?_
                  refine g_getr (k := 3) C G cl8 (C8 ok8_0) (j := 8) (by decide) (F8_8 ok8_0) k4_32 dX8_layLane_76 ?_
                  refine lv_iconst (v := 4) hx hb dX8_layLane_79 (by decide) ?_
                  refine lv_iload hx hb dX8_layLane_80 (lv_at hl 0 rfl) ?_
                  refine lv_imul hx hb dX8_layLane_82 ?_
                  refine lv_iload_n hx hb dX8_layLane_83 rfl (lv_at hl 4 rfl) ?_
                  refine lv_iadd hx hb dX8_layLane_84 ?_
                  obtain ⟨hi85_18, hf⟩ := gd_some hf
                  refine g_iald C G (A8_8 ok8_0) (j := ((4 * x11) + x4).toNatClampNeg) rfl hi85_18 dX8_layLane_85 ?_
                  obtain ⟨st20, hc86_20, hf⟩ := bI1_some hf
                  refine g_callVv C G (As := [.int a1, .int x4, .int (gt st8 3 ((((4 * x10) + 2) + x4).toNatClampNeg)), .int (gt st8 3 (((4 * x11) + x4).toNatClampNeg))]) (rest := []) (c_X8_tryLane l D cy h a1 x4 (gt st8 3 ((((4 * x10) + 2) + x4).toNatClampNeg)) (gt st8 3 (((4 * x11) + x4).toNatClampNeg)) st8 st20 hc86_20) cl8 rfl (C8 ok8_0) v_X8_152 (Nat.le_of_ble_eq_true rfl) (Nat.le_of_ble_eq_true rfl) rfl hl.1 rfl (Nat.le_of_ble_eq_true rfl) dX8_layLane_86 ⟨Nat.zero_le _, Nat.zero_le _⟩ (fun H locs G => ?_)
                  obtain ⟨x21, ex21⟩ : ∃ z : Int32, z = (x7 + 1) := ⟨_, rfl⟩
                  have hf := lt_some ex21 hf
                  refine lv_iinc (v := x21) (lv' := [(3, .int x21), (5, .int x11), (4, .int x10), (0, .ref (h 0)), (1, .int a1), (2, .int x4)]) hx hb dX8_layLane_89 hl (k := 5) rfl (by rw [ex21]; rfl) (by decide) rfl (fun ls hl => ?_)
                  refine lv_goto (tgt := 23) hx hb dX8_layLane_92 (by decide) ?_
                  cases hf
                  exact ih _ _ _ _ _ G (lv_sub hl [3, 4, 5, 0] rfl) (hq1 _ rfl)
        exact L23 n _ _ _ _ _ G (lv_sub hl [1, 2, 3, 0] rfl) hn
  exact L17 n _ _ _ _ _ G (lv_sub hl [1, 2, 0] rfl) hn

noncomputable def f_X8_firstSide_L4 (a1 : Int32) (st : GS) (x1 : Int32) (x2 : Int32) : Option ((Int32 × Int32) ⊕ (Int32)) := 
(if (gt st 0 5) ≤ x2 then some (.inr (x1)) else 
bI1 (f_X8_has a1 x2) (fun r4 => 
(if r4 = 0 then lt_ (x1 ||| 0) (fun x6 => 
lt_ (x2 + 1) (fun x7 => 
some (.inl (x6, x7)))) else 
gd (((4 * x2) + 2) + (gt st 0 12)) 32 ((if (gt st 0 13) < (gt st 3 ((((4 * x2) + 2) + (gt st 0 12)).toNatClampNeg)) then lt_ (x1 ||| 0) (fun x10 => 
lt_ (x2 + 1) (fun x11 => 
some (.inl (x10, x11)))) else 
lt_ (x1 ||| (ishl 1 x2)) (fun x12 => 
lt_ (x2 + 1) (fun x13 => 
some (.inl (x12, x13)))))))))
noncomputable def f_X8_firstSide (a1 : Int32) (st : GS) : Option (Int32) := 
bI1 (lpx (uc2 (f_X8_firstSide_L4 a1 st)) (0, 0)) (fun x14 => 
some (x14))
set_option maxRecDepth 100000 in
set_option maxHeartbeats 4000000 in
theorem c_X8_firstSide (l : Launch) (D : va_G) (cy : ClassId) (h : Nat → Nat) (a1 : Int32) (st : GS) (r : Int32) (hf : f_X8_firstSide a1 st = some r) : gMi l MSh D cy h yX8_firstSide cX8_firstSide 4 (some .int) 2 st [.ref (h 0), .int a1] r st := by
  unfold f_X8_firstSide at hf
  refine gMi_of (by decide) (Nat.le_of_ble_eq_true rfl) ?_
  intro p e s m args below meth c A ls C hr hlocks G hl
  have C : gC p s m args c cX8_firstSide 4 "LaneOrderModel" MSh D cy h A := C
  have hl : lv_has ls 4 [(0, .ref (h 0)), (1, .int a1)] := hl
  have hx := C.1
  have hb := C.2.1
  have hown := C.2.2.2.1
  have htb := C.2.2.2.2.1
  refine lv_iconst (v := 0) hx hb dX8_firstSide_0 (by decide) ?_
  refine lv_istore_n (lv' := [(2, .int 0), (0, .ref (h 0)), (1, .int a1)]) hx hb dX8_firstSide_1 rfl hl (by decide) rfl (fun ls hl => ?_)
  refine lv_iconst (v := 0) hx hb dX8_firstSide_2 (by decide) ?_
  refine lv_istore_n (lv' := [(3, .int 0), (2, .int 0), (0, .ref (h 0)), (1, .int a1)]) hx hb dX8_firstSide_3 rfl hl (by decide) rfl (fun ls hl => ?_)
  obtain ⟨x14, hn, hf⟩ := bI1_some hf
  obtain ⟨n, hn⟩ := lpx_some hn
  have K58 : ∀ (H : Heap) (locs : List Loc) (ls : Array Slot), gG MSh D cy h A s st H locs → lv_has ls 4 [(2, .int x14)] → W p l e (gR 2) s m args below meth c H locs 0 0 (MQ below (gQi MSh D cy h A r st) args s 0 0 A) (F0 m 58 ls []) := by
    intro H locs ls G hl
    refine lv_iload_n hx hb dX8_firstSide_58 rfl (lv_at hl 0 rfl) ?_
    cases hf
    exact g_iret C G hr hlocks dX8_firstSide_59
  have L4 : ∀ (n : Nat) (x1 : Int32) (x2 : Int32) (H : Heap) (locs : List Loc) (ls : Array Slot), gG MSh D cy h A s st H locs → lv_has ls 4 [(0, .ref (h 0)), (1, .int a1), (2, .int x1), (3, .int x2)] → lp (uc2 (f_X8_firstSide_L4 a1 st)) n (x1, x2) = some (x14) → W p l e (gR 2) s m args below meth c H locs 0 0 (MQ below (gQi MSh D cy h A r st) args s 0 0 A) (F0 m 4 ls []) := by
    intro n
    induction n with
    | zero =>
      intro x1 x2 H locs ls G hl hn
      cases hn
    | succ n ih =>
      intro x1 x2 H locs ls G hl hn
      obtain ⟨q, hf, hq1, hq2⟩ := lp_q hn
      have hf : f_X8_firstSide_L4 a1 st x1 x2 = some q := hf
      unfold f_X8_firstSide_L4 at hf
      refine lv_iload_n hx hb dX8_firstSide_4 rfl (lv_at hl 3 rfl) ?_
      refine lv_aload_n hx hb dX8_firstSide_5 rfl (lv_at hl 0 rfl) ?_
      refine g_geti C G cl8 (C8 ok8_0) (j := 5) (by decide) (F8_5 ok8_0) k4_29 dX8_firstSide_6 ?_
      refine lv_icmp_ge (tgt := 58) hx hb dX8_firstSide_9 (by decide) (fun c3 => ?_) (fun c3 => ?_)
      · have hf := ifP c3 hf
        cases hf
        have hz9 := hq2 _ rfl
        cases hz9
        exact K58 _ _ _ G (lv_sub hl [2] rfl)
      · have hf := ifN c3 hf
        refine lv_iload_n hx hb dX8_firstSide_12 rfl (lv_at hl 2 rfl) ?_
        refine lv_iload_n hx hb dX8_firstSide_13 rfl (lv_at hl 1 rfl) ?_
        refine lv_iload_n hx hb dX8_firstSide_14 rfl (lv_at hl 3 rfl) ?_
        obtain ⟨r4, hc15_4, hf⟩ := bI1_some hf
        refine g_callSi C G (As := [.int a1, .int x2]) (rest := [.int x1]) (c_X8_has l D cy h a1 x2 st r4 hc15_4) v_X8_101 (Nat.le_of_ble_eq_true rfl) (Nat.le_of_ble_eq_true rfl) rfl hl.1 rfl (Nat.le_of_ble_eq_true rfl) dX8_firstSide_15 ⟨Nat.zero_le _, Nat.zero_le _⟩ (fun H locs G => ?_)
        refine lv_if_eq (tgt := 49) hx hb dX8_firstSide_18 (by decide) (fun c5 => ?_) (fun c5 => ?_)
        · have hf := ifP c5 hf
          refine lv_iconst (v := 0) hx hb dX8_firstSide_49 (by decide) ?_
          refine lv_ior hx hb dX8_firstSide_50 ?_
          refine lv_topi (fun x6 ex6 => ?_)
          have hf := lt_some ex6 hf
          refine lv_istore_n (lv' := [(2, .int x6), (0, .ref (h 0)), (1, .int a1), (3, .int x2)]) hx hb dX8_firstSide_51 rfl hl (by decide) rfl (fun ls hl => ?_)
          obtain ⟨x7, ex7⟩ : ∃ z : Int32, z = (x2 + 1) := ⟨_, rfl⟩
          have hf := lt_some ex7 hf
          refine lv_iinc (v := x7) (lv' := [(3, .int x7), (2, .int x6), (0, .ref (h 0)), (1, .int a1)]) hx hb dX8_firstSide_52 hl (k := 3) rfl (by rw [ex7]; rfl) (by decide) rfl (fun ls hl => ?_)
          refine lv_goto (tgt := 4) hx hb dX8_firstSide_55 (by decide) ?_
          cases hf
          exact ih _ _ _ _ _ G (lv_sub hl [2, 3, 1, 0] rfl) (hq1 _ rfl)
        · have hf := ifN c5 hf
          refine lv_aload_n hx hb dX8_firstSide_21 rfl (lv_at hl 0 rfl) ?_
          refine g_getr (k := 3) C G cl8 (C8 ok8_0) (j := 8) (by decide) (F8_8 ok8_0) k4_32 dX8_firstSide_22 ?_
          refine lv_iconst (v := 4) hx hb dX8_firstSide_25 (by decide) ?_
          refine lv_iload_n hx hb dX8_firstSide_26 rfl (lv_at hl 3 rfl) ?_
          refine lv_imul hx hb dX8_firstSide_27 ?_
          refine lv_iconst (v := 2) hx hb dX8_firstSide_28 (by decide) ?_
          refine lv_iadd hx hb dX8_firstSide_29 ?_
          refine lv_aload_n hx hb dX8_firstSide_30 rfl (lv_at hl 0 rfl) ?_
          refine g_geti C G cl8 (C8 ok8_0) (j := 12) (by decide) (F8_12 ok8_0) k4_36 dX8_firstSide_31 ?_
          refine lv_iadd hx hb dX8_firstSide_34 ?_
          obtain ⟨hi35_7, hf⟩ := gd_some hf
          refine g_iald C G (A8_8 ok8_0) (j := (((4 * x2) + 2) + (gt st 0 12)).toNatClampNeg) rfl hi35_7 dX8_firstSide_35 ?_
          refine lv_aload_n hx hb dX8_firstSide_36 rfl (lv_at hl 0 rfl) ?_
          refine g_geti C G cl8 (C8 ok8_0) (j := 13) (by decide) (F8_13 ok8_0) k4_37 dX8_firstSide_37 ?_
          refine lv_icmp_gt (tgt := 49) hx hb dX8_firstSide_40 (by decide) (fun c9 => ?_) (fun c9 => ?_)
          · have hf := ifP c9 hf
            refine lv_iconst (v := 0) hx hb dX8_firstSide_49 (by decide) ?_
            refine lv_ior hx hb dX8_firstSide_50 ?_
            refine lv_topi (fun x10 ex10 => ?_)
            have hf := lt_some ex10 hf
            refine lv_istore_n (lv' := [(2, .int x10), (0, .ref (h 0)), (1, .int a1), (3, .int x2)]) hx hb dX8_firstSide_51 rfl hl (by decide) rfl (fun ls hl => ?_)
            obtain ⟨x11, ex11⟩ : ∃ z : Int32, z = (x2 + 1) := ⟨_, rfl⟩
            have hf := lt_some ex11 hf
            refine lv_iinc (v := x11) (lv' := [(3, .int x11), (2, .int x10), (0, .ref (h 0)), (1, .int a1)]) hx hb dX8_firstSide_52 hl (k := 3) rfl (by rw [ex11]; rfl) (by decide) rfl (fun ls hl => ?_)
            refine lv_goto (tgt := 4) hx hb dX8_firstSide_55 (by decide) ?_
            cases hf
            exact ih _ _ _ _ _ G (lv_sub hl [2, 3, 1, 0] rfl) (hq1 _ rfl)
          · have hf := ifN c9 hf
            refine lv_iconst (v := 1) hx hb dX8_firstSide_43 (by decide) ?_
            refine lv_iload_n hx hb dX8_firstSide_44 rfl (lv_at hl 3 rfl) ?_
            refine g_ishl C dX8_firstSide_45 ?_
            refine lv_goto (tgt := 50) hx hb dX8_firstSide_46 (by decide) ?_
            refine lv_ior hx hb dX8_firstSide_50 ?_
            refine lv_topi (fun x12 ex12 => ?_)
            have hf := lt_some ex12 hf
            refine lv_istore_n (lv' := [(2, .int x12), (0, .ref (h 0)), (1, .int a1), (3, .int x2)]) hx hb dX8_firstSide_51 rfl hl (by decide) rfl (fun ls hl => ?_)
            obtain ⟨x13, ex13⟩ : ∃ z : Int32, z = (x2 + 1) := ⟨_, rfl⟩
            have hf := lt_some ex13 hf
            refine lv_iinc (v := x13) (lv' := [(3, .int x13), (2, .int x12), (0, .ref (h 0)), (1, .int a1)]) hx hb dX8_firstSide_52 hl (k := 3) rfl (by rw [ex13]; rfl) (by decide) rfl (fun ls hl => ?_)
            refine lv_goto (tgt := 4) hx hb dX8_firstSide_55 (by decide) ?_
            cases hf
            exact ih _ _ _ _ _ G (lv_sub hl [2, 3, 1, 0] rfl) (hq1 _ rfl)
  exact L4 n _ _ _ _ _ G (lv_sub hl [2, 3, 1, 0] rfl) hn

noncomputable def f_X8_isSort (a1 : Int32) (a2 : Int32) (st : GS) : Option (Int32) := 
(if a2 = 0 then gd a1 8 ((if (gt st 2 (a1.toNatClampNeg)) = 1 then some (1) else 
some (0))) else 
gd a1 8 ((if (gt st 2 (a1.toNatClampNeg)) = 2 then some (1) else 
gd a1 8 ((if (gt st 2 (a1.toNatClampNeg)) = 4 then some (1) else 
some (0))))))
set_option maxRecDepth 100000 in
set_option maxHeartbeats 4000000 in
theorem c_X8_isSort (l : Launch) (D : va_G) (cy : ClassId) (h : Nat → Nat) (a1 : Int32) (a2 : Int32) (st : GS) (r : Int32) (hf : f_X8_isSort a1 a2 st = some r) : gMi l MSh D cy h yX8_isSort cX8_isSort 3 (some .boolean) 1 st [.ref (h 0), .int a1, .int a2] r st := by
  unfold f_X8_isSort at hf
  refine gMi_of (by decide) (Nat.le_of_ble_eq_true rfl) ?_
  intro p e s m args below meth c A ls C hr hlocks G hl
  have C : gC p s m args c cX8_isSort 3 "LaneOrderModel" MSh D cy h A := C
  have hl : lv_has ls 3 [(0, .ref (h 0)), (1, .int a1), (2, .int a2)] := hl
  have hx := C.1
  have hb := C.2.1
  have hown := C.2.2.2.1
  have htb := C.2.2.2.2.1
  refine lv_iload_n hx hb dX8_isSort_0 rfl (lv_at hl 2 rfl) ?_
  refine lv_if_ne (tgt := 22) hx hb dX8_isSort_1 (by decide) (fun c1 => ?_) (fun c1 => ?_)
  · have hf := ifN c1 hf
    refine lv_aload_n hx hb dX8_isSort_22 rfl (lv_at hl 0 rfl) ?_
    refine g_getr (k := 2) C G cl8 (C8 ok8_0) (j := 7) (by decide) (F8_7 ok8_0) k4_31 dX8_isSort_23 ?_
    refine lv_iload_n hx hb dX8_isSort_26 rfl (lv_at hl 1 rfl) ?_
    obtain ⟨hi27_1, hf⟩ := gd_some hf
    refine g_iald C G (A8_7 ok8_0) (j := a1.toNatClampNeg) rfl hi27_1 dX8_isSort_27 ?_
    refine lv_iconst (v := 2) hx hb dX8_isSort_28 (by decide) ?_
    refine lv_icmp_eq (tgt := 42) hx hb dX8_isSort_29 (by decide) (fun c3 => ?_) (fun c3 => ?_)
    · have hf := ifP c3 hf
      refine lv_iconst (v := 1) hx hb dX8_isSort_42 (by decide) ?_
      refine lv_goto (tgt := 47) hx hb dX8_isSort_43 (by decide) ?_
      cases hf
      exact g_zret C G (Or.inr rfl) hr hlocks dX8_isSort_47
    · have hf := ifN c3 hf
      refine lv_aload_n hx hb dX8_isSort_32 rfl (lv_at hl 0 rfl) ?_
      refine g_getr (k := 2) C G cl8 (C8 ok8_0) (j := 7) (by decide) (F8_7 ok8_0) k4_31 dX8_isSort_33 ?_
      refine lv_iload_n hx hb dX8_isSort_36 rfl (lv_at hl 1 rfl) ?_
      obtain ⟨hi37_3, hf⟩ := gd_some hf
      refine g_iald C G (A8_7 ok8_0) (j := a1.toNatClampNeg) rfl hi37_3 dX8_isSort_37 ?_
      refine lv_iconst (v := 4) hx hb dX8_isSort_38 (by decide) ?_
      refine lv_icmp_ne (tgt := 46) hx hb dX8_isSort_39 (by decide) (fun c5 => ?_) (fun c5 => ?_)
      · have hf := ifN c5 hf
        refine lv_iconst (v := 0) hx hb dX8_isSort_46 (by decide) ?_
        cases hf
        exact g_zret C G (Or.inl rfl) hr hlocks dX8_isSort_47
      · have hf := ifP c5 hf
        refine lv_iconst (v := 1) hx hb dX8_isSort_42 (by decide) ?_
        refine lv_goto (tgt := 47) hx hb dX8_isSort_43 (by decide) ?_
        cases hf
        exact g_zret C G (Or.inr rfl) hr hlocks dX8_isSort_47
  · have hf := ifP c1 hf
    refine lv_aload_n hx hb dX8_isSort_4 rfl (lv_at hl 0 rfl) ?_
    refine g_getr (k := 2) C G cl8 (C8 ok8_0) (j := 7) (by decide) (F8_7 ok8_0) k4_31 dX8_isSort_5 ?_
    refine lv_iload_n hx hb dX8_isSort_8 rfl (lv_at hl 1 rfl) ?_
    obtain ⟨hi9_5, hf⟩ := gd_some hf
    refine g_iald C G (A8_7 ok8_0) (j := a1.toNatClampNeg) rfl hi9_5 dX8_isSort_9 ?_
    refine lv_iconst (v := 1) hx hb dX8_isSort_10 (by decide) ?_
    refine lv_icmp_ne (tgt := 18) hx hb dX8_isSort_11 (by decide) (fun c7 => ?_) (fun c7 => ?_)
    · have hf := ifN c7 hf
      refine lv_iconst (v := 0) hx hb dX8_isSort_18 (by decide) ?_
      refine lv_goto (tgt := 47) hx hb dX8_isSort_19 (by decide) ?_
      cases hf
      exact g_zret C G (Or.inl rfl) hr hlocks dX8_isSort_47
    · have hf := ifP c7 hf
      refine lv_iconst (v := 1) hx hb dX8_isSort_14 (by decide) ?_
      refine lv_goto (tgt := 47) hx hb dX8_isSort_15 (by decide) ?_
      cases hf
      exact g_zret C G (Or.inr rfl) hr hlocks dX8_isSort_47

noncomputable def f_X8_byRule (a1 : Int32) (a2 : Int32) (a3 : Int32) (st : GS) : Option (Int32) := 
(if a1 = 0 then bI1 (f_X8_isSort a3 0 st) (fun r2 => 
bI1 ((if r2 = 0 then some (0) else 
some (1))) (fun (x4 : Int32) => 
bI1 (f_X8_isSort a2 0 st) (fun r5 => 
(if r5 = 0 then some ((x4 - 0)) else 
some ((x4 - 1)))))) else 
(if a1 = 1 then bI1 (f_X8_isSort a2 1 st) (fun r7 => 
bI1 ((if r7 = 0 then some (0) else 
some (1))) (fun (x9 : Int32) => 
bI1 (f_X8_isSort a3 1 st) (fun r10 => 
(if r10 = 0 then some ((x9 - 0)) else 
some ((x9 - 1)))))) else 
(if a1 = 2 then gd ((4 * a2) + 1) 32 (gd ((4 * a3) + 1) 32 (some (((gt st 3 (((4 * a2) + 1).toNatClampNeg)) - (gt st 3 (((4 * a3) + 1).toNatClampNeg)))))) else 
gd (4 * a2) 32 (gd (4 * a3) 32 (some (((gt st 3 ((4 * a2).toNatClampNeg)) - (gt st 3 ((4 * a3).toNatClampNeg)))))))))
set_option maxRecDepth 100000 in
set_option maxHeartbeats 4000000 in
theorem c_X8_byRule (l : Launch) (D : va_G) (cy : ClassId) (h : Nat → Nat) (a1 : Int32) (a2 : Int32) (a3 : Int32) (st : GS) (r : Int32) (hf : f_X8_byRule a1 a2 a3 st = some r) : gMi l MSh D cy h yX8_byRule cX8_byRule 4 (some .int) 2 st [.ref (h 0), .int a1, .int a2, .int a3] r st := by
  unfold f_X8_byRule at hf
  refine gMi_of (by decide) (Nat.le_of_ble_eq_true rfl) ?_
  intro p e s m args below meth c A ls C hr hlocks G hl
  have C : gC p s m args c cX8_byRule 4 "LaneOrderModel" MSh D cy h A := C
  have hl : lv_has ls 4 [(0, .ref (h 0)), (1, .int a1), (2, .int a2), (3, .int a3)] := hl
  have hx := C.1
  have hb := C.2.1
  have hown := C.2.2.2.1
  have htb := C.2.2.2.2.1
  refine lv_iload_n hx hb dX8_byRule_0 rfl (lv_at hl 1 rfl) ?_
  by_cases c1_0 : a1 = 0
  · have hf := ifP c1_0 hf
    refine lv_tableIn (tgt := 28) hx hb dX8_byRule_1 (by rw [c1_0]; decide) (by rw [c1_0]; decide) (by rw [c1_0]; rfl) (by decide) ?_
    refine lv_aload_n hx hb dX8_byRule_28 rfl (lv_at hl 0 rfl) ?_
    refine lv_iload_n hx hb dX8_byRule_29 rfl (lv_at hl 3 rfl) ?_
    refine lv_iconst (v := 0) hx hb dX8_byRule_30 (by decide) ?_
    obtain ⟨r2, hc31_2, hf⟩ := bI1_some hf
    refine g_callVi C G (As := [.int a3, .int 0]) (rest := []) (c_X8_isSort l D cy h a3 0 st r2 hc31_2) cl8 rfl (C8 ok8_0) v_X8_156 (Nat.le_of_ble_eq_true rfl) (Nat.le_of_ble_eq_true rfl) rfl hl.1 rfl (Nat.le_of_ble_eq_true rfl) dX8_byRule_31 ⟨Nat.zero_le _, Nat.zero_le _⟩ (fun H locs G => ?_)
    obtain ⟨x4, hj42, hf⟩ := bI1_some hf
    have K42 : ∀ (H : Heap) (locs : List Loc) (ls : Array Slot) , gG MSh D cy h A s st H locs → lv_has ls 4 [(0, .ref (h 0)), (2, .int a2)] → W p l e (gR 2) s m args below meth c H locs 0 0 (MQ below (gQi MSh D cy h A r st) args s 0 0 A) (F0 m 42 ls [.int x4]) := by
      intro H locs ls G hl
      refine lv_aload_n hx hb dX8_byRule_42 rfl (lv_at hl 0 rfl) ?_
      refine lv_iload_n hx hb dX8_byRule_43 rfl (lv_at hl 1 rfl) ?_
      refine lv_iconst (v := 0) hx hb dX8_byRule_44 (by decide) ?_
      obtain ⟨r5, hc45_5, hf⟩ := bI1_some hf
      refine g_callVi C G (As := [.int a2, .int 0]) (rest := [.int x4]) (c_X8_isSort l D cy h a2 0 st r5 hc45_5) cl8 rfl (C8 ok8_0) v_X8_156 (Nat.le_of_ble_eq_true rfl) (Nat.le_of_ble_eq_true rfl) rfl hl.1 rfl (Nat.le_of_ble_eq_true rfl) dX8_byRule_45 ⟨Nat.zero_le _, Nat.zero_le _⟩ (fun H locs G => ?_)
      refine lv_if_eq (tgt := 55) hx hb dX8_byRule_48 (by decide) (fun c6 => ?_) (fun c6 => ?_)
      · have hf := ifP c6 hf
        refine lv_iconst (v := 0) hx hb dX8_byRule_55 (by decide) ?_
        refine lv_isub hx hb dX8_byRule_56 ?_
        cases hf
        exact g_iret C G hr hlocks dX8_byRule_57
      · have hf := ifN c6 hf
        refine lv_iconst (v := 1) hx hb dX8_byRule_51 (by decide) ?_
        refine lv_goto (tgt := 56) hx hb dX8_byRule_52 (by decide) ?_
        refine lv_isub hx hb dX8_byRule_56 ?_
        cases hf
        exact g_iret C G hr hlocks dX8_byRule_57
    clear hf
    refine lv_if_eq (tgt := 41) hx hb dX8_byRule_34 (by decide) (fun c3 => ?_) (fun c3 => ?_)
    · have hf := ifP c3 hj42
      refine lv_iconst (v := 0) hx hb dX8_byRule_41 (by decide) ?_
      cases hf
      exact K42 _ _ _ G (lv_sub hl [0, 2] rfl)
    · have hf := ifN c3 hj42
      refine lv_iconst (v := 1) hx hb dX8_byRule_37 (by decide) ?_
      refine lv_goto (tgt := 42) hx hb dX8_byRule_38 (by decide) ?_
      cases hf
      exact K42 _ _ _ G (lv_sub hl [0, 2] rfl)
  · have hf := ifN c1_0 hf
    by_cases c1_1 : a1 = 1
    · have hf := ifP c1_1 hf
      refine lv_tableIn (tgt := 58) hx hb dX8_byRule_1 (by rw [c1_1]; decide) (by rw [c1_1]; decide) (by rw [c1_1]; rfl) (by decide) ?_
      refine lv_aload_n hx hb dX8_byRule_58 rfl (lv_at hl 0 rfl) ?_
      refine lv_iload_n hx hb dX8_byRule_59 rfl (lv_at hl 2 rfl) ?_
      refine lv_iconst (v := 1) hx hb dX8_byRule_60 (by decide) ?_
      obtain ⟨r7, hc61_7, hf⟩ := bI1_some hf
      refine g_callVi C G (As := [.int a2, .int 1]) (rest := []) (c_X8_isSort l D cy h a2 1 st r7 hc61_7) cl8 rfl (C8 ok8_0) v_X8_156 (Nat.le_of_ble_eq_true rfl) (Nat.le_of_ble_eq_true rfl) rfl hl.1 rfl (Nat.le_of_ble_eq_true rfl) dX8_byRule_61 ⟨Nat.zero_le _, Nat.zero_le _⟩ (fun H locs G => ?_)
      obtain ⟨x9, hj72, hf⟩ := bI1_some hf
      have K72 : ∀ (H : Heap) (locs : List Loc) (ls : Array Slot) , gG MSh D cy h A s st H locs → lv_has ls 4 [(0, .ref (h 0)), (3, .int a3)] → W p l e (gR 2) s m args below meth c H locs 0 0 (MQ below (gQi MSh D cy h A r st) args s 0 0 A) (F0 m 72 ls [.int x9]) := by
        intro H locs ls G hl
        refine lv_aload_n hx hb dX8_byRule_72 rfl (lv_at hl 0 rfl) ?_
        refine lv_iload_n hx hb dX8_byRule_73 rfl (lv_at hl 1 rfl) ?_
        refine lv_iconst (v := 1) hx hb dX8_byRule_74 (by decide) ?_
        obtain ⟨r10, hc75_10, hf⟩ := bI1_some hf
        refine g_callVi C G (As := [.int a3, .int 1]) (rest := [.int x9]) (c_X8_isSort l D cy h a3 1 st r10 hc75_10) cl8 rfl (C8 ok8_0) v_X8_156 (Nat.le_of_ble_eq_true rfl) (Nat.le_of_ble_eq_true rfl) rfl hl.1 rfl (Nat.le_of_ble_eq_true rfl) dX8_byRule_75 ⟨Nat.zero_le _, Nat.zero_le _⟩ (fun H locs G => ?_)
        refine lv_if_eq (tgt := 85) hx hb dX8_byRule_78 (by decide) (fun c11 => ?_) (fun c11 => ?_)
        · have hf := ifP c11 hf
          refine lv_iconst (v := 0) hx hb dX8_byRule_85 (by decide) ?_
          refine lv_isub hx hb dX8_byRule_86 ?_
          cases hf
          exact g_iret C G hr hlocks dX8_byRule_87
        · have hf := ifN c11 hf
          refine lv_iconst (v := 1) hx hb dX8_byRule_81 (by decide) ?_
          refine lv_goto (tgt := 86) hx hb dX8_byRule_82 (by decide) ?_
          refine lv_isub hx hb dX8_byRule_86 ?_
          cases hf
          exact g_iret C G hr hlocks dX8_byRule_87
      clear hf
      refine lv_if_eq (tgt := 71) hx hb dX8_byRule_64 (by decide) (fun c8 => ?_) (fun c8 => ?_)
      · have hf := ifP c8 hj72
        refine lv_iconst (v := 0) hx hb dX8_byRule_71 (by decide) ?_
        cases hf
        exact K72 _ _ _ G (lv_sub hl [0, 3] rfl)
      · have hf := ifN c8 hj72
        refine lv_iconst (v := 1) hx hb dX8_byRule_67 (by decide) ?_
        refine lv_goto (tgt := 72) hx hb dX8_byRule_68 (by decide) ?_
        cases hf
        exact K72 _ _ _ G (lv_sub hl [0, 3] rfl)
    · have hf := ifN c1_1 hf
      by_cases c1_2 : a1 = 2
      · have hf := ifP c1_2 hf
        refine lv_tableIn (tgt := 88) hx hb dX8_byRule_1 (by rw [c1_2]; decide) (by rw [c1_2]; decide) (by rw [c1_2]; rfl) (by decide) ?_
        refine lv_aload_n hx hb dX8_byRule_88 rfl (lv_at hl 0 rfl) ?_
        refine g_getr (k := 3) C G cl8 (C8 ok8_0) (j := 8) (by decide) (F8_8 ok8_0) k4_32 dX8_byRule_89 ?_
        refine lv_iconst (v := 4) hx hb dX8_byRule_92 (by decide) ?_
        refine lv_iload_n hx hb dX8_byRule_93 rfl (lv_at hl 2 rfl) ?_
        refine lv_imul hx hb dX8_byRule_94 ?_
        refine lv_iconst (v := 1) hx hb dX8_byRule_95 (by decide) ?_
        refine lv_iadd hx hb dX8_byRule_96 ?_
        obtain ⟨hi97_11, hf⟩ := gd_some hf
        refine g_iald C G (A8_8 ok8_0) (j := ((4 * a2) + 1).toNatClampNeg) rfl hi97_11 dX8_byRule_97 ?_
        refine lv_aload_n hx hb dX8_byRule_98 rfl (lv_at hl 0 rfl) ?_
        refine g_getr (k := 3) C G cl8 (C8 ok8_0) (j := 8) (by decide) (F8_8 ok8_0) k4_32 dX8_byRule_99 ?_
        refine lv_iconst (v := 4) hx hb dX8_byRule_102 (by decide) ?_
        refine lv_iload_n hx hb dX8_byRule_103 rfl (lv_at hl 3 rfl) ?_
        refine lv_imul hx hb dX8_byRule_104 ?_
        refine lv_iconst (v := 1) hx hb dX8_byRule_105 (by decide) ?_
        refine lv_iadd hx hb dX8_byRule_106 ?_
        obtain ⟨hi107_12, hf⟩ := gd_some hf
        refine g_iald C G (A8_8 ok8_0) (j := ((4 * a3) + 1).toNatClampNeg) rfl hi107_12 dX8_byRule_107 ?_
        refine lv_isub hx hb dX8_byRule_108 ?_
        cases hf
        exact g_iret C G hr hlocks dX8_byRule_109
      · have hf := ifN c1_2 hf
        refine lv_tableOut (tgt := 110) hx hb dX8_byRule_1 (tab_2 c1_0 c1_1 c1_2) (by decide) ?_
        refine lv_aload_n hx hb dX8_byRule_110 rfl (lv_at hl 0 rfl) ?_
        refine g_getr (k := 3) C G cl8 (C8 ok8_0) (j := 8) (by decide) (F8_8 ok8_0) k4_32 dX8_byRule_111 ?_
        refine lv_iconst (v := 4) hx hb dX8_byRule_114 (by decide) ?_
        refine lv_iload_n hx hb dX8_byRule_115 rfl (lv_at hl 2 rfl) ?_
        refine lv_imul hx hb dX8_byRule_116 ?_
        obtain ⟨hi117_13, hf⟩ := gd_some hf
        refine g_iald C G (A8_8 ok8_0) (j := (4 * a2).toNatClampNeg) rfl hi117_13 dX8_byRule_117 ?_
        refine lv_aload_n hx hb dX8_byRule_118 rfl (lv_at hl 0 rfl) ?_
        refine g_getr (k := 3) C G cl8 (C8 ok8_0) (j := 8) (by decide) (F8_8 ok8_0) k4_32 dX8_byRule_119 ?_
        refine lv_iconst (v := 4) hx hb dX8_byRule_122 (by decide) ?_
        refine lv_iload_n hx hb dX8_byRule_123 rfl (lv_at hl 3 rfl) ?_
        refine lv_imul hx hb dX8_byRule_124 ?_
        obtain ⟨hi125_14, hf⟩ := gd_some hf
        refine g_iald C G (A8_8 ok8_0) (j := (4 * a3).toNatClampNeg) rfl hi125_14 dX8_byRule_125 ?_
        refine lv_isub hx hb dX8_byRule_126 ?_
        cases hf
        exact g_iret C G hr hlocks dX8_byRule_127

noncomputable def f_X8_ruleOf_L2 (a1 : Int32) (a2 : Int32) (st : GS) (x1 : Int32) : Option ((Int32) ⊕ (Int32)) := 
(if (gt st 0 10) ≤ x1 then some (.inr (4)) else 
gd x1 4 (bI1 (f_X8_byRule (gt st 4 (x1.toNatClampNeg)) a1 a2 st) (fun r4 => 
(if r4 = 0 then lt_ (x1 + 1) (fun x6 => 
some (.inl (x6))) else 
gd x1 4 (some (.inr (gt st 4 (x1.toNatClampNeg))))))))
noncomputable def f_X8_ruleOf (a1 : Int32) (a2 : Int32) (st : GS) : Option (Int32) := 
lpx (uc1 (f_X8_ruleOf_L2 a1 a2 st)) (0)
set_option maxRecDepth 100000 in
set_option maxHeartbeats 4000000 in
theorem c_X8_ruleOf (l : Launch) (D : va_G) (cy : ClassId) (h : Nat → Nat) (a1 : Int32) (a2 : Int32) (st : GS) (r : Int32) (hf : f_X8_ruleOf a1 a2 st = some r) : gMi l MSh D cy h yX8_ruleOf cX8_ruleOf 4 (some .int) 3 st [.ref (h 0), .int a1, .int a2] r st := by
  unfold f_X8_ruleOf at hf
  refine gMi_of (by decide) (Nat.le_of_ble_eq_true rfl) ?_
  intro p e s m args below meth c A ls C hr hlocks G hl
  have C : gC p s m args c cX8_ruleOf 4 "LaneOrderModel" MSh D cy h A := C
  have hl : lv_has ls 4 [(0, .ref (h 0)), (1, .int a1), (2, .int a2)] := hl
  have hx := C.1
  have hb := C.2.1
  have hown := C.2.2.2.1
  have htb := C.2.2.2.2.1
  refine lv_iconst (v := 0) hx hb dX8_ruleOf_0 (by decide) ?_
  refine lv_istore_n (lv' := [(3, .int 0), (0, .ref (h 0)), (1, .int a1), (2, .int a2)]) hx hb dX8_ruleOf_1 rfl hl (by decide) rfl (fun ls hl => ?_)
  obtain ⟨n, hn⟩ := lpx_some hf
  have L2 : ∀ (n : Nat) (x1 : Int32) (H : Heap) (locs : List Loc) (ls : Array Slot), gG MSh D cy h A s st H locs → lv_has ls 4 [(0, .ref (h 0)), (1, .int a1), (2, .int a2), (3, .int x1)] → lp (uc1 (f_X8_ruleOf_L2 a1 a2 st)) n (x1) = some r → W p l e (gR 3) s m args below meth c H locs 0 0 (MQ below (gQi MSh D cy h A r st) args s 0 0 A) (F0 m 2 ls []) := by
    intro n
    induction n with
    | zero =>
      intro x1 H locs ls G hl hn
      cases hn
    | succ n ih =>
      intro x1 H locs ls G hl hn
      obtain ⟨q, hf, hq1, hq2⟩ := lp_q hn
      have hf : f_X8_ruleOf_L2 a1 a2 st x1 = some q := hf
      unfold f_X8_ruleOf_L2 at hf
      refine lv_iload_n hx hb dX8_ruleOf_2 rfl (lv_at hl 3 rfl) ?_
      refine lv_aload_n hx hb dX8_ruleOf_3 rfl (lv_at hl 0 rfl) ?_
      refine g_geti C G cl8 (C8 ok8_0) (j := 10) (by decide) (F8_10 ok8_0) k4_34 dX8_ruleOf_4 ?_
      refine lv_icmp_ge (tgt := 38) hx hb dX8_ruleOf_7 (by decide) (fun c2 => ?_) (fun c2 => ?_)
      · have hf := ifP c2 hf
        refine lv_iconst (v := 4) hx hb dX8_ruleOf_38 (by decide) ?_
        cases hf
        have hz9 := hq2 _ rfl
        cases hz9
        exact g_iret C G hr hlocks dX8_ruleOf_39
      · have hf := ifN c2 hf
        refine lv_aload_n hx hb dX8_ruleOf_10 rfl (lv_at hl 0 rfl) ?_
        refine lv_aload_n hx hb dX8_ruleOf_11 rfl (lv_at hl 0 rfl) ?_
        refine g_getr (k := 4) C G cl8 (C8 ok8_0) (j := 9) (by decide) (F8_9 ok8_0) k4_33 dX8_ruleOf_12 ?_
        refine lv_iload_n hx hb dX8_ruleOf_15 rfl (lv_at hl 3 rfl) ?_
        obtain ⟨hi16_2, hf⟩ := gd_some hf
        refine g_iald C G (A8_9 ok8_0) (j := x1.toNatClampNeg) rfl hi16_2 dX8_ruleOf_16 ?_
        refine lv_iload_n hx hb dX8_ruleOf_17 rfl (lv_at hl 1 rfl) ?_
        refine lv_iload_n hx hb dX8_ruleOf_18 rfl (lv_at hl 2 rfl) ?_
        obtain ⟨r4, hc19_4, hf⟩ := bI1_some hf
        refine g_callVi C G (As := [.int (gt st 4 (x1.toNatClampNeg)), .int a1, .int a2]) (rest := []) (c_X8_byRule l D cy h (gt st 4 (x1.toNatClampNeg)) a1 a2 st r4 hc19_4) cl8 rfl (C8 ok8_0) v_X8_159 (Nat.le_of_ble_eq_true rfl) (Nat.le_of_ble_eq_true rfl) rfl hl.1 rfl (Nat.le_of_ble_eq_true rfl) dX8_ruleOf_19 ⟨Nat.zero_le _, Nat.zero_le _⟩ (fun H locs G => ?_)
        refine lv_if_eq (tgt := 32) hx hb dX8_ruleOf_22 (by decide) (fun c5 => ?_) (fun c5 => ?_)
        · have hf := ifP c5 hf
          obtain ⟨x6, ex6⟩ : ∃ z : Int32, z = (x1 + 1) := ⟨_, rfl⟩
          have hf := lt_some ex6 hf
          refine lv_iinc (v := x6) (lv' := [(3, .int x6), (0, .ref (h 0)), (1, .int a1), (2, .int a2)]) hx hb dX8_ruleOf_32 hl (k := 3) rfl (by rw [ex6]; rfl) (by decide) rfl (fun ls hl => ?_)
          refine lv_goto (tgt := 2) hx hb dX8_ruleOf_35 (by decide) ?_
          cases hf
          exact ih _ _ _ _ G (lv_sub hl [1, 2, 3, 0] rfl) (hq1 _ rfl)
        · have hf := ifN c5 hf
          refine lv_aload_n hx hb dX8_ruleOf_25 rfl (lv_at hl 0 rfl) ?_
          refine g_getr (k := 4) C G cl8 (C8 ok8_0) (j := 9) (by decide) (F8_9 ok8_0) k4_33 dX8_ruleOf_26 ?_
          refine lv_iload_n hx hb dX8_ruleOf_29 rfl (lv_at hl 3 rfl) ?_
          obtain ⟨hi30_6, hf⟩ := gd_some hf
          refine g_iald C G (A8_9 ok8_0) (j := x1.toNatClampNeg) rfl hi30_6 dX8_ruleOf_30 ?_
          cases hf
          have hz9 := hq2 _ rfl
          cases hz9
          exact g_iret C G hr hlocks dX8_ruleOf_31
  exact L2 n _ _ _ _ G (lv_sub hl [1, 2, 3, 0] rfl) hn

noncomputable def f_X8_isAhead (a1 : Int32) (a2 : Int32) (st : GS) : Option (Int32) := 
bI1 (f_X8_ruleOf a1 a2 st) (fun r1 => 
(if r1 = 4 then (if a2 ≤ a1 then some (0) else 
some (1)) else 
bI1 (f_X8_byRule r1 a1 a2 st) (fun r3 => 
(if 0 ≤ r3 then some (0) else 
some (1)))))
set_option maxRecDepth 100000 in
set_option maxHeartbeats 4000000 in
theorem c_X8_isAhead (l : Launch) (D : va_G) (cy : ClassId) (h : Nat → Nat) (a1 : Int32) (a2 : Int32) (st : GS) (r : Int32) (hf : f_X8_isAhead a1 a2 st = some r) : gMi l MSh D cy h yX8_isAhead cX8_isAhead 4 (some .boolean) 4 st [.ref (h 0), .int a1, .int a2] r st := by
  unfold f_X8_isAhead at hf
  refine gMi_of (by decide) (Nat.le_of_ble_eq_true rfl) ?_
  intro p e s m args below meth c A ls C hr hlocks G hl
  have C : gC p s m args c cX8_isAhead 4 "LaneOrderModel" MSh D cy h A := C
  have hl : lv_has ls 4 [(0, .ref (h 0)), (1, .int a1), (2, .int a2)] := hl
  have hx := C.1
  have hb := C.2.1
  have hown := C.2.2.2.1
  have htb := C.2.2.2.2.1
  refine lv_aload_n hx hb dX8_isAhead_0 rfl (lv_at hl 0 rfl) ?_
  refine lv_iload_n hx hb dX8_isAhead_1 rfl (lv_at hl 1 rfl) ?_
  refine lv_iload_n hx hb dX8_isAhead_2 rfl (lv_at hl 2 rfl) ?_
  obtain ⟨r1, hc3_1, hf⟩ := bI1_some hf
  refine g_callVi C G (As := [.int a1, .int a2]) (rest := []) (c_X8_ruleOf l D cy h a1 a2 st r1 hc3_1) cl8 rfl (C8 ok8_0) v_X8_163 (Nat.le_of_ble_eq_true rfl) (Nat.le_of_ble_eq_true rfl) rfl hl.1 rfl (Nat.le_of_ble_eq_true rfl) dX8_isAhead_3 ⟨Nat.zero_le _, Nat.zero_le _⟩ (fun H locs G => ?_)
  refine lv_istore_n (lv' := [(3, .int r1), (0, .ref (h 0)), (1, .int a1), (2, .int a2)]) hx hb dX8_isAhead_6 rfl hl (by decide) rfl (fun ls hl => ?_)
  refine lv_iload_n hx hb dX8_isAhead_7 rfl (lv_at hl 0 rfl) ?_
  refine lv_iconst (v := 4) hx hb dX8_isAhead_8 (by decide) ?_
  refine lv_icmp_ne (tgt := 25) hx hb dX8_isAhead_9 (by decide) (fun c2 => ?_) (fun c2 => ?_)
  · have hf := ifN c2 hf
    refine lv_aload_n hx hb dX8_isAhead_25 rfl (lv_at hl 1 rfl) ?_
    refine lv_iload_n hx hb dX8_isAhead_26 rfl (lv_at hl 0 rfl) ?_
    refine lv_iload_n hx hb dX8_isAhead_27 rfl (lv_at hl 2 rfl) ?_
    refine lv_iload_n hx hb dX8_isAhead_28 rfl (lv_at hl 3 rfl) ?_
    obtain ⟨r3, hc29_3, hf⟩ := bI1_some hf
    refine g_callVi C G (As := [.int r1, .int a1, .int a2]) (rest := []) (c_X8_byRule l D cy h r1 a1 a2 st r3 hc29_3) cl8 rfl (C8 ok8_0) v_X8_159 (Nat.le_of_ble_eq_true rfl) (Nat.le_of_ble_eq_true rfl) rfl hl.1 rfl (Nat.le_of_ble_eq_true rfl) dX8_isAhead_29 ⟨Nat.zero_le _, Nat.zero_le _⟩ (fun H locs G => ?_)
    refine lv_if_ge (tgt := 39) hx hb dX8_isAhead_32 (by decide) (fun c4 => ?_) (fun c4 => ?_)
    · have hf := ifP c4 hf
      refine lv_iconst (v := 0) hx hb dX8_isAhead_39 (by decide) ?_
      cases hf
      exact g_zret C G (Or.inl rfl) hr hlocks dX8_isAhead_40
    · have hf := ifN c4 hf
      refine lv_iconst (v := 1) hx hb dX8_isAhead_35 (by decide) ?_
      refine lv_goto (tgt := 40) hx hb dX8_isAhead_36 (by decide) ?_
      cases hf
      exact g_zret C G (Or.inr rfl) hr hlocks dX8_isAhead_40
  · have hf := ifP c2 hf
    refine lv_iload_n hx hb dX8_isAhead_12 rfl (lv_at hl 2 rfl) ?_
    refine lv_iload_n hx hb dX8_isAhead_13 rfl (lv_at hl 3 rfl) ?_
    refine lv_icmp_ge (tgt := 21) hx hb dX8_isAhead_14 (by decide) (fun c5 => ?_) (fun c5 => ?_)
    · have hf := ifP c5 hf
      refine lv_iconst (v := 0) hx hb dX8_isAhead_21 (by decide) ?_
      refine lv_goto (tgt := 40) hx hb dX8_isAhead_22 (by decide) ?_
      cases hf
      exact g_zret C G (Or.inl rfl) hr hlocks dX8_isAhead_40
    · have hf := ifN c5 hf
      refine lv_iconst (v := 1) hx hb dX8_isAhead_17 (by decide) ?_
      refine lv_goto (tgt := 40) hx hb dX8_isAhead_18 (by decide) ?_
      cases hf
      exact g_zret C G (Or.inr rfl) hr hlocks dX8_isAhead_40

noncomputable def f_X8_append_L22 (a1 : Int32) (x4 : Int32) (st5 : GS) : Option ((Int32 × GS) ⊕ (GS)) := 
(if (gt st5 0 5) ≤ x4 then some (.inr (st5)) else 
gd x4 8 ((if (gt st5 5 (x4.toNatClampNeg)) = a1 then gd (gt st5 0 16) 8 (lt_ (sv st5 6 ((gt st5 0 16).toNatClampNeg) x4) (fun st11 => 
lt_ (sv st11 0 16 ((gt st11 0 16) + 1)) (fun st12 => 
lt_ (x4 + 1) (fun x13 => 
some (.inl (x13, st12)))))) else 
lt_ (x4 + 1) (fun x9 => 
some (.inl (x9, st5))))))
noncomputable def f_X8_append (a1 : Int32) (st : GS) : Option (GS) := 
gd (gt st 0 16) 8 (lt_ (sv st 6 ((gt st 0 16).toNatClampNeg) a1) (fun st2 => 
lt_ (sv st2 0 16 ((gt st2 0 16) + 1)) (fun st3 => 
bI1 (lpx (uc2 (f_X8_append_L22 a1)) (0, st3)) (fun st14 => 
some (st14)))))
set_option maxRecDepth 100000 in
set_option maxHeartbeats 4000000 in
theorem c_X8_append (l : Launch) (D : va_G) (cy : ClassId) (h : Nat → Nat) (a1 : Int32) (st : GS) (stF : GS) (hf : f_X8_append a1 st = some stF) : gMv l MSh D cy h yX8_append cX8_append 3 none 1 st [.ref (h 0), .int a1] stF := by
  unfold f_X8_append at hf
  refine gMv_of (by decide) (Nat.le_of_ble_eq_true rfl) ?_
  intro p e s m args below meth c A ls C hr hlocks G hl
  have C : gC p s m args c cX8_append 3 "LaneOrderModel" MSh D cy h A := C
  have hl : lv_has ls 3 [(0, .ref (h 0)), (1, .int a1)] := hl
  have hx := C.1
  have hb := C.2.1
  have hown := C.2.2.2.1
  have htb := C.2.2.2.2.1
  refine lv_aload_n hx hb dX8_append_0 rfl (lv_at hl 0 rfl) ?_
  refine g_getr (k := 6) C G cl8 (C8 ok8_0) (j := 15) (by decide) (F8_15 ok8_0) k4_39 dX8_append_1 ?_
  refine lv_aload_n hx hb dX8_append_4 rfl (lv_at hl 0 rfl) ?_
  refine g_geti C G cl8 (C8 ok8_0) (j := 16) (by decide) (F8_16 ok8_0) k4_40 dX8_append_5 ?_
  refine lv_iload_n hx hb dX8_append_8 rfl (lv_at hl 1 rfl) ?_
  obtain ⟨hi9_0, hf⟩ := gd_some hf
  refine g_iast C G (A8_15 ok8_0) (j := (gt st 0 16).toNatClampNeg) rfl hi9_0 dX8_append_9 (fun st2 est2 H locs G => ?_)
  have hf := lt_some est2 hf
  refine lv_aload_n hx hb dX8_append_10 rfl (lv_at hl 0 rfl) ?_
  refine lv_dup hx hb dX8_append_11 rfl ?_
  refine g_geti C G cl8 (C8 ok8_0) (j := 16) (by decide) (F8_16 ok8_0) k4_40 dX8_append_12 ?_
  refine lv_iconst (v := 1) hx hb dX8_append_15 (by decide) ?_
  refine lv_iadd hx hb dX8_append_16 ?_
  refine g_puti C G cl8 (C8 ok8_0) (j := 16) (by decide) (F8_16 ok8_0) k4_40 rfl rfl rfl dX8_append_17 (fun st3 est3 H locs G => ?_)
  have hf := lt_some est3 hf
  refine lv_iconst (v := 0) hx hb dX8_append_20 (by decide) ?_
  refine lv_istore_n (lv' := [(2, .int 0), (0, .ref (h 0)), (1, .int a1)]) hx hb dX8_append_21 rfl hl (by decide) rfl (fun ls hl => ?_)
  obtain ⟨st14, hn, hf⟩ := bI1_some hf
  obtain ⟨n, hn⟩ := lpx_some hn
  have K66 : ∀ (H : Heap) (locs : List Loc) (ls : Array Slot), gG MSh D cy h A s st14 H locs → lv_has ls 3 [] → W p l e (gR 1) s m args below meth c H locs 0 0 (MQ below (gQv MSh D cy h A stF) args s 0 0 A) (F0 m 66 ls []) := by
    intro H locs ls G hl
    cases hf
    exact g_vret C G hr hlocks dX8_append_66
  have L22 : ∀ (n : Nat) (x4 : Int32) (st5 : GS) (H : Heap) (locs : List Loc) (ls : Array Slot), gG MSh D cy h A s st5 H locs → lv_has ls 3 [(0, .ref (h 0)), (1, .int a1), (2, .int x4)] → lp (uc2 (f_X8_append_L22 a1)) n (x4, st5) = some (st14) → W p l e (gR 1) s m args below meth c H locs 0 0 (MQ below (gQv MSh D cy h A stF) args s 0 0 A) (F0 m 22 ls []) := by
    intro n
    induction n with
    | zero =>
      intro x4 st5 H locs ls G hl hn
      cases hn
    | succ n ih =>
      intro x4 st5 H locs ls G hl hn
      obtain ⟨q, hf, hq1, hq2⟩ := lp_q hn
      have hf : f_X8_append_L22 a1 x4 st5 = some q := hf
      unfold f_X8_append_L22 at hf
      refine lv_iload_n hx hb dX8_append_22 rfl (lv_at hl 2 rfl) ?_
      refine lv_aload_n hx hb dX8_append_23 rfl (lv_at hl 0 rfl) ?_
      refine g_geti C G cl8 (C8 ok8_0) (j := 5) (by decide) (F8_5 ok8_0) k4_29 dX8_append_24 ?_
      refine lv_icmp_ge (tgt := 66) hx hb dX8_append_27 (by decide) (fun c6 => ?_) (fun c6 => ?_)
      · have hf := ifP c6 hf
        cases hf
        have hz9 := hq2 _ rfl
        cases hz9
        exact K66 _ _ _ G (lv_sub hl [] rfl)
      · have hf := ifN c6 hf
        refine lv_aload_n hx hb dX8_append_30 rfl (lv_at hl 0 rfl) ?_
        refine g_getr (k := 5) C G cl8 (C8 ok8_0) (j := 11) (by decide) (F8_11 ok8_0) k4_35 dX8_append_31 ?_
        refine lv_iload_n hx hb dX8_append_34 rfl (lv_at hl 2 rfl) ?_
        obtain ⟨hi35_6, hf⟩ := gd_some hf
        refine g_iald C G (A8_11 ok8_0) (j := x4.toNatClampNeg) rfl hi35_6 dX8_append_35 ?_
        refine lv_iload_n hx hb dX8_append_36 rfl (lv_at hl 1 rfl) ?_
        refine lv_icmp_ne (tgt := 60) hx hb dX8_append_37 (by decide) (fun c8 => ?_) (fun c8 => ?_)
        · have hf := ifN c8 hf
          obtain ⟨x9, ex9⟩ : ∃ z : Int32, z = (x4 + 1) := ⟨_, rfl⟩
          have hf := lt_some ex9 hf
          refine lv_iinc (v := x9) (lv' := [(2, .int x9), (0, .ref (h 0)), (1, .int a1)]) hx hb dX8_append_60 hl (k := 2) rfl (by rw [ex9]; rfl) (by decide) rfl (fun ls hl => ?_)
          refine lv_goto (tgt := 22) hx hb dX8_append_63 (by decide) ?_
          cases hf
          exact ih _ _ _ _ _ G (lv_sub hl [1, 2, 0] rfl) (hq1 _ rfl)
        · have hf := ifP c8 hf
          refine lv_aload_n hx hb dX8_append_40 rfl (lv_at hl 0 rfl) ?_
          refine g_getr (k := 6) C G cl8 (C8 ok8_0) (j := 15) (by decide) (F8_15 ok8_0) k4_39 dX8_append_41 ?_
          refine lv_aload_n hx hb dX8_append_44 rfl (lv_at hl 0 rfl) ?_
          refine g_geti C G cl8 (C8 ok8_0) (j := 16) (by decide) (F8_16 ok8_0) k4_40 dX8_append_45 ?_
          refine lv_iload_n hx hb dX8_append_48 rfl (lv_at hl 2 rfl) ?_
          obtain ⟨hi49_9, hf⟩ := gd_some hf
          refine g_iast C G (A8_15 ok8_0) (j := (gt st5 0 16).toNatClampNeg) rfl hi49_9 dX8_append_49 (fun st11 est11 H locs G => ?_)
          have hf := lt_some est11 hf
          refine lv_aload_n hx hb dX8_append_50 rfl (lv_at hl 0 rfl) ?_
          refine lv_dup hx hb dX8_append_51 rfl ?_
          refine g_geti C G cl8 (C8 ok8_0) (j := 16) (by decide) (F8_16 ok8_0) k4_40 dX8_append_52 ?_
          refine lv_iconst (v := 1) hx hb dX8_append_55 (by decide) ?_
          refine lv_iadd hx hb dX8_append_56 ?_
          refine g_puti C G cl8 (C8 ok8_0) (j := 16) (by decide) (F8_16 ok8_0) k4_40 rfl rfl rfl dX8_append_57 (fun st12 est12 H locs G => ?_)
          have hf := lt_some est12 hf
          obtain ⟨x13, ex13⟩ : ∃ z : Int32, z = (x4 + 1) := ⟨_, rfl⟩
          have hf := lt_some ex13 hf
          refine lv_iinc (v := x13) (lv' := [(2, .int x13), (0, .ref (h 0)), (1, .int a1)]) hx hb dX8_append_60 hl (k := 2) rfl (by rw [ex13]; rfl) (by decide) rfl (fun ls hl => ?_)
          refine lv_goto (tgt := 22) hx hb dX8_append_63 (by decide) ?_
          cases hf
          exact ih _ _ _ _ _ G (lv_sub hl [1, 2, 0] rfl) (hq1 _ rfl)
  exact L22 n _ _ _ _ _ G (lv_sub hl [1, 2, 0] rfl) hn

noncomputable def f_X8_layLeaf_L12 (x1 : Int32) (st2 : GS) (x4 : Int32) (x5 : Int32) : Option ((Int32 × Int32) ⊕ (Int32)) := 
(if (gt st2 0 5) ≤ x5 then some (.inr (x4)) else 
bI1 (f_X8_has x1 x5) (fun r7 => 
(if r7 = 0 then lt_ (x5 + 1) (fun x9 => 
some (.inl (x4, x9))) else 
(if x4 = (-1) then lt_ (x5 + 1) (fun x11 => 
some (.inl (x5, x11))) else 
bI1 (f_X8_isAhead x5 x4 st2) (fun r12 => 
(if r12 = 0 then lt_ (x5 + 1) (fun x14 => 
some (.inl (x4, x14))) else 
lt_ (x5 + 1) (fun x15 => 
some (.inl (x5, x15)))))))))
noncomputable def f_X8_layLeaf_L2 (a2 : Int32) (x1 : Int32) (st2 : GS) : Option ((Int32 × GS) ⊕ (GS)) := 
(if x1 = 0 then some (.inr (st2)) else 
bI1 (lpx (uc2 (f_X8_layLeaf_L12 x1 st2)) ((-1), 0)) (fun x16 => 
lt_ (x1 &&& ((ishl 1 x16) ^^^ (-1))) (fun x17 => 
gd x16 8 (lt_ (sv st2 8 (x16.toNatClampNeg) (gt st2 0 19)) (fun st19 => 
gd x16 8 (lt_ (sv st19 9 (x16.toNatClampNeg) a2) (fun st21 => 
bI1 (f_X8_append x16 st21) (fun st22 => 
some (.inl (x17, st22))))))))))
noncomputable def f_X8_layLeaf (a1 : Int32) (a2 : Int32) (st : GS) : Option (GS) := 
bI1 (lpx (uc2 (f_X8_layLeaf_L2 a2)) (a1, st)) (fun st23 => 
lt_ (sv st23 0 19 ((gt st23 0 19) + 1)) (fun st24 => 
some (st24)))
set_option maxRecDepth 100000 in
set_option maxHeartbeats 4000000 in
theorem c_X8_layLeaf (l : Launch) (D : va_G) (cy : ClassId) (h : Nat → Nat) (a1 : Int32) (a2 : Int32) (st : GS) (stF : GS) (hf : f_X8_layLeaf a1 a2 st = some stF) : gMv l MSh D cy h yX8_layLeaf cX8_layLeaf 6 none 5 st [.ref (h 0), .int a1, .int a2] stF := by
  unfold f_X8_layLeaf at hf
  refine gMv_of (by decide) (Nat.le_of_ble_eq_true rfl) ?_
  intro p e s m args below meth c A ls C hr hlocks G hl
  have C : gC p s m args c cX8_layLeaf 6 "LaneOrderModel" MSh D cy h A := C
  have hl : lv_has ls 6 [(0, .ref (h 0)), (1, .int a1), (2, .int a2)] := hl
  have hx := C.1
  have hb := C.2.1
  have hown := C.2.2.2.1
  have htb := C.2.2.2.2.1
  refine lv_iload_n hx hb dX8_layLeaf_0 rfl (lv_at hl 1 rfl) ?_
  refine lv_istore_n (lv' := [(3, .int a1), (0, .ref (h 0)), (1, .int a1), (2, .int a2)]) hx hb dX8_layLeaf_1 rfl hl (by decide) rfl (fun ls hl => ?_)
  obtain ⟨st23, hn, hf⟩ := bI1_some hf
  obtain ⟨n, hn⟩ := lpx_some hn
  have K99 : ∀ (H : Heap) (locs : List Loc) (ls : Array Slot), gG MSh D cy h A s st23 H locs → lv_has ls 6 [(0, .ref (h 0))] → W p l e (gR 5) s m args below meth c H locs 0 0 (MQ below (gQv MSh D cy h A stF) args s 0 0 A) (F0 m 99 ls []) := by
    intro H locs ls G hl
    refine lv_aload_n hx hb dX8_layLeaf_99 rfl (lv_at hl 0 rfl) ?_
    refine lv_dup hx hb dX8_layLeaf_100 rfl ?_
    refine g_geti C G cl8 (C8 ok8_0) (j := 19) (by decide) (F8_19 ok8_0) k4_43 dX8_layLeaf_101 ?_
    refine lv_iconst (v := 1) hx hb dX8_layLeaf_104 (by decide) ?_
    refine lv_iadd hx hb dX8_layLeaf_105 ?_
    refine g_puti C G cl8 (C8 ok8_0) (j := 19) (by decide) (F8_19 ok8_0) k4_43 rfl rfl rfl dX8_layLeaf_106 (fun st24 est24 H locs G => ?_)
    have hf := lt_some est24 hf
    cases hf
    exact g_vret C G hr hlocks dX8_layLeaf_109
  have L2 : ∀ (n : Nat) (x1 : Int32) (st2 : GS) (H : Heap) (locs : List Loc) (ls : Array Slot), gG MSh D cy h A s st2 H locs → lv_has ls 6 [(0, .ref (h 0)), (2, .int a2), (3, .int x1)] → lp (uc2 (f_X8_layLeaf_L2 a2)) n (x1, st2) = some (st23) → W p l e (gR 5) s m args below meth c H locs 0 0 (MQ below (gQv MSh D cy h A stF) args s 0 0 A) (F0 m 2 ls []) := by
    intro n
    induction n with
    | zero =>
      intro x1 st2 H locs ls G hl hn
      cases hn
    | succ n ih =>
      intro x1 st2 H locs ls G hl hn
      obtain ⟨q, hf, hq1, hq2⟩ := lp_q hn
      have hf : f_X8_layLeaf_L2 a2 x1 st2 = some q := hf
      unfold f_X8_layLeaf_L2 at hf
      refine lv_iload_n hx hb dX8_layLeaf_2 rfl (lv_at hl 2 rfl) ?_
      refine lv_if_eq (tgt := 99) hx hb dX8_layLeaf_3 (by decide) (fun c3 => ?_) (fun c3 => ?_)
      · have hf := ifP c3 hf
        cases hf
        have hz9 := hq2 _ rfl
        cases hz9
        exact K99 _ _ _ G (lv_sub hl [0] rfl)
      · have hf := ifN c3 hf
        refine lv_iconst (v := (-1)) hx hb dX8_layLeaf_6 (by decide) ?_
        refine lv_istore (lv' := [(4, .int (-1)), (0, .ref (h 0)), (2, .int a2), (3, .int x1)]) hx hb dX8_layLeaf_7 hl (by decide) rfl (fun ls hl => ?_)
        refine lv_iconst (v := 0) hx hb dX8_layLeaf_9 (by decide) ?_
        refine lv_istore (lv' := [(5, .int 0), (4, .int (-1)), (0, .ref (h 0)), (2, .int a2), (3, .int x1)]) hx hb dX8_layLeaf_10 hl (by decide) rfl (fun ls hl => ?_)
        obtain ⟨x16, hn, hf⟩ := bI1_some hf
        obtain ⟨n, hn⟩ := lpx_some hn
        have K62 : ∀ (H : Heap) (locs : List Loc) (ls : Array Slot), gG MSh D cy h A s st2 H locs → lv_has ls 6 [(0, .ref (h 0)), (2, .int a2), (3, .int x1), (4, .int x16)] → W p l e (gR 5) s m args below meth c H locs 0 0 (MQ below (gQv MSh D cy h A stF) args s 0 0 A) (F0 m 62 ls []) := by
          intro H locs ls G hl
          refine lv_iload_n hx hb dX8_layLeaf_62 rfl (lv_at hl 2 rfl) ?_
          refine lv_iconst (v := 1) hx hb dX8_layLeaf_63 (by decide) ?_
          refine lv_iload hx hb dX8_layLeaf_64 (lv_at hl 3 rfl) ?_
          refine g_ishl C dX8_layLeaf_66 ?_
          refine lv_iconst (v := (-1)) hx hb dX8_layLeaf_67 (by decide) ?_
          refine lv_ixor hx hb dX8_layLeaf_68 ?_
          refine lv_iand hx hb dX8_layLeaf_69 ?_
          refine lv_topi (fun x17 ex17 => ?_)
          have hf := lt_some ex17 hf
          refine lv_istore_n (lv' := [(3, .int x17), (0, .ref (h 0)), (2, .int a2), (4, .int x16)]) hx hb dX8_layLeaf_70 rfl hl (by decide) rfl (fun ls hl => ?_)
          refine lv_aload_n hx hb dX8_layLeaf_71 rfl (lv_at hl 1 rfl) ?_
          refine g_getr (k := 8) C G cl8 (C8 ok8_0) (j := 20) (by decide) (F8_20 ok8_0) k4_44 dX8_layLeaf_72 ?_
          refine lv_iload hx hb dX8_layLeaf_75 (lv_at hl 3 rfl) ?_
          refine lv_aload_n hx hb dX8_layLeaf_77 rfl (lv_at hl 1 rfl) ?_
          refine g_geti C G cl8 (C8 ok8_0) (j := 19) (by decide) (F8_19 ok8_0) k4_43 dX8_layLeaf_78 ?_
          obtain ⟨hi81_17, hf⟩ := gd_some hf
          refine g_iast C G (A8_20 ok8_0) (j := x16.toNatClampNeg) rfl hi81_17 dX8_layLeaf_81 (fun st19 est19 H locs G => ?_)
          have hf := lt_some est19 hf
          refine lv_aload_n hx hb dX8_layLeaf_82 rfl (lv_at hl 1 rfl) ?_
          refine g_getr (k := 9) C G cl8 (C8 ok8_0) (j := 21) (by decide) (F8_21 ok8_0) k4_45 dX8_layLeaf_83 ?_
          refine lv_iload hx hb dX8_layLeaf_86 (lv_at hl 3 rfl) ?_
          refine lv_iload_n hx hb dX8_layLeaf_88 rfl (lv_at hl 2 rfl) ?_
          obtain ⟨hi89_19, hf⟩ := gd_some hf
          refine g_iast C G (A8_21 ok8_0) (j := x16.toNatClampNeg) rfl hi89_19 dX8_layLeaf_89 (fun st21 est21 H locs G => ?_)
          have hf := lt_some est21 hf
          refine lv_aload_n hx hb dX8_layLeaf_90 rfl (lv_at hl 1 rfl) ?_
          refine lv_iload hx hb dX8_layLeaf_91 (lv_at hl 3 rfl) ?_
          obtain ⟨st22, hc93_22, hf⟩ := bI1_some hf
          refine g_callVv C G (As := [.int x16]) (rest := []) (c_X8_append l D cy h x16 st21 st22 hc93_22) cl8 rfl (C8 ok8_0) v_X8_175 (Nat.le_of_ble_eq_true rfl) (Nat.le_of_ble_eq_true rfl) rfl hl.1 rfl (Nat.le_of_ble_eq_true rfl) dX8_layLeaf_93 ⟨Nat.zero_le _, Nat.zero_le _⟩ (fun H locs G => ?_)
          refine lv_goto (tgt := 2) hx hb dX8_layLeaf_96 (by decide) ?_
          cases hf
          exact ih _ _ _ _ _ G (lv_sub hl [1, 2, 0] rfl) (hq1 _ rfl)
        have L12 : ∀ (n : Nat) (x4 : Int32) (x5 : Int32) (H : Heap) (locs : List Loc) (ls : Array Slot), gG MSh D cy h A s st2 H locs → lv_has ls 6 [(0, .ref (h 0)), (2, .int a2), (3, .int x1), (4, .int x4), (5, .int x5)] → lp (uc2 (f_X8_layLeaf_L12 x1 st2)) n (x4, x5) = some (x16) → W p l e (gR 5) s m args below meth c H locs 0 0 (MQ below (gQv MSh D cy h A stF) args s 0 0 A) (F0 m 12 ls []) := by
          intro n
          induction n with
          | zero =>
            intro x4 x5 H locs ls G hl hn
            cases hn
          | succ n ih =>
            intro x4 x5 H locs ls G hl hn
            obtain ⟨q, hf, hq1, hq2⟩ := lp_q hn
            have hf : f_X8_layLeaf_L12 x1 st2 x4 x5 = some q := hf
            unfold f_X8_layLeaf_L12 at hf
            refine lv_iload hx hb dX8_layLeaf_12 (lv_at hl 4 rfl) ?_
            refine lv_aload_n hx hb dX8_layLeaf_14 rfl (lv_at hl 0 rfl) ?_
            refine g_geti C G cl8 (C8 ok8_0) (j := 5) (by decide) (F8_5 ok8_0) k4_29 dX8_layLeaf_15 ?_
            refine lv_icmp_ge (tgt := 62) hx hb dX8_layLeaf_18 (by decide) (fun c6 => ?_) (fun c6 => ?_)
            · have hf := ifP c6 hf
              cases hf
              have hz9 := hq2 _ rfl
              cases hz9
              exact K62 _ _ _ G (lv_sub hl [0, 1, 2, 3] rfl)
            · have hf := ifN c6 hf
              refine lv_iload_n hx hb dX8_layLeaf_21 rfl (lv_at hl 2 rfl) ?_
              refine lv_iload hx hb dX8_layLeaf_22 (lv_at hl 4 rfl) ?_
              obtain ⟨r7, hc24_7, hf⟩ := bI1_some hf
              refine g_callSi C G (As := [.int x1, .int x5]) (rest := []) (c_X8_has l D cy h x1 x5 st2 r7 hc24_7) v_X8_101 (Nat.le_of_ble_eq_true rfl) (Nat.le_of_ble_eq_true rfl) rfl hl.1 rfl (Nat.le_of_ble_eq_true rfl) dX8_layLeaf_24 ⟨Nat.zero_le _, Nat.zero_le _⟩ (fun H locs G => ?_)
              refine lv_if_eq (tgt := 52) hx hb dX8_layLeaf_27 (by decide) (fun c8 => ?_) (fun c8 => ?_)
              · have hf := ifP c8 hf
                refine lv_iload hx hb dX8_layLeaf_52 (lv_at hl 3 rfl) ?_
                refine lv_istore (lv' := [(4, .int x4), (0, .ref (h 0)), (2, .int a2), (3, .int x1), (5, .int x5)]) hx hb dX8_layLeaf_54 hl (by decide) rfl (fun ls hl => ?_)
                obtain ⟨x9, ex9⟩ : ∃ z : Int32, z = (x5 + 1) := ⟨_, rfl⟩
                have hf := lt_some ex9 hf
                refine lv_iinc (v := x9) (lv' := [(5, .int x9), (4, .int x4), (0, .ref (h 0)), (2, .int a2), (3, .int x1)]) hx hb dX8_layLeaf_56 hl (k := 4) rfl (by rw [ex9]; rfl) (by decide) rfl (fun ls hl => ?_)
                refine lv_goto (tgt := 12) hx hb dX8_layLeaf_59 (by decide) ?_
                cases hf
                exact ih _ _ _ _ _ G (lv_sub hl [2, 3, 4, 1, 0] rfl) (hq1 _ rfl)
              · have hf := ifN c8 hf
                refine lv_iload hx hb dX8_layLeaf_30 (lv_at hl 3 rfl) ?_
                refine lv_iconst (v := (-1)) hx hb dX8_layLeaf_32 (by decide) ?_
                refine lv_icmp_eq (tgt := 47) hx hb dX8_layLeaf_33 (by decide) (fun c10 => ?_) (fun c10 => ?_)
                · have hf := ifP c10 hf
                  refine lv_iload hx hb dX8_layLeaf_47 (lv_at hl 4 rfl) ?_
                  refine lv_goto (tgt := 54) hx hb dX8_layLeaf_49 (by decide) ?_
                  refine lv_istore (lv' := [(4, .int x5), (0, .ref (h 0)), (2, .int a2), (3, .int x1), (5, .int x5)]) hx hb dX8_layLeaf_54 hl (by decide) rfl (fun ls hl => ?_)
                  obtain ⟨x11, ex11⟩ : ∃ z : Int32, z = (x5 + 1) := ⟨_, rfl⟩
                  have hf := lt_some ex11 hf
                  refine lv_iinc (v := x11) (lv' := [(5, .int x11), (4, .int x5), (0, .ref (h 0)), (2, .int a2), (3, .int x1)]) hx hb dX8_layLeaf_56 hl (k := 4) rfl (by rw [ex11]; rfl) (by decide) rfl (fun ls hl => ?_)
                  refine lv_goto (tgt := 12) hx hb dX8_layLeaf_59 (by decide) ?_
                  cases hf
                  exact ih _ _ _ _ _ G (lv_sub hl [2, 3, 4, 1, 0] rfl) (hq1 _ rfl)
                · have hf := ifN c10 hf
                  refine lv_aload_n hx hb dX8_layLeaf_36 rfl (lv_at hl 0 rfl) ?_
                  refine lv_iload hx hb dX8_layLeaf_37 (lv_at hl 4 rfl) ?_
                  refine lv_iload hx hb dX8_layLeaf_39 (lv_at hl 3 rfl) ?_
                  obtain ⟨r12, hc41_12, hf⟩ := bI1_some hf
                  refine g_callVi C G (As := [.int x5, .int x4]) (rest := []) (c_X8_isAhead l D cy h x5 x4 st2 r12 hc41_12) cl8 rfl (C8 ok8_0) v_X8_169 (Nat.le_of_ble_eq_true rfl) (Nat.le_of_ble_eq_true rfl) rfl hl.1 rfl (Nat.le_of_ble_eq_true rfl) dX8_layLeaf_41 ⟨Nat.zero_le _, Nat.zero_le _⟩ (fun H locs G => ?_)
                  refine lv_if_eq (tgt := 52) hx hb dX8_layLeaf_44 (by decide) (fun c13 => ?_) (fun c13 => ?_)
                  · have hf := ifP c13 hf
                    refine lv_iload hx hb dX8_layLeaf_52 (lv_at hl 3 rfl) ?_
                    refine lv_istore (lv' := [(4, .int x4), (0, .ref (h 0)), (2, .int a2), (3, .int x1), (5, .int x5)]) hx hb dX8_layLeaf_54 hl (by decide) rfl (fun ls hl => ?_)
                    obtain ⟨x14, ex14⟩ : ∃ z : Int32, z = (x5 + 1) := ⟨_, rfl⟩
                    have hf := lt_some ex14 hf
                    refine lv_iinc (v := x14) (lv' := [(5, .int x14), (4, .int x4), (0, .ref (h 0)), (2, .int a2), (3, .int x1)]) hx hb dX8_layLeaf_56 hl (k := 4) rfl (by rw [ex14]; rfl) (by decide) rfl (fun ls hl => ?_)
                    refine lv_goto (tgt := 12) hx hb dX8_layLeaf_59 (by decide) ?_
                    cases hf
                    exact ih _ _ _ _ _ G (lv_sub hl [2, 3, 4, 1, 0] rfl) (hq1 _ rfl)
                  · have hf := ifN c13 hf
                    refine lv_iload hx hb dX8_layLeaf_47 (lv_at hl 4 rfl) ?_
                    refine lv_goto (tgt := 54) hx hb dX8_layLeaf_49 (by decide) ?_
                    refine lv_istore (lv' := [(4, .int x5), (0, .ref (h 0)), (2, .int a2), (3, .int x1), (5, .int x5)]) hx hb dX8_layLeaf_54 hl (by decide) rfl (fun ls hl => ?_)
                    obtain ⟨x15, ex15⟩ : ∃ z : Int32, z = (x5 + 1) := ⟨_, rfl⟩
                    have hf := lt_some ex15 hf
                    refine lv_iinc (v := x15) (lv' := [(5, .int x15), (4, .int x5), (0, .ref (h 0)), (2, .int a2), (3, .int x1)]) hx hb dX8_layLeaf_56 hl (k := 4) rfl (by rw [ex15]; rfl) (by decide) rfl (fun ls hl => ?_)
                    refine lv_goto (tgt := 12) hx hb dX8_layLeaf_59 (by decide) ?_
                    cases hf
                    exact ih _ _ _ _ _ G (lv_sub hl [2, 3, 4, 1, 0] rfl) (hq1 _ rfl)
        exact L12 n _ _ _ _ _ G (lv_sub hl [2, 3, 4, 1, 0] rfl) hn
  exact L2 n _ _ _ _ _ G (lv_sub hl [1, 3, 0] rfl) hn

noncomputable def f_X8_layOrder_L23  (x6 : Int32) (st7 : GS) : Option ((Int32 × GS) ⊕ (GS)) := 
(if 8 ≤ x6 then some (.inr (st7)) else 
gd x6 8 (lt_ (sv st7 8 (x6.toNatClampNeg) (-1)) (fun st10 => 
gd x6 8 (lt_ (sv st10 9 (x6.toNatClampNeg) (-1)) (fun st12 => 
lt_ (x6 + 1) (fun x13 => 
some (.inl (x13, st12))))))))
noncomputable def f_X8_layOrder_L73  (x19 : Int32) (st20 : GS) : Option ((Int32 × GS) ⊕ (GS)) := 
(if x19 ≤ 0 then some (.inr (st20)) else 
lt_ (x19 + (-1)) (fun x22 => 
gd x22 16 (lt_ (gt st20 10 (x22.toNatClampNeg)) (fun x24 => 
gd x22 16 (lt_ (gt st20 11 (x22.toNatClampNeg)) (fun x26 => 
bI1 (f_X8_layLane x24 st20) (fun st27 => 
(if (gt st27 0 14) = 0 then bI1 (f_X8_layLeaf x24 x26 st27) (fun st52 => 
some (.inl (x22, st52))) else 
bI1 (f_X8_firstSide x24 st27) (fun r29 => 
gd (5 * (gt st27 0 18)) 40 (lt_ (sv st27 7 ((5 * (gt st27 0 18)).toNatClampNeg) (gt st27 0 12)) (fun st31 => 
gd ((5 * (gt st31 0 18)) + 1) 40 (lt_ (sv st31 7 (((5 * (gt st31 0 18)) + 1).toNatClampNeg) (gt st31 0 13)) (fun st33 => 
gd ((5 * (gt st33 0 18)) + 2) 40 (lt_ (sv st33 7 (((5 * (gt st33 0 18)) + 2).toNatClampNeg) (gt st33 0 14)) (fun st35 => 
bI1 (f_X8_ones r29) (fun r36 => 
gd ((5 * (gt st35 0 18)) + 3) 40 (lt_ (sv st35 7 (((5 * (gt st35 0 18)) + 3).toNatClampNeg) r36) (fun st38 => 
bI1 (f_X8_ones (x24 &&& (r29 ^^^ (-1)))) (fun r39 => 
gd ((5 * (gt st38 0 18)) + 4) 40 (lt_ (sv st38 7 (((5 * (gt st38 0 18)) + 4).toNatClampNeg) r39) (fun st41 => 
lt_ (sv st41 0 18 ((gt st41 0 18) + 1)) (fun st42 => 
gd x22 16 (lt_ (sv st42 10 (x22.toNatClampNeg) (x24 &&& (r29 ^^^ (-1)))) (fun st44 => 
gd x22 16 (lt_ (sv st44 11 (x22.toNatClampNeg) (x26 + 1)) (fun st46 => 
gd (x22 + 1) 16 (lt_ (sv st46 10 ((x22 + 1).toNatClampNeg) r29) (fun st48 => 
gd (x22 + 1) 16 (lt_ (sv st48 11 ((x22 + 1).toNatClampNeg) (x26 + 1)) (fun st50 => 
lt_ (x22 + 2) (fun x51 => 
some (.inl (x51, st50)))))))))))))))))))))))))))))))))
noncomputable def f_X8_layOrder (a1 : Int32) (st : GS) : Option (GS) := 
bI2 (f_X8_layBound a1 st) (fun r1 st2 => 
lt_ (sv st2 0 16 0) (fun st3 => 
lt_ (sv st3 0 18 0) (fun st4 => 
lt_ (sv st4 0 19 0) (fun st5 => 
bI1 (lpx (uc2 f_X8_layOrder_L23) (0, st5)) (fun st14 => 
bI1 ((if r1 = 0 then some (0) else 
some (1))) (fun (x16 : Int32) => 
lt_ (sv st14 10 0 r1) (fun st17 => 
lt_ (sv st17 11 0 0) (fun st18 => 
bI1 (lpx (uc2 f_X8_layOrder_L73) (x16, st18)) (fun st53 => 
some (st53))))))))))
set_option maxRecDepth 100000 in
set_option maxHeartbeats 4000000 in
theorem c_X8_layOrder (l : Launch) (D : va_G) (cy : ClassId) (h : Nat → Nat) (a1 : Int32) (st : GS) (stF : GS) (hf : f_X8_layOrder a1 st = some stF) : gMv l MSh D cy h yX8_layOrder cX8_layOrder 7 none 6 st [.ref (h 0), .int a1] stF := by
  unfold f_X8_layOrder at hf
  refine gMv_of (by decide) (Nat.le_of_ble_eq_true rfl) ?_
  intro p e s m args below meth c A ls C hr hlocks G hl
  have C : gC p s m args c cX8_layOrder 7 "LaneOrderModel" MSh D cy h A := C
  have hl : lv_has ls 7 [(0, .ref (h 0)), (1, .int a1)] := hl
  have hx := C.1
  have hb := C.2.1
  have hown := C.2.2.2.1
  have htb := C.2.2.2.2.1
  refine lv_aload_n hx hb dX8_layOrder_0 rfl (lv_at hl 0 rfl) ?_
  refine lv_iload_n hx hb dX8_layOrder_1 rfl (lv_at hl 1 rfl) ?_
  obtain ⟨r1, st2, hc2_2, hf⟩ := bI2_some hf
  refine g_callVi C G (As := [.int a1]) (rest := []) (c_X8_layBound l D cy h a1 st r1 st2 hc2_2) cl8 rfl (C8 ok8_0) v_X8_179 (Nat.le_of_ble_eq_true rfl) (Nat.le_of_ble_eq_true rfl) rfl hl.1 rfl (Nat.le_of_ble_eq_true rfl) dX8_layOrder_2 ⟨Nat.zero_le _, Nat.zero_le _⟩ (fun H locs G => ?_)
  refine lv_istore_n (lv' := [(2, .int r1), (0, .ref (h 0)), (1, .int a1)]) hx hb dX8_layOrder_5 rfl hl (by decide) rfl (fun ls hl => ?_)
  refine lv_aload_n hx hb dX8_layOrder_6 rfl (lv_at hl 1 rfl) ?_
  refine lv_iconst (v := 0) hx hb dX8_layOrder_7 (by decide) ?_
  refine g_puti C G cl8 (C8 ok8_0) (j := 16) (by decide) (F8_16 ok8_0) k4_40 rfl rfl rfl dX8_layOrder_8 (fun st3 est3 H locs G => ?_)
  have hf := lt_some est3 hf
  refine lv_aload_n hx hb dX8_layOrder_11 rfl (lv_at hl 1 rfl) ?_
  refine lv_iconst (v := 0) hx hb dX8_layOrder_12 (by decide) ?_
  refine g_puti C G cl8 (C8 ok8_0) (j := 18) (by decide) (F8_18 ok8_0) k4_42 rfl rfl rfl dX8_layOrder_13 (fun st4 est4 H locs G => ?_)
  have hf := lt_some est4 hf
  refine lv_aload_n hx hb dX8_layOrder_16 rfl (lv_at hl 1 rfl) ?_
  refine lv_iconst (v := 0) hx hb dX8_layOrder_17 (by decide) ?_
  refine g_puti C G cl8 (C8 ok8_0) (j := 19) (by decide) (F8_19 ok8_0) k4_43 rfl rfl rfl dX8_layOrder_18 (fun st5 est5 H locs G => ?_)
  have hf := lt_some est5 hf
  refine lv_iconst (v := 0) hx hb dX8_layOrder_21 (by decide) ?_
  refine lv_istore_n (lv' := [(3, .int 0), (2, .int r1), (0, .ref (h 0)), (1, .int a1)]) hx hb dX8_layOrder_22 rfl hl (by decide) rfl (fun ls hl => ?_)
  obtain ⟨st14, hn, hf⟩ := bI1_some hf
  obtain ⟨n, hn⟩ := lpx_some hn
  have K49 : ∀ (H : Heap) (locs : List Loc) (ls : Array Slot), gG MSh D cy h A s st14 H locs → lv_has ls 7 [(0, .ref (h 0)), (2, .int r1)] → W p l e (gR 6) s m args below meth c H locs 0 0 (MQ below (gQv MSh D cy h A stF) args s 0 0 A) (F0 m 49 ls []) := by
    intro H locs ls G hl
    refine lv_iload_n hx hb dX8_layOrder_49 rfl (lv_at hl 1 rfl) ?_
    obtain ⟨x16, hj58, hf⟩ := bI1_some hf
    have K58 : ∀ (H : Heap) (locs : List Loc) (ls : Array Slot) , gG MSh D cy h A s st14 H locs → lv_has ls 7 [(0, .ref (h 0)), (2, .int r1)] → W p l e (gR 6) s m args below meth c H locs 0 0 (MQ below (gQv MSh D cy h A stF) args s 0 0 A) (F0 m 58 ls [.int x16]) := by
      intro H locs ls G hl
      refine lv_istore_n (lv' := [(3, .int x16), (0, .ref (h 0)), (2, .int r1)]) hx hb dX8_layOrder_58 rfl hl (by decide) rfl (fun ls hl => ?_)
      refine lv_aload_n hx hb dX8_layOrder_59 rfl (lv_at hl 1 rfl) ?_
      refine g_getr (k := 10) C G cl8 (C8 ok8_0) (j := 22) (by decide) (F8_22 ok8_0) k4_46 dX8_layOrder_60 ?_
      refine lv_iconst (v := 0) hx hb dX8_layOrder_63 (by decide) ?_
      refine lv_iload_n hx hb dX8_layOrder_64 rfl (lv_at hl 2 rfl) ?_
      refine g_iast C G (A8_22 ok8_0) (j := 0) (by decide) (vin_lit (j := 0) (by decide) (by decide) (by decide)) dX8_layOrder_65 (fun st17 est17 H locs G => ?_)
      have hf := lt_some est17 hf
      refine lv_aload_n hx hb dX8_layOrder_66 rfl (lv_at hl 1 rfl) ?_
      refine g_getr (k := 11) C G cl8 (C8 ok8_0) (j := 23) (by decide) (F8_23 ok8_0) k4_47 dX8_layOrder_67 ?_
      refine lv_iconst (v := 0) hx hb dX8_layOrder_70 (by decide) ?_
      refine lv_iconst (v := 0) hx hb dX8_layOrder_71 (by decide) ?_
      refine g_iast C G (A8_23 ok8_0) (j := 0) (by decide) (vin_lit (j := 0) (by decide) (by decide) (by decide)) dX8_layOrder_72 (fun st18 est18 H locs G => ?_)
      have hf := lt_some est18 hf
      obtain ⟨st53, hn, hf⟩ := bI1_some hf
      obtain ⟨n, hn⟩ := lpx_some hn
      have K279 : ∀ (H : Heap) (locs : List Loc) (ls : Array Slot), gG MSh D cy h A s st53 H locs → lv_has ls 7 [] → W p l e (gR 6) s m args below meth c H locs 0 0 (MQ below (gQv MSh D cy h A stF) args s 0 0 A) (F0 m 279 ls []) := by
        intro H locs ls G hl
        cases hf
        exact g_vret C G hr hlocks dX8_layOrder_279
      have L73 : ∀ (n : Nat) (x19 : Int32) (st20 : GS) (H : Heap) (locs : List Loc) (ls : Array Slot), gG MSh D cy h A s st20 H locs → lv_has ls 7 [(0, .ref (h 0)), (3, .int x19)] → lp (uc2 f_X8_layOrder_L73) n (x19, st20) = some (st53) → W p l e (gR 6) s m args below meth c H locs 0 0 (MQ below (gQv MSh D cy h A stF) args s 0 0 A) (F0 m 73 ls []) := by
        intro n
        induction n with
        | zero =>
          intro x19 st20 H locs ls G hl hn
          cases hn
        | succ n ih =>
          intro x19 st20 H locs ls G hl hn
          obtain ⟨q, hf, hq1, hq2⟩ := lp_q hn
          have hf : f_X8_layOrder_L73 x19 st20 = some q := hf
          unfold f_X8_layOrder_L73 at hf
          refine lv_iload_n hx hb dX8_layOrder_73 rfl (lv_at hl 1 rfl) ?_
          refine lv_if_le (tgt := 279) hx hb dX8_layOrder_74 (by decide) (fun c21 => ?_) (fun c21 => ?_)
          · have hf := ifP c21 hf
            cases hf
            have hz9 := hq2 _ rfl
            cases hz9
            exact K279 _ _ _ G (lv_sub hl [] rfl)
          · have hf := ifN c21 hf
            obtain ⟨x22, ex22⟩ : ∃ z : Int32, z = (x19 + (-1)) := ⟨_, rfl⟩
            have hf := lt_some ex22 hf
            refine lv_iinc (v := x22) (lv' := [(3, .int x22), (0, .ref (h 0))]) hx hb dX8_layOrder_77 hl (k := 1) rfl (by rw [ex22]; rfl) (by decide) rfl (fun ls hl => ?_)
            refine lv_aload_n hx hb dX8_layOrder_80 rfl (lv_at hl 1 rfl) ?_
            refine g_getr (k := 10) C G cl8 (C8 ok8_0) (j := 22) (by decide) (F8_22 ok8_0) k4_46 dX8_layOrder_81 ?_
            refine lv_iload_n hx hb dX8_layOrder_84 rfl (lv_at hl 0 rfl) ?_
            obtain ⟨hi85_22, hf⟩ := gd_some hf
            refine g_iald C G (A8_22 ok8_0) (j := x22.toNatClampNeg) rfl hi85_22 dX8_layOrder_85 ?_
            refine lv_topi (fun x24 ex24 => ?_)
            have hf := lt_some ex24 hf
            refine lv_istore (lv' := [(4, .int x24), (3, .int x22), (0, .ref (h 0))]) hx hb dX8_layOrder_86 hl (by decide) rfl (fun ls hl => ?_)
            refine lv_aload_n hx hb dX8_layOrder_88 rfl (lv_at hl 2 rfl) ?_
            refine g_getr (k := 11) C G cl8 (C8 ok8_0) (j := 23) (by decide) (F8_23 ok8_0) k4_47 dX8_layOrder_89 ?_
            refine lv_iload_n hx hb dX8_layOrder_92 rfl (lv_at hl 1 rfl) ?_
            obtain ⟨hi93_24, hf⟩ := gd_some hf
            refine g_iald C G (A8_23 ok8_0) (j := x22.toNatClampNeg) rfl hi93_24 dX8_layOrder_93 ?_
            refine lv_topi (fun x26 ex26 => ?_)
            have hf := lt_some ex26 hf
            refine lv_istore (lv' := [(5, .int x26), (4, .int x24), (3, .int x22), (0, .ref (h 0))]) hx hb dX8_layOrder_94 hl (by decide) rfl (fun ls hl => ?_)
            refine lv_aload_n hx hb dX8_layOrder_96 rfl (lv_at hl 3 rfl) ?_
            refine lv_iload hx hb dX8_layOrder_97 (lv_at hl 1 rfl) ?_
            obtain ⟨st27, hc99_27, hf⟩ := bI1_some hf
            refine g_callVv C G (As := [.int x24]) (rest := []) (c_X8_layLane l D cy h x24 st20 st27 hc99_27) cl8 rfl (C8 ok8_0) v_X8_185 (Nat.le_of_ble_eq_true rfl) (Nat.le_of_ble_eq_true rfl) rfl hl.1 rfl (Nat.le_of_ble_eq_true rfl) dX8_layOrder_99 ⟨Nat.zero_le _, Nat.zero_le _⟩ (fun H locs G => ?_)
            refine lv_aload_n hx hb dX8_layOrder_102 rfl (lv_at hl 3 rfl) ?_
            refine g_geti C G cl8 (C8 ok8_0) (j := 14) (by decide) (F8_14 ok8_0) k4_38 dX8_layOrder_103 ?_
            refine lv_if_ne (tgt := 120) hx hb dX8_layOrder_106 (by decide) (fun c28 => ?_) (fun c28 => ?_)
            · have hf := ifN c28 hf
              refine lv_aload_n hx hb dX8_layOrder_120 rfl (lv_at hl 3 rfl) ?_
              refine lv_iload hx hb dX8_layOrder_121 (lv_at hl 1 rfl) ?_
              obtain ⟨r29, hc123_29, hf⟩ := bI1_some hf
              refine g_callVi C G (As := [.int x24]) (rest := []) (c_X8_firstSide l D cy h x24 st27 r29 hc123_29) cl8 rfl (C8 ok8_0) v_X8_192 (Nat.le_of_ble_eq_true rfl) (Nat.le_of_ble_eq_true rfl) rfl hl.1 rfl (Nat.le_of_ble_eq_true rfl) dX8_layOrder_123 ⟨Nat.zero_le _, Nat.zero_le _⟩ (fun H locs G => ?_)
              refine lv_istore (lv' := [(6, .int r29), (5, .int x26), (4, .int x24), (3, .int x22), (0, .ref (h 0))]) hx hb dX8_layOrder_126 hl (by decide) rfl (fun ls hl => ?_)
              refine lv_aload_n hx hb dX8_layOrder_128 rfl (lv_at hl 4 rfl) ?_
              refine g_getr (k := 7) C G cl8 (C8 ok8_0) (j := 17) (by decide) (F8_17 ok8_0) k4_41 dX8_layOrder_129 ?_
              refine lv_iconst (v := 5) hx hb dX8_layOrder_132 (by decide) ?_
              refine lv_aload_n hx hb dX8_layOrder_133 rfl (lv_at hl 4 rfl) ?_
              refine g_geti C G cl8 (C8 ok8_0) (j := 18) (by decide) (F8_18 ok8_0) k4_42 dX8_layOrder_134 ?_
              refine lv_imul hx hb dX8_layOrder_137 ?_
              refine lv_aload_n hx hb dX8_layOrder_138 rfl (lv_at hl 4 rfl) ?_
              refine g_geti C G cl8 (C8 ok8_0) (j := 12) (by decide) (F8_12 ok8_0) k4_36 dX8_layOrder_139 ?_
              obtain ⟨hi142_29, hf⟩ := gd_some hf
              refine g_iast C G (A8_17 ok8_0) (j := (5 * (gt st27 0 18)).toNatClampNeg) rfl hi142_29 dX8_layOrder_142 (fun st31 est31 H locs G => ?_)
              have hf := lt_some est31 hf
              refine lv_aload_n hx hb dX8_layOrder_143 rfl (lv_at hl 4 rfl) ?_
              refine g_getr (k := 7) C G cl8 (C8 ok8_0) (j := 17) (by decide) (F8_17 ok8_0) k4_41 dX8_layOrder_144 ?_
              refine lv_iconst (v := 5) hx hb dX8_layOrder_147 (by decide) ?_
              refine lv_aload_n hx hb dX8_layOrder_148 rfl (lv_at hl 4 rfl) ?_
              refine g_geti C G cl8 (C8 ok8_0) (j := 18) (by decide) (F8_18 ok8_0) k4_42 dX8_layOrder_149 ?_
              refine lv_imul hx hb dX8_layOrder_152 ?_
              refine lv_iconst (v := 1) hx hb dX8_layOrder_153 (by decide) ?_
              refine lv_iadd hx hb dX8_layOrder_154 ?_
              refine lv_aload_n hx hb dX8_layOrder_155 rfl (lv_at hl 4 rfl) ?_
              refine g_geti C G cl8 (C8 ok8_0) (j := 13) (by decide) (F8_13 ok8_0) k4_37 dX8_layOrder_156 ?_
              obtain ⟨hi159_31, hf⟩ := gd_some hf
              refine g_iast C G (A8_17 ok8_0) (j := ((5 * (gt st31 0 18)) + 1).toNatClampNeg) rfl hi159_31 dX8_layOrder_159 (fun st33 est33 H locs G => ?_)
              have hf := lt_some est33 hf
              refine lv_aload_n hx hb dX8_layOrder_160 rfl (lv_at hl 4 rfl) ?_
              refine g_getr (k := 7) C G cl8 (C8 ok8_0) (j := 17) (by decide) (F8_17 ok8_0) k4_41 dX8_layOrder_161 ?_
              refine lv_iconst (v := 5) hx hb dX8_layOrder_164 (by decide) ?_
              refine lv_aload_n hx hb dX8_layOrder_165 rfl (lv_at hl 4 rfl) ?_
              refine g_geti C G cl8 (C8 ok8_0) (j := 18) (by decide) (F8_18 ok8_0) k4_42 dX8_layOrder_166 ?_
              refine lv_imul hx hb dX8_layOrder_169 ?_
              refine lv_iconst (v := 2) hx hb dX8_layOrder_170 (by decide) ?_
              refine lv_iadd hx hb dX8_layOrder_171 ?_
              refine lv_aload_n hx hb dX8_layOrder_172 rfl (lv_at hl 4 rfl) ?_
              refine g_geti C G cl8 (C8 ok8_0) (j := 14) (by decide) (F8_14 ok8_0) k4_38 dX8_layOrder_173 ?_
              obtain ⟨hi176_33, hf⟩ := gd_some hf
              refine g_iast C G (A8_17 ok8_0) (j := ((5 * (gt st33 0 18)) + 2).toNatClampNeg) rfl hi176_33 dX8_layOrder_176 (fun st35 est35 H locs G => ?_)
              have hf := lt_some est35 hf
              refine lv_aload_n hx hb dX8_layOrder_177 rfl (lv_at hl 4 rfl) ?_
              refine g_getr (k := 7) C G cl8 (C8 ok8_0) (j := 17) (by decide) (F8_17 ok8_0) k4_41 dX8_layOrder_178 ?_
              refine lv_iconst (v := 5) hx hb dX8_layOrder_181 (by decide) ?_
              refine lv_aload_n hx hb dX8_layOrder_182 rfl (lv_at hl 4 rfl) ?_
              refine g_geti C G cl8 (C8 ok8_0) (j := 18) (by decide) (F8_18 ok8_0) k4_42 dX8_layOrder_183 ?_
              refine lv_imul hx hb dX8_layOrder_186 ?_
              refine lv_iconst (v := 3) hx hb dX8_layOrder_187 (by decide) ?_
              refine lv_iadd hx hb dX8_layOrder_188 ?_
              refine lv_iload hx hb dX8_layOrder_189 (lv_at hl 0 rfl) ?_
              obtain ⟨r36, hc191_36, hf⟩ := bI1_some hf
              refine g_callSi C G (As := [.int r29]) (rest := [.int ((5 * (gt st35 0 18)) + 3), .ref (h 7)]) (c_X8_ones l D cy h r29 st35 r36 hc191_36) v_X8_195 (Nat.le_of_ble_eq_true rfl) (Nat.le_of_ble_eq_true rfl) rfl hl.1 rfl (Nat.le_of_ble_eq_true rfl) dX8_layOrder_191 ⟨Nat.zero_le _, Nat.zero_le _⟩ (fun H locs G => ?_)
              obtain ⟨hi194_36, hf⟩ := gd_some hf
              refine g_iast C G (A8_17 ok8_0) (j := ((5 * (gt st35 0 18)) + 3).toNatClampNeg) rfl hi194_36 dX8_layOrder_194 (fun st38 est38 H locs G => ?_)
              have hf := lt_some est38 hf
              refine lv_aload_n hx hb dX8_layOrder_195 rfl (lv_at hl 4 rfl) ?_
              refine g_getr (k := 7) C G cl8 (C8 ok8_0) (j := 17) (by decide) (F8_17 ok8_0) k4_41 dX8_layOrder_196 ?_
              refine lv_iconst (v := 5) hx hb dX8_layOrder_199 (by decide) ?_
              refine lv_aload_n hx hb dX8_layOrder_200 rfl (lv_at hl 4 rfl) ?_
              refine g_geti C G cl8 (C8 ok8_0) (j := 18) (by decide) (F8_18 ok8_0) k4_42 dX8_layOrder_201 ?_
              refine lv_imul hx hb dX8_layOrder_204 ?_
              refine lv_iconst (v := 4) hx hb dX8_layOrder_205 (by decide) ?_
              refine lv_iadd hx hb dX8_layOrder_206 ?_
              refine lv_iload hx hb dX8_layOrder_207 (lv_at hl 2 rfl) ?_
              refine lv_iload hx hb dX8_layOrder_209 (lv_at hl 0 rfl) ?_
              refine lv_iconst (v := (-1)) hx hb dX8_layOrder_211 (by decide) ?_
              refine lv_ixor hx hb dX8_layOrder_212 ?_
              refine lv_iand hx hb dX8_layOrder_213 ?_
              obtain ⟨r39, hc214_39, hf⟩ := bI1_some hf
              refine g_callSi C G (As := [.int (x24 &&& (r29 ^^^ (-1)))]) (rest := [.int ((5 * (gt st38 0 18)) + 4), .ref (h 7)]) (c_X8_ones l D cy h (x24 &&& (r29 ^^^ (-1))) st38 r39 hc214_39) v_X8_195 (Nat.le_of_ble_eq_true rfl) (Nat.le_of_ble_eq_true rfl) rfl hl.1 rfl (Nat.le_of_ble_eq_true rfl) dX8_layOrder_214 ⟨Nat.zero_le _, Nat.zero_le _⟩ (fun H locs G => ?_)
              obtain ⟨hi217_39, hf⟩ := gd_some hf
              refine g_iast C G (A8_17 ok8_0) (j := ((5 * (gt st38 0 18)) + 4).toNatClampNeg) rfl hi217_39 dX8_layOrder_217 (fun st41 est41 H locs G => ?_)
              have hf := lt_some est41 hf
              refine lv_aload_n hx hb dX8_layOrder_218 rfl (lv_at hl 4 rfl) ?_
              refine lv_dup hx hb dX8_layOrder_219 rfl ?_
              refine g_geti C G cl8 (C8 ok8_0) (j := 18) (by decide) (F8_18 ok8_0) k4_42 dX8_layOrder_220 ?_
              refine lv_iconst (v := 1) hx hb dX8_layOrder_223 (by decide) ?_
              refine lv_iadd hx hb dX8_layOrder_224 ?_
              refine g_puti C G cl8 (C8 ok8_0) (j := 18) (by decide) (F8_18 ok8_0) k4_42 rfl rfl rfl dX8_layOrder_225 (fun st42 est42 H locs G => ?_)
              have hf := lt_some est42 hf
              refine lv_aload_n hx hb dX8_layOrder_228 rfl (lv_at hl 4 rfl) ?_
              refine g_getr (k := 10) C G cl8 (C8 ok8_0) (j := 22) (by decide) (F8_22 ok8_0) k4_46 dX8_layOrder_229 ?_
              refine lv_iload_n hx hb dX8_layOrder_232 rfl (lv_at hl 3 rfl) ?_
              refine lv_iload hx hb dX8_layOrder_233 (lv_at hl 2 rfl) ?_
              refine lv_iload hx hb dX8_layOrder_235 (lv_at hl 0 rfl) ?_
              refine lv_iconst (v := (-1)) hx hb dX8_layOrder_237 (by decide) ?_
              refine lv_ixor hx hb dX8_layOrder_238 ?_
              refine lv_iand hx hb dX8_layOrder_239 ?_
              obtain ⟨hi240_42, hf⟩ := gd_some hf
              refine g_iast C G (A8_22 ok8_0) (j := x22.toNatClampNeg) rfl hi240_42 dX8_layOrder_240 (fun st44 est44 H locs G => ?_)
              have hf := lt_some est44 hf
              refine lv_aload_n hx hb dX8_layOrder_241 rfl (lv_at hl 4 rfl) ?_
              refine g_getr (k := 11) C G cl8 (C8 ok8_0) (j := 23) (by decide) (F8_23 ok8_0) k4_47 dX8_layOrder_242 ?_
              refine lv_iload_n hx hb dX8_layOrder_245 rfl (lv_at hl 3 rfl) ?_
              refine lv_iload hx hb dX8_layOrder_246 (lv_at hl 1 rfl) ?_
              refine lv_iconst (v := 1) hx hb dX8_layOrder_248 (by decide) ?_
              refine lv_iadd hx hb dX8_layOrder_249 ?_
              obtain ⟨hi250_44, hf⟩ := gd_some hf
              refine g_iast C G (A8_23 ok8_0) (j := x22.toNatClampNeg) rfl hi250_44 dX8_layOrder_250 (fun st46 est46 H locs G => ?_)
              have hf := lt_some est46 hf
              refine lv_aload_n hx hb dX8_layOrder_251 rfl (lv_at hl 4 rfl) ?_
              refine g_getr (k := 10) C G cl8 (C8 ok8_0) (j := 22) (by decide) (F8_22 ok8_0) k4_46 dX8_layOrder_252 ?_
              refine lv_iload_n hx hb dX8_layOrder_255 rfl (lv_at hl 3 rfl) ?_
              refine lv_iconst (v := 1) hx hb dX8_layOrder_256 (by decide) ?_
              refine lv_iadd hx hb dX8_layOrder_257 ?_
              refine lv_iload hx hb dX8_layOrder_258 (lv_at hl 0 rfl) ?_
              obtain ⟨hi260_46, hf⟩ := gd_some hf
              refine g_iast C G (A8_22 ok8_0) (j := (x22 + 1).toNatClampNeg) rfl hi260_46 dX8_layOrder_260 (fun st48 est48 H locs G => ?_)
              have hf := lt_some est48 hf
              refine lv_aload_n hx hb dX8_layOrder_261 rfl (lv_at hl 4 rfl) ?_
              refine g_getr (k := 11) C G cl8 (C8 ok8_0) (j := 23) (by decide) (F8_23 ok8_0) k4_47 dX8_layOrder_262 ?_
              refine lv_iload_n hx hb dX8_layOrder_265 rfl (lv_at hl 3 rfl) ?_
              refine lv_iconst (v := 1) hx hb dX8_layOrder_266 (by decide) ?_
              refine lv_iadd hx hb dX8_layOrder_267 ?_
              refine lv_iload hx hb dX8_layOrder_268 (lv_at hl 1 rfl) ?_
              refine lv_iconst (v := 1) hx hb dX8_layOrder_270 (by decide) ?_
              refine lv_iadd hx hb dX8_layOrder_271 ?_
              obtain ⟨hi272_48, hf⟩ := gd_some hf
              refine g_iast C G (A8_23 ok8_0) (j := (x22 + 1).toNatClampNeg) rfl hi272_48 dX8_layOrder_272 (fun st50 est50 H locs G => ?_)
              have hf := lt_some est50 hf
              obtain ⟨x51, ex51⟩ : ∃ z : Int32, z = (x22 + 2) := ⟨_, rfl⟩
              have hf := lt_some ex51 hf
              refine lv_iinc (v := x51) (lv' := [(3, .int x51), (6, .int r29), (5, .int x26), (4, .int x24), (0, .ref (h 0))]) hx hb dX8_layOrder_273 hl (k := 3) rfl (by rw [ex51]; rfl) (by decide) rfl (fun ls hl => ?_)
              refine lv_goto (tgt := 73) hx hb dX8_layOrder_276 (by decide) ?_
              cases hf
              exact ih _ _ _ _ _ G (lv_sub hl [4, 0] rfl) (hq1 _ rfl)
            · have hf := ifP c28 hf
              refine lv_aload_n hx hb dX8_layOrder_109 rfl (lv_at hl 3 rfl) ?_
              refine lv_iload hx hb dX8_layOrder_110 (lv_at hl 1 rfl) ?_
              refine lv_iload hx hb dX8_layOrder_112 (lv_at hl 0 rfl) ?_
              obtain ⟨st52, hc114_52, hf⟩ := bI1_some hf
              refine g_callVv C G (As := [.int x24, .int x26]) (rest := []) (c_X8_layLeaf l D cy h x24 x26 st27 st52 hc114_52) cl8 rfl (C8 ok8_0) v_X8_188 (Nat.le_of_ble_eq_true rfl) (Nat.le_of_ble_eq_true rfl) rfl hl.1 rfl (Nat.le_of_ble_eq_true rfl) dX8_layOrder_114 ⟨Nat.zero_le _, Nat.zero_le _⟩ (fun H locs G => ?_)
              refine lv_goto (tgt := 276) hx hb dX8_layOrder_117 (by decide) ?_
              refine lv_goto (tgt := 73) hx hb dX8_layOrder_276 (by decide) ?_
              cases hf
              exact ih _ _ _ _ _ G (lv_sub hl [3, 2] rfl) (hq1 _ rfl)
      exact L73 n _ _ _ _ _ G (lv_sub hl [1, 0] rfl) hn
    clear hf
    refine lv_if_ne (tgt := 57) hx hb dX8_layOrder_50 (by decide) (fun c15 => ?_) (fun c15 => ?_)
    · have hf := ifN c15 hj58
      refine lv_iconst (v := 1) hx hb dX8_layOrder_57 (by decide) ?_
      cases hf
      exact K58 _ _ _ G hl
    · have hf := ifP c15 hj58
      refine lv_iconst (v := 0) hx hb dX8_layOrder_53 (by decide) ?_
      refine lv_goto (tgt := 58) hx hb dX8_layOrder_54 (by decide) ?_
      cases hf
      exact K58 _ _ _ G hl
  have L23 : ∀ (n : Nat) (x6 : Int32) (st7 : GS) (H : Heap) (locs : List Loc) (ls : Array Slot), gG MSh D cy h A s st7 H locs → lv_has ls 7 [(0, .ref (h 0)), (2, .int r1), (3, .int x6)] → lp (uc2 f_X8_layOrder_L23) n (x6, st7) = some (st14) → W p l e (gR 6) s m args below meth c H locs 0 0 (MQ below (gQv MSh D cy h A stF) args s 0 0 A) (F0 m 23 ls []) := by
    intro n
    induction n with
    | zero =>
      intro x6 st7 H locs ls G hl hn
      cases hn
    | succ n ih =>
      intro x6 st7 H locs ls G hl hn
      obtain ⟨q, hf, hq1, hq2⟩ := lp_q hn
      have hf : f_X8_layOrder_L23 x6 st7 = some q := hf
      unfold f_X8_layOrder_L23 at hf
      refine lv_iload_n hx hb dX8_layOrder_23 rfl (lv_at hl 2 rfl) ?_
      refine lv_bipush (v := 8) hx hb dX8_layOrder_24 (by decide) ?_
      refine lv_icmp_ge (tgt := 49) hx hb dX8_layOrder_26 (by decide) (fun c8 => ?_) (fun c8 => ?_)
      · have hf := ifP c8 hf
        cases hf
        have hz9 := hq2 _ rfl
        cases hz9
        exact K49 _ _ _ G (lv_sub hl [0, 1] rfl)
      · have hf := ifN c8 hf
        refine lv_aload_n hx hb dX8_layOrder_29 rfl (lv_at hl 0 rfl) ?_
        refine g_getr (k := 8) C G cl8 (C8 ok8_0) (j := 20) (by decide) (F8_20 ok8_0) k4_44 dX8_layOrder_30 ?_
        refine lv_iload_n hx hb dX8_layOrder_33 rfl (lv_at hl 2 rfl) ?_
        refine lv_iconst (v := (-1)) hx hb dX8_layOrder_34 (by decide) ?_
        obtain ⟨hi35_8, hf⟩ := gd_some hf
        refine g_iast C G (A8_20 ok8_0) (j := x6.toNatClampNeg) rfl hi35_8 dX8_layOrder_35 (fun st10 est10 H locs G => ?_)
        have hf := lt_some est10 hf
        refine lv_aload_n hx hb dX8_layOrder_36 rfl (lv_at hl 0 rfl) ?_
        refine g_getr (k := 9) C G cl8 (C8 ok8_0) (j := 21) (by decide) (F8_21 ok8_0) k4_45 dX8_layOrder_37 ?_
        refine lv_iload_n hx hb dX8_layOrder_40 rfl (lv_at hl 2 rfl) ?_
        refine lv_iconst (v := (-1)) hx hb dX8_layOrder_41 (by decide) ?_
        obtain ⟨hi42_10, hf⟩ := gd_some hf
        refine g_iast C G (A8_21 ok8_0) (j := x6.toNatClampNeg) rfl hi42_10 dX8_layOrder_42 (fun st12 est12 H locs G => ?_)
        have hf := lt_some est12 hf
        obtain ⟨x13, ex13⟩ : ∃ z : Int32, z = (x6 + 1) := ⟨_, rfl⟩
        have hf := lt_some ex13 hf
        refine lv_iinc (v := x13) (lv' := [(3, .int x13), (0, .ref (h 0)), (2, .int r1)]) hx hb dX8_layOrder_43 hl (k := 2) rfl (by rw [ex13]; rfl) (by decide) rfl (fun ls hl => ?_)
        refine lv_goto (tgt := 23) hx hb dX8_layOrder_46 (by decide) ?_
        cases hf
        exact ih _ _ _ _ _ G (lv_sub hl [1, 2, 0] rfl) (hq1 _ rfl)
  exact L23 n _ _ _ _ _ G (lv_sub hl [2, 1, 0] rfl) hn

noncomputable def f_X8_layAll (st : GS) : Option (GS) := 
bI1 (f_X8_layOrder ((ishl 1 (gt st 0 5)) - 1) st) (fun st1 => 
some (st1))
set_option maxRecDepth 100000 in
set_option maxHeartbeats 4000000 in
theorem c_X8_layAll (l : Launch) (D : va_G) (cy : ClassId) (h : Nat → Nat)  (st : GS) (stF : GS) (hf : f_X8_layAll st = some stF) : gMv l MSh D cy h yX8_layAll cX8_layAll 1 none 7 st [.ref (h 0)] stF := by
  unfold f_X8_layAll at hf
  refine gMv_of (by decide) (Nat.le_of_ble_eq_true rfl) ?_
  intro p e s m args below meth c A ls C hr hlocks G hl
  have C : gC p s m args c cX8_layAll 1 "LaneOrderModel" MSh D cy h A := C
  have hl : lv_has ls 1 [(0, .ref (h 0))] := hl
  have hx := C.1
  have hb := C.2.1
  have hown := C.2.2.2.1
  have htb := C.2.2.2.2.1
  refine lv_aload_n hx hb dX8_layAll_0 rfl (lv_at hl 0 rfl) ?_
  refine lv_iconst (v := 1) hx hb dX8_layAll_1 (by decide) ?_
  refine lv_aload_n hx hb dX8_layAll_2 rfl (lv_at hl 0 rfl) ?_
  refine g_geti C G cl8 (C8 ok8_0) (j := 5) (by decide) (F8_5 ok8_0) k4_29 dX8_layAll_3 ?_
  refine g_ishl C dX8_layAll_6 ?_
  refine lv_iconst (v := 1) hx hb dX8_layAll_7 (by decide) ?_
  refine lv_isub hx hb dX8_layAll_8 ?_
  obtain ⟨st1, hc9_1, hf⟩ := bI1_some hf
  refine g_callVv C G (As := [.int ((ishl 1 (gt st 0 5)) - 1)]) (rest := []) (c_X8_layOrder l D cy h ((ishl 1 (gt st 0 5)) - 1) st st1 hc9_1) cl8 rfl (C8 ok8_0) v_X8_198 (Nat.le_of_ble_eq_true rfl) (Nat.le_of_ble_eq_true rfl) rfl hl.1 rfl (Nat.le_of_ble_eq_true rfl) dX8_layAll_9 ⟨Nat.zero_le _, Nat.zero_le _⟩ (fun H locs G => ?_)
  cases hf
  exact g_vret C G hr hlocks dX8_layAll_12

noncomputable def f_X8_placeOf_L4 (a1 : Int32) (st : GS) (x1 : Int32) (x2 : Int32) : Option ((Int32 × Int32) ⊕ (Int32)) := 
(if (gt st 0 16) ≤ x2 then some (.inr (x1)) else 
gd x2 8 ((if (gt st 6 (x2.toNatClampNeg)) = a1 then lt_ (x2 + 1) (fun x7 => 
some (.inl (x2, x7))) else 
lt_ (x2 + 1) (fun x6 => 
some (.inl (x1, x6))))))
noncomputable def f_X8_placeOf (a1 : Int32) (st : GS) : Option (Int32) := 
bI1 (lpx (uc2 (f_X8_placeOf_L4 a1 st)) ((-1), 0)) (fun x8 => 
some (x8))
set_option maxRecDepth 100000 in
set_option maxHeartbeats 4000000 in
theorem c_X8_placeOf (l : Launch) (D : va_G) (cy : ClassId) (h : Nat → Nat) (a1 : Int32) (st : GS) (r : Int32) (hf : f_X8_placeOf a1 st = some r) : gMi l MSh D cy h yX8_placeOf cX8_placeOf 4 (some .int) 1 st [.ref (h 0), .int a1] r st := by
  unfold f_X8_placeOf at hf
  refine gMi_of (by decide) (Nat.le_of_ble_eq_true rfl) ?_
  intro p e s m args below meth c A ls C hr hlocks G hl
  have C : gC p s m args c cX8_placeOf 4 "LaneOrderModel" MSh D cy h A := C
  have hl : lv_has ls 4 [(0, .ref (h 0)), (1, .int a1)] := hl
  have hx := C.1
  have hb := C.2.1
  have hown := C.2.2.2.1
  have htb := C.2.2.2.2.1
  refine lv_iconst (v := (-1)) hx hb dX8_placeOf_0 (by decide) ?_
  refine lv_istore_n (lv' := [(2, .int (-1)), (0, .ref (h 0)), (1, .int a1)]) hx hb dX8_placeOf_1 rfl hl (by decide) rfl (fun ls hl => ?_)
  refine lv_iconst (v := 0) hx hb dX8_placeOf_2 (by decide) ?_
  refine lv_istore_n (lv' := [(3, .int 0), (2, .int (-1)), (0, .ref (h 0)), (1, .int a1)]) hx hb dX8_placeOf_3 rfl hl (by decide) rfl (fun ls hl => ?_)
  obtain ⟨x8, hn, hf⟩ := bI1_some hf
  obtain ⟨n, hn⟩ := lpx_some hn
  have K34 : ∀ (H : Heap) (locs : List Loc) (ls : Array Slot), gG MSh D cy h A s st H locs → lv_has ls 4 [(2, .int x8)] → W p l e (gR 1) s m args below meth c H locs 0 0 (MQ below (gQi MSh D cy h A r st) args s 0 0 A) (F0 m 34 ls []) := by
    intro H locs ls G hl
    refine lv_iload_n hx hb dX8_placeOf_34 rfl (lv_at hl 0 rfl) ?_
    cases hf
    exact g_iret C G hr hlocks dX8_placeOf_35
  have L4 : ∀ (n : Nat) (x1 : Int32) (x2 : Int32) (H : Heap) (locs : List Loc) (ls : Array Slot), gG MSh D cy h A s st H locs → lv_has ls 4 [(0, .ref (h 0)), (1, .int a1), (2, .int x1), (3, .int x2)] → lp (uc2 (f_X8_placeOf_L4 a1 st)) n (x1, x2) = some (x8) → W p l e (gR 1) s m args below meth c H locs 0 0 (MQ below (gQi MSh D cy h A r st) args s 0 0 A) (F0 m 4 ls []) := by
    intro n
    induction n with
    | zero =>
      intro x1 x2 H locs ls G hl hn
      cases hn
    | succ n ih =>
      intro x1 x2 H locs ls G hl hn
      obtain ⟨q, hf, hq1, hq2⟩ := lp_q hn
      have hf : f_X8_placeOf_L4 a1 st x1 x2 = some q := hf
      unfold f_X8_placeOf_L4 at hf
      refine lv_iload_n hx hb dX8_placeOf_4 rfl (lv_at hl 3 rfl) ?_
      refine lv_aload_n hx hb dX8_placeOf_5 rfl (lv_at hl 0 rfl) ?_
      refine g_geti C G cl8 (C8 ok8_0) (j := 16) (by decide) (F8_16 ok8_0) k4_40 dX8_placeOf_6 ?_
      refine lv_icmp_ge (tgt := 34) hx hb dX8_placeOf_9 (by decide) (fun c3 => ?_) (fun c3 => ?_)
      · have hf := ifP c3 hf
        cases hf
        have hz9 := hq2 _ rfl
        cases hz9
        exact K34 _ _ _ G (lv_sub hl [2] rfl)
      · have hf := ifN c3 hf
        refine lv_aload_n hx hb dX8_placeOf_12 rfl (lv_at hl 0 rfl) ?_
        refine g_getr (k := 6) C G cl8 (C8 ok8_0) (j := 15) (by decide) (F8_15 ok8_0) k4_39 dX8_placeOf_13 ?_
        refine lv_iload_n hx hb dX8_placeOf_16 rfl (lv_at hl 3 rfl) ?_
        obtain ⟨hi17_3, hf⟩ := gd_some hf
        refine g_iald C G (A8_15 ok8_0) (j := x2.toNatClampNeg) rfl hi17_3 dX8_placeOf_17 ?_
        refine lv_iload_n hx hb dX8_placeOf_18 rfl (lv_at hl 1 rfl) ?_
        refine lv_icmp_ne (tgt := 26) hx hb dX8_placeOf_19 (by decide) (fun c5 => ?_) (fun c5 => ?_)
        · have hf := ifN c5 hf
          refine lv_iload_n hx hb dX8_placeOf_26 rfl (lv_at hl 2 rfl) ?_
          refine lv_istore_n (lv' := [(2, .int x1), (0, .ref (h 0)), (1, .int a1), (3, .int x2)]) hx hb dX8_placeOf_27 rfl hl (by decide) rfl (fun ls hl => ?_)
          obtain ⟨x6, ex6⟩ : ∃ z : Int32, z = (x2 + 1) := ⟨_, rfl⟩
          have hf := lt_some ex6 hf
          refine lv_iinc (v := x6) (lv' := [(3, .int x6), (2, .int x1), (0, .ref (h 0)), (1, .int a1)]) hx hb dX8_placeOf_28 hl (k := 3) rfl (by rw [ex6]; rfl) (by decide) rfl (fun ls hl => ?_)
          refine lv_goto (tgt := 4) hx hb dX8_placeOf_31 (by decide) ?_
          cases hf
          exact ih _ _ _ _ _ G (lv_sub hl [2, 3, 1, 0] rfl) (hq1 _ rfl)
        · have hf := ifP c5 hf
          refine lv_iload_n hx hb dX8_placeOf_22 rfl (lv_at hl 3 rfl) ?_
          refine lv_goto (tgt := 27) hx hb dX8_placeOf_23 (by decide) ?_
          refine lv_istore_n (lv' := [(2, .int x2), (0, .ref (h 0)), (1, .int a1), (3, .int x2)]) hx hb dX8_placeOf_27 rfl hl (by decide) rfl (fun ls hl => ?_)
          obtain ⟨x7, ex7⟩ : ∃ z : Int32, z = (x2 + 1) := ⟨_, rfl⟩
          have hf := lt_some ex7 hf
          refine lv_iinc (v := x7) (lv' := [(3, .int x7), (2, .int x2), (0, .ref (h 0)), (1, .int a1)]) hx hb dX8_placeOf_28 hl (k := 3) rfl (by rw [ex7]; rfl) (by decide) rfl (fun ls hl => ?_)
          refine lv_goto (tgt := 4) hx hb dX8_placeOf_31 (by decide) ?_
          cases hf
          exact ih _ _ _ _ _ G (lv_sub hl [2, 3, 1, 0] rfl) (hq1 _ rfl)
  exact L4 n _ _ _ _ _ G (lv_sub hl [2, 3, 1, 0] rfl) hn
