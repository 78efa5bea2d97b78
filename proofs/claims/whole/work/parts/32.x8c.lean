noncomputable def f_X8_sortsBy (a1 : Int32) : Option (Int32) := 
(if a1 = 0 then some (2) else 
(if a1 = 1 then some (20) else 
(if a1 = 2 then some (16) else 
some (8))))
set_option maxRecDepth 100000 in
set_option maxHeartbeats 4000000 in
theorem c_X8_sortsBy (l : Launch) (D : va_G) (cy : ClassId) (h : Nat → Nat) (a1 : Int32) (st : GS) (r : Int32) (hf : f_X8_sortsBy a1 = some r) : gMi l MSh D cy h yX8_sortsBy cX8_sortsBy 1 (some .int) 1 st [.int a1] r st := by
  unfold f_X8_sortsBy at hf
  refine gMi_of (by decide) (Nat.le_of_ble_eq_true rfl) ?_
  intro p e s m args below meth c A ls C hr hlocks G hl
  have C : gC p s m args c cX8_sortsBy 1 "LaneOrderModel" MSh D cy h A := C
  have hl : lv_has ls 1 [(0, .int a1)] := hl
  have hx := C.1
  have hb := C.2.1
  have hown := C.2.2.2.1
  have htb := C.2.2.2.2.1
  refine lv_iload_n hx hb dX8_sortsBy_0 rfl (lv_at hl 0 rfl) ?_
  by_cases c1_0 : a1 = 0
  · have hf := ifP c1_0 hf
    refine lv_tableIn (tgt := 28) hx hb dX8_sortsBy_1 (by rw [c1_0]; decide) (by rw [c1_0]; decide) (by rw [c1_0]; rfl) (by decide) ?_
    refine lv_iconst (v := 2) hx hb dX8_sortsBy_28 (by decide) ?_
    cases hf
    exact g_iret C G hr hlocks dX8_sortsBy_29
  · have hf := ifN c1_0 hf
    by_cases c1_1 : a1 = 1
    · have hf := ifP c1_1 hf
      refine lv_tableIn (tgt := 30) hx hb dX8_sortsBy_1 (by rw [c1_1]; decide) (by rw [c1_1]; decide) (by rw [c1_1]; rfl) (by decide) ?_
      refine lv_bipush (v := 20) hx hb dX8_sortsBy_30 (by decide) ?_
      cases hf
      exact g_iret C G hr hlocks dX8_sortsBy_32
    · have hf := ifN c1_1 hf
      by_cases c1_2 : a1 = 2
      · have hf := ifP c1_2 hf
        refine lv_tableIn (tgt := 33) hx hb dX8_sortsBy_1 (by rw [c1_2]; decide) (by rw [c1_2]; decide) (by rw [c1_2]; rfl) (by decide) ?_
        refine lv_bipush (v := 16) hx hb dX8_sortsBy_33 (by decide) ?_
        cases hf
        exact g_iret C G hr hlocks dX8_sortsBy_35
      · have hf := ifN c1_2 hf
        refine lv_tableOut (tgt := 36) hx hb dX8_sortsBy_1 (tab_2 c1_0 c1_1 c1_2) (by decide) ?_
        refine lv_bipush (v := 8) hx hb dX8_sortsBy_36 (by decide) ?_
        cases hf
        exact g_iret C G hr hlocks dX8_sortsBy_38

noncomputable def f_X8_sortsOf_L5 (a1 : Int32) (st : GS) (x1 : Int32) (x2 : Int32) : Option ((Int32 × Int32) ⊕ (Int32)) := 
(if (3 * (gt st 0 26)) ≤ x2 then some (.inr (x1)) else 
gd x2 18 ((if (gt st 14 (x2.toNatClampNeg)) = a1 then gd (x2 + 1) 18 (bI1 (f_X8_sortsBy (gt st 14 ((x2 + 1).toNatClampNeg))) (fun r8 => 
gd (x2 + 2) 18 ((if (gt st 14 ((x2 + 2).toNatClampNeg)) = 1 then lt_ (x1 &&& r8) (fun x13 => 
lt_ (x2 + 3) (fun x14 => 
some (.inl (x13, x14)))) else 
lt_ (x1 &&& (31 - r8)) (fun x11 => 
lt_ (x2 + 3) (fun x12 => 
some (.inl (x11, x12)))))))) else 
lt_ (x2 + 3) (fun x6 => 
some (.inl (x1, x6))))))
noncomputable def f_X8_sortsOf (a1 : Int32) (st : GS) : Option (Int32) := 
bI1 (lpx (uc2 (f_X8_sortsOf_L5 a1 st)) (31, 0)) (fun x15 => 
some (x15))
set_option maxRecDepth 100000 in
set_option maxHeartbeats 4000000 in
theorem c_X8_sortsOf (l : Launch) (D : va_G) (cy : ClassId) (h : Nat → Nat) (a1 : Int32) (st : GS) (r : Int32) (hf : f_X8_sortsOf a1 st = some r) : gMi l MSh D cy h yX8_sortsOf cX8_sortsOf 5 (some .int) 2 st [.ref (h 0), .int a1] r st := by
  unfold f_X8_sortsOf at hf
  refine gMi_of (by decide) (Nat.le_of_ble_eq_true rfl) ?_
  intro p e s m args below meth c A ls C hr hlocks G hl
  have C : gC p s m args c cX8_sortsOf 5 "LaneOrderModel" MSh D cy h A := C
  have hl : lv_has ls 5 [(0, .ref (h 0)), (1, .int a1)] := hl
  have hx := C.1
  have hb := C.2.1
  have hown := C.2.2.2.1
  have htb := C.2.2.2.2.1
  refine lv_bipush (v := 31) hx hb dX8_sortsOf_0 (by decide) ?_
  refine lv_istore_n (lv' := [(2, .int 31), (0, .ref (h 0)), (1, .int a1)]) hx hb dX8_sortsOf_2 rfl hl (by decide) rfl (fun ls hl => ?_)
  refine lv_iconst (v := 0) hx hb dX8_sortsOf_3 (by decide) ?_
  refine lv_istore_n (lv' := [(3, .int 0), (2, .int 31), (0, .ref (h 0)), (1, .int a1)]) hx hb dX8_sortsOf_4 rfl hl (by decide) rfl (fun ls hl => ?_)
  obtain ⟨x15, hn, hf⟩ := bI1_some hf
  obtain ⟨n, hn⟩ := lpx_some hn
  have K69 : ∀ (H : Heap) (locs : List Loc) (ls : Array Slot), gG MSh D cy h A s st H locs → lv_has ls 5 [(2, .int x15)] → W p l e (gR 2) s m args below meth c H locs 0 0 (MQ below (gQi MSh D cy h A r st) args s 0 0 A) (F0 m 69 ls []) := by
    intro H locs ls G hl
    refine lv_iload_n hx hb dX8_sortsOf_69 rfl (lv_at hl 0 rfl) ?_
    cases hf
    exact g_iret C G hr hlocks dX8_sortsOf_70
  have L5 : ∀ (n : Nat) (x1 : Int32) (x2 : Int32) (H : Heap) (locs : List Loc) (ls : Array Slot), gG MSh D cy h A s st H locs → lv_has ls 5 [(0, .ref (h 0)), (1, .int a1), (2, .int x1), (3, .int x2)] → lp (uc2 (f_X8_sortsOf_L5 a1 st)) n (x1, x2) = some (x15) → W p l e (gR 2) s m args below meth c H locs 0 0 (MQ below (gQi MSh D cy h A r st) args s 0 0 A) (F0 m 5 ls []) := by
    intro n
    induction n with
    | zero =>
      intro x1 x2 H locs ls G hl hn
      cases hn
    | succ n ih =>
      intro x1 x2 H locs ls G hl hn
      obtain ⟨q, hf, hq1, hq2⟩ := lp_q hn
      have hf : f_X8_sortsOf_L5 a1 st x1 x2 = some q := hf
      unfold f_X8_sortsOf_L5 at hf
      refine lv_iload_n hx hb dX8_sortsOf_5 rfl (lv_at hl 3 rfl) ?_
      refine lv_iconst (v := 3) hx hb dX8_sortsOf_6 (by decide) ?_
      refine lv_aload_n hx hb dX8_sortsOf_7 rfl (lv_at hl 0 rfl) ?_
      refine g_geti C G cl8 (C8 ok8_0) (j := 26) (by decide) (F8_26 ok8_0) k4_50 dX8_sortsOf_8 ?_
      refine lv_imul hx hb dX8_sortsOf_11 ?_
      refine lv_icmp_ge (tgt := 69) hx hb dX8_sortsOf_12 (by decide) (fun c3 => ?_) (fun c3 => ?_)
      · have hf := ifP c3 hf
        cases hf
        have hz9 := hq2 _ rfl
        cases hz9
        exact K69 _ _ _ G (lv_sub hl [2] rfl)
      · have hf := ifN c3 hf
        refine lv_aload_n hx hb dX8_sortsOf_15 rfl (lv_at hl 0 rfl) ?_
        refine g_getr (k := 14) C G cl8 (C8 ok8_0) (j := 27) (by decide) (F8_27 ok8_0) k4_51 dX8_sortsOf_16 ?_
        refine lv_iload_n hx hb dX8_sortsOf_19 rfl (lv_at hl 3 rfl) ?_
        obtain ⟨hi20_3, hf⟩ := gd_some hf
        refine g_iald C G (A8_27 ok8_0) (j := x2.toNatClampNeg) rfl hi20_3 dX8_sortsOf_20 ?_
        refine lv_iload_n hx hb dX8_sortsOf_21 rfl (lv_at hl 1 rfl) ?_
        refine lv_icmp_ne (tgt := 63) hx hb dX8_sortsOf_22 (by decide) (fun c5 => ?_) (fun c5 => ?_)
        · have hf := ifN c5 hf
          obtain ⟨x6, ex6⟩ : ∃ z : Int32, z = (x2 + 3) := ⟨_, rfl⟩
          have hf := lt_some ex6 hf
          refine lv_iinc (v := x6) (lv' := [(3, .int x6), (0, .ref (h 0)), (1, .int a1), (2, .int x1)]) hx hb dX8_sortsOf_63 hl (k := 3) rfl (by rw [ex6]; rfl) (by decide) rfl (fun ls hl => ?_)
          refine lv_goto (tgt := 5) hx hb dX8_sortsOf_66 (by decide) ?_
          cases hf
          exact ih _ _ _ _ _ G (lv_sub hl [1, 2, 3, 0] rfl) (hq1 _ rfl)
        · have hf := ifP c5 hf
          refine lv_aload_n hx hb dX8_sortsOf_25 rfl (lv_at hl 0 rfl) ?_
          refine g_getr (k := 14) C G cl8 (C8 ok8_0) (j := 27) (by decide) (F8_27 ok8_0) k4_51 dX8_sortsOf_26 ?_
          refine lv_iload_n hx hb dX8_sortsOf_29 rfl (lv_at hl 3 rfl) ?_
          refine lv_iconst (v := 1) hx hb dX8_sortsOf_30 (by decide) ?_
          refine lv_iadd hx hb dX8_sortsOf_31 ?_
          obtain ⟨hi32_6, hf⟩ := gd_some hf
          refine g_iald C G (A8_27 ok8_0) (j := (x2 + 1).toNatClampNeg) rfl hi32_6 dX8_sortsOf_32 ?_
          obtain ⟨r8, hc33_8, hf⟩ := bI1_some hf
          refine g_callSi C G (As := [.int (gt st 14 ((x2 + 1).toNatClampNeg))]) (rest := []) (c_X8_sortsBy l D cy h (gt st 14 ((x2 + 1).toNatClampNeg)) st r8 hc33_8) v_X8_270 (Nat.le_of_ble_eq_true rfl) (Nat.le_of_ble_eq_true rfl) rfl hl.1 rfl (Nat.le_of_ble_eq_true rfl) dX8_sortsOf_33 ⟨Nat.zero_le _, Nat.zero_le _⟩ (fun H locs G => ?_)
          refine lv_istore (lv' := [(4, .int r8), (0, .ref (h 0)), (1, .int a1), (2, .int x1), (3, .int x2)]) hx hb dX8_sortsOf_36 hl (by decide) rfl (fun ls hl => ?_)
          refine lv_iload_n hx hb dX8_sortsOf_38 rfl (lv_at hl 3 rfl) ?_
          refine lv_aload_n hx hb dX8_sortsOf_39 rfl (lv_at hl 1 rfl) ?_
          refine g_getr (k := 14) C G cl8 (C8 ok8_0) (j := 27) (by decide) (F8_27 ok8_0) k4_51 dX8_sortsOf_40 ?_
          refine lv_iload_n hx hb dX8_sortsOf_43 rfl (lv_at hl 4 rfl) ?_
          refine lv_iconst (v := 2) hx hb dX8_sortsOf_44 (by decide) ?_
          refine lv_iadd hx hb dX8_sortsOf_45 ?_
          obtain ⟨hi46_8, hf⟩ := gd_some hf
          refine g_iald C G (A8_27 ok8_0) (j := (x2 + 2).toNatClampNeg) rfl hi46_8 dX8_sortsOf_46 ?_
          refine lv_iconst (v := 1) hx hb dX8_sortsOf_47 (by decide) ?_
          refine lv_icmp_ne (tgt := 56) hx hb dX8_sortsOf_48 (by decide) (fun c10 => ?_) (fun c10 => ?_)
          · have hf := ifN c10 hf
            refine lv_bipush (v := 31) hx hb dX8_sortsOf_56 (by decide) ?_
            refine lv_iload hx hb dX8_sortsOf_58 (lv_at hl 0 rfl) ?_
            refine lv_isub hx hb dX8_sortsOf_60 ?_
            refine lv_iand hx hb dX8_sortsOf_61 ?_
            refine lv_topi (fun x11 ex11 => ?_)
            have hf := lt_some ex11 hf
            refine lv_istore_n (lv' := [(2, .int x11), (4, .int r8), (0, .ref (h 0)), (1, .int a1), (3, .int x2)]) hx hb dX8_sortsOf_62 rfl hl (by decide) rfl (fun ls hl => ?_)
            obtain ⟨x12, ex12⟩ : ∃ z : Int32, z = (x2 + 3) := ⟨_, rfl⟩
            have hf := lt_some ex12 hf
            refine lv_iinc (v := x12) (lv' := [(3, .int x12), (2, .int x11), (4, .int r8), (0, .ref (h 0)), (1, .int a1)]) hx hb dX8_sortsOf_63 hl (k := 4) rfl (by rw [ex12]; rfl) (by decide) rfl (fun ls hl => ?_)
            refine lv_goto (tgt := 5) hx hb dX8_sortsOf_66 (by decide) ?_
            cases hf
            exact ih _ _ _ _ _ G (lv_sub hl [3, 4, 1, 0] rfl) (hq1 _ rfl)
          · have hf := ifP c10 hf
            refine lv_iload hx hb dX8_sortsOf_51 (lv_at hl 0 rfl) ?_
            refine lv_goto (tgt := 61) hx hb dX8_sortsOf_53 (by decide) ?_
            refine lv_iand hx hb dX8_sortsOf_61 ?_
            refine lv_topi (fun x13 ex13 => ?_)
            have hf := lt_some ex13 hf
            refine lv_istore_n (lv' := [(2, .int x13), (4, .int r8), (0, .ref (h 0)), (1, .int a1), (3, .int x2)]) hx hb dX8_sortsOf_62 rfl hl (by decide) rfl (fun ls hl => ?_)
            obtain ⟨x14, ex14⟩ : ∃ z : Int32, z = (x2 + 3) := ⟨_, rfl⟩
            have hf := lt_some ex14 hf
            refine lv_iinc (v := x14) (lv' := [(3, .int x14), (2, .int x13), (4, .int r8), (0, .ref (h 0)), (1, .int a1)]) hx hb dX8_sortsOf_63 hl (k := 4) rfl (by rw [ex14]; rfl) (by decide) rfl (fun ls hl => ?_)
            refine lv_goto (tgt := 5) hx hb dX8_sortsOf_66 (by decide) ?_
            cases hf
            exact ih _ _ _ _ _ G (lv_sub hl [3, 4, 1, 0] rfl) (hq1 _ rfl)
  exact L5 n _ _ _ _ _ G (lv_sub hl [2, 3, 1, 0] rfl) hn

noncomputable def f_X8_askOf_L15 (r1 : Int32) (x2 : Int32) (x3 : Int32) (x4 : Int32) : Option ((Int32 × Int32 × Int32) ⊕ (Int32)) := 
(if 4 ≤ x4 then some (.inr (x2)) else 
(if r1 = 0 then some (.inr (x2)) else 
bI1 (f_X8_sortsBy x4) (fun r7 => 
bI1 (f_X8_ones (r1 &&& r7)) (fun r8 => 
bI1 (f_X8_ones r1) (fun r9 => 
lt_ (r9 - r8) (fun x10 => 
bI1 ((if r8 ≤ x10 then some (x10) else 
some (r8))) (fun (x12 : Int32) => 
bI1 ((if x3 ≤ x12 then some (x2) else 
some (x4))) (fun (x14 : Int32) => 
(if x3 ≤ x12 then lt_ (x4 + 1) (fun x16 => 
some (.inl (x14, x3, x16))) else 
lt_ (x4 + 1) (fun x17 => 
some (.inl (x14, x12, x17))))))))))))
noncomputable def f_X8_askOf (a1 : Int32) (st : GS) : Option (Int32) := 
bI1 (f_X8_sortsOf a1 st) (fun r1 => 
bI1 (lpx (uc3 (f_X8_askOf_L15 r1)) ((-1), 6, 0)) (fun x18 => 
some (x18)))
set_option maxRecDepth 100000 in
set_option maxHeartbeats 4000000 in
theorem c_X8_askOf (l : Launch) (D : va_G) (cy : ClassId) (h : Nat → Nat) (a1 : Int32) (st : GS) (r : Int32) (hf : f_X8_askOf a1 st = some r) : gMi l MSh D cy h yX8_askOf cX8_askOf 9 (some .int) 3 st [.ref (h 0), .int a1] r st := by
  unfold f_X8_askOf at hf
  refine gMi_of (by decide) (Nat.le_of_ble_eq_true rfl) ?_
  intro p e s m args below meth c A ls C hr hlocks G hl
  have C : gC p s m args c cX8_askOf 9 "LaneOrderModel" MSh D cy h A := C
  have hl : lv_has ls 9 [(0, .ref (h 0)), (1, .int a1)] := hl
  have hx := C.1
  have hb := C.2.1
  have hown := C.2.2.2.1
  have htb := C.2.2.2.2.1
  refine lv_aload_n hx hb dX8_askOf_0 rfl (lv_at hl 0 rfl) ?_
  refine lv_iload_n hx hb dX8_askOf_1 rfl (lv_at hl 1 rfl) ?_
  obtain ⟨r1, hc2_1, hf⟩ := bI1_some hf
  refine g_callVi C G (As := [.int a1]) (rest := []) (c_X8_sortsOf l D cy h a1 st r1 hc2_1) cl8 rfl (C8 ok8_0) v_X8_207 (Nat.le_of_ble_eq_true rfl) (Nat.le_of_ble_eq_true rfl) rfl hl.1 rfl (Nat.le_of_ble_eq_true rfl) dX8_askOf_2 ⟨Nat.zero_le _, Nat.zero_le _⟩ (fun H locs G => ?_)
  refine lv_istore_n (lv' := [(2, .int r1), (0, .ref (h 0)), (1, .int a1)]) hx hb dX8_askOf_5 rfl hl (by decide) rfl (fun ls hl => ?_)
  refine lv_iconst (v := (-1)) hx hb dX8_askOf_6 (by decide) ?_
  refine lv_istore_n (lv' := [(3, .int (-1)), (2, .int r1), (0, .ref (h 0)), (1, .int a1)]) hx hb dX8_askOf_7 rfl hl (by decide) rfl (fun ls hl => ?_)
  refine lv_bipush (v := 6) hx hb dX8_askOf_8 (by decide) ?_
  refine lv_istore (lv' := [(4, .int 6), (3, .int (-1)), (2, .int r1), (0, .ref (h 0)), (1, .int a1)]) hx hb dX8_askOf_10 hl (by decide) rfl (fun ls hl => ?_)
  refine lv_iconst (v := 0) hx hb dX8_askOf_12 (by decide) ?_
  refine lv_istore (lv' := [(5, .int 0), (4, .int 6), (3, .int (-1)), (2, .int r1), (0, .ref (h 0)), (1, .int a1)]) hx hb dX8_askOf_13 hl (by decide) rfl (fun ls hl => ?_)
  obtain ⟨x18, hn, hf⟩ := bI1_some hf
  obtain ⟨n, hn⟩ := lpx_some hn
  have K98 : ∀ (H : Heap) (locs : List Loc) (ls : Array Slot), gG MSh D cy h A s st H locs → lv_has ls 9 [(3, .int x18)] → W p l e (gR 3) s m args below meth c H locs 0 0 (MQ below (gQi MSh D cy h A r st) args s 0 0 A) (F0 m 98 ls []) := by
    intro H locs ls G hl
    refine lv_iload_n hx hb dX8_askOf_98 rfl (lv_at hl 0 rfl) ?_
    cases hf
    exact g_iret C G hr hlocks dX8_askOf_99
  have L15 : ∀ (n : Nat) (x2 : Int32) (x3 : Int32) (x4 : Int32) (H : Heap) (locs : List Loc) (ls : Array Slot), gG MSh D cy h A s st H locs → lv_has ls 9 [(2, .int r1), (3, .int x2), (4, .int x3), (5, .int x4)] → lp (uc3 (f_X8_askOf_L15 r1)) n (x2, x3, x4) = some (x18) → W p l e (gR 3) s m args below meth c H locs 0 0 (MQ below (gQi MSh D cy h A r st) args s 0 0 A) (F0 m 15 ls []) := by
    intro n
    induction n with
    | zero =>
      intro x2 x3 x4 H locs ls G hl hn
      cases hn
    | succ n ih =>
      intro x2 x3 x4 H locs ls G hl hn
      obtain ⟨q, hf, hq1, hq2⟩ := lp_q hn
      have hf : f_X8_askOf_L15 r1 x2 x3 x4 = some q := hf
      unfold f_X8_askOf_L15 at hf
      refine lv_iload hx hb dX8_askOf_15 (lv_at hl 3 rfl) ?_
      refine lv_iconst (v := 4) hx hb dX8_askOf_17 (by decide) ?_
      refine lv_icmp_ge (tgt := 98) hx hb dX8_askOf_18 (by decide) (fun c5 => ?_) (fun c5 => ?_)
      · have hf := ifP c5 hf
        cases hf
        have hz9 := hq2 _ rfl
        cases hz9
        exact K98 _ _ _ G (lv_sub hl [1] rfl)
      · have hf := ifN c5 hf
        refine lv_iload_n hx hb dX8_askOf_21 rfl (lv_at hl 0 rfl) ?_
        refine lv_if_eq (tgt := 98) hx hb dX8_askOf_22 (by decide) (fun c6 => ?_) (fun c6 => ?_)
        · have hf := ifP c6 hf
          cases hf
          have hz9 := hq2 _ rfl
          cases hz9
          exact K98 _ _ _ G (lv_sub hl [1] rfl)
        · have hf := ifN c6 hf
          refine lv_iload_n hx hb dX8_askOf_25 rfl (lv_at hl 0 rfl) ?_
          refine lv_iload hx hb dX8_askOf_26 (lv_at hl 3 rfl) ?_
          obtain ⟨r7, hc28_7, hf⟩ := bI1_some hf
          refine g_callSi C G (As := [.int x4]) (rest := [.int r1]) (c_X8_sortsBy l D cy h x4 st r7 hc28_7) v_X8_270 (Nat.le_of_ble_eq_true rfl) (Nat.le_of_ble_eq_true rfl) rfl hl.1 rfl (Nat.le_of_ble_eq_true rfl) dX8_askOf_28 ⟨Nat.zero_le _, Nat.zero_le _⟩ (fun H locs G => ?_)
          refine lv_iand hx hb dX8_askOf_31 ?_
          obtain ⟨r8, hc32_8, hf⟩ := bI1_some hf
          refine g_callSi C G (As := [.int (r1 &&& r7)]) (rest := []) (c_X8_ones l D cy h (r1 &&& r7) st r8 hc32_8) v_X8_195 (Nat.le_of_ble_eq_true rfl) (Nat.le_of_ble_eq_true rfl) rfl hl.1 rfl (Nat.le_of_ble_eq_true rfl) dX8_askOf_32 ⟨Nat.zero_le _, Nat.zero_le _⟩ (fun H locs G => ?_)
          refine lv_istore (lv' := [(6, .int r8), (2, .int r1), (3, .int x2), (4, .int x3), (5, .int x4)]) hx hb dX8_askOf_35 hl (by decide) rfl (fun ls hl => ?_)
          refine lv_iload_n hx hb dX8_askOf_37 rfl (lv_at hl 1 rfl) ?_
          obtain ⟨r9, hc38_9, hf⟩ := bI1_some hf
          refine g_callSi C G (As := [.int r1]) (rest := []) (c_X8_ones l D cy h r1 st r9 hc38_9) v_X8_195 (Nat.le_of_ble_eq_true rfl) (Nat.le_of_ble_eq_true rfl) rfl hl.1 rfl (Nat.le_of_ble_eq_true rfl) dX8_askOf_38 ⟨Nat.zero_le _, Nat.zero_le _⟩ (fun H locs G => ?_)
          refine lv_iload hx hb dX8_askOf_41 (lv_at hl 0 rfl) ?_
          refine lv_isub hx hb dX8_askOf_43 ?_
          refine lv_topi (fun x10 ex10 => ?_)
          have hf := lt_some ex10 hf
          refine lv_istore (lv' := [(7, .int x10), (6, .int r8), (2, .int r1), (3, .int x2), (4, .int x3), (5, .int x4)]) hx hb dX8_askOf_44 hl (by decide) rfl (fun ls hl => ?_)
          refine lv_iload hx hb dX8_askOf_46 (lv_at hl 1 rfl) ?_
          refine lv_iload hx hb dX8_askOf_48 (lv_at hl 0 rfl) ?_
          obtain ⟨x12, hj60, hf⟩ := bI1_some hf
          have K60 : ∀ (H : Heap) (locs : List Loc) (ls : Array Slot) , gG MSh D cy h A s st H locs → lv_has ls 9 [(2, .int r1), (3, .int x2), (4, .int x3), (5, .int x4)] → W p l e (gR 3) s m args below meth c H locs 0 0 (MQ below (gQi MSh D cy h A r st) args s 0 0 A) (F0 m 60 ls [.int x12]) := by
            intro H locs ls G hl
            refine lv_istore (lv' := [(8, .int x12), (2, .int r1), (3, .int x2), (4, .int x3), (5, .int x4)]) hx hb dX8_askOf_60 hl (by decide) rfl (fun ls hl => ?_)
            refine lv_iload hx hb dX8_askOf_62 (lv_at hl 0 rfl) ?_
            refine lv_iload hx hb dX8_askOf_64 (lv_at hl 3 rfl) ?_
            obtain ⟨x14, hj75, hf⟩ := bI1_some hf
            have K75 : ∀ (H : Heap) (locs : List Loc) (ls : Array Slot) , gG MSh D cy h A s st H locs → lv_has ls 9 [(2, .int r1), (4, .int x3), (5, .int x4), (8, .int x12)] → W p l e (gR 3) s m args below meth c H locs 0 0 (MQ below (gQi MSh D cy h A r st) args s 0 0 A) (F0 m 75 ls [.int x14]) := by
              intro H locs ls G hl
              refine lv_istore_n (lv' := [(3, .int x14), (2, .int r1), (4, .int x3), (5, .int x4), (8, .int x12)]) hx hb dX8_askOf_75 rfl hl (by decide) rfl (fun ls hl => ?_)
              refine lv_iload hx hb dX8_askOf_76 (lv_at hl 4 rfl) ?_
              refine lv_iload hx hb dX8_askOf_78 (lv_at hl 2 rfl) ?_
              refine lv_icmp_ge (tgt := 88) hx hb dX8_askOf_80 (by decide) (fun c15 => ?_) (fun c15 => ?_)
              · have hf := ifP c15 hf
                refine lv_iload hx hb dX8_askOf_88 (lv_at hl 2 rfl) ?_
                refine lv_istore (lv' := [(4, .int x3), (3, .int x14), (2, .int r1), (5, .int x4), (8, .int x12)]) hx hb dX8_askOf_90 hl (by decide) rfl (fun ls hl => ?_)
                obtain ⟨x16, ex16⟩ : ∃ z : Int32, z = (x4 + 1) := ⟨_, rfl⟩
                have hf := lt_some ex16 hf
                refine lv_iinc (v := x16) (lv' := [(5, .int x16), (4, .int x3), (3, .int x14), (2, .int r1), (8, .int x12)]) hx hb dX8_askOf_92 hl (k := 3) rfl (by rw [ex16]; rfl) (by decide) rfl (fun ls hl => ?_)
                refine lv_goto (tgt := 15) hx hb dX8_askOf_95 (by decide) ?_
                cases hf
                exact ih _ _ _ _ _ _ G (lv_sub hl [3, 2, 1, 0] rfl) (hq1 _ rfl)
              · have hf := ifN c15 hf
                refine lv_iload hx hb dX8_askOf_83 (lv_at hl 4 rfl) ?_
                refine lv_goto (tgt := 90) hx hb dX8_askOf_85 (by decide) ?_
                refine lv_istore (lv' := [(4, .int x12), (3, .int x14), (2, .int r1), (5, .int x4), (8, .int x12)]) hx hb dX8_askOf_90 hl (by decide) rfl (fun ls hl => ?_)
                obtain ⟨x17, ex17⟩ : ∃ z : Int32, z = (x4 + 1) := ⟨_, rfl⟩
                have hf := lt_some ex17 hf
                refine lv_iinc (v := x17) (lv' := [(5, .int x17), (4, .int x12), (3, .int x14), (2, .int r1), (8, .int x12)]) hx hb dX8_askOf_92 hl (k := 3) rfl (by rw [ex17]; rfl) (by decide) rfl (fun ls hl => ?_)
                refine lv_goto (tgt := 15) hx hb dX8_askOf_95 (by decide) ?_
                cases hf
                exact ih _ _ _ _ _ _ G (lv_sub hl [3, 2, 1, 0] rfl) (hq1 _ rfl)
            clear hf
            refine lv_icmp_ge (tgt := 74) hx hb dX8_askOf_66 (by decide) (fun c13 => ?_) (fun c13 => ?_)
            · have hf := ifP c13 hj75
              refine lv_iload_n hx hb dX8_askOf_74 rfl (lv_at hl 2 rfl) ?_
              cases hf
              exact K75 _ _ _ G (lv_sub hl [1, 3, 4, 0] rfl)
            · have hf := ifN c13 hj75
              refine lv_iload hx hb dX8_askOf_69 (lv_at hl 4 rfl) ?_
              refine lv_goto (tgt := 75) hx hb dX8_askOf_71 (by decide) ?_
              cases hf
              exact K75 _ _ _ G (lv_sub hl [1, 3, 4, 0] rfl)
          clear hf
          refine lv_icmp_le (tgt := 58) hx hb dX8_askOf_50 (by decide) (fun c11 => ?_) (fun c11 => ?_)
          · have hf := ifP c11 hj60
            refine lv_iload hx hb dX8_askOf_58 (lv_at hl 0 rfl) ?_
            cases hf
            exact K60 _ _ _ G (lv_sub hl [2, 3, 4, 5] rfl)
          · have hf := ifN c11 hj60
            refine lv_iload hx hb dX8_askOf_53 (lv_at hl 1 rfl) ?_
            refine lv_goto (tgt := 60) hx hb dX8_askOf_55 (by decide) ?_
            cases hf
            exact K60 _ _ _ G (lv_sub hl [2, 3, 4, 5] rfl)
  exact L15 n _ _ _ _ _ _ G (lv_sub hl [3, 2, 1, 0] rfl) hn

noncomputable def f_X8_tellBox (a1 : Int32) (a2 : Int32) (st : GS) : Option (Int32 × GS) := 
bI1 (f_X8_layAll st) (fun st1 => 
(if a2 = 0 then gd a1 8 (some (((gt st1 2 (a1.toNatClampNeg)), st1))) else 
(if a2 = 1 then gd (((4 * a1) + a2) - 1) 32 (some (((gt st1 3 ((((4 * a1) + a2) - 1).toNatClampNeg)), st1))) else 
(if a2 = 2 then gd (((4 * a1) + a2) - 1) 32 (some (((gt st1 3 ((((4 * a1) + a2) - 1).toNatClampNeg)), st1))) else 
(if a2 = 3 then gd (((4 * a1) + a2) - 1) 32 (some (((gt st1 3 ((((4 * a1) + a2) - 1).toNatClampNeg)), st1))) else 
(if a2 = 4 then gd (((4 * a1) + a2) - 1) 32 (some (((gt st1 3 ((((4 * a1) + a2) - 1).toNatClampNeg)), st1))) else 
(if a2 = 5 then bI1 (f_X8_placeOf a1 st1) (fun r8 => 
some ((r8, st1))) else 
(if a2 = 6 then gd a1 8 (some (((gt st1 5 (a1.toNatClampNeg)), st1))) else 
(if a2 = 7 then gd a1 8 (some (((gt st1 9 (a1.toNatClampNeg)), st1))) else 
(if a2 = 8 then bI1 (f_X8_sortsOf a1 st1) (fun r11 => 
some ((r11, st1))) else 
(if a2 = 9 then bI1 (f_X8_askOf a1 st1) (fun r12 => 
some ((r12, st1))) else 
some (((-102), st1)))))))))))))
set_option maxRecDepth 100000 in
set_option maxHeartbeats 4000000 in
theorem c_X8_tellBox (l : Launch) (D : va_G) (cy : ClassId) (h : Nat → Nat) (a1 : Int32) (a2 : Int32) (st : GS) (r : Int32) (stF : GS) (hf : f_X8_tellBox a1 a2 st = some (r, stF)) : gMi l MSh D cy h yX8_tellBox cX8_tellBox 3 (some .int) 8 st [.ref (h 0), .int a1, .int a2] r stF := by
  unfold f_X8_tellBox at hf
  refine gMi_of (by decide) (Nat.le_of_ble_eq_true rfl) ?_
  intro p e s m args below meth c A ls C hr hlocks G hl
  have C : gC p s m args c cX8_tellBox 3 "LaneOrderModel" MSh D cy h A := C
  have hl : lv_has ls 3 [(0, .ref (h 0)), (1, .int a1), (2, .int a2)] := hl
  have hx := C.1
  have hb := C.2.1
  have hown := C.2.2.2.1
  have htb := C.2.2.2.2.1
  refine lv_aload_n hx hb dX8_tellBox_0 rfl (lv_at hl 0 rfl) ?_
  obtain ⟨st1, hc1_1, hf⟩ := bI1_some hf
  refine g_callVv C G (As := []) (rest := []) (c_X8_layAll l D cy h st st1 hc1_1) cl8 rfl (C8 ok8_0) v_X8_201 (Nat.le_of_ble_eq_true rfl) (Nat.le_of_ble_eq_true rfl) rfl hl.1 rfl (Nat.le_of_ble_eq_true rfl) dX8_tellBox_1 ⟨Nat.zero_le _, Nat.zero_le _⟩ (fun H locs G => ?_)
  refine lv_iload_n hx hb dX8_tellBox_4 rfl (lv_at hl 2 rfl) ?_
  by_cases c2_0 : a2 = 0
  · have hf := ifP c2_0 hf
    refine lv_tableIn (tgt := 60) hx hb dX8_tellBox_5 (by rw [c2_0]; decide) (by rw [c2_0]; decide) (by rw [c2_0]; rfl) (by decide) ?_
    refine lv_aload_n hx hb dX8_tellBox_60 rfl (lv_at hl 0 rfl) ?_
    refine g_getr (k := 2) C G cl8 (C8 ok8_0) (j := 7) (by decide) (F8_7 ok8_0) k4_31 dX8_tellBox_61 ?_
    refine lv_iload_n hx hb dX8_tellBox_64 rfl (lv_at hl 1 rfl) ?_
    obtain ⟨hi65_2, hf⟩ := gd_some hf
    refine g_iald C G (A8_7 ok8_0) (j := a1.toNatClampNeg) rfl hi65_2 dX8_tellBox_65 ?_
    cases hf
    exact g_iret C G hr hlocks dX8_tellBox_66
  · have hf := ifN c2_0 hf
    by_cases c2_1 : a2 = 1
    · have hf := ifP c2_1 hf
      refine lv_tableIn (tgt := 67) hx hb dX8_tellBox_5 (by rw [c2_1]; decide) (by rw [c2_1]; decide) (by rw [c2_1]; rfl) (by decide) ?_
      refine lv_aload_n hx hb dX8_tellBox_67 rfl (lv_at hl 0 rfl) ?_
      refine g_getr (k := 3) C G cl8 (C8 ok8_0) (j := 8) (by decide) (F8_8 ok8_0) k4_32 dX8_tellBox_68 ?_
      refine lv_iconst (v := 4) hx hb dX8_tellBox_71 (by decide) ?_
      refine lv_iload_n hx hb dX8_tellBox_72 rfl (lv_at hl 1 rfl) ?_
      refine lv_imul hx hb dX8_tellBox_73 ?_
      refine lv_iload_n hx hb dX8_tellBox_74 rfl (lv_at hl 2 rfl) ?_
      refine lv_iadd hx hb dX8_tellBox_75 ?_
      refine lv_iconst (v := 1) hx hb dX8_tellBox_76 (by decide) ?_
      refine lv_isub hx hb dX8_tellBox_77 ?_
      obtain ⟨hi78_3, hf⟩ := gd_some hf
      refine g_iald C G (A8_8 ok8_0) (j := (((4 * a1) + a2) - 1).toNatClampNeg) rfl hi78_3 dX8_tellBox_78 ?_
      cases hf
      exact g_iret C G hr hlocks dX8_tellBox_79
    · have hf := ifN c2_1 hf
      by_cases c2_2 : a2 = 2
      · have hf := ifP c2_2 hf
        refine lv_tableIn (tgt := 67) hx hb dX8_tellBox_5 (by rw [c2_2]; decide) (by rw [c2_2]; decide) (by rw [c2_2]; rfl) (by decide) ?_
        refine lv_aload_n hx hb dX8_tellBox_67 rfl (lv_at hl 0 rfl) ?_
        refine g_getr (k := 3) C G cl8 (C8 ok8_0) (j := 8) (by decide) (F8_8 ok8_0) k4_32 dX8_tellBox_68 ?_
        refine lv_iconst (v := 4) hx hb dX8_tellBox_71 (by decide) ?_
        refine lv_iload_n hx hb dX8_tellBox_72 rfl (lv_at hl 1 rfl) ?_
        refine lv_imul hx hb dX8_tellBox_73 ?_
        refine lv_iload_n hx hb dX8_tellBox_74 rfl (lv_at hl 2 rfl) ?_
        refine lv_iadd hx hb dX8_tellBox_75 ?_
        refine lv_iconst (v := 1) hx hb dX8_tellBox_76 (by decide) ?_
        refine lv_isub hx hb dX8_tellBox_77 ?_
        obtain ⟨hi78_4, hf⟩ := gd_some hf
        refine g_iald C G (A8_8 ok8_0) (j := (((4 * a1) + a2) - 1).toNatClampNeg) rfl hi78_4 dX8_tellBox_78 ?_
        cases hf
        exact g_iret C G hr hlocks dX8_tellBox_79
      · have hf := ifN c2_2 hf
        by_cases c2_3 : a2 = 3
        · have hf := ifP c2_3 hf
          refine lv_tableIn (tgt := 67) hx hb dX8_tellBox_5 (by rw [c2_3]; decide) (by rw [c2_3]; decide) (by rw [c2_3]; rfl) (by decide) ?_
          refine lv_aload_n hx hb dX8_tellBox_67 rfl (lv_at hl 0 rfl) ?_
          refine g_getr (k := 3) C G cl8 (C8 ok8_0) (j := 8) (by decide) (F8_8 ok8_0) k4_32 dX8_tellBox_68 ?_
          refine lv_iconst (v := 4) hx hb dX8_tellBox_71 (by decide) ?_
          refine lv_iload_n hx hb dX8_tellBox_72 rfl (lv_at hl 1 rfl) ?_
          refine lv_imul hx hb dX8_tellBox_73 ?_
          refine lv_iload_n hx hb dX8_tellBox_74 rfl (lv_at hl 2 rfl) ?_
          refine lv_iadd hx hb dX8_tellBox_75 ?_
          refine lv_iconst (v := 1) hx hb dX8_tellBox_76 (by decide) ?_
          refine lv_isub hx hb dX8_tellBox_77 ?_
          obtain ⟨hi78_5, hf⟩ := gd_some hf
          refine g_iald C G (A8_8 ok8_0) (j := (((4 * a1) + a2) - 1).toNatClampNeg) rfl hi78_5 dX8_tellBox_78 ?_
          cases hf
          exact g_iret C G hr hlocks dX8_tellBox_79
        · have hf := ifN c2_3 hf
          by_cases c2_4 : a2 = 4
          · have hf := ifP c2_4 hf
            refine lv_tableIn (tgt := 67) hx hb dX8_tellBox_5 (by rw [c2_4]; decide) (by rw [c2_4]; decide) (by rw [c2_4]; rfl) (by decide) ?_
            refine lv_aload_n hx hb dX8_tellBox_67 rfl (lv_at hl 0 rfl) ?_
            refine g_getr (k := 3) C G cl8 (C8 ok8_0) (j := 8) (by decide) (F8_8 ok8_0) k4_32 dX8_tellBox_68 ?_
            refine lv_iconst (v := 4) hx hb dX8_tellBox_71 (by decide) ?_
            refine lv_iload_n hx hb dX8_tellBox_72 rfl (lv_at hl 1 rfl) ?_
            refine lv_imul hx hb dX8_tellBox_73 ?_
            refine lv_iload_n hx hb dX8_tellBox_74 rfl (lv_at hl 2 rfl) ?_
            refine lv_iadd hx hb dX8_tellBox_75 ?_
            refine lv_iconst (v := 1) hx hb dX8_tellBox_76 (by decide) ?_
            refine lv_isub hx hb dX8_tellBox_77 ?_
            obtain ⟨hi78_6, hf⟩ := gd_some hf
            refine g_iald C G (A8_8 ok8_0) (j := (((4 * a1) + a2) - 1).toNatClampNeg) rfl hi78_6 dX8_tellBox_78 ?_
            cases hf
            exact g_iret C G hr hlocks dX8_tellBox_79
          · have hf := ifN c2_4 hf
            by_cases c2_5 : a2 = 5
            · have hf := ifP c2_5 hf
              refine lv_tableIn (tgt := 80) hx hb dX8_tellBox_5 (by rw [c2_5]; decide) (by rw [c2_5]; decide) (by rw [c2_5]; rfl) (by decide) ?_
              refine lv_aload_n hx hb dX8_tellBox_80 rfl (lv_at hl 0 rfl) ?_
              refine lv_iload_n hx hb dX8_tellBox_81 rfl (lv_at hl 1 rfl) ?_
              obtain ⟨r8, hc82_8, hf⟩ := bI1_some hf
              refine g_callVi C G (As := [.int a1]) (rest := []) (c_X8_placeOf l D cy h a1 st1 r8 hc82_8) cl8 rfl (C8 ok8_0) v_X8_204 (Nat.le_of_ble_eq_true rfl) (Nat.le_of_ble_eq_true rfl) rfl hl.1 rfl (Nat.le_of_ble_eq_true rfl) dX8_tellBox_82 ⟨Nat.zero_le _, Nat.zero_le _⟩ (fun H locs G => ?_)
              cases hf
              exact g_iret C G hr hlocks dX8_tellBox_85
            · have hf := ifN c2_5 hf
              by_cases c2_6 : a2 = 6
              · have hf := ifP c2_6 hf
                refine lv_tableIn (tgt := 86) hx hb dX8_tellBox_5 (by rw [c2_6]; decide) (by rw [c2_6]; decide) (by rw [c2_6]; rfl) (by decide) ?_
                refine lv_aload_n hx hb dX8_tellBox_86 rfl (lv_at hl 0 rfl) ?_
                refine g_getr (k := 5) C G cl8 (C8 ok8_0) (j := 11) (by decide) (F8_11 ok8_0) k4_35 dX8_tellBox_87 ?_
                refine lv_iload_n hx hb dX8_tellBox_90 rfl (lv_at hl 1 rfl) ?_
                obtain ⟨hi91_8, hf⟩ := gd_some hf
                refine g_iald C G (A8_11 ok8_0) (j := a1.toNatClampNeg) rfl hi91_8 dX8_tellBox_91 ?_
                cases hf
                exact g_iret C G hr hlocks dX8_tellBox_92
              · have hf := ifN c2_6 hf
                by_cases c2_7 : a2 = 7
                · have hf := ifP c2_7 hf
                  refine lv_tableIn (tgt := 93) hx hb dX8_tellBox_5 (by rw [c2_7]; decide) (by rw [c2_7]; decide) (by rw [c2_7]; rfl) (by decide) ?_
                  refine lv_aload_n hx hb dX8_tellBox_93 rfl (lv_at hl 0 rfl) ?_
                  refine g_getr (k := 9) C G cl8 (C8 ok8_0) (j := 21) (by decide) (F8_21 ok8_0) k4_45 dX8_tellBox_94 ?_
                  refine lv_iload_n hx hb dX8_tellBox_97 rfl (lv_at hl 1 rfl) ?_
                  obtain ⟨hi98_9, hf⟩ := gd_some hf
                  refine g_iald C G (A8_21 ok8_0) (j := a1.toNatClampNeg) rfl hi98_9 dX8_tellBox_98 ?_
                  cases hf
                  exact g_iret C G hr hlocks dX8_tellBox_99
                · have hf := ifN c2_7 hf
                  by_cases c2_8 : a2 = 8
                  · have hf := ifP c2_8 hf
                    refine lv_tableIn (tgt := 100) hx hb dX8_tellBox_5 (by rw [c2_8]; decide) (by rw [c2_8]; decide) (by rw [c2_8]; rfl) (by decide) ?_
                    refine lv_aload_n hx hb dX8_tellBox_100 rfl (lv_at hl 0 rfl) ?_
                    refine lv_iload_n hx hb dX8_tellBox_101 rfl (lv_at hl 1 rfl) ?_
                    obtain ⟨r11, hc102_11, hf⟩ := bI1_some hf
                    refine g_callVi C G (As := [.int a1]) (rest := []) (c_X8_sortsOf l D cy h a1 st1 r11 hc102_11) cl8 rfl (C8 ok8_0) v_X8_207 (Nat.le_of_ble_eq_true rfl) (Nat.le_of_ble_eq_true rfl) rfl hl.1 rfl (Nat.le_of_ble_eq_true rfl) dX8_tellBox_102 ⟨Nat.zero_le _, Nat.zero_le _⟩ (fun H locs G => ?_)
                    cases hf
                    exact g_iret C G hr hlocks dX8_tellBox_105
                  · have hf := ifN c2_8 hf
                    by_cases c2_9 : a2 = 9
                    · have hf := ifP c2_9 hf
                      refine lv_tableIn (tgt := 106) hx hb dX8_tellBox_5 (by rw [c2_9]; decide) (by rw [c2_9]; decide) (by rw [c2_9]; rfl) (by decide) ?_
                      refine lv_aload_n hx hb dX8_tellBox_106 rfl (lv_at hl 0 rfl) ?_
                      refine lv_iload_n hx hb dX8_tellBox_107 rfl (lv_at hl 1 rfl) ?_
                      obtain ⟨r12, hc108_12, hf⟩ := bI1_some hf
                      refine g_callVi C G (As := [.int a1]) (rest := []) (c_X8_askOf l D cy h a1 st1 r12 hc108_12) cl8 rfl (C8 ok8_0) v_X8_210 (Nat.le_of_ble_eq_true rfl) (Nat.le_of_ble_eq_true rfl) rfl hl.1 rfl (Nat.le_of_ble_eq_true rfl) dX8_tellBox_108 ⟨Nat.zero_le _, Nat.zero_le _⟩ (fun H locs G => ?_)
                      cases hf
                      exact g_iret C G hr hlocks dX8_tellBox_111
                    · have hf := ifN c2_9 hf
                      refine lv_tableOut (tgt := 112) hx hb dX8_tellBox_5 (tab_9 c2_0 c2_1 c2_2 c2_3 c2_4 c2_5 c2_6 c2_7 c2_8 c2_9) (by decide) ?_
                      refine lv_bipush (v := (-102)) hx hb dX8_tellBox_112 (by decide) ?_
                      cases hf
                      exact g_iret C G hr hlocks dX8_tellBox_114

noncomputable def f_X8_box (a1 : Int32) (a2 : Int32) (st : GS) : Option (Int32 × GS) := 
bI1 (f_X8_isBox a1 st) (fun r1 => 
(if r1 = 0 then some (((-101), st)) else 
bI2 (f_X8_tellBox a1 a2 st) (fun r3 st4 => 
some ((r3, st4)))))
set_option maxRecDepth 100000 in
set_option maxHeartbeats 4000000 in
theorem c_X8_box (l : Launch) (D : va_G) (cy : ClassId) (h : Nat → Nat) (a1 : Int32) (a2 : Int32) (st : GS) (r : Int32) (stF : GS) (hf : f_X8_box a1 a2 st = some (r, stF)) : gMi l MSh D cy h yX8_box cX8_box 3 (some .int) 9 st [.ref (h 0), .int a1, .int a2] r stF := by
  unfold f_X8_box at hf
  refine gMi_of (by decide) (Nat.le_of_ble_eq_true rfl) ?_
  intro p e s m args below meth c A ls C hr hlocks G hl
  have C : gC p s m args c cX8_box 3 "LaneOrderModel" MSh D cy h A := C
  have hl : lv_has ls 3 [(0, .ref (h 0)), (1, .int a1), (2, .int a2)] := hl
  have hx := C.1
  have hb := C.2.1
  have hown := C.2.2.2.1
  have htb := C.2.2.2.2.1
  refine lv_aload_n hx hb dX8_box_0 rfl (lv_at hl 0 rfl) ?_
  refine lv_iload_n hx hb dX8_box_1 rfl (lv_at hl 1 rfl) ?_
  obtain ⟨r1, hc2_1, hf⟩ := bI1_some hf
  refine g_callVi C G (As := [.int a1]) (rest := []) (c_X8_isBox l D cy h a1 st r1 hc2_1) cl8 rfl (C8 ok8_0) v_X8_213 (Nat.le_of_ble_eq_true rfl) (Nat.le_of_ble_eq_true rfl) rfl hl.1 rfl (Nat.le_of_ble_eq_true rfl) dX8_box_2 ⟨Nat.zero_le _, Nat.zero_le _⟩ (fun H locs G => ?_)
  refine lv_if_eq (tgt := 17) hx hb dX8_box_5 (by decide) (fun c2 => ?_) (fun c2 => ?_)
  · have hf := ifP c2 hf
    refine lv_bipush (v := (-101)) hx hb dX8_box_17 (by decide) ?_
    cases hf
    exact g_iret C G hr hlocks dX8_box_19
  · have hf := ifN c2 hf
    refine lv_aload_n hx hb dX8_box_8 rfl (lv_at hl 0 rfl) ?_
    refine lv_iload_n hx hb dX8_box_9 rfl (lv_at hl 1 rfl) ?_
    refine lv_iload_n hx hb dX8_box_10 rfl (lv_at hl 2 rfl) ?_
    obtain ⟨r3, st4, hc11_4, hf⟩ := bI2_some hf
    refine g_callVi C G (As := [.int a1, .int a2]) (rest := []) (c_X8_tellBox l D cy h a1 a2 st r3 st4 hc11_4) cl8 rfl (C8 ok8_0) v_X8_216 (Nat.le_of_ble_eq_true rfl) (Nat.le_of_ble_eq_true rfl) rfl hl.1 rfl (Nat.le_of_ble_eq_true rfl) dX8_box_11 ⟨Nat.zero_le _, Nat.zero_le _⟩ (fun H locs G => ?_)
    refine lv_goto (tgt := 19) hx hb dX8_box_14 (by decide) ?_
    cases hf
    exact g_iret C G hr hlocks dX8_box_19

noncomputable def f_X8_as (a1 : Int32) (a2 : Int32) (st : GS) : Option (Int32) := 
bI1 (f_X8_isBox a1 st) (fun r1 => 
(if r1 = 0 then some ((-101)) else 
bI1 (f_X8_in (Int32.toInt64 a2) 0 4) (fun r3 => 
(if r3 = 0 then some ((-102)) else 
bI1 ((if a2 = 0 then some (1) else 
gd a1 8 ((if a2 = (gt st 2 (a1.toNatClampNeg)) then some (1) else 
(if a2 = 2 then gd a1 8 ((if (gt st 2 (a1.toNatClampNeg)) = 4 then some (1) else 
some (0))) else 
some (0)))))) (fun (x6 : Int32) => 
(if x6 = 0 then some ((-1)) else 
some (a1)))))))
set_option maxRecDepth 100000 in
set_option maxHeartbeats 4000000 in
theorem c_X8_as (l : Launch) (D : va_G) (cy : ClassId) (h : Nat → Nat) (a1 : Int32) (a2 : Int32) (st : GS) (r : Int32) (hf : f_X8_as a1 a2 st = some r) : gMi l MSh D cy h yX8_as cX8_as 4 (some .int) 3 st [.ref (h 0), .int a1, .int a2] r st := by
  unfold f_X8_as at hf
  refine gMi_of (by decide) (Nat.le_of_ble_eq_true rfl) ?_
  intro p e s m args below meth c A ls C hr hlocks G hl
  have C : gC p s m args c cX8_as 4 "LaneOrderModel" MSh D cy h A := C
  have hl : lv_has ls 4 [(0, .ref (h 0)), (1, .int a1), (2, .int a2)] := hl
  have hx := C.1
  have hb := C.2.1
  have hown := C.2.2.2.1
  have htb := C.2.2.2.2.1
  refine lv_aload_n hx hb dX8_as_0 rfl (lv_at hl 0 rfl) ?_
  refine lv_iload_n hx hb dX8_as_1 rfl (lv_at hl 1 rfl) ?_
  obtain ⟨r1, hc2_1, hf⟩ := bI1_some hf
  refine g_callVi C G (As := [.int a1]) (rest := []) (c_X8_isBox l D cy h a1 st r1 hc2_1) cl8 rfl (C8 ok8_0) v_X8_213 (Nat.le_of_ble_eq_true rfl) (Nat.le_of_ble_eq_true rfl) rfl hl.1 rfl (Nat.le_of_ble_eq_true rfl) dX8_as_2 ⟨Nat.zero_le _, Nat.zero_le _⟩ (fun H locs G => ?_)
  refine lv_if_ne (tgt := 11) hx hb dX8_as_5 (by decide) (fun c2 => ?_) (fun c2 => ?_)
  · have hf := ifN c2 hf
    refine lv_iload_n hx hb dX8_as_11 rfl (lv_at hl 2 rfl) ?_
    refine lv_i2l hx hb dX8_as_12 rfl ?_
    refine lv_lconst (v := 0) hx hb dX8_as_13 rfl ?_
    refine lv_ldc2 hx hb (v := 4) hown (htb _ k5_40) dX8_as_14 ?_
    obtain ⟨r3, hc17_3, hf⟩ := bI1_some hf
    refine g_callSi C G (As := [.long (Int32.toInt64 a2), .long 0, .long 4]) (rest := []) (c_X8_in l D cy h (Int32.toInt64 a2) 0 4 st r3 hc17_3) v_X8_76 (Nat.le_of_ble_eq_true rfl) (Nat.le_of_ble_eq_true rfl) rfl hl.1 rfl (Nat.le_of_ble_eq_true rfl) dX8_as_17 ⟨Nat.zero_le _, Nat.zero_le _⟩ (fun H locs G => ?_)
    refine lv_if_ne (tgt := 26) hx hb dX8_as_20 (by decide) (fun c4 => ?_) (fun c4 => ?_)
    · have hf := ifN c4 hf
      refine lv_iload_n hx hb dX8_as_26 rfl (lv_at hl 2 rfl) ?_
      obtain ⟨x6, hj60, hf⟩ := bI1_some hf
      have K60 : ∀ (H : Heap) (locs : List Loc) (ls : Array Slot) , gG MSh D cy h A s st H locs → lv_has ls 4 [(1, .int a1)] → W p l e (gR 3) s m args below meth c H locs 0 0 (MQ below (gQi MSh D cy h A r st) args s 0 0 A) (F0 m 60 ls [.int x6]) := by
        intro H locs ls G hl
        refine lv_istore_n (lv' := [(3, .int x6), (1, .int a1)]) hx hb dX8_as_60 rfl hl (by decide) rfl (fun ls hl => ?_)
        refine lv_iload_n hx hb dX8_as_61 rfl (lv_at hl 0 rfl) ?_
        refine lv_if_eq (tgt := 69) hx hb dX8_as_62 (by decide) (fun c12 => ?_) (fun c12 => ?_)
        · have hf := ifP c12 hf
          refine lv_iconst (v := (-1)) hx hb dX8_as_69 (by decide) ?_
          cases hf
          exact g_iret C G hr hlocks dX8_as_70
        · have hf := ifN c12 hf
          refine lv_iload_n hx hb dX8_as_65 rfl (lv_at hl 1 rfl) ?_
          refine lv_goto (tgt := 70) hx hb dX8_as_66 (by decide) ?_
          cases hf
          exact g_iret C G hr hlocks dX8_as_70
      clear hf
      refine lv_if_eq (tgt := 55) hx hb dX8_as_27 (by decide) (fun c5 => ?_) (fun c5 => ?_)
      · have hf := ifP c5 hj60
        refine lv_iconst (v := 1) hx hb dX8_as_55 (by decide) ?_
        refine lv_goto (tgt := 60) hx hb dX8_as_56 (by decide) ?_
        cases hf
        exact K60 _ _ _ G (lv_sub hl [1] rfl)
      · have hf := ifN c5 hj60
        refine lv_iload_n hx hb dX8_as_30 rfl (lv_at hl 2 rfl) ?_
        refine lv_aload_n hx hb dX8_as_31 rfl (lv_at hl 0 rfl) ?_
        refine g_getr (k := 2) C G cl8 (C8 ok8_0) (j := 7) (by decide) (F8_7 ok8_0) k4_31 dX8_as_32 ?_
        refine lv_iload_n hx hb dX8_as_35 rfl (lv_at hl 1 rfl) ?_
        obtain ⟨hi36_6, hf⟩ := gd_some hf
        refine g_iald C G (A8_7 ok8_0) (j := a1.toNatClampNeg) rfl hi36_6 dX8_as_36 ?_
        refine lv_icmp_eq (tgt := 55) hx hb dX8_as_37 (by decide) (fun c8 => ?_) (fun c8 => ?_)
        · have hf := ifP c8 hf
          refine lv_iconst (v := 1) hx hb dX8_as_55 (by decide) ?_
          refine lv_goto (tgt := 60) hx hb dX8_as_56 (by decide) ?_
          cases hf
          exact K60 _ _ _ G (lv_sub hl [1] rfl)
        · have hf := ifN c8 hf
          refine lv_iload_n hx hb dX8_as_40 rfl (lv_at hl 2 rfl) ?_
          refine lv_iconst (v := 2) hx hb dX8_as_41 (by decide) ?_
          refine lv_icmp_ne (tgt := 59) hx hb dX8_as_42 (by decide) (fun c9 => ?_) (fun c9 => ?_)
          · have hf := ifN c9 hf
            refine lv_iconst (v := 0) hx hb dX8_as_59 (by decide) ?_
            cases hf
            exact K60 _ _ _ G (lv_sub hl [1] rfl)
          · have hf := ifP c9 hf
            refine lv_aload_n hx hb dX8_as_45 rfl (lv_at hl 0 rfl) ?_
            refine g_getr (k := 2) C G cl8 (C8 ok8_0) (j := 7) (by decide) (F8_7 ok8_0) k4_31 dX8_as_46 ?_
            refine lv_iload_n hx hb dX8_as_49 rfl (lv_at hl 1 rfl) ?_
            obtain ⟨hi50_9, hf⟩ := gd_some hf
            refine g_iald C G (A8_7 ok8_0) (j := a1.toNatClampNeg) rfl hi50_9 dX8_as_50 ?_
            refine lv_iconst (v := 4) hx hb dX8_as_51 (by decide) ?_
            refine lv_icmp_ne (tgt := 59) hx hb dX8_as_52 (by decide) (fun c11 => ?_) (fun c11 => ?_)
            · have hf := ifN c11 hf
              refine lv_iconst (v := 0) hx hb dX8_as_59 (by decide) ?_
              cases hf
              exact K60 _ _ _ G (lv_sub hl [1] rfl)
            · have hf := ifP c11 hf
              refine lv_iconst (v := 1) hx hb dX8_as_55 (by decide) ?_
              refine lv_goto (tgt := 60) hx hb dX8_as_56 (by decide) ?_
              cases hf
              exact K60 _ _ _ G (lv_sub hl [1] rfl)
    · have hf := ifP c4 hf
      refine lv_bipush (v := (-102)) hx hb dX8_as_23 (by decide) ?_
      cases hf
      exact g_iret C G hr hlocks dX8_as_25
  · have hf := ifP c2 hf
    refine lv_bipush (v := (-101)) hx hb dX8_as_8 (by decide) ?_
    cases hf
    exact g_iret C G hr hlocks dX8_as_10

noncomputable def f_X8_order (a1 : Int32) (st : GS) : Option (Int32 × GS) := 
bI1 (f_X8_isBox a1 st) (fun r1 => 
(if r1 = 0 then some (((-101), st)) else 
bI1 (f_X8_layAll st) (fun st3 => 
gd a1 8 (some (((gt st3 6 (a1.toNatClampNeg)), st3))))))
set_option maxRecDepth 100000 in
set_option maxHeartbeats 4000000 in
theorem c_X8_order (l : Launch) (D : va_G) (cy : ClassId) (h : Nat → Nat) (a1 : Int32) (st : GS) (r : Int32) (stF : GS) (hf : f_X8_order a1 st = some (r, stF)) : gMi l MSh D cy h yX8_order cX8_order 2 (some .int) 8 st [.ref (h 0), .int a1] r stF := by
  unfold f_X8_order at hf
  refine gMi_of (by decide) (Nat.le_of_ble_eq_true rfl) ?_
  intro p e s m args below meth c A ls C hr hlocks G hl
  have C : gC p s m args c cX8_order 2 "LaneOrderModel" MSh D cy h A := C
  have hl : lv_has ls 2 [(0, .ref (h 0)), (1, .int a1)] := hl
  have hx := C.1
  have hb := C.2.1
  have hown := C.2.2.2.1
  have htb := C.2.2.2.2.1
  refine lv_aload_n hx hb dX8_order_0 rfl (lv_at hl 0 rfl) ?_
  refine lv_iload_n hx hb dX8_order_1 rfl (lv_at hl 1 rfl) ?_
  obtain ⟨r1, hc2_1, hf⟩ := bI1_some hf
  refine g_callVi C G (As := [.int a1]) (rest := []) (c_X8_isBox l D cy h a1 st r1 hc2_1) cl8 rfl (C8 ok8_0) v_X8_213 (Nat.le_of_ble_eq_true rfl) (Nat.le_of_ble_eq_true rfl) rfl hl.1 rfl (Nat.le_of_ble_eq_true rfl) dX8_order_2 ⟨Nat.zero_le _, Nat.zero_le _⟩ (fun H locs G => ?_)
  refine lv_if_ne (tgt := 11) hx hb dX8_order_5 (by decide) (fun c2 => ?_) (fun c2 => ?_)
  · have hf := ifN c2 hf
    refine lv_aload_n hx hb dX8_order_11 rfl (lv_at hl 0 rfl) ?_
    obtain ⟨st3, hc12_3, hf⟩ := bI1_some hf
    refine g_callVv C G (As := []) (rest := []) (c_X8_layAll l D cy h st st3 hc12_3) cl8 rfl (C8 ok8_0) v_X8_201 (Nat.le_of_ble_eq_true rfl) (Nat.le_of_ble_eq_true rfl) rfl hl.1 rfl (Nat.le_of_ble_eq_true rfl) dX8_order_12 ⟨Nat.zero_le _, Nat.zero_le _⟩ (fun H locs G => ?_)
    refine lv_aload_n hx hb dX8_order_15 rfl (lv_at hl 0 rfl) ?_
    refine g_getr (k := 6) C G cl8 (C8 ok8_0) (j := 15) (by decide) (F8_15 ok8_0) k4_39 dX8_order_16 ?_
    refine lv_iload_n hx hb dX8_order_19 rfl (lv_at hl 1 rfl) ?_
    obtain ⟨hi20_3, hf⟩ := gd_some hf
    refine g_iald C G (A8_15 ok8_0) (j := a1.toNatClampNeg) rfl hi20_3 dX8_order_20 ?_
    cases hf
    exact g_iret C G hr hlocks dX8_order_21
  · have hf := ifP c2 hf
    refine lv_bipush (v := (-101)) hx hb dX8_order_8 (by decide) ?_
    cases hf
    exact g_iret C G hr hlocks dX8_order_10

noncomputable def f_X8_cut (a1 : Int32) (a2 : Int32) (st : GS) : Option (Int32 × GS) := 
bI1 (f_X8_layAll st) (fun st1 => 
bI1 (f_X8_in (Int32.toInt64 a1) 0 (Int32.toInt64 ((gt st1 0 18) - 1))) (fun r2 => 
(if r2 = 0 then some (((-101), st1)) else 
bI1 (f_X8_in (Int32.toInt64 a2) 0 4) (fun r4 => 
(if r4 = 0 then some (((-102), st1)) else 
gd ((5 * a1) + a2) 40 (some (((gt st1 7 (((5 * a1) + a2).toNatClampNeg)), st1))))))))
set_option maxRecDepth 100000 in
set_option maxHeartbeats 4000000 in
theorem c_X8_cut (l : Launch) (D : va_G) (cy : ClassId) (h : Nat → Nat) (a1 : Int32) (a2 : Int32) (st : GS) (r : Int32) (stF : GS) (hf : f_X8_cut a1 a2 st = some (r, stF)) : gMi l MSh D cy h yX8_cut cX8_cut 3 (some .int) 8 st [.ref (h 0), .int a1, .int a2] r stF := by
  unfold f_X8_cut at hf
  refine gMi_of (by decide) (Nat.le_of_ble_eq_true rfl) ?_
  intro p e s m args below meth c A ls C hr hlocks G hl
  have C : gC p s m args c cX8_cut 3 "LaneOrderModel" MSh D cy h A := C
  have hl : lv_has ls 3 [(0, .ref (h 0)), (1, .int a1), (2, .int a2)] := hl
  have hx := C.1
  have hb := C.2.1
  have hown := C.2.2.2.1
  have htb := C.2.2.2.2.1
  refine lv_aload_n hx hb dX8_cut_0 rfl (lv_at hl 0 rfl) ?_
  obtain ⟨st1, hc1_1, hf⟩ := bI1_some hf
  refine g_callVv C G (As := []) (rest := []) (c_X8_layAll l D cy h st st1 hc1_1) cl8 rfl (C8 ok8_0) v_X8_201 (Nat.le_of_ble_eq_true rfl) (Nat.le_of_ble_eq_true rfl) rfl hl.1 rfl (Nat.le_of_ble_eq_true rfl) dX8_cut_1 ⟨Nat.zero_le _, Nat.zero_le _⟩ (fun H locs G => ?_)
  refine lv_iload_n hx hb dX8_cut_4 rfl (lv_at hl 1 rfl) ?_
  refine lv_i2l hx hb dX8_cut_5 rfl ?_
  refine lv_lconst (v := 0) hx hb dX8_cut_6 rfl ?_
  refine lv_aload_n hx hb dX8_cut_7 rfl (lv_at hl 0 rfl) ?_
  refine g_geti C G cl8 (C8 ok8_0) (j := 18) (by decide) (F8_18 ok8_0) k4_42 dX8_cut_8 ?_
  refine lv_iconst (v := 1) hx hb dX8_cut_11 (by decide) ?_
  refine lv_isub hx hb dX8_cut_12 ?_
  refine lv_i2l hx hb dX8_cut_13 rfl ?_
  obtain ⟨r2, hc14_2, hf⟩ := bI1_some hf
  refine g_callSi C G (As := [.long (Int32.toInt64 a1), .long 0, .long (Int32.toInt64 ((gt st1 0 18) - 1))]) (rest := []) (c_X8_in l D cy h (Int32.toInt64 a1) 0 (Int32.toInt64 ((gt st1 0 18) - 1)) st1 r2 hc14_2) v_X8_76 (Nat.le_of_ble_eq_true rfl) (Nat.le_of_ble_eq_true rfl) rfl hl.1 rfl (Nat.le_of_ble_eq_true rfl) dX8_cut_14 ⟨Nat.zero_le _, Nat.zero_le _⟩ (fun H locs G => ?_)
  refine lv_if_ne (tgt := 23) hx hb dX8_cut_17 (by decide) (fun c3 => ?_) (fun c3 => ?_)
  · have hf := ifN c3 hf
    refine lv_iload_n hx hb dX8_cut_23 rfl (lv_at hl 2 rfl) ?_
    refine lv_i2l hx hb dX8_cut_24 rfl ?_
    refine lv_lconst (v := 0) hx hb dX8_cut_25 rfl ?_
    refine lv_ldc2 hx hb (v := 4) hown (htb _ k5_40) dX8_cut_26 ?_
    obtain ⟨r4, hc29_4, hf⟩ := bI1_some hf
    refine g_callSi C G (As := [.long (Int32.toInt64 a2), .long 0, .long 4]) (rest := []) (c_X8_in l D cy h (Int32.toInt64 a2) 0 4 st1 r4 hc29_4) v_X8_76 (Nat.le_of_ble_eq_true rfl) (Nat.le_of_ble_eq_true rfl) rfl hl.1 rfl (Nat.le_of_ble_eq_true rfl) dX8_cut_29 ⟨Nat.zero_le _, Nat.zero_le _⟩ (fun H locs G => ?_)
    refine lv_if_eq (tgt := 48) hx hb dX8_cut_32 (by decide) (fun c5 => ?_) (fun c5 => ?_)
    · have hf := ifP c5 hf
      refine lv_bipush (v := (-102)) hx hb dX8_cut_48 (by decide) ?_
      cases hf
      exact g_iret C G hr hlocks dX8_cut_50
    · have hf := ifN c5 hf
      refine lv_aload_n hx hb dX8_cut_35 rfl (lv_at hl 0 rfl) ?_
      refine g_getr (k := 7) C G cl8 (C8 ok8_0) (j := 17) (by decide) (F8_17 ok8_0) k4_41 dX8_cut_36 ?_
      refine lv_iconst (v := 5) hx hb dX8_cut_39 (by decide) ?_
      refine lv_iload_n hx hb dX8_cut_40 rfl (lv_at hl 1 rfl) ?_
      refine lv_imul hx hb dX8_cut_41 ?_
      refine lv_iload_n hx hb dX8_cut_42 rfl (lv_at hl 2 rfl) ?_
      refine lv_iadd hx hb dX8_cut_43 ?_
      obtain ⟨hi44_5, hf⟩ := gd_some hf
      refine g_iald C G (A8_17 ok8_0) (j := ((5 * a1) + a2).toNatClampNeg) rfl hi44_5 dX8_cut_44 ?_
      refine lv_goto (tgt := 50) hx hb dX8_cut_45 (by decide) ?_
      cases hf
      exact g_iret C G hr hlocks dX8_cut_50
  · have hf := ifP c3 hf
    refine lv_bipush (v := (-101)) hx hb dX8_cut_20 (by decide) ?_
    cases hf
    exact g_iret C G hr hlocks dX8_cut_22

noncomputable def f_X8_why (a1 : Int32) (a2 : Int32) (st : GS) : Option (Int32 × GS) := 
bI1 (f_X8_isBox a1 st) (fun r1 => 
(if r1 = 0 then some (((-101), st)) else 
bI1 (f_X8_isBox a2 st) (fun r3 => 
(if r3 = 0 then some (((-101), st)) else 
(if a1 = a2 then some (((-101), st)) else 
bI1 (f_X8_layAll st) (fun st6 => 
bI1 (f_X8_placeOf a1 st6) (fun r7 => 
bI1 (f_X8_placeOf a2 st6) (fun r8 => 
bI1 ((if r8 ≤ r7 then some (a2) else 
some (a1))) (fun (x10 : Int32) => 
gd a1 8 (bI1 ((if (gt st6 5 (a1.toNatClampNeg)) = (-1) then gd a2 8 ((if (gt st6 5 (a2.toNatClampNeg)) = (-1) then gd a1 8 (gd a2 8 ((if (gt st6 8 (a1.toNatClampNeg)) = (gt st6 8 (a2.toNatClampNeg)) then bI1 (f_X8_ruleOf a1 a2 st6) (fun r19 => 
some (r19)) else 
some (5)))) else 
some (6))) else 
some (6))) (fun (x13 : Int32) => 
some ((((10 * x10) + x13), st6)))))))))))))
set_option maxRecDepth 100000 in
set_option maxHeartbeats 4000000 in
theorem c_X8_why (l : Launch) (D : va_G) (cy : ClassId) (h : Nat → Nat) (a1 : Int32) (a2 : Int32) (st : GS) (r : Int32) (stF : GS) (hf : f_X8_why a1 a2 st = some (r, stF)) : gMi l MSh D cy h yX8_why cX8_why 5 (some .int) 8 st [.ref (h 0), .int a1, .int a2] r stF := by
  unfold f_X8_why at hf
  refine gMi_of (by decide) (Nat.le_of_ble_eq_true rfl) ?_
  intro p e s m args below meth c A ls C hr hlocks G hl
  have C : gC p s m args c cX8_why 5 "LaneOrderModel" MSh D cy h A := C
  have hl : lv_has ls 5 [(0, .ref (h 0)), (1, .int a1), (2, .int a2)] := hl
  have hx := C.1
  have hb := C.2.1
  have hown := C.2.2.2.1
  have htb := C.2.2.2.2.1
  refine lv_aload_n hx hb dX8_why_0 rfl (lv_at hl 0 rfl) ?_
  refine lv_iload_n hx hb dX8_why_1 rfl (lv_at hl 1 rfl) ?_
  obtain ⟨r1, hc2_1, hf⟩ := bI1_some hf
  refine g_callVi C G (As := [.int a1]) (rest := []) (c_X8_isBox l D cy h a1 st r1 hc2_1) cl8 rfl (C8 ok8_0) v_X8_213 (Nat.le_of_ble_eq_true rfl) (Nat.le_of_ble_eq_true rfl) rfl hl.1 rfl (Nat.le_of_ble_eq_true rfl) dX8_why_2 ⟨Nat.zero_le _, Nat.zero_le _⟩ (fun H locs G => ?_)
  refine lv_if_eq (tgt := 21) hx hb dX8_why_5 (by decide) (fun c2 => ?_) (fun c2 => ?_)
  · have hf := ifP c2 hf
    refine lv_bipush (v := (-101)) hx hb dX8_why_21 (by decide) ?_
    cases hf
    exact g_iret C G hr hlocks dX8_why_23
  · have hf := ifN c2 hf
    refine lv_aload_n hx hb dX8_why_8 rfl (lv_at hl 0 rfl) ?_
    refine lv_iload_n hx hb dX8_why_9 rfl (lv_at hl 2 rfl) ?_
    obtain ⟨r3, hc10_3, hf⟩ := bI1_some hf
    refine g_callVi C G (As := [.int a2]) (rest := []) (c_X8_isBox l D cy h a2 st r3 hc10_3) cl8 rfl (C8 ok8_0) v_X8_213 (Nat.le_of_ble_eq_true rfl) (Nat.le_of_ble_eq_true rfl) rfl hl.1 rfl (Nat.le_of_ble_eq_true rfl) dX8_why_10 ⟨Nat.zero_le _, Nat.zero_le _⟩ (fun H locs G => ?_)
    refine lv_if_eq (tgt := 21) hx hb dX8_why_13 (by decide) (fun c4 => ?_) (fun c4 => ?_)
    · have hf := ifP c4 hf
      refine lv_bipush (v := (-101)) hx hb dX8_why_21 (by decide) ?_
      cases hf
      exact g_iret C G hr hlocks dX8_why_23
    · have hf := ifN c4 hf
      refine lv_iload_n hx hb dX8_why_16 rfl (lv_at hl 1 rfl) ?_
      refine lv_iload_n hx hb dX8_why_17 rfl (lv_at hl 2 rfl) ?_
      refine lv_icmp_ne (tgt := 24) hx hb dX8_why_18 (by decide) (fun c5 => ?_) (fun c5 => ?_)
      · have hf := ifN c5 hf
        refine lv_aload_n hx hb dX8_why_24 rfl (lv_at hl 0 rfl) ?_
        obtain ⟨st6, hc25_6, hf⟩ := bI1_some hf
        refine g_callVv C G (As := []) (rest := []) (c_X8_layAll l D cy h st st6 hc25_6) cl8 rfl (C8 ok8_0) v_X8_201 (Nat.le_of_ble_eq_true rfl) (Nat.le_of_ble_eq_true rfl) rfl hl.1 rfl (Nat.le_of_ble_eq_true rfl) dX8_why_25 ⟨Nat.zero_le _, Nat.zero_le _⟩ (fun H locs G => ?_)
        refine lv_aload_n hx hb dX8_why_28 rfl (lv_at hl 0 rfl) ?_
        refine lv_iload_n hx hb dX8_why_29 rfl (lv_at hl 1 rfl) ?_
        obtain ⟨r7, hc30_7, hf⟩ := bI1_some hf
        refine g_callVi C G (As := [.int a1]) (rest := []) (c_X8_placeOf l D cy h a1 st6 r7 hc30_7) cl8 rfl (C8 ok8_0) v_X8_204 (Nat.le_of_ble_eq_true rfl) (Nat.le_of_ble_eq_true rfl) rfl hl.1 rfl (Nat.le_of_ble_eq_true rfl) dX8_why_30 ⟨Nat.zero_le _, Nat.zero_le _⟩ (fun H locs G => ?_)
        refine lv_aload_n hx hb dX8_why_33 rfl (lv_at hl 0 rfl) ?_
        refine lv_iload_n hx hb dX8_why_34 rfl (lv_at hl 2 rfl) ?_
        obtain ⟨r8, hc35_8, hf⟩ := bI1_some hf
        refine g_callVi C G (As := [.int a2]) (rest := [.int r7]) (c_X8_placeOf l D cy h a2 st6 r8 hc35_8) cl8 rfl (C8 ok8_0) v_X8_204 (Nat.le_of_ble_eq_true rfl) (Nat.le_of_ble_eq_true rfl) rfl hl.1 rfl (Nat.le_of_ble_eq_true rfl) dX8_why_35 ⟨Nat.zero_le _, Nat.zero_le _⟩ (fun H locs G => ?_)
        obtain ⟨x10, hj46, hf⟩ := bI1_some hf
        have K46 : ∀ (H : Heap) (locs : List Loc) (ls : Array Slot) , gG MSh D cy h A s st6 H locs → lv_has ls 5 [(0, .ref (h 0)), (1, .int a1), (2, .int a2)] → W p l e (gR 8) s m args below meth c H locs 0 0 (MQ below (gQi MSh D cy h A r stF) args s 0 0 A) (F0 m 46 ls [.int x10]) := by
          intro H locs ls G hl
          refine lv_istore_n (lv' := [(3, .int x10), (0, .ref (h 0)), (1, .int a1), (2, .int a2)]) hx hb dX8_why_46 rfl hl (by decide) rfl (fun ls hl => ?_)
          refine lv_aload_n hx hb dX8_why_47 rfl (lv_at hl 1 rfl) ?_
          refine g_getr (k := 5) C G cl8 (C8 ok8_0) (j := 11) (by decide) (F8_11 ok8_0) k4_35 dX8_why_48 ?_
          refine lv_iload_n hx hb dX8_why_51 rfl (lv_at hl 2 rfl) ?_
          obtain ⟨hi52_10, hf⟩ := gd_some hf
          refine g_iald C G (A8_11 ok8_0) (j := a1.toNatClampNeg) rfl hi52_10 dX8_why_52 ?_
          refine lv_iconst (v := (-1)) hx hb dX8_why_53 (by decide) ?_
          obtain ⟨x13, hj97, hf⟩ := bI1_some hf
          have K97 : ∀ (H : Heap) (locs : List Loc) (ls : Array Slot) , gG MSh D cy h A s st6 H locs → lv_has ls 5 [(3, .int x10)] → W p l e (gR 8) s m args below meth c H locs 0 0 (MQ below (gQi MSh D cy h A r stF) args s 0 0 A) (F0 m 97 ls [.int x13]) := by
            intro H locs ls G hl
            refine lv_istore (lv' := [(4, .int x13), (3, .int x10)]) hx hb dX8_why_97 hl (by decide) rfl (fun ls hl => ?_)
            refine lv_bipush (v := 10) hx hb dX8_why_99 (by decide) ?_
            refine lv_iload_n hx hb dX8_why_101 rfl (lv_at hl 1 rfl) ?_
            refine lv_imul hx hb dX8_why_102 ?_
            refine lv_iload hx hb dX8_why_103 (lv_at hl 0 rfl) ?_
            refine lv_iadd hx hb dX8_why_105 ?_
            cases hf
            exact g_iret C G hr hlocks dX8_why_106
          clear hf
          refine lv_icmp_ne (tgt := 67) hx hb dX8_why_54 (by decide) (fun c12 => ?_) (fun c12 => ?_)
          · have hf := ifN c12 hj97
            refine lv_bipush (v := 6) hx hb dX8_why_67 (by decide) ?_
            refine lv_goto (tgt := 97) hx hb dX8_why_69 (by decide) ?_
            cases hf
            exact K97 _ _ _ G (lv_sub hl [0] rfl)
          · have hf := ifP c12 hj97
            refine lv_aload_n hx hb dX8_why_57 rfl (lv_at hl 1 rfl) ?_
            refine g_getr (k := 5) C G cl8 (C8 ok8_0) (j := 11) (by decide) (F8_11 ok8_0) k4_35 dX8_why_58 ?_
            refine lv_iload_n hx hb dX8_why_61 rfl (lv_at hl 3 rfl) ?_
            obtain ⟨hi62_13, hf⟩ := gd_some hf
            refine g_iald C G (A8_11 ok8_0) (j := a2.toNatClampNeg) rfl hi62_13 dX8_why_62 ?_
            refine lv_iconst (v := (-1)) hx hb dX8_why_63 (by decide) ?_
            refine lv_icmp_eq (tgt := 72) hx hb dX8_why_64 (by decide) (fun c15 => ?_) (fun c15 => ?_)
            · have hf := ifP c15 hf
              refine lv_aload_n hx hb dX8_why_72 rfl (lv_at hl 1 rfl) ?_
              refine g_getr (k := 8) C G cl8 (C8 ok8_0) (j := 20) (by decide) (F8_20 ok8_0) k4_44 dX8_why_73 ?_
              refine lv_iload_n hx hb dX8_why_76 rfl (lv_at hl 2 rfl) ?_
              obtain ⟨hi77_15, hf⟩ := gd_some hf
              refine g_iald C G (A8_20 ok8_0) (j := a1.toNatClampNeg) rfl hi77_15 dX8_why_77 ?_
              refine lv_aload_n hx hb dX8_why_78 rfl (lv_at hl 1 rfl) ?_
              refine g_getr (k := 8) C G cl8 (C8 ok8_0) (j := 20) (by decide) (F8_20 ok8_0) k4_44 dX8_why_79 ?_
              refine lv_iload_n hx hb dX8_why_82 rfl (lv_at hl 3 rfl) ?_
              obtain ⟨hi83_16, hf⟩ := gd_some hf
              refine g_iald C G (A8_20 ok8_0) (j := a2.toNatClampNeg) rfl hi83_16 dX8_why_83 ?_
              refine lv_icmp_eq (tgt := 91) hx hb dX8_why_84 (by decide) (fun c18 => ?_) (fun c18 => ?_)
              · have hf := ifP c18 hf
                refine lv_aload_n hx hb dX8_why_91 rfl (lv_at hl 1 rfl) ?_
                refine lv_iload_n hx hb dX8_why_92 rfl (lv_at hl 2 rfl) ?_
                refine lv_iload_n hx hb dX8_why_93 rfl (lv_at hl 3 rfl) ?_
                obtain ⟨r19, hc94_19, hf⟩ := bI1_some hf
                refine g_callVi C G (As := [.int a1, .int a2]) (rest := []) (c_X8_ruleOf l D cy h a1 a2 st6 r19 hc94_19) cl8 rfl (C8 ok8_0) v_X8_163 (Nat.le_of_ble_eq_true rfl) (Nat.le_of_ble_eq_true rfl) rfl hl.1 rfl (Nat.le_of_ble_eq_true rfl) dX8_why_94 ⟨Nat.zero_le _, Nat.zero_le _⟩ (fun H locs G => ?_)
                cases hf
                exact K97 _ _ _ G (lv_sub hl [0] rfl)
              · have hf := ifN c18 hf
                refine lv_iconst (v := 5) hx hb dX8_why_87 (by decide) ?_
                refine lv_goto (tgt := 97) hx hb dX8_why_88 (by decide) ?_
                cases hf
                exact K97 _ _ _ G (lv_sub hl [0] rfl)
            · have hf := ifN c15 hf
              refine lv_bipush (v := 6) hx hb dX8_why_67 (by decide) ?_
              refine lv_goto (tgt := 97) hx hb dX8_why_69 (by decide) ?_
              cases hf
              exact K97 _ _ _ G (lv_sub hl [0] rfl)
        clear hf
        refine lv_icmp_ge (tgt := 45) hx hb dX8_why_38 (by decide) (fun c9 => ?_) (fun c9 => ?_)
        · have hf := ifP c9 hj46
          refine lv_iload_n hx hb dX8_why_45 rfl (lv_at hl 2 rfl) ?_
          cases hf
          exact K46 _ _ _ G hl
        · have hf := ifN c9 hj46
          refine lv_iload_n hx hb dX8_why_41 rfl (lv_at hl 1 rfl) ?_
          refine lv_goto (tgt := 46) hx hb dX8_why_42 (by decide) ?_
          cases hf
          exact K46 _ _ _ G hl
      · have hf := ifP c5 hf
        refine lv_bipush (v := (-101)) hx hb dX8_why_21 (by decide) ?_
        cases hf
        exact g_iret C G hr hlocks dX8_why_23

noncomputable def f_X8_rankOf (a1 : Int32) (a2 : Int32) (a3 : Int32) : Option (Int32) := 
some (((((1000 - a3) * 2000) + ((1 - a1) * 1000)) + a2))
set_option maxRecDepth 100000 in
set_option maxHeartbeats 4000000 in
theorem c_X8_rankOf (l : Launch) (D : va_G) (cy : ClassId) (h : Nat → Nat) (a1 : Int32) (a2 : Int32) (a3 : Int32) (st : GS) (r : Int32) (hf : f_X8_rankOf a1 a2 a3 = some r) : gMi l MSh D cy h yX8_rankOf cX8_rankOf 3 (some .int) 1 st [.int a1, .int a2, .int a3] r st := by
  unfold f_X8_rankOf at hf
  refine gMi_of (by decide) (Nat.le_of_ble_eq_true rfl) ?_
  intro p e s m args below meth c A ls C hr hlocks G hl
  have C : gC p s m args c cX8_rankOf 3 "LaneOrderModel" MSh D cy h A := C
  have hl : lv_has ls 3 [(0, .int a1), (1, .int a2), (2, .int a3)] := hl
  have hx := C.1
  have hb := C.2.1
  have hown := C.2.2.2.1
  have htb := C.2.2.2.2.1
  refine lv_sipush (v := 1000) hx hb dX8_rankOf_0 (by decide) ?_
  refine lv_iload_n hx hb dX8_rankOf_3 rfl (lv_at hl 2 rfl) ?_
  refine lv_isub hx hb dX8_rankOf_4 ?_
  refine lv_sipush (v := 2000) hx hb dX8_rankOf_5 (by decide) ?_
  refine lv_imul hx hb dX8_rankOf_8 ?_
  refine lv_iconst (v := 1) hx hb dX8_rankOf_9 (by decide) ?_
  refine lv_iload_n hx hb dX8_rankOf_10 rfl (lv_at hl 0 rfl) ?_
  refine lv_isub hx hb dX8_rankOf_11 ?_
  refine lv_sipush (v := 1000) hx hb dX8_rankOf_12 (by decide) ?_
  refine lv_imul hx hb dX8_rankOf_15 ?_
  refine lv_iadd hx hb dX8_rankOf_16 ?_
  refine lv_iload_n hx hb dX8_rankOf_17 rfl (lv_at hl 1 rfl) ?_
  refine lv_iadd hx hb dX8_rankOf_18 ?_
  cases hf
  exact g_iret C G hr hlocks dX8_rankOf_19

noncomputable def f_X8_nextLane_L5 (a1 : Int32) (a2 : Int32) (st : GS) (x1 : Int32) (x2 : Int32) : Option ((Int32 × Int32) ⊕ (Int32)) := 
(if 128 ≤ x2 then some (.inr (x1)) else 
lt_ (x2 / 64) (fun x4 => 
lt_ (irem (x2 / 8) 8) (fun x5 => 
lt_ (irem x2 8) (fun x6 => 
bI1 (f_X8_has a1 x5) (fun r7 => 
(if r7 = 0 then lt_ (x2 + 1) (fun x9 => 
some (.inl (x1, x9))) else 
bI1 (f_X8_has a1 x6) (fun r10 => 
(if r10 = 0 then lt_ (x2 + 1) (fun x12 => 
some (.inl (x1, x12))) else 
gd (((4 * x5) + 2) + x4) 32 (lt_ (gt st 3 ((((4 * x5) + 2) + x4).toNatClampNeg)) (fun x14 => 
gd ((4 * x6) + x4) 32 (lt_ (gt st 3 (((4 * x6) + x4).toNatClampNeg)) (fun x16 => 
bI1 (f_X8_rankOf x4 x14 (x16 - x14)) (fun r17 => 
bI1 ((if x16 ≤ x14 then some (0) else 
(if r17 ≤ a2 then some (0) else 
(if x1 = (-1) then some (1) else 
(if x1 ≤ r17 then some (0) else 
some (1)))))) (fun (x19 : Int32) => 
(if x19 = 0 then lt_ (x2 + 1) (fun x24 => 
some (.inl (x1, x24))) else 
bI1 (f_X8_isLane a1 x4 x14 x16 st) (fun r25 => 
(if r25 = 0 then lt_ (x2 + 1) (fun x27 => 
some (.inl (x1, x27))) else 
lt_ (x2 + 1) (fun x28 => 
some (.inl (r17, x28))))))))))))))))))))
noncomputable def f_X8_nextLane (a1 : Int32) (a2 : Int32) (st : GS) : Option (Int32) := 
bI1 (lpx (uc2 (f_X8_nextLane_L5 a1 a2 st)) ((-1), 0)) (fun x29 => 
some (x29))
set_option maxRecDepth 100000 in
set_option maxHeartbeats 4000000 in
theorem c_X8_nextLane (l : Launch) (D : va_G) (cy : ClassId) (h : Nat → Nat) (a1 : Int32) (a2 : Int32) (st : GS) (r : Int32) (hf : f_X8_nextLane a1 a2 st = some r) : gMi l MSh D cy h yX8_nextLane cX8_nextLane 12 (some .int) 3 st [.ref (h 0), .int a1, .int a2] r st := by
  unfold f_X8_nextLane at hf
  refine gMi_of (by decide) (Nat.le_of_ble_eq_true rfl) ?_
  intro p e s m args below meth c A ls C hr hlocks G hl
  have C : gC p s m args c cX8_nextLane 12 "LaneOrderModel" MSh D cy h A := C
  have hl : lv_has ls 12 [(0, .ref (h 0)), (1, .int a1), (2, .int a2)] := hl
  have hx := C.1
  have hb := C.2.1
  have hown := C.2.2.2.1
  have htb := C.2.2.2.2.1
  refine lv_iconst (v := (-1)) hx hb dX8_nextLane_0 (by decide) ?_
  refine lv_istore_n (lv' := [(3, .int (-1)), (0, .ref (h 0)), (1, .int a1), (2, .int a2)]) hx hb dX8_nextLane_1 rfl hl (by decide) rfl (fun ls hl => ?_)
  refine lv_iconst (v := 0) hx hb dX8_nextLane_2 (by decide) ?_
  refine lv_istore (lv' := [(4, .int 0), (3, .int (-1)), (0, .ref (h 0)), (1, .int a1), (2, .int a2)]) hx hb dX8_nextLane_3 hl (by decide) rfl (fun ls hl => ?_)
  obtain ⟨x29, hn, hf⟩ := bI1_some hf
  obtain ⟨n, hn⟩ := lpx_some hn
  have K162 : ∀ (H : Heap) (locs : List Loc) (ls : Array Slot), gG MSh D cy h A s st H locs → lv_has ls 12 [(3, .int x29)] → W p l e (gR 3) s m args below meth c H locs 0 0 (MQ below (gQi MSh D cy h A r st) args s 0 0 A) (F0 m 162 ls []) := by
    intro H locs ls G hl
    refine lv_iload_n hx hb dX8_nextLane_162 rfl (lv_at hl 0 rfl) ?_
    cases hf
    exact g_iret C G hr hlocks dX8_nextLane_163
  have L5 : ∀ (n : Nat) (x1 : Int32) (x2 : Int32) (H : Heap) (locs : List Loc) (ls : Array Slot), gG MSh D cy h A s st H locs → lv_has ls 12 [(0, .ref (h 0)), (1, .int a1), (2, .int a2), (3, .int x1), (4, .int x2)] → lp (uc2 (f_X8_nextLane_L5 a1 a2 st)) n (x1, x2) = some (x29) → W p l e (gR 3) s m args below meth c H locs 0 0 (MQ below (gQi MSh D cy h A r st) args s 0 0 A) (F0 m 5 ls []) := by
    intro n
    induction n with
    | zero =>
      intro x1 x2 H locs ls G hl hn
      cases hn
    | succ n ih =>
      intro x1 x2 H locs ls G hl hn
      obtain ⟨q, hf, hq1, hq2⟩ := lp_q hn
      have hf : f_X8_nextLane_L5 a1 a2 st x1 x2 = some q := hf
      unfold f_X8_nextLane_L5 at hf
      refine lv_iload hx hb dX8_nextLane_5 (lv_at hl 4 rfl) ?_
      refine lv_sipush (v := 128) hx hb dX8_nextLane_7 (by decide) ?_
      refine lv_icmp_ge (tgt := 162) hx hb dX8_nextLane_10 (by decide) (fun c3 => ?_) (fun c3 => ?_)
      · have hf := ifP c3 hf
        cases hf
        have hz9 := hq2 _ rfl
        cases hz9
        exact K162 _ _ _ G (lv_sub hl [3] rfl)
      · have hf := ifN c3 hf
        refine lv_iload hx hb dX8_nextLane_13 (lv_at hl 4 rfl) ?_
        refine lv_bipush (v := 64) hx hb dX8_nextLane_15 (by decide) ?_
        refine lv_idiv hx hb dX8_nextLane_17 (by decide) ?_
        refine lv_topi (fun x4 ex4 => ?_)
        have hf := lt_some ex4 hf
        refine lv_istore (lv' := [(5, .int x4), (0, .ref (h 0)), (1, .int a1), (2, .int a2), (3, .int x1), (4, .int x2)]) hx hb dX8_nextLane_18 hl (by decide) rfl (fun ls hl => ?_)
        refine lv_iload hx hb dX8_nextLane_20 (lv_at hl 5 rfl) ?_
        refine lv_bipush (v := 8) hx hb dX8_nextLane_22 (by decide) ?_
        refine lv_idiv hx hb dX8_nextLane_24 (by decide) ?_
        refine lv_bipush (v := 8) hx hb dX8_nextLane_25 (by decide) ?_
        refine g_irem C dX8_nextLane_27 (by decide) ?_
        refine lv_topi (fun x5 ex5 => ?_)
        have hf := lt_some ex5 hf
        refine lv_istore (lv' := [(6, .int x5), (5, .int x4), (0, .ref (h 0)), (1, .int a1), (2, .int a2), (3, .int x1), (4, .int x2)]) hx hb dX8_nextLane_28 hl (by decide) rfl (fun ls hl => ?_)
        refine lv_iload hx hb dX8_nextLane_30 (lv_at hl 6 rfl) ?_
        refine lv_bipush (v := 8) hx hb dX8_nextLane_32 (by decide) ?_
        refine g_irem C dX8_nextLane_34 (by decide) ?_
        refine lv_topi (fun x6 ex6 => ?_)
        have hf := lt_some ex6 hf
        refine lv_istore (lv' := [(7, .int x6), (6, .int x5), (5, .int x4), (0, .ref (h 0)), (1, .int a1), (2, .int a2), (3, .int x1), (4, .int x2)]) hx hb dX8_nextLane_35 hl (by decide) rfl (fun ls hl => ?_)
        refine lv_iload_n hx hb dX8_nextLane_37 rfl (lv_at hl 4 rfl) ?_
        refine lv_iload hx hb dX8_nextLane_38 (lv_at hl 1 rfl) ?_
        obtain ⟨r7, hc40_7, hf⟩ := bI1_some hf
        refine g_callSi C G (As := [.int a1, .int x5]) (rest := []) (c_X8_has l D cy h a1 x5 st r7 hc40_7) v_X8_101 (Nat.le_of_ble_eq_true rfl) (Nat.le_of_ble_eq_true rfl) rfl hl.1 rfl (Nat.le_of_ble_eq_true rfl) dX8_nextLane_40 ⟨Nat.zero_le _, Nat.zero_le _⟩ (fun H locs G => ?_)
        refine lv_if_eq (tgt := 156) hx hb dX8_nextLane_43 (by decide) (fun c8 => ?_) (fun c8 => ?_)
        · have hf := ifP c8 hf
          obtain ⟨x9, ex9⟩ : ∃ z : Int32, z = (x2 + 1) := ⟨_, rfl⟩
          have hf := lt_some ex9 hf
          refine lv_iinc (v := x9) (lv' := [(4, .int x9), (7, .int x6), (6, .int x5), (5, .int x4), (0, .ref (h 0)), (1, .int a1), (2, .int a2), (3, .int x1)]) hx hb dX8_nextLane_156 hl (k := 7) rfl (by rw [ex9]; rfl) (by decide) rfl (fun ls hl => ?_)
          refine lv_goto (tgt := 5) hx hb dX8_nextLane_159 (by decide) ?_
          cases hf
          exact ih _ _ _ _ _ G (lv_sub hl [4, 5, 6, 7, 0] rfl) (hq1 _ rfl)
        · have hf := ifN c8 hf
          refine lv_iload_n hx hb dX8_nextLane_46 rfl (lv_at hl 4 rfl) ?_
          refine lv_iload hx hb dX8_nextLane_47 (lv_at hl 0 rfl) ?_
          obtain ⟨r10, hc49_10, hf⟩ := bI1_some hf
          refine g_callSi C G (As := [.int a1, .int x6]) (rest := []) (c_X8_has l D cy h a1 x6 st r10 hc49_10) v_X8_101 (Nat.le_of_ble_eq_true rfl) (Nat.le_of_ble_eq_true rfl) rfl hl.1 rfl (Nat.le_of_ble_eq_true rfl) dX8_nextLane_49 ⟨Nat.zero_le _, Nat.zero_le _⟩ (fun H locs G => ?_)
          refine lv_if_eq (tgt := 156) hx hb dX8_nextLane_52 (by decide) (fun c11 => ?_) (fun c11 => ?_)
          · have hf := ifP c11 hf
            obtain ⟨x12, ex12⟩ : ∃ z : Int32, z = (x2 + 1) := ⟨_, rfl⟩
            have hf := lt_some ex12 hf
            refine lv_iinc (v := x12) (lv' := [(4, .int x12), (7, .int x6), (6, .int x5), (5, .int x4), (0, .ref (h 0)), (1, .int a1), (2, .int a2), (3, .int x1)]) hx hb dX8_nextLane_156 hl (k := 7) rfl (by rw [ex12]; rfl) (by decide) rfl (fun ls hl => ?_)
            refine lv_goto (tgt := 5) hx hb dX8_nextLane_159 (by decide) ?_
            cases hf
            exact ih _ _ _ _ _ G (lv_sub hl [4, 5, 6, 7, 0] rfl) (hq1 _ rfl)
          · have hf := ifN c11 hf
            refine lv_aload_n hx hb dX8_nextLane_55 rfl (lv_at hl 3 rfl) ?_
            refine g_getr (k := 3) C G cl8 (C8 ok8_0) (j := 8) (by decide) (F8_8 ok8_0) k4_32 dX8_nextLane_56 ?_
            refine lv_iconst (v := 4) hx hb dX8_nextLane_59 (by decide) ?_
            refine lv_iload hx hb dX8_nextLane_60 (lv_at hl 1 rfl) ?_
            refine lv_imul hx hb dX8_nextLane_62 ?_
            refine lv_iconst (v := 2) hx hb dX8_nextLane_63 (by decide) ?_
            refine lv_iadd hx hb dX8_nextLane_64 ?_
            refine lv_iload hx hb dX8_nextLane_65 (lv_at hl 2 rfl) ?_
            refine lv_iadd hx hb dX8_nextLane_67 ?_
            obtain ⟨hi68_12, hf⟩ := gd_some hf
            refine g_iald C G (A8_8 ok8_0) (j := (((4 * x5) + 2) + x4).toNatClampNeg) rfl hi68_12 dX8_nextLane_68 ?_
            refine lv_topi (fun x14 ex14 => ?_)
            have hf := lt_some ex14 hf
            refine lv_istore (lv' := [(8, .int x14), (7, .int x6), (6, .int x5), (5, .int x4), (0, .ref (h 0)), (1, .int a1), (2, .int a2), (3, .int x1), (4, .int x2)]) hx hb dX8_nextLane_69 hl (by decide) rfl (fun ls hl => ?_)
            refine lv_aload_n hx hb dX8_nextLane_71 rfl (lv_at hl 4 rfl) ?_
            refine g_getr (k := 3) C G cl8 (C8 ok8_0) (j := 8) (by decide) (F8_8 ok8_0) k4_32 dX8_nextLane_72 ?_
            refine lv_iconst (v := 4) hx hb dX8_nextLane_75 (by decide) ?_
            refine lv_iload hx hb dX8_nextLane_76 (lv_at hl 1 rfl) ?_
            refine lv_imul hx hb dX8_nextLane_78 ?_
            refine lv_iload hx hb dX8_nextLane_79 (lv_at hl 3 rfl) ?_
            refine lv_iadd hx hb dX8_nextLane_81 ?_
            obtain ⟨hi82_14, hf⟩ := gd_some hf
            refine g_iald C G (A8_8 ok8_0) (j := ((4 * x6) + x4).toNatClampNeg) rfl hi82_14 dX8_nextLane_82 ?_
            refine lv_topi (fun x16 ex16 => ?_)
            have hf := lt_some ex16 hf
            refine lv_istore (lv' := [(9, .int x16), (8, .int x14), (7, .int x6), (6, .int x5), (5, .int x4), (0, .ref (h 0)), (1, .int a1), (2, .int a2), (3, .int x1), (4, .int x2)]) hx hb dX8_nextLane_83 hl (by decide) rfl (fun ls hl => ?_)
            refine lv_iload hx hb dX8_nextLane_85 (lv_at hl 4 rfl) ?_
            refine lv_iload hx hb dX8_nextLane_87 (lv_at hl 1 rfl) ?_
            refine lv_iload hx hb dX8_nextLane_89 (lv_at hl 0 rfl) ?_
            refine lv_iload hx hb dX8_nextLane_91 (lv_at hl 1 rfl) ?_
            refine lv_isub hx hb dX8_nextLane_93 ?_
            obtain ⟨r17, hc94_17, hf⟩ := bI1_some hf
            refine g_callSi C G (As := [.int x4, .int x14, .int (x16 - x14)]) (rest := []) (c_X8_rankOf l D cy h x4 x14 (x16 - x14) st r17 hc94_17) v_X8_221 (Nat.le_of_ble_eq_true rfl) (Nat.le_of_ble_eq_true rfl) rfl hl.1 rfl (Nat.le_of_ble_eq_true rfl) dX8_nextLane_94 ⟨Nat.zero_le _, Nat.zero_le _⟩ (fun H locs G => ?_)
            refine lv_istore (lv' := [(10, .int r17), (9, .int x16), (8, .int x14), (7, .int x6), (6, .int x5), (5, .int x4), (0, .ref (h 0)), (1, .int a1), (2, .int a2), (3, .int x1), (4, .int x2)]) hx hb dX8_nextLane_97 hl (by decide) rfl (fun ls hl => ?_)
            refine lv_iload hx hb dX8_nextLane_99 (lv_at hl 1 rfl) ?_
            refine lv_iload hx hb dX8_nextLane_101 (lv_at hl 2 rfl) ?_
            obtain ⟨x19, hj128, hf⟩ := bI1_some hf
            have K128 : ∀ (H : Heap) (locs : List Loc) (ls : Array Slot) , gG MSh D cy h A s st H locs → lv_has ls 12 [(0, .ref (h 0)), (1, .int a1), (2, .int a2), (3, .int x1), (4, .int x2), (5, .int x4), (8, .int x14), (9, .int x16), (10, .int r17)] → W p l e (gR 3) s m args below meth c H locs 0 0 (MQ below (gQi MSh D cy h A r st) args s 0 0 A) (F0 m 128 ls [.int x19]) := by
              intro H locs ls G hl
              refine lv_istore (lv' := [(11, .int x19), (0, .ref (h 0)), (1, .int a1), (2, .int a2), (3, .int x1), (4, .int x2), (5, .int x4), (8, .int x14), (9, .int x16), (10, .int r17)]) hx hb dX8_nextLane_128 hl (by decide) rfl (fun ls hl => ?_)
              refine lv_iload hx hb dX8_nextLane_130 (lv_at hl 0 rfl) ?_
              refine lv_if_eq (tgt := 154) hx hb dX8_nextLane_132 (by decide) (fun c23 => ?_) (fun c23 => ?_)
              · have hf := ifP c23 hf
                refine lv_iload_n hx hb dX8_nextLane_154 rfl (lv_at hl 4 rfl) ?_
                refine lv_istore_n (lv' := [(3, .int x1), (11, .int x19), (0, .ref (h 0)), (1, .int a1), (2, .int a2), (4, .int x2), (5, .int x4), (8, .int x14), (9, .int x16), (10, .int r17)]) hx hb dX8_nextLane_155 rfl hl (by decide) rfl (fun ls hl => ?_)
                obtain ⟨x24, ex24⟩ : ∃ z : Int32, z = (x2 + 1) := ⟨_, rfl⟩
                have hf := lt_some ex24 hf
                refine lv_iinc (v := x24) (lv' := [(4, .int x24), (3, .int x1), (11, .int x19), (0, .ref (h 0)), (1, .int a1), (2, .int a2), (5, .int x4), (8, .int x14), (9, .int x16), (10, .int r17)]) hx hb dX8_nextLane_156 hl (k := 5) rfl (by rw [ex24]; rfl) (by decide) rfl (fun ls hl => ?_)
                refine lv_goto (tgt := 5) hx hb dX8_nextLane_159 (by decide) ?_
                cases hf
                exact ih _ _ _ _ _ G (lv_sub hl [3, 4, 5, 1, 0] rfl) (hq1 _ rfl)
              · have hf := ifN c23 hf
                refine lv_aload_n hx hb dX8_nextLane_135 rfl (lv_at hl 1 rfl) ?_
                refine lv_iload_n hx hb dX8_nextLane_136 rfl (lv_at hl 2 rfl) ?_
                refine lv_iload hx hb dX8_nextLane_137 (lv_at hl 6 rfl) ?_
                refine lv_iload hx hb dX8_nextLane_139 (lv_at hl 7 rfl) ?_
                refine lv_iload hx hb dX8_nextLane_141 (lv_at hl 8 rfl) ?_
                obtain ⟨r25, hc143_25, hf⟩ := bI1_some hf
                refine g_callVi C G (As := [.int a1, .int x4, .int x14, .int x16]) (rest := []) (c_X8_isLane l D cy h a1 x4 x14 x16 st r25 hc143_25) cl8 rfl (C8 ok8_0) v_X8_148 (Nat.le_of_ble_eq_true rfl) (Nat.le_of_ble_eq_true rfl) rfl hl.1 rfl (Nat.le_of_ble_eq_true rfl) dX8_nextLane_143 ⟨Nat.zero_le _, Nat.zero_le _⟩ (fun H locs G => ?_)
                refine lv_if_eq (tgt := 154) hx hb dX8_nextLane_146 (by decide) (fun c26 => ?_) (fun c26 => ?_)
                · have hf := ifP c26 hf
                  refine lv_iload_n hx hb dX8_nextLane_154 rfl (lv_at hl 4 rfl) ?_
                  refine lv_istore_n (lv' := [(3, .int x1), (11, .int x19), (0, .ref (h 0)), (1, .int a1), (2, .int a2), (4, .int x2), (5, .int x4), (8, .int x14), (9, .int x16), (10, .int r17)]) hx hb dX8_nextLane_155 rfl hl (by decide) rfl (fun ls hl => ?_)
                  obtain ⟨x27, ex27⟩ : ∃ z : Int32, z = (x2 + 1) := ⟨_, rfl⟩
                  have hf := lt_some ex27 hf
                  refine lv_iinc (v := x27) (lv' := [(4, .int x27), (3, .int x1), (11, .int x19), (0, .ref (h 0)), (1, .int a1), (2, .int a2), (5, .int x4), (8, .int x14), (9, .int x16), (10, .int r17)]) hx hb dX8_nextLane_156 hl (k := 5) rfl (by rw [ex27]; rfl) (by decide) rfl (fun ls hl => ?_)
                  refine lv_goto (tgt := 5) hx hb dX8_nextLane_159 (by decide) ?_
                  cases hf
                  exact ih _ _ _ _ _ G (lv_sub hl [3, 4, 5, 1, 0] rfl) (hq1 _ rfl)
                · have hf := ifN c26 hf
                  refine lv_iload hx hb dX8_nextLane_149 (lv_at hl 9 rfl) ?_
                  refine lv_goto (tgt := 155) hx hb dX8_nextLane_151 (by decide) ?_
                  refine lv_istore_n (lv' := [(3, .int r17), (11, .int x19), (0, .ref (h 0)), (1, .int a1), (2, .int a2), (4, .int x2), (5, .int x4), (8, .int x14), (9, .int x16), (10, .int r17)]) hx hb dX8_nextLane_155 rfl hl (by decide) rfl (fun ls hl => ?_)
                  obtain ⟨x28, ex28⟩ : ∃ z : Int32, z = (x2 + 1) := ⟨_, rfl⟩
                  have hf := lt_some ex28 hf
                  refine lv_iinc (v := x28) (lv' := [(4, .int x28), (3, .int r17), (11, .int x19), (0, .ref (h 0)), (1, .int a1), (2, .int a2), (5, .int x4), (8, .int x14), (9, .int x16), (10, .int r17)]) hx hb dX8_nextLane_156 hl (k := 5) rfl (by rw [ex28]; rfl) (by decide) rfl (fun ls hl => ?_)
                  refine lv_goto (tgt := 5) hx hb dX8_nextLane_159 (by decide) ?_
                  cases hf
                  exact ih _ _ _ _ _ G (lv_sub hl [3, 4, 5, 1, 0] rfl) (hq1 _ rfl)
            clear hf
            refine lv_icmp_le (tgt := 127) hx hb dX8_nextLane_103 (by decide) (fun c18 => ?_) (fun c18 => ?_)
            · have hf := ifP c18 hj128
              refine lv_iconst (v := 0) hx hb dX8_nextLane_127 (by decide) ?_
              cases hf
              exact K128 _ _ _ G (lv_sub hl [6, 7, 8, 9, 10, 5, 2, 1, 0] rfl)
            · have hf := ifN c18 hj128
              refine lv_iload hx hb dX8_nextLane_106 (lv_at hl 0 rfl) ?_
              refine lv_iload_n hx hb dX8_nextLane_108 rfl (lv_at hl 8 rfl) ?_
              refine lv_icmp_le (tgt := 127) hx hb dX8_nextLane_109 (by decide) (fun c20 => ?_) (fun c20 => ?_)
              · have hf := ifP c20 hf
                refine lv_iconst (v := 0) hx hb dX8_nextLane_127 (by decide) ?_
                cases hf
                exact K128 _ _ _ G (lv_sub hl [6, 7, 8, 9, 10, 5, 2, 1, 0] rfl)
              · have hf := ifN c20 hf
                refine lv_iload_n hx hb dX8_nextLane_112 rfl (lv_at hl 9 rfl) ?_
                refine lv_iconst (v := (-1)) hx hb dX8_nextLane_113 (by decide) ?_
                refine lv_icmp_eq (tgt := 123) hx hb dX8_nextLane_114 (by decide) (fun c21 => ?_) (fun c21 => ?_)
                · have hf := ifP c21 hf
                  refine lv_iconst (v := 1) hx hb dX8_nextLane_123 (by decide) ?_
                  refine lv_goto (tgt := 128) hx hb dX8_nextLane_124 (by decide) ?_
                  cases hf
                  exact K128 _ _ _ G (lv_sub hl [6, 7, 8, 9, 10, 5, 2, 1, 0] rfl)
                · have hf := ifN c21 hf
                  refine lv_iload hx hb dX8_nextLane_117 (lv_at hl 0 rfl) ?_
                  refine lv_iload_n hx hb dX8_nextLane_119 rfl (lv_at hl 9 rfl) ?_
                  refine lv_icmp_ge (tgt := 127) hx hb dX8_nextLane_120 (by decide) (fun c22 => ?_) (fun c22 => ?_)
                  · have hf := ifP c22 hf
                    refine lv_iconst (v := 0) hx hb dX8_nextLane_127 (by decide) ?_
                    cases hf
                    exact K128 _ _ _ G (lv_sub hl [6, 7, 8, 9, 10, 5, 2, 1, 0] rfl)
                  · have hf := ifN c22 hf
                    refine lv_iconst (v := 1) hx hb dX8_nextLane_123 (by decide) ?_
                    refine lv_goto (tgt := 128) hx hb dX8_nextLane_124 (by decide) ?_
                    cases hf
                    exact K128 _ _ _ G (lv_sub hl [6, 7, 8, 9, 10, 5, 2, 1, 0] rfl)
  exact L5 n _ _ _ _ _ G (lv_sub hl [2, 3, 4, 1, 0] rfl) hn

noncomputable def f_X8_laneOf_L18 (a1 : Int32) (r1 : Int32) (st2 : GS) (x3 : Int32) (x4 : Int32) : Option ((Int32 × Int32) ⊕ (Int32)) := 
(if a1 < x4 then some (.inr (x3)) else 
(if x4 ≤ 0 then bI1 (f_X8_nextLane r1 x3 st2) (fun r7 => 
lt_ (x4 + 1) (fun x8 => 
some (.inl (r7, x8)))) else 
(if x3 = (-1) then lt_ (x4 + 1) (fun x12 => 
some (.inl ((-1), x12))) else 
bI1 (f_X8_nextLane r1 x3 st2) (fun r10 => 
lt_ (x4 + 1) (fun x11 => 
some (.inl (r10, x11)))))))
noncomputable def f_X8_laneOf (a1 : Int32) (st : GS) : Option (Int32 × GS) := 
bI2 (f_X8_layBound ((ishl 1 (gt st 0 5)) - 1) st) (fun r1 st2 => 
bI1 (lpx (uc2 (f_X8_laneOf_L18 a1 r1 st2)) ((-1), 0)) (fun x13 => 
some ((x13, st2))))
set_option maxRecDepth 100000 in
set_option maxHeartbeats 4000000 in
theorem c_X8_laneOf (l : Launch) (D : va_G) (cy : ClassId) (h : Nat → Nat) (a1 : Int32) (st : GS) (r : Int32) (stF : GS) (hf : f_X8_laneOf a1 st = some (r, stF)) : gMi l MSh D cy h yX8_laneOf cX8_laneOf 5 (some .int) 4 st [.ref (h 0), .int a1] r stF := by
  unfold f_X8_laneOf at hf
  refine gMi_of (by decide) (Nat.le_of_ble_eq_true rfl) ?_
  intro p e s m args below meth c A ls C hr hlocks G hl
  have C : gC p s m args c cX8_laneOf 5 "LaneOrderModel" MSh D cy h A := C
  have hl : lv_has ls 5 [(0, .ref (h 0)), (1, .int a1)] := hl
  have hx := C.1
  have hb := C.2.1
  have hown := C.2.2.2.1
  have htb := C.2.2.2.2.1
  refine lv_aload_n hx hb dX8_laneOf_0 rfl (lv_at hl 0 rfl) ?_
  refine lv_iconst (v := 1) hx hb dX8_laneOf_1 (by decide) ?_
  refine lv_aload_n hx hb dX8_laneOf_2 rfl (lv_at hl 0 rfl) ?_
  refine g_geti C G cl8 (C8 ok8_0) (j := 5) (by decide) (F8_5 ok8_0) k4_29 dX8_laneOf_3 ?_
  refine g_ishl C dX8_laneOf_6 ?_
  refine lv_iconst (v := 1) hx hb dX8_laneOf_7 (by decide) ?_
  refine lv_isub hx hb dX8_laneOf_8 ?_
  obtain ⟨r1, st2, hc9_2, hf⟩ := bI2_some hf
  refine g_callVi C G (As := [.int ((ishl 1 (gt st 0 5)) - 1)]) (rest := []) (c_X8_layBound l D cy h ((ishl 1 (gt st 0 5)) - 1) st r1 st2 hc9_2) cl8 rfl (C8 ok8_0) v_X8_179 (Nat.le_of_ble_eq_true rfl) (Nat.le_of_ble_eq_true rfl) rfl hl.1 rfl (Nat.le_of_ble_eq_true rfl) dX8_laneOf_9 ⟨Nat.zero_le _, Nat.zero_le _⟩ (fun H locs G => ?_)
  refine lv_istore_n (lv' := [(2, .int r1), (0, .ref (h 0)), (1, .int a1)]) hx hb dX8_laneOf_12 rfl hl (by decide) rfl (fun ls hl => ?_)
  refine lv_iconst (v := (-1)) hx hb dX8_laneOf_13 (by decide) ?_
  refine lv_istore_n (lv' := [(3, .int (-1)), (2, .int r1), (0, .ref (h 0)), (1, .int a1)]) hx hb dX8_laneOf_14 rfl hl (by decide) rfl (fun ls hl => ?_)
  refine lv_iconst (v := 0) hx hb dX8_laneOf_15 (by decide) ?_
  refine lv_istore (lv' := [(4, .int 0), (3, .int (-1)), (2, .int r1), (0, .ref (h 0)), (1, .int a1)]) hx hb dX8_laneOf_16 hl (by decide) rfl (fun ls hl => ?_)
  obtain ⟨x13, hn, hf⟩ := bI1_some hf
  obtain ⟨n, hn⟩ := lpx_some hn
  have K51 : ∀ (H : Heap) (locs : List Loc) (ls : Array Slot), gG MSh D cy h A s st2 H locs → lv_has ls 5 [(3, .int x13)] → W p l e (gR 4) s m args below meth c H locs 0 0 (MQ below (gQi MSh D cy h A r stF) args s 0 0 A) (F0 m 51 ls []) := by
    intro H locs ls G hl
    refine lv_iload_n hx hb dX8_laneOf_51 rfl (lv_at hl 0 rfl) ?_
    cases hf
    exact g_iret C G hr hlocks dX8_laneOf_52
  have L18 : ∀ (n : Nat) (x3 : Int32) (x4 : Int32) (H : Heap) (locs : List Loc) (ls : Array Slot), gG MSh D cy h A s st2 H locs → lv_has ls 5 [(0, .ref (h 0)), (1, .int a1), (2, .int r1), (3, .int x3), (4, .int x4)] → lp (uc2 (f_X8_laneOf_L18 a1 r1 st2)) n (x3, x4) = some (x13) → W p l e (gR 4) s m args below meth c H locs 0 0 (MQ below (gQi MSh D cy h A r stF) args s 0 0 A) (F0 m 18 ls []) := by
    intro n
    induction n with
    | zero =>
      intro x3 x4 H locs ls G hl hn
      cases hn
    | succ n ih =>
      intro x3 x4 H locs ls G hl hn
      obtain ⟨q, hf, hq1, hq2⟩ := lp_q hn
      have hf : f_X8_laneOf_L18 a1 r1 st2 x3 x4 = some q := hf
      unfold f_X8_laneOf_L18 at hf
      refine lv_iload hx hb dX8_laneOf_18 (lv_at hl 4 rfl) ?_
      refine lv_iload_n hx hb dX8_laneOf_20 rfl (lv_at hl 1 rfl) ?_
      refine lv_icmp_gt (tgt := 51) hx hb dX8_laneOf_21 (by decide) (fun c5 => ?_) (fun c5 => ?_)
      · have hf := ifP c5 hf
        cases hf
        have hz9 := hq2 _ rfl
        cases hz9
        exact K51 _ _ _ G (lv_sub hl [3] rfl)
      · have hf := ifN c5 hf
        refine lv_iload hx hb dX8_laneOf_24 (lv_at hl 4 rfl) ?_
        refine lv_if_le (tgt := 38) hx hb dX8_laneOf_26 (by decide) (fun c6 => ?_) (fun c6 => ?_)
        · have hf := ifP c6 hf
          refine lv_aload_n hx hb dX8_laneOf_38 rfl (lv_at hl 0 rfl) ?_
          refine lv_iload_n hx hb dX8_laneOf_39 rfl (lv_at hl 2 rfl) ?_
          refine lv_iload_n hx hb dX8_laneOf_40 rfl (lv_at hl 3 rfl) ?_
          obtain ⟨r7, hc41_7, hf⟩ := bI1_some hf
          refine g_callVi C G (As := [.int r1, .int x3]) (rest := []) (c_X8_nextLane l D cy h r1 x3 st2 r7 hc41_7) cl8 rfl (C8 ok8_0) v_X8_224 (Nat.le_of_ble_eq_true rfl) (Nat.le_of_ble_eq_true rfl) rfl hl.1 rfl (Nat.le_of_ble_eq_true rfl) dX8_laneOf_41 ⟨Nat.zero_le _, Nat.zero_le _⟩ (fun H locs G => ?_)
          refine lv_istore_n (lv' := [(3, .int r7), (0, .ref (h 0)), (1, .int a1), (2, .int r1), (4, .int x4)]) hx hb dX8_laneOf_44 rfl hl (by decide) rfl (fun ls hl => ?_)
          obtain ⟨x8, ex8⟩ : ∃ z : Int32, z = (x4 + 1) := ⟨_, rfl⟩
          have hf := lt_some ex8 hf
          refine lv_iinc (v := x8) (lv' := [(4, .int x8), (3, .int r7), (0, .ref (h 0)), (1, .int a1), (2, .int r1)]) hx hb dX8_laneOf_45 hl (k := 4) rfl (by rw [ex8]; rfl) (by decide) rfl (fun ls hl => ?_)
          refine lv_goto (tgt := 18) hx hb dX8_laneOf_48 (by decide) ?_
          cases hf
          exact ih _ _ _ _ _ G (lv_sub hl [2, 3, 4, 1, 0] rfl) (hq1 _ rfl)
        · have hf := ifN c6 hf
          refine lv_iload_n hx hb dX8_laneOf_29 rfl (lv_at hl 3 rfl) ?_
          refine lv_iconst (v := (-1)) hx hb dX8_laneOf_30 (by decide) ?_
          refine lv_icmp_ne (tgt := 38) hx hb dX8_laneOf_31 (by decide) (fun c9 => ?_) (fun c9 => ?_)
          · have hf := ifN c9 hf
            refine lv_aload_n hx hb dX8_laneOf_38 rfl (lv_at hl 0 rfl) ?_
            refine lv_iload_n hx hb dX8_laneOf_39 rfl (lv_at hl 2 rfl) ?_
            refine lv_iload_n hx hb dX8_laneOf_40 rfl (lv_at hl 3 rfl) ?_
            obtain ⟨r10, hc41_10, hf⟩ := bI1_some hf
            refine g_callVi C G (As := [.int r1, .int x3]) (rest := []) (c_X8_nextLane l D cy h r1 x3 st2 r10 hc41_10) cl8 rfl (C8 ok8_0) v_X8_224 (Nat.le_of_ble_eq_true rfl) (Nat.le_of_ble_eq_true rfl) rfl hl.1 rfl (Nat.le_of_ble_eq_true rfl) dX8_laneOf_41 ⟨Nat.zero_le _, Nat.zero_le _⟩ (fun H locs G => ?_)
            refine lv_istore_n (lv' := [(3, .int r10), (0, .ref (h 0)), (1, .int a1), (2, .int r1), (4, .int x4)]) hx hb dX8_laneOf_44 rfl hl (by decide) rfl (fun ls hl => ?_)
            obtain ⟨x11, ex11⟩ : ∃ z : Int32, z = (x4 + 1) := ⟨_, rfl⟩
            have hf := lt_some ex11 hf
            refine lv_iinc (v := x11) (lv' := [(4, .int x11), (3, .int r10), (0, .ref (h 0)), (1, .int a1), (2, .int r1)]) hx hb dX8_laneOf_45 hl (k := 4) rfl (by rw [ex11]; rfl) (by decide) rfl (fun ls hl => ?_)
            refine lv_goto (tgt := 18) hx hb dX8_laneOf_48 (by decide) ?_
            cases hf
            exact ih _ _ _ _ _ G (lv_sub hl [2, 3, 4, 1, 0] rfl) (hq1 _ rfl)
          · have hf := ifP c9 hf
            refine lv_iconst (v := (-1)) hx hb dX8_laneOf_34 (by decide) ?_
            refine lv_goto (tgt := 44) hx hb dX8_laneOf_35 (by decide) ?_
            refine lv_istore_n (lv' := [(3, .int (-1)), (0, .ref (h 0)), (1, .int a1), (2, .int r1), (4, .int x4)]) hx hb dX8_laneOf_44 rfl hl (by decide) rfl (fun ls hl => ?_)
            obtain ⟨x12, ex12⟩ : ∃ z : Int32, z = (x4 + 1) := ⟨_, rfl⟩
            have hf := lt_some ex12 hf
            refine lv_iinc (v := x12) (lv' := [(4, .int x12), (3, .int (-1)), (0, .ref (h 0)), (1, .int a1), (2, .int r1)]) hx hb dX8_laneOf_45 hl (k := 4) rfl (by rw [ex12]; rfl) (by decide) rfl (fun ls hl => ?_)
            refine lv_goto (tgt := 18) hx hb dX8_laneOf_48 (by decide) ?_
            cases hf
            exact ih _ _ _ _ _ G (lv_sub hl [2, 3, 4, 1, 0] rfl) (hq1 _ rfl)
  exact L18 n _ _ _ _ _ G (lv_sub hl [3, 4, 2, 1, 0] rfl) hn

noncomputable def f_X8_lane (a1 : Int32) (a2 : Int32) (st : GS) : Option (Int32 × GS) := 
bI2 ((if a1 < 0 then some ((-1), st) else 
(if a1 ≤ 127 then bI2 (f_X8_laneOf a1 st) (fun r5 st6 => 
some (r5, st6)) else 
some ((-1), st)))) (fun (x2 : Int32) (st3 : GS) => 
(if x2 = (-1) then some (((-101), st3)) else 
(if a2 = 0 then some (((1 - (irem (x2 / 1000) 2)), st3)) else 
(if a2 = 1 then some (((irem x2 1000), st3)) else 
(if a2 = 2 then some (((1000 - (x2 / 2000)), st3)) else 
some (((-102), st3)))))))
set_option maxRecDepth 100000 in
set_option maxHeartbeats 4000000 in
theorem c_X8_lane (l : Launch) (D : va_G) (cy : ClassId) (h : Nat → Nat) (a1 : Int32) (a2 : Int32) (st : GS) (r : Int32) (stF : GS) (hf : f_X8_lane a1 a2 st = some (r, stF)) : gMi l MSh D cy h yX8_lane cX8_lane 4 (some .int) 5 st [.ref (h 0), .int a1, .int a2] r stF := by
  unfold f_X8_lane at hf
  refine gMi_of (by decide) (Nat.le_of_ble_eq_true rfl) ?_
  intro p e s m args below meth c A ls C hr hlocks G hl
  have C : gC p s m args c cX8_lane 4 "LaneOrderModel" MSh D cy h A := C
  have hl : lv_has ls 4 [(0, .ref (h 0)), (1, .int a1), (2, .int a2)] := hl
  have hx := C.1
  have hb := C.2.1
  have hown := C.2.2.2.1
  have htb := C.2.2.2.2.1
  refine lv_iload_n hx hb dX8_lane_0 rfl (lv_at hl 1 rfl) ?_
  obtain ⟨x2, st3, hj19, hf⟩ := bI2_some hf
  have K19 : ∀ (H : Heap) (locs : List Loc) (ls : Array Slot) , gG MSh D cy h A s st3 H locs → lv_has ls 4 [(2, .int a2)] → W p l e (gR 5) s m args below meth c H locs 0 0 (MQ below (gQi MSh D cy h A r stF) args s 0 0 A) (F0 m 19 ls [.int x2]) := by
    intro H locs ls G hl
    refine lv_istore_n (lv' := [(3, .int x2), (2, .int a2)]) hx hb dX8_lane_19 rfl hl (by decide) rfl (fun ls hl => ?_)
    refine lv_iload_n hx hb dX8_lane_20 rfl (lv_at hl 0 rfl) ?_
    refine lv_iconst (v := (-1)) hx hb dX8_lane_21 (by decide) ?_
    refine lv_icmp_ne (tgt := 28) hx hb dX8_lane_22 (by decide) (fun c7 => ?_) (fun c7 => ?_)
    · have hf := ifN c7 hf
      refine lv_iload_n hx hb dX8_lane_28 rfl (lv_at hl 1 rfl) ?_
      by_cases c8_0 : a2 = 0
      · have hf := ifP c8_0 hf
        refine lv_tableIn (tgt := 56) hx hb dX8_lane_29 (by rw [c8_0]; decide) (by rw [c8_0]; decide) (by rw [c8_0]; rfl) (by decide) ?_
        refine lv_iconst (v := 1) hx hb dX8_lane_56 (by decide) ?_
        refine lv_iload_n hx hb dX8_lane_57 rfl (lv_at hl 0 rfl) ?_
        refine lv_sipush (v := 1000) hx hb dX8_lane_58 (by decide) ?_
        refine lv_idiv hx hb dX8_lane_61 (by decide) ?_
        refine lv_iconst (v := 2) hx hb dX8_lane_62 (by decide) ?_
        refine g_irem C dX8_lane_63 (by decide) ?_
        refine lv_isub hx hb dX8_lane_64 ?_
        cases hf
        exact g_iret C G hr hlocks dX8_lane_65
      · have hf := ifN c8_0 hf
        by_cases c8_1 : a2 = 1
        · have hf := ifP c8_1 hf
          refine lv_tableIn (tgt := 66) hx hb dX8_lane_29 (by rw [c8_1]; decide) (by rw [c8_1]; decide) (by rw [c8_1]; rfl) (by decide) ?_
          refine lv_iload_n hx hb dX8_lane_66 rfl (lv_at hl 0 rfl) ?_
          refine lv_sipush (v := 1000) hx hb dX8_lane_67 (by decide) ?_
          refine g_irem C dX8_lane_70 (by decide) ?_
          cases hf
          exact g_iret C G hr hlocks dX8_lane_71
        · have hf := ifN c8_1 hf
          by_cases c8_2 : a2 = 2
          · have hf := ifP c8_2 hf
            refine lv_tableIn (tgt := 72) hx hb dX8_lane_29 (by rw [c8_2]; decide) (by rw [c8_2]; decide) (by rw [c8_2]; rfl) (by decide) ?_
            refine lv_sipush (v := 1000) hx hb dX8_lane_72 (by decide) ?_
            refine lv_iload_n hx hb dX8_lane_75 rfl (lv_at hl 0 rfl) ?_
            refine lv_sipush (v := 2000) hx hb dX8_lane_76 (by decide) ?_
            refine lv_idiv hx hb dX8_lane_79 (by decide) ?_
            refine lv_isub hx hb dX8_lane_80 ?_
            cases hf
            exact g_iret C G hr hlocks dX8_lane_81
          · have hf := ifN c8_2 hf
            refine lv_tableOut (tgt := 82) hx hb dX8_lane_29 (tab_2 c8_0 c8_1 c8_2) (by decide) ?_
            refine lv_bipush (v := (-102)) hx hb dX8_lane_82 (by decide) ?_
            cases hf
            exact g_iret C G hr hlocks dX8_lane_84
    · have hf := ifP c7 hf
      refine lv_bipush (v := (-101)) hx hb dX8_lane_25 (by decide) ?_
      cases hf
      exact g_iret C G hr hlocks dX8_lane_27
  clear hf
  refine lv_if_lt (tgt := 10) hx hb dX8_lane_1 (by decide) (fun c1 => ?_) (fun c1 => ?_)
  · have hf := ifP c1 hj19
    refine lv_iconst (v := (-1)) hx hb dX8_lane_10 (by decide) ?_
    refine lv_goto (tgt := 19) hx hb dX8_lane_11 (by decide) ?_
    cases hf
    exact K19 _ _ _ G (lv_sub hl [2] rfl)
  · have hf := ifN c1 hj19
    refine lv_iload_n hx hb dX8_lane_4 rfl (lv_at hl 1 rfl) ?_
    refine lv_bipush (v := 127) hx hb dX8_lane_5 (by decide) ?_
    refine lv_icmp_le (tgt := 14) hx hb dX8_lane_7 (by decide) (fun c4 => ?_) (fun c4 => ?_)
    · have hf := ifP c4 hf
      refine lv_aload_n hx hb dX8_lane_14 rfl (lv_at hl 0 rfl) ?_
      refine lv_iload_n hx hb dX8_lane_15 rfl (lv_at hl 1 rfl) ?_
      obtain ⟨r5, st6, hc16_6, hf⟩ := bI2_some hf
      refine g_callVi C G (As := [.int a1]) (rest := []) (c_X8_laneOf l D cy h a1 st r5 st6 hc16_6) cl8 rfl (C8 ok8_0) v_X8_227 (Nat.le_of_ble_eq_true rfl) (Nat.le_of_ble_eq_true rfl) rfl hl.1 rfl (Nat.le_of_ble_eq_true rfl) dX8_lane_16 ⟨Nat.zero_le _, Nat.zero_le _⟩ (fun H locs G => ?_)
      cases hf
      exact K19 _ _ _ G (lv_sub hl [2] rfl)
    · have hf := ifN c4 hf
      refine lv_iconst (v := (-1)) hx hb dX8_lane_10 (by decide) ?_
      refine lv_goto (tgt := 19) hx hb dX8_lane_11 (by decide) ?_
      cases hf
      exact K19 _ _ _ G (lv_sub hl [2] rfl)

noncomputable def f_X8_put (a1 : Int32) (a2 : Int32) (st : GS) : Option (Int32 × GS) := 
bI1 (f_X8_in (Int32.toInt64 a1) 0 900) (fun r1 => 
(if r1 = 0 then some (((-102), st)) else 
bI1 (f_X8_in (Int32.toInt64 a2) 0 900) (fun r3 => 
(if r3 = 0 then some (((-102), st)) else 
bI1 (f_X8_lacks st) (fun r5 => 
(if r5 = 0 then (if (gt st 0 5) = 8 then some (((-104), st)) else 
gd (gt st 0 5) 8 (lt_ (sv st 2 ((gt st 0 5).toNatClampNeg) 0) (fun st9 => 
gd (4 * (gt st9 0 5)) 32 (lt_ (sv st9 3 ((4 * (gt st9 0 5)).toNatClampNeg) a1) (fun st11 => 
gd ((4 * (gt st11 0 5)) + 1) 32 (lt_ (sv st11 3 (((4 * (gt st11 0 5)) + 1).toNatClampNeg) a2) (fun st13 => 
gd ((4 * (gt st13 0 5)) + 2) 32 (lt_ (sv st13 3 (((4 * (gt st13 0 5)) + 2).toNatClampNeg) (a1 + 2)) (fun st15 => 
gd ((4 * (gt st15 0 5)) + 3) 32 (lt_ (sv st15 3 (((4 * (gt st15 0 5)) + 3).toNatClampNeg) (a2 + 2)) (fun st17 => 
lt_ (sv st17 0 5 ((gt st17 0 5) + 1)) (fun st18 => 
some (((gt st18 0 5), st18)))))))))))))) else 
some (((-103), st))))))))
set_option maxRecDepth 100000 in
set_option maxHeartbeats 4000000 in
theorem c_X8_put (l : Launch) (D : va_G) (cy : ClassId) (h : Nat → Nat) (a1 : Int32) (a2 : Int32) (st : GS) (r : Int32) (stF : GS) (hf : f_X8_put a1 a2 st = some (r, stF)) : gMi l MSh D cy h yX8_put cX8_put 3 (some .int) 2 st [.ref (h 0), .int a1, .int a2] r stF := by
  unfold f_X8_put at hf
  refine gMi_of (by decide) (Nat.le_of_ble_eq_true rfl) ?_
  intro p e s m args below meth c A ls C hr hlocks G hl
  have C : gC p s m args c cX8_put 3 "LaneOrderModel" MSh D cy h A := C
  have hl : lv_has ls 3 [(0, .ref (h 0)), (1, .int a1), (2, .int a2)] := hl
  have hx := C.1
  have hb := C.2.1
  have hown := C.2.2.2.1
  have htb := C.2.2.2.2.1
  refine lv_iload_n hx hb dX8_put_0 rfl (lv_at hl 1 rfl) ?_
  refine lv_i2l hx hb dX8_put_1 rfl ?_
  refine lv_lconst (v := 0) hx hb dX8_put_2 rfl ?_
  refine lv_ldc2 hx hb (v := 900) hown (htb _ k5_72) dX8_put_3 ?_
  obtain ⟨r1, hc6_1, hf⟩ := bI1_some hf
  refine g_callSi C G (As := [.long (Int32.toInt64 a1), .long 0, .long 900]) (rest := []) (c_X8_in l D cy h (Int32.toInt64 a1) 0 900 st r1 hc6_1) v_X8_76 (Nat.le_of_ble_eq_true rfl) (Nat.le_of_ble_eq_true rfl) rfl hl.1 rfl (Nat.le_of_ble_eq_true rfl) dX8_put_6 ⟨Nat.zero_le _, Nat.zero_le _⟩ (fun H locs G => ?_)
  refine lv_if_eq (tgt := 24) hx hb dX8_put_9 (by decide) (fun c2 => ?_) (fun c2 => ?_)
  · have hf := ifP c2 hf
    refine lv_bipush (v := (-102)) hx hb dX8_put_24 (by decide) ?_
    cases hf
    exact g_iret C G hr hlocks dX8_put_26
  · have hf := ifN c2 hf
    refine lv_iload_n hx hb dX8_put_12 rfl (lv_at hl 2 rfl) ?_
    refine lv_i2l hx hb dX8_put_13 rfl ?_
    refine lv_lconst (v := 0) hx hb dX8_put_14 rfl ?_
    refine lv_ldc2 hx hb (v := 900) hown (htb _ k5_72) dX8_put_15 ?_
    obtain ⟨r3, hc18_3, hf⟩ := bI1_some hf
    refine g_callSi C G (As := [.long (Int32.toInt64 a2), .long 0, .long 900]) (rest := []) (c_X8_in l D cy h (Int32.toInt64 a2) 0 900 st r3 hc18_3) v_X8_76 (Nat.le_of_ble_eq_true rfl) (Nat.le_of_ble_eq_true rfl) rfl hl.1 rfl (Nat.le_of_ble_eq_true rfl) dX8_put_18 ⟨Nat.zero_le _, Nat.zero_le _⟩ (fun H locs G => ?_)
    refine lv_if_ne (tgt := 27) hx hb dX8_put_21 (by decide) (fun c4 => ?_) (fun c4 => ?_)
    · have hf := ifN c4 hf
      refine lv_aload_n hx hb dX8_put_27 rfl (lv_at hl 0 rfl) ?_
      obtain ⟨r5, hc28_5, hf⟩ := bI1_some hf
      refine g_callVi C G (As := []) (rest := []) (c_X8_lacks l D cy h st r5 hc28_5) cl8 rfl (C8 ok8_0) v_X8_232 (Nat.le_of_ble_eq_true rfl) (Nat.le_of_ble_eq_true rfl) rfl hl.1 rfl (Nat.le_of_ble_eq_true rfl) dX8_put_28 ⟨Nat.zero_le _, Nat.zero_le _⟩ (fun H locs G => ?_)
      refine lv_if_eq (tgt := 37) hx hb dX8_put_31 (by decide) (fun c6 => ?_) (fun c6 => ?_)
      · have hf := ifP c6 hf
        refine lv_aload_n hx hb dX8_put_37 rfl (lv_at hl 0 rfl) ?_
        refine g_geti C G cl8 (C8 ok8_0) (j := 5) (by decide) (F8_5 ok8_0) k4_29 dX8_put_38 ?_
        refine lv_bipush (v := 8) hx hb dX8_put_41 (by decide) ?_
        refine lv_icmp_ne (tgt := 49) hx hb dX8_put_43 (by decide) (fun c7 => ?_) (fun c7 => ?_)
        · have hf := ifN c7 hf
          refine lv_aload_n hx hb dX8_put_49 rfl (lv_at hl 0 rfl) ?_
          refine g_getr (k := 2) C G cl8 (C8 ok8_0) (j := 7) (by decide) (F8_7 ok8_0) k4_31 dX8_put_50 ?_
          refine lv_aload_n hx hb dX8_put_53 rfl (lv_at hl 0 rfl) ?_
          refine g_geti C G cl8 (C8 ok8_0) (j := 5) (by decide) (F8_5 ok8_0) k4_29 dX8_put_54 ?_
          refine lv_iconst (v := 0) hx hb dX8_put_57 (by decide) ?_
          obtain ⟨hi58_7, hf⟩ := gd_some hf
          refine g_iast C G (A8_7 ok8_0) (j := (gt st 0 5).toNatClampNeg) rfl hi58_7 dX8_put_58 (fun st9 est9 H locs G => ?_)
          have hf := lt_some est9 hf
          refine lv_aload_n hx hb dX8_put_59 rfl (lv_at hl 0 rfl) ?_
          refine g_getr (k := 3) C G cl8 (C8 ok8_0) (j := 8) (by decide) (F8_8 ok8_0) k4_32 dX8_put_60 ?_
          refine lv_iconst (v := 4) hx hb dX8_put_63 (by decide) ?_
          refine lv_aload_n hx hb dX8_put_64 rfl (lv_at hl 0 rfl) ?_
          refine g_geti C G cl8 (C8 ok8_0) (j := 5) (by decide) (F8_5 ok8_0) k4_29 dX8_put_65 ?_
          refine lv_imul hx hb dX8_put_68 ?_
          refine lv_iload_n hx hb dX8_put_69 rfl (lv_at hl 1 rfl) ?_
          obtain ⟨hi70_9, hf⟩ := gd_some hf
          refine g_iast C G (A8_8 ok8_0) (j := (4 * (gt st9 0 5)).toNatClampNeg) rfl hi70_9 dX8_put_70 (fun st11 est11 H locs G => ?_)
          have hf := lt_some est11 hf
          refine lv_aload_n hx hb dX8_put_71 rfl (lv_at hl 0 rfl) ?_
          refine g_getr (k := 3) C G cl8 (C8 ok8_0) (j := 8) (by decide) (F8_8 ok8_0) k4_32 dX8_put_72 ?_
          refine lv_iconst (v := 4) hx hb dX8_put_75 (by decide) ?_
          refine lv_aload_n hx hb dX8_put_76 rfl (lv_at hl 0 rfl) ?_
          refine g_geti C G cl8 (C8 ok8_0) (j := 5) (by decide) (F8_5 ok8_0) k4_29 dX8_put_77 ?_
          refine lv_imul hx hb dX8_put_80 ?_
          refine lv_iconst (v := 1) hx hb dX8_put_81 (by decide) ?_
          refine lv_iadd hx hb dX8_put_82 ?_
          refine lv_iload_n hx hb dX8_put_83 rfl (lv_at hl 2 rfl) ?_
          obtain ⟨hi84_11, hf⟩ := gd_some hf
          refine g_iast C G (A8_8 ok8_0) (j := ((4 * (gt st11 0 5)) + 1).toNatClampNeg) rfl hi84_11 dX8_put_84 (fun st13 est13 H locs G => ?_)
          have hf := lt_some est13 hf
          refine lv_aload_n hx hb dX8_put_85 rfl (lv_at hl 0 rfl) ?_
          refine g_getr (k := 3) C G cl8 (C8 ok8_0) (j := 8) (by decide) (F8_8 ok8_0) k4_32 dX8_put_86 ?_
          refine lv_iconst (v := 4) hx hb dX8_put_89 (by decide) ?_
          refine lv_aload_n hx hb dX8_put_90 rfl (lv_at hl 0 rfl) ?_
          refine g_geti C G cl8 (C8 ok8_0) (j := 5) (by decide) (F8_5 ok8_0) k4_29 dX8_put_91 ?_
          refine lv_imul hx hb dX8_put_94 ?_
          refine lv_iconst (v := 2) hx hb dX8_put_95 (by decide) ?_
          refine lv_iadd hx hb dX8_put_96 ?_
          refine lv_iload_n hx hb dX8_put_97 rfl (lv_at hl 1 rfl) ?_
          refine lv_iconst (v := 2) hx hb dX8_put_98 (by decide) ?_
          refine lv_iadd hx hb dX8_put_99 ?_
          obtain ⟨hi100_13, hf⟩ := gd_some hf
          refine g_iast C G (A8_8 ok8_0) (j := ((4 * (gt st13 0 5)) + 2).toNatClampNeg) rfl hi100_13 dX8_put_100 (fun st15 est15 H locs G => ?_)
          have hf := lt_some est15 hf
          refine lv_aload_n hx hb dX8_put_101 rfl (lv_at hl 0 rfl) ?_
          refine g_getr (k := 3) C G cl8 (C8 ok8_0) (j := 8) (by decide) (F8_8 ok8_0) k4_32 dX8_put_102 ?_
          refine lv_iconst (v := 4) hx hb dX8_put_105 (by decide) ?_
          refine lv_aload_n hx hb dX8_put_106 rfl (lv_at hl 0 rfl) ?_
          refine g_geti C G cl8 (C8 ok8_0) (j := 5) (by decide) (F8_5 ok8_0) k4_29 dX8_put_107 ?_
          refine lv_imul hx hb dX8_put_110 ?_
          refine lv_iconst (v := 3) hx hb dX8_put_111 (by decide) ?_
          refine lv_iadd hx hb dX8_put_112 ?_
          refine lv_iload_n hx hb dX8_put_113 rfl (lv_at hl 2 rfl) ?_
          refine lv_iconst (v := 2) hx hb dX8_put_114 (by decide) ?_
          refine lv_iadd hx hb dX8_put_115 ?_
          obtain ⟨hi116_15, hf⟩ := gd_some hf
          refine g_iast C G (A8_8 ok8_0) (j := ((4 * (gt st15 0 5)) + 3).toNatClampNeg) rfl hi116_15 dX8_put_116 (fun st17 est17 H locs G => ?_)
          have hf := lt_some est17 hf
          refine lv_aload_n hx hb dX8_put_117 rfl (lv_at hl 0 rfl) ?_
          refine lv_dup hx hb dX8_put_118 rfl ?_
          refine g_geti C G cl8 (C8 ok8_0) (j := 5) (by decide) (F8_5 ok8_0) k4_29 dX8_put_119 ?_
          refine lv_iconst (v := 1) hx hb dX8_put_122 (by decide) ?_
          refine lv_iadd hx hb dX8_put_123 ?_
          refine g_puti C G cl8 (C8 ok8_0) (j := 5) (by decide) (F8_5 ok8_0) k4_29 rfl rfl rfl dX8_put_124 (fun st18 est18 H locs G => ?_)
          have hf := lt_some est18 hf
          refine lv_aload_n hx hb dX8_put_127 rfl (lv_at hl 0 rfl) ?_
          refine g_geti C G cl8 (C8 ok8_0) (j := 5) (by decide) (F8_5 ok8_0) k4_29 dX8_put_128 ?_
          cases hf
          exact g_iret C G hr hlocks dX8_put_131
        · have hf := ifP c7 hf
          refine lv_bipush (v := (-104)) hx hb dX8_put_46 (by decide) ?_
          cases hf
          exact g_iret C G hr hlocks dX8_put_48
      · have hf := ifN c6 hf
        refine lv_bipush (v := (-103)) hx hb dX8_put_34 (by decide) ?_
        cases hf
        exact g_iret C G hr hlocks dX8_put_36
    · have hf := ifP c4 hf
      refine lv_bipush (v := (-102)) hx hb dX8_put_24 (by decide) ?_
      cases hf
      exact g_iret C G hr hlocks dX8_put_26

noncomputable def f_X8_take_L58 (x5 : Int32) (x11 : Int32) (st12 : GS) : Option ((Int32 × GS) ⊕ (GS)) := 
(if 4 ≤ x11 then some (.inr (st12)) else 
gd (((4 * x5) + 4) + x11) 32 (gd ((4 * x5) + x11) 32 (lt_ (sv st12 3 (((4 * x5) + x11).toNatClampNeg) (gt st12 3 ((((4 * x5) + 4) + x11).toNatClampNeg))) (fun st16 => 
lt_ (x11 + 1) (fun x17 => 
some (.inl (x17, st16)))))))
noncomputable def f_X8_take_L34  (x5 : Int32) (st6 : GS) : Option ((Int32 × GS) ⊕ (GS)) := 
(if (gt st6 0 5) ≤ x5 then some (.inr (st6)) else 
gd (x5 + 1) 8 (gd x5 8 (lt_ (sv st6 2 (x5.toNatClampNeg) (gt st6 2 ((x5 + 1).toNatClampNeg))) (fun st10 => 
bI1 (lpx (uc2 (f_X8_take_L58 x5)) (0, st10)) (fun st18 => 
lt_ (x5 + 1) (fun x19 => 
some (.inl (x19, st18))))))))
noncomputable def f_X8_take (a1 : Int32) (st : GS) : Option (Int32 × GS) := 
bI1 (f_X8_isBox a1 st) (fun r1 => 
(if r1 = 0 then some (((-101), st)) else 
(if (gt st 0 5) = 1 then some (((-103), st)) else 
lt_ (sv st 0 5 ((gt st 0 5) - 1)) (fun st4 => 
bI1 (lpx (uc2 f_X8_take_L34) (a1, st4)) (fun st20 => 
some (((gt st20 0 5), st20)))))))
set_option maxRecDepth 100000 in
set_option maxHeartbeats 4000000 in
theorem c_X8_take (l : Launch) (D : va_G) (cy : ClassId) (h : Nat → Nat) (a1 : Int32) (st : GS) (r : Int32) (stF : GS) (hf : f_X8_take a1 st = some (r, stF)) : gMi l MSh D cy h yX8_take cX8_take 4 (some .int) 3 st [.ref (h 0), .int a1] r stF := by
  unfold f_X8_take at hf
  refine gMi_of (by decide) (Nat.le_of_ble_eq_true rfl) ?_
  intro p e s m args below meth c A ls C hr hlocks G hl
  have C : gC p s m args c cX8_take 4 "LaneOrderModel" MSh D cy h A := C
  have hl : lv_has ls 4 [(0, .ref (h 0)), (1, .int a1)] := hl
  have hx := C.1
  have hb := C.2.1
  have hown := C.2.2.2.1
  have htb := C.2.2.2.2.1
  refine lv_aload_n hx hb dX8_take_0 rfl (lv_at hl 0 rfl) ?_
  refine lv_iload_n hx hb dX8_take_1 rfl (lv_at hl 1 rfl) ?_
  obtain ⟨r1, hc2_1, hf⟩ := bI1_some hf
  refine g_callVi C G (As := [.int a1]) (rest := []) (c_X8_isBox l D cy h a1 st r1 hc2_1) cl8 rfl (C8 ok8_0) v_X8_213 (Nat.le_of_ble_eq_true rfl) (Nat.le_of_ble_eq_true rfl) rfl hl.1 rfl (Nat.le_of_ble_eq_true rfl) dX8_take_2 ⟨Nat.zero_le _, Nat.zero_le _⟩ (fun H locs G => ?_)
  refine lv_if_ne (tgt := 11) hx hb dX8_take_5 (by decide) (fun c2 => ?_) (fun c2 => ?_)
  · have hf := ifN c2 hf
    refine lv_aload_n hx hb dX8_take_11 rfl (lv_at hl 0 rfl) ?_
    refine g_geti C G cl8 (C8 ok8_0) (j := 5) (by decide) (F8_5 ok8_0) k4_29 dX8_take_12 ?_
    refine lv_iconst (v := 1) hx hb dX8_take_15 (by decide) ?_
    refine lv_icmp_ne (tgt := 22) hx hb dX8_take_16 (by decide) (fun c3 => ?_) (fun c3 => ?_)
    · have hf := ifN c3 hf
      refine lv_aload_n hx hb dX8_take_22 rfl (lv_at hl 0 rfl) ?_
      refine lv_dup hx hb dX8_take_23 rfl ?_
      refine g_geti C G cl8 (C8 ok8_0) (j := 5) (by decide) (F8_5 ok8_0) k4_29 dX8_take_24 ?_
      refine lv_iconst (v := 1) hx hb dX8_take_27 (by decide) ?_
      refine lv_isub hx hb dX8_take_28 ?_
      refine g_puti C G cl8 (C8 ok8_0) (j := 5) (by decide) (F8_5 ok8_0) k4_29 rfl rfl rfl dX8_take_29 (fun st4 est4 H locs G => ?_)
      have hf := lt_some est4 hf
      refine lv_iload_n hx hb dX8_take_32 rfl (lv_at hl 1 rfl) ?_
      refine lv_istore_n (lv' := [(2, .int a1), (0, .ref (h 0)), (1, .int a1)]) hx hb dX8_take_33 rfl hl (by decide) rfl (fun ls hl => ?_)
      obtain ⟨st20, hn, hf⟩ := bI1_some hf
      obtain ⟨n, hn⟩ := lpx_some hn
      have K97 : ∀ (H : Heap) (locs : List Loc) (ls : Array Slot), gG MSh D cy h A s st20 H locs → lv_has ls 4 [(0, .ref (h 0))] → W p l e (gR 3) s m args below meth c H locs 0 0 (MQ below (gQi MSh D cy h A r stF) args s 0 0 A) (F0 m 97 ls []) := by
        intro H locs ls G hl
        refine lv_aload_n hx hb dX8_take_97 rfl (lv_at hl 0 rfl) ?_
        refine g_geti C G cl8 (C8 ok8_0) (j := 5) (by decide) (F8_5 ok8_0) k4_29 dX8_take_98 ?_
        cases hf
        exact g_iret C G hr hlocks dX8_take_101
      have L34 : ∀ (n : Nat) (x5 : Int32) (st6 : GS) (H : Heap) (locs : List Loc) (ls : Array Slot), gG MSh D cy h A s st6 H locs → lv_has ls 4 [(0, .ref (h 0)), (2, .int x5)] → lp (uc2 f_X8_take_L34) n (x5, st6) = some (st20) → W p l e (gR 3) s m args below meth c H locs 0 0 (MQ below (gQi MSh D cy h A r stF) args s 0 0 A) (F0 m 34 ls []) := by
        intro n
        induction n with
        | zero =>
          intro x5 st6 H locs ls G hl hn
          cases hn
        | succ n ih =>
          intro x5 st6 H locs ls G hl hn
          obtain ⟨q, hf, hq1, hq2⟩ := lp_q hn
          have hf : f_X8_take_L34 x5 st6 = some q := hf
          unfold f_X8_take_L34 at hf
          refine lv_iload_n hx hb dX8_take_34 rfl (lv_at hl 1 rfl) ?_
          refine lv_aload_n hx hb dX8_take_35 rfl (lv_at hl 0 rfl) ?_
          refine g_geti C G cl8 (C8 ok8_0) (j := 5) (by decide) (F8_5 ok8_0) k4_29 dX8_take_36 ?_
          refine lv_icmp_ge (tgt := 97) hx hb dX8_take_39 (by decide) (fun c7 => ?_) (fun c7 => ?_)
          · have hf := ifP c7 hf
            cases hf
            have hz9 := hq2 _ rfl
            cases hz9
            exact K97 _ _ _ G (lv_sub hl [0] rfl)
          · have hf := ifN c7 hf
            refine lv_aload_n hx hb dX8_take_42 rfl (lv_at hl 0 rfl) ?_
            refine g_getr (k := 2) C G cl8 (C8 ok8_0) (j := 7) (by decide) (F8_7 ok8_0) k4_31 dX8_take_43 ?_
            refine lv_iload_n hx hb dX8_take_46 rfl (lv_at hl 1 rfl) ?_
            refine lv_aload_n hx hb dX8_take_47 rfl (lv_at hl 0 rfl) ?_
            refine g_getr (k := 2) C G cl8 (C8 ok8_0) (j := 7) (by decide) (F8_7 ok8_0) k4_31 dX8_take_48 ?_
            refine lv_iload_n hx hb dX8_take_51 rfl (lv_at hl 1 rfl) ?_
            refine lv_iconst (v := 1) hx hb dX8_take_52 (by decide) ?_
            refine lv_iadd hx hb dX8_take_53 ?_
            obtain ⟨hi54_7, hf⟩ := gd_some hf
            refine g_iald C G (A8_7 ok8_0) (j := (x5 + 1).toNatClampNeg) rfl hi54_7 dX8_take_54 ?_
            obtain ⟨hi55_8, hf⟩ := gd_some hf
            refine g_iast C G (A8_7 ok8_0) (j := x5.toNatClampNeg) rfl hi55_8 dX8_take_55 (fun st10 est10 H locs G => ?_)
            have hf := lt_some est10 hf
            refine lv_iconst (v := 0) hx hb dX8_take_56 (by decide) ?_
            refine lv_istore_n (lv' := [(3, .int 0), (0, .ref (h 0)), (2, .int x5)]) hx hb dX8_take_57 rfl hl (by decide) rfl (fun ls hl => ?_)
            obtain ⟨st18, hn, hf⟩ := bI1_some hf
            obtain ⟨n, hn⟩ := lpx_some hn
            have K91 : ∀ (H : Heap) (locs : List Loc) (ls : Array Slot), gG MSh D cy h A s st18 H locs → lv_has ls 4 [(0, .ref (h 0)), (2, .int x5)] → W p l e (gR 3) s m args below meth c H locs 0 0 (MQ below (gQi MSh D cy h A r stF) args s 0 0 A) (F0 m 91 ls []) := by
              intro H locs ls G hl
              obtain ⟨x19, ex19⟩ : ∃ z : Int32, z = (x5 + 1) := ⟨_, rfl⟩
              have hf := lt_some ex19 hf
              refine lv_iinc (v := x19) (lv' := [(2, .int x19), (0, .ref (h 0))]) hx hb dX8_take_91 hl (k := 1) rfl (by rw [ex19]; rfl) (by decide) rfl (fun ls hl => ?_)
              refine lv_goto (tgt := 34) hx hb dX8_take_94 (by decide) ?_
              cases hf
              exact ih _ _ _ _ _ G (lv_sub hl [1, 0] rfl) (hq1 _ rfl)
            have L58 : ∀ (n : Nat) (x11 : Int32) (st12 : GS) (H : Heap) (locs : List Loc) (ls : Array Slot), gG MSh D cy h A s st12 H locs → lv_has ls 4 [(0, .ref (h 0)), (2, .int x5), (3, .int x11)] → lp (uc2 (f_X8_take_L58 x5)) n (x11, st12) = some (st18) → W p l e (gR 3) s m args below meth c H locs 0 0 (MQ below (gQi MSh D cy h A r stF) args s 0 0 A) (F0 m 58 ls []) := by
              intro n
              induction n with
              | zero =>
                intro x11 st12 H locs ls G hl hn
                cases hn
              | succ n ih =>
                intro x11 st12 H locs ls G hl hn
                obtain ⟨q, hf, hq1, hq2⟩ := lp_q hn
                have hf : f_X8_take_L58 x5 x11 st12 = some q := hf
                unfold f_X8_take_L58 at hf
                refine lv_iload_n hx hb dX8_take_58 rfl (lv_at hl 2 rfl) ?_
                refine lv_iconst (v := 4) hx hb dX8_take_59 (by decide) ?_
                refine lv_icmp_ge (tgt := 91) hx hb dX8_take_60 (by decide) (fun c13 => ?_) (fun c13 => ?_)
                · have hf := ifP c13 hf
                  cases hf
                  have hz9 := hq2 _ rfl
                  cases hz9
                  exact K91 _ _ _ G (lv_sub hl [0, 1] rfl)
                · have hf := ifN c13 hf
                  refine lv_aload_n hx hb dX8_take_63 rfl (lv_at hl 0 rfl) ?_
                  refine g_getr (k := 3) C G cl8 (C8 ok8_0) (j := 8) (by decide) (F8_8 ok8_0) k4_32 dX8_take_64 ?_
                  refine lv_iconst (v := 4) hx hb dX8_take_67 (by decide) ?_
                  refine lv_iload_n hx hb dX8_take_68 rfl (lv_at hl 1 rfl) ?_
                  refine lv_imul hx hb dX8_take_69 ?_
                  refine lv_iload_n hx hb dX8_take_70 rfl (lv_at hl 2 rfl) ?_
                  refine lv_iadd hx hb dX8_take_71 ?_
                  refine lv_aload_n hx hb dX8_take_72 rfl (lv_at hl 0 rfl) ?_
                  refine g_getr (k := 3) C G cl8 (C8 ok8_0) (j := 8) (by decide) (F8_8 ok8_0) k4_32 dX8_take_73 ?_
                  refine lv_iconst (v := 4) hx hb dX8_take_76 (by decide) ?_
                  refine lv_iload_n hx hb dX8_take_77 rfl (lv_at hl 1 rfl) ?_
                  refine lv_imul hx hb dX8_take_78 ?_
                  refine lv_iconst (v := 4) hx hb dX8_take_79 (by decide) ?_
                  refine lv_iadd hx hb dX8_take_80 ?_
                  refine lv_iload_n hx hb dX8_take_81 rfl (lv_at hl 2 rfl) ?_
                  refine lv_iadd hx hb dX8_take_82 ?_
                  obtain ⟨hi83_13, hf⟩ := gd_some hf
                  refine g_iald C G (A8_8 ok8_0) (j := (((4 * x5) + 4) + x11).toNatClampNeg) rfl hi83_13 dX8_take_83 ?_
                  obtain ⟨hi84_14, hf⟩ := gd_some hf
                  refine g_iast C G (A8_8 ok8_0) (j := ((4 * x5) + x11).toNatClampNeg) rfl hi84_14 dX8_take_84 (fun st16 est16 H locs G => ?_)
                  have hf := lt_some est16 hf
                  obtain ⟨x17, ex17⟩ : ∃ z : Int32, z = (x11 + 1) := ⟨_, rfl⟩
                  have hf := lt_some ex17 hf
                  refine lv_iinc (v := x17) (lv' := [(3, .int x17), (0, .ref (h 0)), (2, .int x5)]) hx hb dX8_take_85 hl (k := 2) rfl (by rw [ex17]; rfl) (by decide) rfl (fun ls hl => ?_)
                  refine lv_goto (tgt := 58) hx hb dX8_take_88 (by decide) ?_
                  cases hf
                  exact ih _ _ _ _ _ G (lv_sub hl [1, 2, 0] rfl) (hq1 _ rfl)
            exact L58 n _ _ _ _ _ G (lv_sub hl [1, 2, 0] rfl) hn
      exact L34 n _ _ _ _ _ G (lv_sub hl [1, 0] rfl) hn
    · have hf := ifP c3 hf
      refine lv_bipush (v := (-103)) hx hb dX8_take_19 (by decide) ?_
      cases hf
      exact g_iret C G hr hlocks dX8_take_21
  · have hf := ifP c2 hf
    refine lv_bipush (v := (-101)) hx hb dX8_take_8 (by decide) ?_
    cases hf
    exact g_iret C G hr hlocks dX8_take_10
