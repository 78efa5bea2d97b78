noncomputable def f_X6_add (a1 : Int32) (st : GS) : Option (GS) := 
(if 54 ≤ (gt st 1 1) then some (st) else 
gd (gt st 1 1) 54 (lt_ (sv st 2 ((gt st 1 1).toNatClampNeg) a1) (fun st3 => 
lt_ (sv st3 1 1 ((gt st3 1 1) + 1)) (fun st4 => 
some (st4)))))
set_option maxRecDepth 100000 in
set_option maxHeartbeats 4000000 in
theorem c_X6_add (l : Launch) (D : va_G) (cy : ClassId) (h : Nat → Nat) (a1 : Int32) (st : GS) (stF : GS) (hf : f_X6_add a1 st = some stF) : gMv l XSh D cy h yX6_add cX6_add 2 none 1 st [.ref (h 1), .int a1] stF := by
  unfold f_X6_add at hf
  refine gMv_of (by decide) (Nat.le_of_ble_eq_true rfl) ?_
  intro p e s m args below meth c A ls C hr hlocks G hl
  have C : gC p s m args c cX6_add 2 "LaneOrder$Text" XSh D cy h A := C
  have hl : lv_has ls 2 [(0, .ref (h 1)), (1, .int a1)] := hl
  have hx := C.1
  have hb := C.2.1
  have hown := C.2.2.2.1
  have htb := C.2.2.2.2.1
  refine lv_aload_n hx hb dX6_add_0 rfl (lv_at hl 0 rfl) ?_
  refine g_geti C G cl6 (C6 ok6_1) (j := 1) (by decide) (F6_1 ok6_1) k1_34 dX6_add_1 ?_
  refine lv_bipush (v := 54) hx hb dX6_add_4 (by decide) ?_
  refine lv_icmp_ge (tgt := 29) hx hb dX6_add_6 (by decide) (fun c1 => ?_) (fun c1 => ?_)
  · have hf := ifP c1 hf
    cases hf
    exact g_vret C G hr hlocks dX6_add_29
  · have hf := ifN c1 hf
    refine lv_aload_n hx hb dX6_add_9 rfl (lv_at hl 0 rfl) ?_
    refine g_getr (k := 2) C G cl6 (C6 ok6_1) (j := 0) (by decide) (F6_0 ok6_1) k1_32 dX6_add_10 ?_
    refine lv_aload_n hx hb dX6_add_13 rfl (lv_at hl 0 rfl) ?_
    refine g_geti C G cl6 (C6 ok6_1) (j := 1) (by decide) (F6_1 ok6_1) k1_34 dX6_add_14 ?_
    refine lv_iload_n hx hb dX6_add_17 rfl (lv_at hl 1 rfl) ?_
    obtain ⟨hi18_1, hf⟩ := gd_some hf
    refine g_iast C G (A6_0 ok6_1) (j := (gt st 1 1).toNatClampNeg) rfl hi18_1 dX6_add_18 (fun st3 est3 H locs G => ?_)
    have hf := lt_some est3 hf
    refine lv_aload_n hx hb dX6_add_19 rfl (lv_at hl 0 rfl) ?_
    refine lv_dup hx hb dX6_add_20 rfl ?_
    refine g_geti C G cl6 (C6 ok6_1) (j := 1) (by decide) (F6_1 ok6_1) k1_34 dX6_add_21 ?_
    refine lv_iconst (v := 1) hx hb dX6_add_24 (by decide) ?_
    refine lv_iadd hx hb dX6_add_25 ?_
    refine g_puti C G cl6 (C6 ok6_1) (j := 1) (by decide) (F6_1 ok6_1) k1_34 rfl rfl rfl dX6_add_26 (fun st4 est4 H locs G => ?_)
    have hf := lt_some est4 hf
    cases hf
    exact g_vret C G hr hlocks dX6_add_29

noncomputable def f_X6_clear (st : GS) : Option (GS) := 
lt_ (sv st 1 1 0) (fun st1 => 
some (st1))
set_option maxRecDepth 100000 in
set_option maxHeartbeats 4000000 in
theorem c_X6_clear (l : Launch) (D : va_G) (cy : ClassId) (h : Nat → Nat)  (st : GS) (stF : GS) (hf : f_X6_clear st = some stF) : gMv l XSh D cy h yX6_clear cX6_clear 1 none 1 st [.ref (h 1)] stF := by
  unfold f_X6_clear at hf
  refine gMv_of (by decide) (Nat.le_of_ble_eq_true rfl) ?_
  intro p e s m args below meth c A ls C hr hlocks G hl
  have C : gC p s m args c cX6_clear 1 "LaneOrder$Text" XSh D cy h A := C
  have hl : lv_has ls 1 [(0, .ref (h 1))] := hl
  have hx := C.1
  have hb := C.2.1
  have hown := C.2.2.2.1
  have htb := C.2.2.2.2.1
  refine lv_aload_n hx hb dX6_clear_0 rfl (lv_at hl 0 rfl) ?_
  refine lv_iconst (v := 0) hx hb dX6_clear_1 (by decide) ?_
  refine g_puti C G cl6 (C6 ok6_1) (j := 1) (by decide) (F6_1 ok6_1) k1_34 rfl rfl rfl dX6_clear_2 (fun st1 est1 H locs G => ?_)
  have hf := lt_some est1 hf
  cases hf
  exact g_vret C G hr hlocks dX6_clear_5

noncomputable def f_J0_isLatin1_aae02  : Option (Int32) := 
some (1)
set_option maxRecDepth 100000 in
set_option maxHeartbeats 4000000 in
theorem c_J0_isLatin1_aae02 (l : Launch) (D : va_G) (cy : ClassId) (h : Nat → Nat)  (st : GS) (r : Int32) (hf : f_J0_isLatin1_aae02  = some r) : gMi l XSh D cy h yJ0_isLatin1_aae02 cJ0_isLatin1_aae02 1 (some .boolean) 1 st [.ref (h 1000)] r st := by
  unfold f_J0_isLatin1_aae02 at hf
  refine gMi_of (by decide) (Nat.le_of_ble_eq_true rfl) ?_
  intro p e s m args below meth c A ls C hr hlocks G hl
  have C : gC p s m args c cJ0_isLatin1_aae02 1 "java/lang/String" XSh D cy h A := C
  have hl : lv_has ls 1 [(0, .ref (h 1000))] := hl
  have hx := C.1
  have hb := C.2.1
  have hown := C.2.2.2.1
  have htb := C.2.2.2.2.1
  refine g_scs C G k2_63 dJ0_isLatin1_aae02_0 ?_
  refine lv_if_eq (tgt := 17) hx hb dJ0_isLatin1_aae02_3 (by decide) (fun c1 => ?_) (fun c1 => ?_)
  · exact absurd c1 (by decide)
  · refine lv_aload_n hx hb dJ0_isLatin1_aae02_6 rfl (lv_at hl 0 rfl) ?_
    refine g_scod C G k5_207 dJ0_isLatin1_aae02_7 ?_
    refine lv_if_ne (tgt := 17) hx hb dJ0_isLatin1_aae02_10 (by decide) (fun c2 => ?_) (fun c2 => ?_)
    · exact absurd c2 (by decide)
    · refine lv_iconst (v := 1) hx hb dJ0_isLatin1_aae02_13 (by decide) ?_
      refine lv_goto (tgt := 18) hx hb dJ0_isLatin1_aae02_14 (by decide) ?_
      cases hf
      exact g_zret C G (Or.inr rfl) hr hlocks dJ0_isLatin1_aae02_18

noncomputable def f_J0_coder_7d493  : Option (Int32) := 
some (0)
set_option maxRecDepth 100000 in
set_option maxHeartbeats 4000000 in
theorem c_J0_coder_7d493 (l : Launch) (D : va_G) (cy : ClassId) (h : Nat → Nat)  (st : GS) (r : Int32) (hf : f_J0_coder_7d493  = some r) : gMi l XSh D cy h yJ0_coder_7d493 cJ0_coder_7d493 1 (some .byte) 1 st [.ref (h 1000)] r st := by
  unfold f_J0_coder_7d493 at hf
  refine gMi_of (by decide) (Nat.le_of_ble_eq_true rfl) ?_
  intro p e s m args below meth c A ls C hr hlocks G hl
  have C : gC p s m args c cJ0_coder_7d493 1 "java/lang/String" XSh D cy h A := C
  have hl : lv_has ls 1 [(0, .ref (h 1000))] := hl
  have hx := C.1
  have hb := C.2.1
  have hown := C.2.2.2.1
  have htb := C.2.2.2.2.1
  refine g_scs C G k2_63 dJ0_coder_7d493_0 ?_
  refine lv_if_eq (tgt := 13) hx hb dJ0_coder_7d493_3 (by decide) (fun c1 => ?_) (fun c1 => ?_)
  · exact absurd c1 (by decide)
  · refine lv_aload_n hx hb dJ0_coder_7d493_6 rfl (lv_at hl 0 rfl) ?_
    refine g_scod C G k5_207 dJ0_coder_7d493_7 ?_
    refine lv_goto (tgt := 14) hx hb dJ0_coder_7d493_10 (by decide) ?_
    cases hf
    exact g_nret C G rfl hr hlocks dJ0_coder_7d493_14

noncomputable def f_J0_length_8abf5  : Option (Int32) := 
bI1 (f_J0_coder_7d493) (fun r1 => 
some ((ishr 5 r1)))
set_option maxRecDepth 100000 in
set_option maxHeartbeats 4000000 in
theorem c_J0_length_8abf5 (l : Launch) (D : va_G) (cy : ClassId) (h : Nat → Nat)  (st : GS) (r : Int32) (hf : f_J0_length_8abf5  = some r) : gMi l XSh D cy h yJ0_length_8abf5 cJ0_length_8abf5 1 (some .int) 2 st [.ref (h 1000)] r st := by
  unfold f_J0_length_8abf5 at hf
  refine gMi_of (by decide) (Nat.le_of_ble_eq_true rfl) ?_
  intro p e s m args below meth c A ls C hr hlocks G hl
  have C : gC p s m args c cJ0_length_8abf5 1 "java/lang/String" XSh D cy h A := C
  have hl : lv_has ls 1 [(0, .ref (h 1000))] := hl
  have hx := C.1
  have hb := C.2.1
  have hown := C.2.2.2.1
  have htb := C.2.2.2.2.1
  refine lv_aload_n hx hb dJ0_length_8abf5_0 rfl (lv_at hl 0 rfl) ?_
  refine g_sval C G k5_208 dJ0_length_8abf5_1 ?_
  refine g_sblen C G dJ0_length_8abf5_4 ?_
  refine lv_aload_n hx hb dJ0_length_8abf5_5 rfl (lv_at hl 0 rfl) ?_
  obtain ⟨r1, hc6_1, hf⟩ := bI1_some hf
  refine g_callSt C G (As := []) (rest := [.int 5]) (c_J0_coder_7d493 l D cy h st r1 hc6_1) rfl v_J0_335 (Nat.le_of_ble_eq_true rfl) (Nat.le_of_ble_eq_true rfl) rfl hl.1 rfl (Nat.le_of_ble_eq_true rfl) dJ0_length_8abf5_6 ⟨Nat.zero_le _, Nat.zero_le _⟩ (fun H locs G => ?_)
  refine g_ishr C dJ0_length_8abf5_9 ?_
  cases hf
  exact g_iret C G hr hlocks dJ0_length_8abf5_10

noncomputable def f_J1_canEncode_9a6ad (a1 : Int32) : Option (Int32) := 
(if a1 < 0 then some (0) else 
(if 255 < a1 then some (0) else 
some (1)))
set_option maxRecDepth 100000 in
set_option maxHeartbeats 4000000 in
theorem c_J1_canEncode_9a6ad (l : Launch) (D : va_G) (cy : ClassId) (h : Nat → Nat) (a1 : Int32) (st : GS) (r : Int32) (hf : f_J1_canEncode_9a6ad a1 = some r) : gMi l XSh D cy h yJ1_canEncode_9a6ad cJ1_canEncode_9a6ad 1 (some .boolean) 1 st [.int a1] r st := by
  unfold f_J1_canEncode_9a6ad at hf
  refine gMi_of (by decide) (Nat.le_of_ble_eq_true rfl) ?_
  intro p e s m args below meth c A ls C hr hlocks G hl
  have C : gC p s m args c cJ1_canEncode_9a6ad 1 "java/lang/StringLatin1" XSh D cy h A := C
  have hl : lv_has ls 1 [(0, .int a1)] := hl
  have hx := C.1
  have hb := C.2.1
  have hown := C.2.2.2.1
  have htb := C.2.2.2.2.1
  refine lv_iload_n hx hb dJ1_canEncode_9a6ad_0 rfl (lv_at hl 0 rfl) ?_
  refine lv_if_lt (tgt := 15) hx hb dJ1_canEncode_9a6ad_1 (by decide) (fun c1 => ?_) (fun c1 => ?_)
  · have hf := ifP c1 hf
    refine lv_iconst (v := 0) hx hb dJ1_canEncode_9a6ad_15 (by decide) ?_
    cases hf
    exact g_zret C G (Or.inl rfl) hr hlocks dJ1_canEncode_9a6ad_16
  · have hf := ifN c1 hf
    refine lv_iload_n hx hb dJ1_canEncode_9a6ad_4 rfl (lv_at hl 0 rfl) ?_
    refine lv_sipush (v := 255) hx hb dJ1_canEncode_9a6ad_5 (by decide) ?_
    refine lv_icmp_gt (tgt := 15) hx hb dJ1_canEncode_9a6ad_8 (by decide) (fun c2 => ?_) (fun c2 => ?_)
    · have hf := ifP c2 hf
      refine lv_iconst (v := 0) hx hb dJ1_canEncode_9a6ad_15 (by decide) ?_
      cases hf
      exact g_zret C G (Or.inl rfl) hr hlocks dJ1_canEncode_9a6ad_16
    · have hf := ifN c2 hf
      refine lv_iconst (v := 1) hx hb dJ1_canEncode_9a6ad_11 (by decide) ?_
      refine lv_goto (tgt := 16) hx hb dJ1_canEncode_9a6ad_12 (by decide) ?_
      cases hf
      exact g_zret C G (Or.inr rfl) hr hlocks dJ1_canEncode_9a6ad_16

noncomputable def f_J1_indexOfChar_4cfef_L7 (a4 : Int32) (x1 : Int32) (x2 : Int32) : Option ((Int32) ⊕ (Int32)) := 
(if a4 ≤ x2 then some (.inr (-1)) else 
gd x2 5 ((if (byS (x2.toNatClampNeg)) = x1 then some (.inr (x2)) else 
lt_ (x2 + 1) (fun x6 => 
some (.inl (x6))))))
noncomputable def f_J1_indexOfChar_4cfef (a2 : Int32) (a3 : Int32) (a4 : Int32) : Option (Int32) := 
lt_ (i2b a2) (fun x1 => 
lpx (uc1 (f_J1_indexOfChar_4cfef_L7 a4 x1)) (a3))
set_option maxRecDepth 100000 in
set_option maxHeartbeats 4000000 in
theorem c_J1_indexOfChar_4cfef (l : Launch) (D : va_G) (cy : ClassId) (h : Nat → Nat) (a2 : Int32) (a3 : Int32) (a4 : Int32) (st : GS) (r : Int32) (hf : f_J1_indexOfChar_4cfef a2 a3 a4 = some r) : gMi l XSh D cy h yJ1_indexOfChar_4cfef cJ1_indexOfChar_4cfef 6 (some .int) 1 st [.ref (h 1001), .int a2, .int a3, .int a4] r st := by
  unfold f_J1_indexOfChar_4cfef at hf
  refine gMi_of (by decide) (Nat.le_of_ble_eq_true rfl) ?_
  intro p e s m args below meth c A ls C hr hlocks G hl
  have C : gC p s m args c cJ1_indexOfChar_4cfef 6 "java/lang/StringLatin1" XSh D cy h A := C
  have hl : lv_has ls 6 [(0, .ref (h 1001)), (1, .int a2), (2, .int a3), (3, .int a4)] := hl
  have hx := C.1
  have hb := C.2.1
  have hown := C.2.2.2.1
  have htb := C.2.2.2.2.1
  refine lv_iload_n hx hb dJ1_indexOfChar_4cfef_0 rfl (lv_at hl 1 rfl) ?_
  refine lv_i2b (v := (i2b a2)) hx hb dJ1_indexOfChar_4cfef_1 rfl ?_
  refine lv_topi (fun x1 ex1 => ?_)
  have hf := lt_some ex1 hf
  refine lv_istore (lv' := [(4, .int x1), (0, .ref (h 1001)), (1, .int a2), (2, .int a3), (3, .int a4)]) hx hb dJ1_indexOfChar_4cfef_2 hl (by decide) rfl (fun ls hl => ?_)
  refine lv_iload_n hx hb dJ1_indexOfChar_4cfef_4 rfl (lv_at hl 3 rfl) ?_
  refine lv_istore (lv' := [(5, .int a3), (4, .int x1), (0, .ref (h 1001)), (1, .int a2), (2, .int a3), (3, .int a4)]) hx hb dJ1_indexOfChar_4cfef_5 hl (by decide) rfl (fun ls hl => ?_)
  obtain ⟨n, hn⟩ := lpx_some hf
  have L7 : ∀ (n : Nat) (x2 : Int32) (H : Heap) (locs : List Loc) (ls : Array Slot), gG XSh D cy h A s st H locs → lv_has ls 6 [(0, .ref (h 1001)), (3, .int a4), (4, .int x1), (5, .int x2)] → lp (uc1 (f_J1_indexOfChar_4cfef_L7 a4 x1)) n (x2) = some r → W p l e (gR 1) s m args below meth c H locs 0 0 (MQ below (gQi XSh D cy h A r st) args s 0 0 A) (F0 m 7 ls []) := by
    intro n
    induction n with
    | zero =>
      intro x2 H locs ls G hl hn
      cases hn
    | succ n ih =>
      intro x2 H locs ls G hl hn
      obtain ⟨q, hf, hq1, hq2⟩ := lp_q hn
      have hf : f_J1_indexOfChar_4cfef_L7 a4 x1 x2 = some q := hf
      unfold f_J1_indexOfChar_4cfef_L7 at hf
      refine lv_iload hx hb dJ1_indexOfChar_4cfef_7 (lv_at hl 3 rfl) ?_
      refine lv_iload_n hx hb dJ1_indexOfChar_4cfef_9 rfl (lv_at hl 1 rfl) ?_
      refine lv_icmp_ge (tgt := 31) hx hb dJ1_indexOfChar_4cfef_10 (by decide) (fun c3 => ?_) (fun c3 => ?_)
      · have hf := ifP c3 hf
        refine lv_iconst (v := (-1)) hx hb dJ1_indexOfChar_4cfef_31 (by decide) ?_
        cases hf
        have hz9 := hq2 _ rfl
        cases hz9
        exact g_iret C G hr hlocks dJ1_indexOfChar_4cfef_32
      · have hf := ifN c3 hf
        refine lv_aload_n hx hb dJ1_indexOfChar_4cfef_13 rfl (lv_at hl 0 rfl) ?_
        refine lv_iload hx hb dJ1_indexOfChar_4cfef_14 (lv_at hl 3 rfl) ?_
        obtain ⟨hi16_3, hf⟩ := gd_some hf
        refine g_sbld C G (j := x2.toNatClampNeg) rfl hi16_3 dJ1_indexOfChar_4cfef_16 ?_
        refine lv_iload hx hb dJ1_indexOfChar_4cfef_17 (lv_at hl 2 rfl) ?_
        refine lv_icmp_ne (tgt := 25) hx hb dJ1_indexOfChar_4cfef_19 (by decide) (fun c5 => ?_) (fun c5 => ?_)
        · have hf := ifN c5 hf
          obtain ⟨x6, ex6⟩ : ∃ z : Int32, z = (x2 + 1) := ⟨_, rfl⟩
          have hf := lt_some ex6 hf
          refine lv_iinc (v := x6) (lv' := [(5, .int x6), (0, .ref (h 1001)), (3, .int a4), (4, .int x1)]) hx hb dJ1_indexOfChar_4cfef_25 hl (k := 3) rfl (by rw [ex6]; rfl) (by decide) rfl (fun ls hl => ?_)
          refine lv_goto (tgt := 7) hx hb dJ1_indexOfChar_4cfef_28 (by decide) ?_
          cases hf
          exact ih _ _ _ _ G (lv_sub hl [1, 2, 3, 0] rfl) (hq1 _ rfl)
        · have hf := ifP c5 hf
          refine lv_iload hx hb dJ1_indexOfChar_4cfef_22 (lv_at hl 3 rfl) ?_
          cases hf
          have hz9 := hq2 _ rfl
          cases hz9
          exact g_iret C G hr hlocks dJ1_indexOfChar_4cfef_24
  exact L7 n _ _ _ _ G (lv_sub hl [2, 5, 1, 0] rfl) hn

noncomputable def f_J1_indexOf_4cfef (a2 : Int32) (a3 : Int32) (a4 : Int32) : Option (Int32) := 
bI1 (f_J1_canEncode_9a6ad a2) (fun r1 => 
(if r1 = 0 then some ((-1)) else 
lt_ (imax a3 0) (fun x3 => 
lt_ (if 5 < a4 then 5 else a4) (fun x4 => 
(if x3 < x4 then bI1 (f_J1_indexOfChar_4cfef a2 x3 x4) (fun r6 => 
some (r6)) else 
some ((-1)))))))
set_option maxRecDepth 100000 in
set_option maxHeartbeats 4000000 in
theorem c_J1_indexOf_4cfef (l : Launch) (D : va_G) (cy : ClassId) (h : Nat → Nat) (a2 : Int32) (a3 : Int32) (a4 : Int32) (st : GS) (r : Int32) (hf : f_J1_indexOf_4cfef a2 a3 a4 = some r) : gMi l XSh D cy h yJ1_indexOf_4cfef cJ1_indexOf_4cfef 4 (some .int) 2 st [.ref (h 1001), .int a2, .int a3, .int a4] r st := by
  unfold f_J1_indexOf_4cfef at hf
  refine gMi_of (by decide) (Nat.le_of_ble_eq_true rfl) ?_
  intro p e s m args below meth c A ls C hr hlocks G hl
  have C : gC p s m args c cJ1_indexOf_4cfef 4 "java/lang/StringLatin1" XSh D cy h A := C
  have hl : lv_has ls 4 [(0, .ref (h 1001)), (1, .int a2), (2, .int a3), (3, .int a4)] := hl
  have hx := C.1
  have hb := C.2.1
  have hown := C.2.2.2.1
  have htb := C.2.2.2.2.1
  refine lv_iload_n hx hb dJ1_indexOf_4cfef_0 rfl (lv_at hl 1 rfl) ?_
  obtain ⟨r1, hc1_1, hf⟩ := bI1_some hf
  refine g_callSi C G (As := [.int a2]) (rest := []) (c_J1_canEncode_9a6ad l D cy h a2 st r1 hc1_1) v_J1_88 (Nat.le_of_ble_eq_true rfl) (Nat.le_of_ble_eq_true rfl) rfl hl.1 rfl (Nat.le_of_ble_eq_true rfl) dJ1_indexOf_4cfef_1 ⟨Nat.zero_le _, Nat.zero_le _⟩ (fun H locs G => ?_)
  refine lv_if_ne (tgt := 9) hx hb dJ1_indexOf_4cfef_4 (by decide) (fun c2 => ?_) (fun c2 => ?_)
  · have hf := ifN c2 hf
    refine lv_iload_n hx hb dJ1_indexOf_4cfef_9 rfl (lv_at hl 2 rfl) ?_
    refine lv_iconst (v := 0) hx hb dJ1_indexOf_4cfef_10 (by decide) ?_
    refine g_max C hl.1 kl_J1_92 mmax_s ini_java_lang_Math mmax_c (Nat.le_of_ble_eq_true rfl) (Nat.le_of_ble_eq_true rfl) (Nat.zero_le _) (Nat.zero_le _) dJ1_indexOf_4cfef_11 ?_
    refine lv_topi (fun x3 ex3 => ?_)
    have hf := lt_some ex3 hf
    refine lv_istore_n (lv' := [(2, .int x3), (0, .ref (h 1001)), (1, .int a2), (3, .int a4)]) hx hb dJ1_indexOf_4cfef_14 rfl hl (by decide) rfl (fun ls hl => ?_)
    refine lv_iload_n hx hb dJ1_indexOf_4cfef_15 rfl (lv_at hl 3 rfl) ?_
    refine lv_aload_n hx hb dJ1_indexOf_4cfef_16 rfl (lv_at hl 1 rfl) ?_
    refine g_sblen C G dJ1_indexOf_4cfef_17 ?_
    refine g_min C hl.1 kl_J1_38 mmin_s ini_java_lang_Math mmin_c (Nat.le_of_ble_eq_true rfl) (Nat.le_of_ble_eq_true rfl) (Nat.zero_le _) (Nat.zero_le _) dJ1_indexOf_4cfef_18 ?_
    refine lv_topi (fun x4 ex4 => ?_)
    have hf := lt_some ex4 hf
    refine lv_istore_n (lv' := [(3, .int x4), (2, .int x3), (0, .ref (h 1001)), (1, .int a2)]) hx hb dJ1_indexOf_4cfef_21 rfl hl (by decide) rfl (fun ls hl => ?_)
    refine lv_iload_n hx hb dJ1_indexOf_4cfef_22 rfl (lv_at hl 1 rfl) ?_
    refine lv_iload_n hx hb dJ1_indexOf_4cfef_23 rfl (lv_at hl 0 rfl) ?_
    refine lv_icmp_lt (tgt := 29) hx hb dJ1_indexOf_4cfef_24 (by decide) (fun c5 => ?_) (fun c5 => ?_)
    · have hf := ifP c5 hf
      refine lv_aload_n hx hb dJ1_indexOf_4cfef_29 rfl (lv_at hl 2 rfl) ?_
      refine lv_iload_n hx hb dJ1_indexOf_4cfef_30 rfl (lv_at hl 3 rfl) ?_
      refine lv_iload_n hx hb dJ1_indexOf_4cfef_31 rfl (lv_at hl 1 rfl) ?_
      refine lv_iload_n hx hb dJ1_indexOf_4cfef_32 rfl (lv_at hl 0 rfl) ?_
      obtain ⟨r6, hc33_6, hf⟩ := bI1_some hf
      refine g_callSi C G (As := [.ref (h 1001), .int a2, .int x3, .int x4]) (rest := []) (c_J1_indexOfChar_4cfef l D cy h a2 x3 x4 st r6 hc33_6) v_J1_95 (Nat.le_of_ble_eq_true rfl) (Nat.le_of_ble_eq_true rfl) rfl hl.1 rfl (Nat.le_of_ble_eq_true rfl) dJ1_indexOf_4cfef_33 ⟨Nat.zero_le _, Nat.zero_le _⟩ (fun H locs G => ?_)
      cases hf
      exact g_iret C G hr hlocks dJ1_indexOf_4cfef_36
    · have hf := ifN c5 hf
      refine lv_iconst (v := (-1)) hx hb dJ1_indexOf_4cfef_27 (by decide) ?_
      cases hf
      exact g_iret C G hr hlocks dJ1_indexOf_4cfef_28
  · have hf := ifP c2 hf
    refine lv_iconst (v := (-1)) hx hb dJ1_indexOf_4cfef_7 (by decide) ?_
    cases hf
    exact g_iret C G hr hlocks dJ1_indexOf_4cfef_8

noncomputable def f_J0_indexOf_7cf53 (a1 : Int32) (a2 : Int32) : Option (Int32) := 
bI1 (f_J0_length_8abf5) (fun r3 => 
bI1 (f_J1_indexOf_4cfef a1 a2 r3) (fun r4 => 
some (r4)))
set_option maxRecDepth 100000 in
set_option maxHeartbeats 4000000 in
theorem c_J0_indexOf_7cf53 (l : Launch) (D : va_G) (cy : ClassId) (h : Nat → Nat) (a1 : Int32) (a2 : Int32) (st : GS) (r : Int32) (hf : f_J0_indexOf_7cf53 a1 a2 = some r) : gMi l XSh D cy h yJ0_indexOf_7cf53 cJ0_indexOf_7cf53 3 (some .int) 6 st [.ref (h 1000), .int a1, .int a2] r st := by
  unfold f_J0_indexOf_7cf53 at hf
  refine gMi_of (by decide) (Nat.le_of_ble_eq_true rfl) ?_
  intro p e s m args below meth c A ls C hr hlocks G hl
  have C : gC p s m args c cJ0_indexOf_7cf53 3 "java/lang/String" XSh D cy h A := C
  have hl : lv_has ls 3 [(0, .ref (h 1000)), (1, .int a1), (2, .int a2)] := hl
  have hx := C.1
  have hb := C.2.1
  have hown := C.2.2.2.1
  have htb := C.2.2.2.2.1
  refine lv_aload_n hx hb dJ0_indexOf_7cf53_0 rfl (lv_at hl 0 rfl) ?_
  refine g_callSt C G (As := []) (rest := []) (c_J0_isLatin1_aae02 l D cy h st 1 rfl) rfl v_J0_492 (Nat.le_of_ble_eq_true rfl) (Nat.le_of_ble_eq_true rfl) rfl hl.1 rfl (Nat.le_of_ble_eq_true rfl) dJ0_indexOf_7cf53_1 ⟨Nat.zero_le _, Nat.zero_le _⟩ (fun H locs G => ?_)
  refine lv_if_eq (tgt := 23) hx hb dJ0_indexOf_7cf53_4 (by decide) (fun c2 => ?_) (fun c2 => ?_)
  · exact absurd c2 (by decide)
  · refine lv_aload_n hx hb dJ0_indexOf_7cf53_7 rfl (lv_at hl 0 rfl) ?_
    refine g_sval C G k5_208 dJ0_indexOf_7cf53_8 ?_
    refine lv_iload_n hx hb dJ0_indexOf_7cf53_11 rfl (lv_at hl 1 rfl) ?_
    refine lv_iload_n hx hb dJ0_indexOf_7cf53_12 rfl (lv_at hl 2 rfl) ?_
    refine lv_aload_n hx hb dJ0_indexOf_7cf53_13 rfl (lv_at hl 0 rfl) ?_
    obtain ⟨r3, hc14_3, hf⟩ := bI1_some hf
    refine g_callSt C G (As := []) (rest := [.int a2, .int a1, .ref (h 1001)]) (c_J0_length_8abf5 l D cy h st r3 hc14_3) rfl v_J0_505 (Nat.le_of_ble_eq_true rfl) (Nat.le_of_ble_eq_true rfl) rfl hl.1 rfl (Nat.le_of_ble_eq_true rfl) dJ0_indexOf_7cf53_14 ⟨Nat.zero_le _, Nat.zero_le _⟩ (fun H locs G => ?_)
    obtain ⟨r4, hc17_4, hf⟩ := bI1_some hf
    refine g_callSi C G (As := [.ref (h 1001), .int a1, .int a2, .int r3]) (rest := []) (c_J1_indexOf_4cfef l D cy h a1 a2 r3 st r4 hc17_4) v_J0_637 (Nat.le_of_ble_eq_true rfl) (Nat.le_of_ble_eq_true rfl) rfl hl.1 rfl (Nat.le_of_ble_eq_true rfl) dJ0_indexOf_7cf53_17 ⟨Nat.zero_le _, Nat.zero_le _⟩ (fun H locs G => ?_)
    refine lv_goto (tgt := 36) hx hb dJ0_indexOf_7cf53_20 (by decide) ?_
    cases hf
    exact g_iret C G hr hlocks dJ0_indexOf_7cf53_36

noncomputable def f_J0_indexOf_0f7a4 (a1 : Int32) : Option (Int32) := 
bI1 (f_J0_indexOf_7cf53 a1 0) (fun r1 => 
some (r1))
set_option maxRecDepth 100000 in
set_option maxHeartbeats 4000000 in
theorem c_J0_indexOf_0f7a4 (l : Launch) (D : va_G) (cy : ClassId) (h : Nat → Nat) (a1 : Int32) (st : GS) (r : Int32) (hf : f_J0_indexOf_0f7a4 a1 = some r) : gMi l XSh D cy h yJ0_indexOf_0f7a4 cJ0_indexOf_0f7a4 2 (some .int) 7 st [.ref (h 1000), .int a1] r st := by
  unfold f_J0_indexOf_0f7a4 at hf
  refine gMi_of (by decide) (Nat.le_of_ble_eq_true rfl) ?_
  intro p e s m args below meth c A ls C hr hlocks G hl
  have C : gC p s m args c cJ0_indexOf_0f7a4 2 "java/lang/String" XSh D cy h A := C
  have hl : lv_has ls 2 [(0, .ref (h 1000)), (1, .int a1)] := hl
  have hx := C.1
  have hb := C.2.1
  have hown := C.2.2.2.1
  have htb := C.2.2.2.2.1
  refine lv_aload_n hx hb dJ0_indexOf_0f7a4_0 rfl (lv_at hl 0 rfl) ?_
  refine lv_iload_n hx hb dJ0_indexOf_0f7a4_1 rfl (lv_at hl 1 rfl) ?_
  refine lv_iconst (v := 0) hx hb dJ0_indexOf_0f7a4_2 (by decide) ?_
  obtain ⟨r1, hc3_1, hf⟩ := bI1_some hf
  refine g_callSt C G (As := [.int a1, .int 0]) (rest := []) (c_J0_indexOf_7cf53 l D cy h a1 0 st r1 hc3_1) rfl v_J0_633 (Nat.le_of_ble_eq_true rfl) (Nat.le_of_ble_eq_true rfl) rfl hl.1 rfl (Nat.le_of_ble_eq_true rfl) dJ0_indexOf_0f7a4_3 ⟨Nat.zero_le _, Nat.zero_le _⟩ (fun H locs G => ?_)
  cases hf
  exact g_iret C G hr hlocks dJ0_indexOf_0f7a4_6

noncomputable def f_X6_kindOf (a1 : Int32) : Option (Int32) := 
bI1 (f_J0_indexOf_0f7a4 (i2c a1)) (fun r1 => 
some (r1))
set_option maxRecDepth 100000 in
set_option maxHeartbeats 4000000 in
theorem c_X6_kindOf (l : Launch) (D : va_G) (cy : ClassId) (h : Nat → Nat) (a1 : Int32) (st : GS) (r : Int32) (hf : f_X6_kindOf a1 = some r) : gMi l XSh D cy h yX6_kindOf cX6_kindOf 1 (some .int) 8 st [.int a1] r st := by
  unfold f_X6_kindOf at hf
  refine gMi_of (by decide) (Nat.le_of_ble_eq_true rfl) ?_
  intro p e s m args below meth c A ls C hr hlocks G hl
  have C : gC p s m args c cX6_kindOf 1 "LaneOrder$Text" XSh D cy h A := C
  have hl : lv_has ls 1 [(0, .int a1)] := hl
  have hx := C.1
  have hb := C.2.1
  have hown := C.2.2.2.1
  have htb := C.2.2.2.2.1
  refine g_ldcS C rfl dX6_kindOf_0 ?_
  refine lv_iload_n hx hb dX6_kindOf_2 rfl (lv_at hl 0 rfl) ?_
  refine lv_i2c (v := (i2c a1)) hx hb dX6_kindOf_3 rfl ?_
  obtain ⟨r1, hc4_1, hf⟩ := bI1_some hf
  refine g_callSt C G (As := [.int (i2c a1)]) (rest := []) (c_J0_indexOf_0f7a4 l D cy h (i2c a1) st r1 hc4_1) rfl v_X6_62 (Nat.le_of_ble_eq_true rfl) (Nat.le_of_ble_eq_true rfl) rfl hl.1 rfl (Nat.le_of_ble_eq_true rfl) dX6_kindOf_4 ⟨Nat.zero_le _, Nat.zero_le _⟩ (fun H locs G => ?_)
  cases hf
  exact g_iret C G hr hlocks dX6_kindOf_7

noncomputable def f_X6_fitsBoxes (a1 : Int32) (st : GS) : Option (Int32) := 
gd a1 54 (lt_ (gt st 2 (a1.toNatClampNeg)) (fun x2 => 
(if (irem a1 6) = 0 then bI1 (f_X6_kindOf x2) (fun r4 => 
(if r4 = (-1) then some (0) else 
some (1))) else 
(if (irem a1 6) = 1 then (if x2 < 48 then some (0) else 
(if 56 < x2 then some (0) else 
some (1))) else 
(if (irem a1 6) = 2 then (if x2 < 48 then some (0) else 
(if 56 < x2 then some (0) else 
some (1))) else 
(if (irem a1 6) = 3 then (if 57 < x2 then some (0) else 
gd (a1 - 2) 54 ((if x2 ≤ (gt st 2 ((a1 - 2).toNatClampNeg)) then some (0) else 
some (1)))) else 
(if (irem a1 6) = 4 then (if 57 < x2 then some (0) else 
gd (a1 - 2) 54 ((if x2 ≤ (gt st 2 ((a1 - 2).toNatClampNeg)) then some (0) else 
some (1)))) else 
(if x2 = 59 then some (1) else 
(if x2 = 44 then (if 8 ≤ ((a1 / 6) + 1) then some (0) else 
some (1)) else 
some (0))))))))))
set_option maxRecDepth 100000 in
set_option maxHeartbeats 4000000 in
theorem c_X6_fitsBoxes (l : Launch) (D : va_G) (cy : ClassId) (h : Nat → Nat) (a1 : Int32) (st : GS) (r : Int32) (hf : f_X6_fitsBoxes a1 st = some r) : gMi l XSh D cy h yX6_fitsBoxes cX6_fitsBoxes 3 (some .boolean) 9 st [.ref (h 1), .int a1] r st := by
  unfold f_X6_fitsBoxes at hf
  refine gMi_of (by decide) (Nat.le_of_ble_eq_true rfl) ?_
  intro p e s m args below meth c A ls C hr hlocks G hl
  have C : gC p s m args c cX6_fitsBoxes 3 "LaneOrder$Text" XSh D cy h A := C
  have hl : lv_has ls 3 [(0, .ref (h 1)), (1, .int a1)] := hl
  have hx := C.1
  have hb := C.2.1
  have hown := C.2.2.2.1
  have htb := C.2.2.2.2.1
  refine lv_aload_n hx hb dX6_fitsBoxes_0 rfl (lv_at hl 0 rfl) ?_
  refine g_getr (k := 2) C G cl6 (C6 ok6_1) (j := 0) (by decide) (F6_0 ok6_1) k1_32 dX6_fitsBoxes_1 ?_
  refine lv_iload_n hx hb dX6_fitsBoxes_4 rfl (lv_at hl 1 rfl) ?_
  obtain ⟨hi5_0, hf⟩ := gd_some hf
  refine g_iald C G (A6_0 ok6_1) (j := a1.toNatClampNeg) rfl hi5_0 dX6_fitsBoxes_5 ?_
  refine lv_topi (fun x2 ex2 => ?_)
  have hf := lt_some ex2 hf
  refine lv_istore_n (lv' := [(2, .int x2), (0, .ref (h 1)), (1, .int a1)]) hx hb dX6_fitsBoxes_6 rfl hl (by decide) rfl (fun ls hl => ?_)
  refine lv_iload_n hx hb dX6_fitsBoxes_7 rfl (lv_at hl 2 rfl) ?_
  refine lv_bipush (v := 6) hx hb dX6_fitsBoxes_8 (by decide) ?_
  refine g_irem C dX6_fitsBoxes_10 (by decide) ?_
  by_cases c3_0 : (irem a1 6) = 0
  · have hf := ifP c3_0 hf
    refine lv_tableIn (tgt := 44) hx hb dX6_fitsBoxes_11 (by rw [c3_0]; decide) (by rw [c3_0]; decide) (by rw [c3_0]; rfl) (by decide) ?_
    refine lv_iload_n hx hb dX6_fitsBoxes_44 rfl (lv_at hl 0 rfl) ?_
    obtain ⟨r4, hc45_4, hf⟩ := bI1_some hf
    refine g_callSi C G (As := [.int x2]) (rest := []) (c_X6_kindOf l D cy h x2 st r4 hc45_4) v_X6_39 (Nat.le_of_ble_eq_true rfl) (Nat.le_of_ble_eq_true rfl) rfl hl.1 rfl (Nat.le_of_ble_eq_true rfl) dX6_fitsBoxes_45 ⟨Nat.zero_le _, Nat.zero_le _⟩ (fun H locs G => ?_)
    refine lv_iconst (v := (-1)) hx hb dX6_fitsBoxes_48 (by decide) ?_
    refine lv_icmp_eq (tgt := 56) hx hb dX6_fitsBoxes_49 (by decide) (fun c5 => ?_) (fun c5 => ?_)
    · have hf := ifP c5 hf
      refine lv_iconst (v := 0) hx hb dX6_fitsBoxes_56 (by decide) ?_
      cases hf
      exact g_zret C G (Or.inl rfl) hr hlocks dX6_fitsBoxes_57
    · have hf := ifN c5 hf
      refine lv_iconst (v := 1) hx hb dX6_fitsBoxes_52 (by decide) ?_
      refine lv_goto (tgt := 57) hx hb dX6_fitsBoxes_53 (by decide) ?_
      cases hf
      exact g_zret C G (Or.inr rfl) hr hlocks dX6_fitsBoxes_57
  · have hf := ifN c3_0 hf
    by_cases c3_1 : (irem a1 6) = 1
    · have hf := ifP c3_1 hf
      refine lv_tableIn (tgt := 58) hx hb dX6_fitsBoxes_11 (by rw [c3_1]; decide) (by rw [c3_1]; decide) (by rw [c3_1]; rfl) (by decide) ?_
      refine lv_iload_n hx hb dX6_fitsBoxes_58 rfl (lv_at hl 0 rfl) ?_
      refine lv_bipush (v := 48) hx hb dX6_fitsBoxes_59 (by decide) ?_
      refine lv_icmp_lt (tgt := 74) hx hb dX6_fitsBoxes_61 (by decide) (fun c6 => ?_) (fun c6 => ?_)
      · have hf := ifP c6 hf
        refine lv_iconst (v := 0) hx hb dX6_fitsBoxes_74 (by decide) ?_
        cases hf
        exact g_zret C G (Or.inl rfl) hr hlocks dX6_fitsBoxes_75
      · have hf := ifN c6 hf
        refine lv_iload_n hx hb dX6_fitsBoxes_64 rfl (lv_at hl 0 rfl) ?_
        refine lv_bipush (v := 56) hx hb dX6_fitsBoxes_65 (by decide) ?_
        refine lv_icmp_gt (tgt := 74) hx hb dX6_fitsBoxes_67 (by decide) (fun c7 => ?_) (fun c7 => ?_)
        · have hf := ifP c7 hf
          refine lv_iconst (v := 0) hx hb dX6_fitsBoxes_74 (by decide) ?_
          cases hf
          exact g_zret C G (Or.inl rfl) hr hlocks dX6_fitsBoxes_75
        · have hf := ifN c7 hf
          refine lv_iconst (v := 1) hx hb dX6_fitsBoxes_70 (by decide) ?_
          refine lv_goto (tgt := 75) hx hb dX6_fitsBoxes_71 (by decide) ?_
          cases hf
          exact g_zret C G (Or.inr rfl) hr hlocks dX6_fitsBoxes_75
    · have hf := ifN c3_1 hf
      by_cases c3_2 : (irem a1 6) = 2
      · have hf := ifP c3_2 hf
        refine lv_tableIn (tgt := 58) hx hb dX6_fitsBoxes_11 (by rw [c3_2]; decide) (by rw [c3_2]; decide) (by rw [c3_2]; rfl) (by decide) ?_
        refine lv_iload_n hx hb dX6_fitsBoxes_58 rfl (lv_at hl 0 rfl) ?_
        refine lv_bipush (v := 48) hx hb dX6_fitsBoxes_59 (by decide) ?_
        refine lv_icmp_lt (tgt := 74) hx hb dX6_fitsBoxes_61 (by decide) (fun c8 => ?_) (fun c8 => ?_)
        · have hf := ifP c8 hf
          refine lv_iconst (v := 0) hx hb dX6_fitsBoxes_74 (by decide) ?_
          cases hf
          exact g_zret C G (Or.inl rfl) hr hlocks dX6_fitsBoxes_75
        · have hf := ifN c8 hf
          refine lv_iload_n hx hb dX6_fitsBoxes_64 rfl (lv_at hl 0 rfl) ?_
          refine lv_bipush (v := 56) hx hb dX6_fitsBoxes_65 (by decide) ?_
          refine lv_icmp_gt (tgt := 74) hx hb dX6_fitsBoxes_67 (by decide) (fun c9 => ?_) (fun c9 => ?_)
          · have hf := ifP c9 hf
            refine lv_iconst (v := 0) hx hb dX6_fitsBoxes_74 (by decide) ?_
            cases hf
            exact g_zret C G (Or.inl rfl) hr hlocks dX6_fitsBoxes_75
          · have hf := ifN c9 hf
            refine lv_iconst (v := 1) hx hb dX6_fitsBoxes_70 (by decide) ?_
            refine lv_goto (tgt := 75) hx hb dX6_fitsBoxes_71 (by decide) ?_
            cases hf
            exact g_zret C G (Or.inr rfl) hr hlocks dX6_fitsBoxes_75
      · have hf := ifN c3_2 hf
        by_cases c3_3 : (irem a1 6) = 3
        · have hf := ifP c3_3 hf
          refine lv_tableIn (tgt := 76) hx hb dX6_fitsBoxes_11 (by rw [c3_3]; decide) (by rw [c3_3]; decide) (by rw [c3_3]; rfl) (by decide) ?_
          refine lv_iload_n hx hb dX6_fitsBoxes_76 rfl (lv_at hl 0 rfl) ?_
          refine lv_bipush (v := 57) hx hb dX6_fitsBoxes_77 (by decide) ?_
          refine lv_icmp_gt (tgt := 98) hx hb dX6_fitsBoxes_79 (by decide) (fun c10 => ?_) (fun c10 => ?_)
          · have hf := ifP c10 hf
            refine lv_iconst (v := 0) hx hb dX6_fitsBoxes_98 (by decide) ?_
            cases hf
            exact g_zret C G (Or.inl rfl) hr hlocks dX6_fitsBoxes_99
          · have hf := ifN c10 hf
            refine lv_iload_n hx hb dX6_fitsBoxes_82 rfl (lv_at hl 0 rfl) ?_
            refine lv_aload_n hx hb dX6_fitsBoxes_83 rfl (lv_at hl 1 rfl) ?_
            refine g_getr (k := 2) C G cl6 (C6 ok6_1) (j := 0) (by decide) (F6_0 ok6_1) k1_32 dX6_fitsBoxes_84 ?_
            refine lv_iload_n hx hb dX6_fitsBoxes_87 rfl (lv_at hl 2 rfl) ?_
            refine lv_iconst (v := 2) hx hb dX6_fitsBoxes_88 (by decide) ?_
            refine lv_isub hx hb dX6_fitsBoxes_89 ?_
            obtain ⟨hi90_10, hf⟩ := gd_some hf
            refine g_iald C G (A6_0 ok6_1) (j := (a1 - 2).toNatClampNeg) rfl hi90_10 dX6_fitsBoxes_90 ?_
            refine lv_icmp_le (tgt := 98) hx hb dX6_fitsBoxes_91 (by decide) (fun c12 => ?_) (fun c12 => ?_)
            · have hf := ifP c12 hf
              refine lv_iconst (v := 0) hx hb dX6_fitsBoxes_98 (by decide) ?_
              cases hf
              exact g_zret C G (Or.inl rfl) hr hlocks dX6_fitsBoxes_99
            · have hf := ifN c12 hf
              refine lv_iconst (v := 1) hx hb dX6_fitsBoxes_94 (by decide) ?_
              refine lv_goto (tgt := 99) hx hb dX6_fitsBoxes_95 (by decide) ?_
              cases hf
              exact g_zret C G (Or.inr rfl) hr hlocks dX6_fitsBoxes_99
        · have hf := ifN c3_3 hf
          by_cases c3_4 : (irem a1 6) = 4
          · have hf := ifP c3_4 hf
            refine lv_tableIn (tgt := 76) hx hb dX6_fitsBoxes_11 (by rw [c3_4]; decide) (by rw [c3_4]; decide) (by rw [c3_4]; rfl) (by decide) ?_
            refine lv_iload_n hx hb dX6_fitsBoxes_76 rfl (lv_at hl 0 rfl) ?_
            refine lv_bipush (v := 57) hx hb dX6_fitsBoxes_77 (by decide) ?_
            refine lv_icmp_gt (tgt := 98) hx hb dX6_fitsBoxes_79 (by decide) (fun c13 => ?_) (fun c13 => ?_)
            · have hf := ifP c13 hf
              refine lv_iconst (v := 0) hx hb dX6_fitsBoxes_98 (by decide) ?_
              cases hf
              exact g_zret C G (Or.inl rfl) hr hlocks dX6_fitsBoxes_99
            · have hf := ifN c13 hf
              refine lv_iload_n hx hb dX6_fitsBoxes_82 rfl (lv_at hl 0 rfl) ?_
              refine lv_aload_n hx hb dX6_fitsBoxes_83 rfl (lv_at hl 1 rfl) ?_
              refine g_getr (k := 2) C G cl6 (C6 ok6_1) (j := 0) (by decide) (F6_0 ok6_1) k1_32 dX6_fitsBoxes_84 ?_
              refine lv_iload_n hx hb dX6_fitsBoxes_87 rfl (lv_at hl 2 rfl) ?_
              refine lv_iconst (v := 2) hx hb dX6_fitsBoxes_88 (by decide) ?_
              refine lv_isub hx hb dX6_fitsBoxes_89 ?_
              obtain ⟨hi90_13, hf⟩ := gd_some hf
              refine g_iald C G (A6_0 ok6_1) (j := (a1 - 2).toNatClampNeg) rfl hi90_13 dX6_fitsBoxes_90 ?_
              refine lv_icmp_le (tgt := 98) hx hb dX6_fitsBoxes_91 (by decide) (fun c15 => ?_) (fun c15 => ?_)
              · have hf := ifP c15 hf
                refine lv_iconst (v := 0) hx hb dX6_fitsBoxes_98 (by decide) ?_
                cases hf
                exact g_zret C G (Or.inl rfl) hr hlocks dX6_fitsBoxes_99
              · have hf := ifN c15 hf
                refine lv_iconst (v := 1) hx hb dX6_fitsBoxes_94 (by decide) ?_
                refine lv_goto (tgt := 99) hx hb dX6_fitsBoxes_95 (by decide) ?_
                cases hf
                exact g_zret C G (Or.inr rfl) hr hlocks dX6_fitsBoxes_99
          · have hf := ifN c3_4 hf
            refine lv_tableOut (tgt := 100) hx hb dX6_fitsBoxes_11 (tab_4 c3_0 c3_1 c3_2 c3_3 c3_4) (by decide) ?_
            refine lv_iload_n hx hb dX6_fitsBoxes_100 rfl (lv_at hl 0 rfl) ?_
            refine lv_bipush (v := 59) hx hb dX6_fitsBoxes_101 (by decide) ?_
            refine lv_icmp_eq (tgt := 123) hx hb dX6_fitsBoxes_103 (by decide) (fun c16 => ?_) (fun c16 => ?_)
            · have hf := ifP c16 hf
              refine lv_iconst (v := 1) hx hb dX6_fitsBoxes_123 (by decide) ?_
              refine lv_goto (tgt := 128) hx hb dX6_fitsBoxes_124 (by decide) ?_
              cases hf
              exact g_zret C G (Or.inr rfl) hr hlocks dX6_fitsBoxes_128
            · have hf := ifN c16 hf
              refine lv_iload_n hx hb dX6_fitsBoxes_106 rfl (lv_at hl 0 rfl) ?_
              refine lv_bipush (v := 44) hx hb dX6_fitsBoxes_107 (by decide) ?_
              refine lv_icmp_ne (tgt := 127) hx hb dX6_fitsBoxes_109 (by decide) (fun c17 => ?_) (fun c17 => ?_)
              · have hf := ifN c17 hf
                refine lv_iconst (v := 0) hx hb dX6_fitsBoxes_127 (by decide) ?_
                cases hf
                exact g_zret C G (Or.inl rfl) hr hlocks dX6_fitsBoxes_128
              · have hf := ifP c17 hf
                refine lv_iload_n hx hb dX6_fitsBoxes_112 rfl (lv_at hl 2 rfl) ?_
                refine lv_bipush (v := 6) hx hb dX6_fitsBoxes_113 (by decide) ?_
                refine lv_idiv hx hb dX6_fitsBoxes_115 (by decide) ?_
                refine lv_iconst (v := 1) hx hb dX6_fitsBoxes_116 (by decide) ?_
                refine lv_iadd hx hb dX6_fitsBoxes_117 ?_
                refine lv_bipush (v := 8) hx hb dX6_fitsBoxes_118 (by decide) ?_
                refine lv_icmp_ge (tgt := 127) hx hb dX6_fitsBoxes_120 (by decide) (fun c18 => ?_) (fun c18 => ?_)
                · have hf := ifP c18 hf
                  refine lv_iconst (v := 0) hx hb dX6_fitsBoxes_127 (by decide) ?_
                  cases hf
                  exact g_zret C G (Or.inl rfl) hr hlocks dX6_fitsBoxes_128
                · have hf := ifN c18 hf
                  refine lv_iconst (v := 1) hx hb dX6_fitsBoxes_123 (by decide) ?_
                  refine lv_goto (tgt := 128) hx hb dX6_fitsBoxes_124 (by decide) ?_
                  cases hf
                  exact g_zret C G (Or.inr rfl) hr hlocks dX6_fitsBoxes_128

noncomputable def f_X6_fitsRules_L26 (a1 : Int32) (st : GS) (x5 : Int32) : Option ((Int32) ⊕ (Int32)) := 
(if a1 ≤ x5 then some (.inr (1)) else 
gd x5 54 (gd a1 54 ((if (gt st 2 (x5.toNatClampNeg)) = (gt st 2 (a1.toNatClampNeg)) then some (.inr (0)) else 
lt_ (x5 + 1) (fun x10 => 
some (.inl (x10)))))))
noncomputable def f_X6_fitsRules (a1 : Int32) (a2 : Int32) (st : GS) : Option (Int32) := 
gd a1 54 ((if (gt st 2 (a1.toNatClampNeg)) < 48 then some (0) else 
gd a1 54 ((if (gt st 2 (a1.toNatClampNeg)) ≤ 51 then lpx (uc1 (f_X6_fitsRules_L26 a1 st)) (a2) else 
some (0)))))
set_option maxRecDepth 100000 in
set_option maxHeartbeats 4000000 in
theorem c_X6_fitsRules (l : Launch) (D : va_G) (cy : ClassId) (h : Nat → Nat) (a1 : Int32) (a2 : Int32) (st : GS) (r : Int32) (hf : f_X6_fitsRules a1 a2 st = some r) : gMi l XSh D cy h yX6_fitsRules cX6_fitsRules 4 (some .boolean) 1 st [.ref (h 1), .int a1, .int a2] r st := by
  unfold f_X6_fitsRules at hf
  refine gMi_of (by decide) (Nat.le_of_ble_eq_true rfl) ?_
  intro p e s m args below meth c A ls C hr hlocks G hl
  have C : gC p s m args c cX6_fitsRules 4 "LaneOrder$Text" XSh D cy h A := C
  have hl : lv_has ls 4 [(0, .ref (h 1)), (1, .int a1), (2, .int a2)] := hl
  have hx := C.1
  have hb := C.2.1
  have hown := C.2.2.2.1
  have htb := C.2.2.2.2.1
  refine lv_aload_n hx hb dX6_fitsRules_0 rfl (lv_at hl 0 rfl) ?_
  refine g_getr (k := 2) C G cl6 (C6 ok6_1) (j := 0) (by decide) (F6_0 ok6_1) k1_32 dX6_fitsRules_1 ?_
  refine lv_iload_n hx hb dX6_fitsRules_4 rfl (lv_at hl 1 rfl) ?_
  obtain ⟨hi5_0, hf⟩ := gd_some hf
  refine g_iald C G (A6_0 ok6_1) (j := a1.toNatClampNeg) rfl hi5_0 dX6_fitsRules_5 ?_
  refine lv_bipush (v := 48) hx hb dX6_fitsRules_6 (by decide) ?_
  refine lv_icmp_lt (tgt := 22) hx hb dX6_fitsRules_8 (by decide) (fun c2 => ?_) (fun c2 => ?_)
  · have hf := ifP c2 hf
    refine lv_iconst (v := 0) hx hb dX6_fitsRules_22 (by decide) ?_
    cases hf
    exact g_zret C G (Or.inl rfl) hr hlocks dX6_fitsRules_23
  · have hf := ifN c2 hf
    refine lv_aload_n hx hb dX6_fitsRules_11 rfl (lv_at hl 0 rfl) ?_
    refine g_getr (k := 2) C G cl6 (C6 ok6_1) (j := 0) (by decide) (F6_0 ok6_1) k1_32 dX6_fitsRules_12 ?_
    refine lv_iload_n hx hb dX6_fitsRules_15 rfl (lv_at hl 1 rfl) ?_
    obtain ⟨hi16_2, hf⟩ := gd_some hf
    refine g_iald C G (A6_0 ok6_1) (j := a1.toNatClampNeg) rfl hi16_2 dX6_fitsRules_16 ?_
    refine lv_bipush (v := 51) hx hb dX6_fitsRules_17 (by decide) ?_
    refine lv_icmp_le (tgt := 24) hx hb dX6_fitsRules_19 (by decide) (fun c4 => ?_) (fun c4 => ?_)
    · have hf := ifP c4 hf
      refine lv_iload_n hx hb dX6_fitsRules_24 rfl (lv_at hl 2 rfl) ?_
      refine lv_istore_n (lv' := [(3, .int a2), (0, .ref (h 1)), (1, .int a1), (2, .int a2)]) hx hb dX6_fitsRules_25 rfl hl (by decide) rfl (fun ls hl => ?_)
      obtain ⟨n, hn⟩ := lpx_some hf
      have L26 : ∀ (n : Nat) (x5 : Int32) (H : Heap) (locs : List Loc) (ls : Array Slot), gG XSh D cy h A s st H locs → lv_has ls 4 [(0, .ref (h 1)), (1, .int a1), (3, .int x5)] → lp (uc1 (f_X6_fitsRules_L26 a1 st)) n (x5) = some r → W p l e (gR 1) s m args below meth c H locs 0 0 (MQ below (gQi XSh D cy h A r st) args s 0 0 A) (F0 m 26 ls []) := by
        intro n
        induction n with
        | zero =>
          intro x5 H locs ls G hl hn
          cases hn
        | succ n ih =>
          intro x5 H locs ls G hl hn
          obtain ⟨q, hf, hq1, hq2⟩ := lp_q hn
          have hf : f_X6_fitsRules_L26 a1 st x5 = some q := hf
          unfold f_X6_fitsRules_L26 at hf
          refine lv_iload_n hx hb dX6_fitsRules_26 rfl (lv_at hl 2 rfl) ?_
          refine lv_iload_n hx hb dX6_fitsRules_27 rfl (lv_at hl 1 rfl) ?_
          refine lv_icmp_ge (tgt := 54) hx hb dX6_fitsRules_28 (by decide) (fun c6 => ?_) (fun c6 => ?_)
          · have hf := ifP c6 hf
            refine lv_iconst (v := 1) hx hb dX6_fitsRules_54 (by decide) ?_
            cases hf
            have hz9 := hq2 _ rfl
            cases hz9
            exact g_zret C G (Or.inr rfl) hr hlocks dX6_fitsRules_55
          · have hf := ifN c6 hf
            refine lv_aload_n hx hb dX6_fitsRules_31 rfl (lv_at hl 0 rfl) ?_
            refine g_getr (k := 2) C G cl6 (C6 ok6_1) (j := 0) (by decide) (F6_0 ok6_1) k1_32 dX6_fitsRules_32 ?_
            refine lv_iload_n hx hb dX6_fitsRules_35 rfl (lv_at hl 2 rfl) ?_
            obtain ⟨hi36_6, hf⟩ := gd_some hf
            refine g_iald C G (A6_0 ok6_1) (j := x5.toNatClampNeg) rfl hi36_6 dX6_fitsRules_36 ?_
            refine lv_aload_n hx hb dX6_fitsRules_37 rfl (lv_at hl 0 rfl) ?_
            refine g_getr (k := 2) C G cl6 (C6 ok6_1) (j := 0) (by decide) (F6_0 ok6_1) k1_32 dX6_fitsRules_38 ?_
            refine lv_iload_n hx hb dX6_fitsRules_41 rfl (lv_at hl 1 rfl) ?_
            obtain ⟨hi42_7, hf⟩ := gd_some hf
            refine g_iald C G (A6_0 ok6_1) (j := a1.toNatClampNeg) rfl hi42_7 dX6_fitsRules_42 ?_
            refine lv_icmp_ne (tgt := 48) hx hb dX6_fitsRules_43 (by decide) (fun c9 => ?_) (fun c9 => ?_)
            · have hf := ifN c9 hf
              obtain ⟨x10, ex10⟩ : ∃ z : Int32, z = (x5 + 1) := ⟨_, rfl⟩
              have hf := lt_some ex10 hf
              refine lv_iinc (v := x10) (lv' := [(3, .int x10), (0, .ref (h 1)), (1, .int a1)]) hx hb dX6_fitsRules_48 hl (k := 2) rfl (by rw [ex10]; rfl) (by decide) rfl (fun ls hl => ?_)
              refine lv_goto (tgt := 26) hx hb dX6_fitsRules_51 (by decide) ?_
              cases hf
              exact ih _ _ _ _ G (lv_sub hl [1, 2, 0] rfl) (hq1 _ rfl)
            · have hf := ifP c9 hf
              refine lv_iconst (v := 0) hx hb dX6_fitsRules_46 (by decide) ?_
              cases hf
              have hz9 := hq2 _ rfl
              cases hz9
              exact g_zret C G (Or.inl rfl) hr hlocks dX6_fitsRules_47
      exact L26 n _ _ _ _ G (lv_sub hl [1, 2, 0] rfl) hn
    · have hf := ifN c4 hf
      refine lv_iconst (v := 0) hx hb dX6_fitsRules_22 (by decide) ?_
      cases hf
      exact g_zret C G (Or.inl rfl) hr hlocks dX6_fitsRules_23

noncomputable def f_X6_firstFault_L4 (st : GS) (x1 : Int32) (x2 : Int32) : Option ((Int32 × Int32) ⊕ (Int32)) := 
(if (gt st 1 1) ≤ x2 then some (.inr (gt st 1 1)) else 
bI1 ((if x1 = (-1) then bI1 (f_X6_fitsBoxes x2 st) (fun r7 => 
some (r7)) else 
bI1 (f_X6_fitsRules x2 x1 st) (fun r6 => 
some (r6)))) (fun (x5 : Int32) => 
(if x5 = 0 then some (.inr (x2)) else 
gd x2 54 ((if (gt st 2 (x2.toNatClampNeg)) = 59 then lt_ (x2 + 1) (fun x12 => 
lt_ (x2 + 1) (fun x13 => 
some (.inl (x12, x13)))) else 
lt_ (x2 + 1) (fun x11 => 
some (.inl (x1, x11))))))))
noncomputable def f_X6_firstFault (st : GS) : Option (Int32) := 
lpx (uc2 (f_X6_firstFault_L4 st)) ((-1), 0)
set_option maxRecDepth 100000 in
set_option maxHeartbeats 4000000 in
theorem c_X6_firstFault (l : Launch) (D : va_G) (cy : ClassId) (h : Nat → Nat)  (st : GS) (r : Int32) (hf : f_X6_firstFault st = some r) : gMi l XSh D cy h yX6_firstFault cX6_firstFault 4 (some .int) 10 st [.ref (h 1)] r st := by
  unfold f_X6_firstFault at hf
  refine gMi_of (by decide) (Nat.le_of_ble_eq_true rfl) ?_
  intro p e s m args below meth c A ls C hr hlocks G hl
  have C : gC p s m args c cX6_firstFault 4 "LaneOrder$Text" XSh D cy h A := C
  have hl : lv_has ls 4 [(0, .ref (h 1))] := hl
  have hx := C.1
  have hb := C.2.1
  have hown := C.2.2.2.1
  have htb := C.2.2.2.2.1
  refine lv_iconst (v := (-1)) hx hb dX6_firstFault_0 (by decide) ?_
  refine lv_istore_n (lv' := [(1, .int (-1)), (0, .ref (h 1))]) hx hb dX6_firstFault_1 rfl hl (by decide) rfl (fun ls hl => ?_)
  refine lv_iconst (v := 0) hx hb dX6_firstFault_2 (by decide) ?_
  refine lv_istore_n (lv' := [(2, .int 0), (1, .int (-1)), (0, .ref (h 1))]) hx hb dX6_firstFault_3 rfl hl (by decide) rfl (fun ls hl => ?_)
  obtain ⟨n, hn⟩ := lpx_some hf
  have L4 : ∀ (n : Nat) (x1 : Int32) (x2 : Int32) (H : Heap) (locs : List Loc) (ls : Array Slot), gG XSh D cy h A s st H locs → lv_has ls 4 [(0, .ref (h 1)), (1, .int x1), (2, .int x2)] → lp (uc2 (f_X6_firstFault_L4 st)) n (x1, x2) = some r → W p l e (gR 10) s m args below meth c H locs 0 0 (MQ below (gQi XSh D cy h A r st) args s 0 0 A) (F0 m 4 ls []) := by
    intro n
    induction n with
    | zero =>
      intro x1 x2 H locs ls G hl hn
      cases hn
    | succ n ih =>
      intro x1 x2 H locs ls G hl hn
      obtain ⟨q, hf, hq1, hq2⟩ := lp_q hn
      have hf : f_X6_firstFault_L4 st x1 x2 = some q := hf
      unfold f_X6_firstFault_L4 at hf
      refine lv_iload_n hx hb dX6_firstFault_4 rfl (lv_at hl 2 rfl) ?_
      refine lv_aload_n hx hb dX6_firstFault_5 rfl (lv_at hl 0 rfl) ?_
      refine g_geti C G cl6 (C6 ok6_1) (j := 1) (by decide) (F6_1 ok6_1) k1_34 dX6_firstFault_6 ?_
      refine lv_icmp_ge (tgt := 59) hx hb dX6_firstFault_9 (by decide) (fun c3 => ?_) (fun c3 => ?_)
      · have hf := ifP c3 hf
        refine lv_aload_n hx hb dX6_firstFault_59 rfl (lv_at hl 0 rfl) ?_
        refine g_geti C G cl6 (C6 ok6_1) (j := 1) (by decide) (F6_1 ok6_1) k1_34 dX6_firstFault_60 ?_
        cases hf
        have hz9 := hq2 _ rfl
        cases hz9
        exact g_iret C G hr hlocks dX6_firstFault_63
      · have hf := ifN c3 hf
        refine lv_iload_n hx hb dX6_firstFault_12 rfl (lv_at hl 1 rfl) ?_
        refine lv_iconst (v := (-1)) hx hb dX6_firstFault_13 (by decide) ?_
        obtain ⟨x5, hj31, hf⟩ := bI1_some hf
        have K31 : ∀ (H : Heap) (locs : List Loc) (ls : Array Slot) , gG XSh D cy h A s st H locs → lv_has ls 4 [(0, .ref (h 1)), (1, .int x1), (2, .int x2)] → W p l e (gR 10) s m args below meth c H locs 0 0 (MQ below (gQi XSh D cy h A r st) args s 0 0 A) (F0 m 31 ls [.int x5]) := by
          intro H locs ls G hl
          refine lv_istore_n (lv' := [(3, .int x5), (0, .ref (h 1)), (1, .int x1), (2, .int x2)]) hx hb dX6_firstFault_31 rfl hl (by decide) rfl (fun ls hl => ?_)
          refine lv_iload_n hx hb dX6_firstFault_32 rfl (lv_at hl 0 rfl) ?_
          refine lv_if_ne (tgt := 38) hx hb dX6_firstFault_33 (by decide) (fun c8 => ?_) (fun c8 => ?_)
          · have hf := ifN c8 hf
            refine lv_aload_n hx hb dX6_firstFault_38 rfl (lv_at hl 1 rfl) ?_
            refine g_getr (k := 2) C G cl6 (C6 ok6_1) (j := 0) (by decide) (F6_0 ok6_1) k1_32 dX6_firstFault_39 ?_
            refine lv_iload_n hx hb dX6_firstFault_42 rfl (lv_at hl 3 rfl) ?_
            obtain ⟨hi43_8, hf⟩ := gd_some hf
            refine g_iald C G (A6_0 ok6_1) (j := x2.toNatClampNeg) rfl hi43_8 dX6_firstFault_43 ?_
            refine lv_bipush (v := 59) hx hb dX6_firstFault_44 (by decide) ?_
            refine lv_icmp_ne (tgt := 53) hx hb dX6_firstFault_46 (by decide) (fun c10 => ?_) (fun c10 => ?_)
            · have hf := ifN c10 hf
              obtain ⟨x11, ex11⟩ : ∃ z : Int32, z = (x2 + 1) := ⟨_, rfl⟩
              have hf := lt_some ex11 hf
              refine lv_iinc (v := x11) (lv' := [(2, .int x11), (3, .int x5), (0, .ref (h 1)), (1, .int x1)]) hx hb dX6_firstFault_53 hl (k := 3) rfl (by rw [ex11]; rfl) (by decide) rfl (fun ls hl => ?_)
              refine lv_goto (tgt := 4) hx hb dX6_firstFault_56 (by decide) ?_
              cases hf
              exact ih _ _ _ _ _ G (lv_sub hl [2, 3, 0] rfl) (hq1 _ rfl)
            · have hf := ifP c10 hf
              refine lv_iload_n hx hb dX6_firstFault_49 rfl (lv_at hl 3 rfl) ?_
              refine lv_iconst (v := 1) hx hb dX6_firstFault_50 (by decide) ?_
              refine lv_iadd hx hb dX6_firstFault_51 ?_
              refine lv_topi (fun x12 ex12 => ?_)
              have hf := lt_some ex12 hf
              refine lv_istore_n (lv' := [(1, .int x12), (3, .int x5), (0, .ref (h 1)), (2, .int x2)]) hx hb dX6_firstFault_52 rfl hl (by decide) rfl (fun ls hl => ?_)
              obtain ⟨x13, ex13⟩ : ∃ z : Int32, z = (x2 + 1) := ⟨_, rfl⟩
              have hf := lt_some ex13 hf
              refine lv_iinc (v := x13) (lv' := [(2, .int x13), (1, .int x12), (3, .int x5), (0, .ref (h 1))]) hx hb dX6_firstFault_53 hl (k := 3) rfl (by rw [ex13]; rfl) (by decide) rfl (fun ls hl => ?_)
              refine lv_goto (tgt := 4) hx hb dX6_firstFault_56 (by decide) ?_
              cases hf
              exact ih _ _ _ _ _ G (lv_sub hl [3, 1, 0] rfl) (hq1 _ rfl)
          · have hf := ifP c8 hf
            refine lv_iload_n hx hb dX6_firstFault_36 rfl (lv_at hl 3 rfl) ?_
            cases hf
            have hz9 := hq2 _ rfl
            cases hz9
            exact g_iret C G hr hlocks dX6_firstFault_37
        clear hf
        refine lv_icmp_ne (tgt := 25) hx hb dX6_firstFault_14 (by decide) (fun c4 => ?_) (fun c4 => ?_)
        · have hf := ifN c4 hj31
          refine lv_aload_n hx hb dX6_firstFault_25 rfl (lv_at hl 0 rfl) ?_
          refine lv_iload_n hx hb dX6_firstFault_26 rfl (lv_at hl 2 rfl) ?_
          refine lv_iload_n hx hb dX6_firstFault_27 rfl (lv_at hl 1 rfl) ?_
          obtain ⟨r6, hc28_6, hf⟩ := bI1_some hf
          refine g_callVi C G (As := [.int x2, .int x1]) (rest := []) (c_X6_fitsRules l D cy h x2 x1 st r6 hc28_6) cl6 rfl (C6 ok6_1) v_X6_23 (Nat.le_of_ble_eq_true rfl) (Nat.le_of_ble_eq_true rfl) rfl hl.1 rfl (Nat.le_of_ble_eq_true rfl) dX6_firstFault_28 ⟨Nat.zero_le _, Nat.zero_le _⟩ (fun H locs G => ?_)
          cases hf
          exact K31 _ _ _ G hl
        · have hf := ifP c4 hj31
          refine lv_aload_n hx hb dX6_firstFault_17 rfl (lv_at hl 0 rfl) ?_
          refine lv_iload_n hx hb dX6_firstFault_18 rfl (lv_at hl 2 rfl) ?_
          obtain ⟨r7, hc19_7, hf⟩ := bI1_some hf
          refine g_callVi C G (As := [.int x2]) (rest := []) (c_X6_fitsBoxes l D cy h x2 st r7 hc19_7) cl6 rfl (C6 ok6_1) v_X6_19 (Nat.le_of_ble_eq_true rfl) (Nat.le_of_ble_eq_true rfl) rfl hl.1 rfl (Nat.le_of_ble_eq_true rfl) dX6_firstFault_19 ⟨Nat.zero_le _, Nat.zero_le _⟩ (fun H locs G => ?_)
          refine lv_goto (tgt := 31) hx hb dX6_firstFault_22 (by decide) ?_
          cases hf
          exact K31 _ _ _ G hl
  exact L4 n _ _ _ _ _ G (lv_sub hl [2, 1, 0] rfl) hn

noncomputable def f_X6_rulesPlace_L2 (st : GS) (x1 : Int32) : Option ((Int32) ⊕ (Int32)) := 
(if (gt st 1 1) ≤ x1 then some (.inr (-1)) else 
gd x1 54 ((if (gt st 2 (x1.toNatClampNeg)) = 59 then some (.inr (x1 + 1)) else 
lt_ (x1 + 1) (fun x5 => 
some (.inl (x5))))))
noncomputable def f_X6_rulesPlace (st : GS) : Option (Int32) := 
lpx (uc1 (f_X6_rulesPlace_L2 st)) (0)
set_option maxRecDepth 100000 in
set_option maxHeartbeats 4000000 in
theorem c_X6_rulesPlace (l : Launch) (D : va_G) (cy : ClassId) (h : Nat → Nat)  (st : GS) (r : Int32) (hf : f_X6_rulesPlace st = some r) : gMi l XSh D cy h yX6_rulesPlace cX6_rulesPlace 2 (some .int) 1 st [.ref (h 1)] r st := by
  unfold f_X6_rulesPlace at hf
  refine gMi_of (by decide) (Nat.le_of_ble_eq_true rfl) ?_
  intro p e s m args below meth c A ls C hr hlocks G hl
  have C : gC p s m args c cX6_rulesPlace 2 "LaneOrder$Text" XSh D cy h A := C
  have hl : lv_has ls 2 [(0, .ref (h 1))] := hl
  have hx := C.1
  have hb := C.2.1
  have hown := C.2.2.2.1
  have htb := C.2.2.2.2.1
  refine lv_iconst (v := 0) hx hb dX6_rulesPlace_0 (by decide) ?_
  refine lv_istore_n (lv' := [(1, .int 0), (0, .ref (h 1))]) hx hb dX6_rulesPlace_1 rfl hl (by decide) rfl (fun ls hl => ?_)
  obtain ⟨n, hn⟩ := lpx_some hf
  have L2 : ∀ (n : Nat) (x1 : Int32) (H : Heap) (locs : List Loc) (ls : Array Slot), gG XSh D cy h A s st H locs → lv_has ls 2 [(0, .ref (h 1)), (1, .int x1)] → lp (uc1 (f_X6_rulesPlace_L2 st)) n (x1) = some r → W p l e (gR 1) s m args below meth c H locs 0 0 (MQ below (gQi XSh D cy h A r st) args s 0 0 A) (F0 m 2 ls []) := by
    intro n
    induction n with
    | zero =>
      intro x1 H locs ls G hl hn
      cases hn
    | succ n ih =>
      intro x1 H locs ls G hl hn
      obtain ⟨q, hf, hq1, hq2⟩ := lp_q hn
      have hf : f_X6_rulesPlace_L2 st x1 = some q := hf
      unfold f_X6_rulesPlace_L2 at hf
      refine lv_iload_n hx hb dX6_rulesPlace_2 rfl (lv_at hl 1 rfl) ?_
      refine lv_aload_n hx hb dX6_rulesPlace_3 rfl (lv_at hl 0 rfl) ?_
      refine g_geti C G cl6 (C6 ok6_1) (j := 1) (by decide) (F6_1 ok6_1) k1_34 dX6_rulesPlace_4 ?_
      refine lv_icmp_ge (tgt := 31) hx hb dX6_rulesPlace_7 (by decide) (fun c2 => ?_) (fun c2 => ?_)
      · have hf := ifP c2 hf
        refine lv_iconst (v := (-1)) hx hb dX6_rulesPlace_31 (by decide) ?_
        cases hf
        have hz9 := hq2 _ rfl
        cases hz9
        exact g_iret C G hr hlocks dX6_rulesPlace_32
      · have hf := ifN c2 hf
        refine lv_aload_n hx hb dX6_rulesPlace_10 rfl (lv_at hl 0 rfl) ?_
        refine g_getr (k := 2) C G cl6 (C6 ok6_1) (j := 0) (by decide) (F6_0 ok6_1) k1_32 dX6_rulesPlace_11 ?_
        refine lv_iload_n hx hb dX6_rulesPlace_14 rfl (lv_at hl 1 rfl) ?_
        obtain ⟨hi15_2, hf⟩ := gd_some hf
        refine g_iald C G (A6_0 ok6_1) (j := x1.toNatClampNeg) rfl hi15_2 dX6_rulesPlace_15 ?_
        refine lv_bipush (v := 59) hx hb dX6_rulesPlace_16 (by decide) ?_
        refine lv_icmp_ne (tgt := 25) hx hb dX6_rulesPlace_18 (by decide) (fun c4 => ?_) (fun c4 => ?_)
        · have hf := ifN c4 hf
          obtain ⟨x5, ex5⟩ : ∃ z : Int32, z = (x1 + 1) := ⟨_, rfl⟩
          have hf := lt_some ex5 hf
          refine lv_iinc (v := x5) (lv' := [(1, .int x5), (0, .ref (h 1))]) hx hb dX6_rulesPlace_25 hl (k := 1) rfl (by rw [ex5]; rfl) (by decide) rfl (fun ls hl => ?_)
          refine lv_goto (tgt := 2) hx hb dX6_rulesPlace_28 (by decide) ?_
          cases hf
          exact ih _ _ _ _ G (lv_sub hl [1, 0] rfl) (hq1 _ rfl)
        · have hf := ifP c4 hf
          refine lv_iload_n hx hb dX6_rulesPlace_21 rfl (lv_at hl 1 rfl) ?_
          refine lv_iconst (v := 1) hx hb dX6_rulesPlace_22 (by decide) ?_
          refine lv_iadd hx hb dX6_rulesPlace_23 ?_
          cases hf
          have hz9 := hq2 _ rfl
          cases hz9
          exact g_iret C G hr hlocks dX6_rulesPlace_24
  exact L2 n _ _ _ _ G (lv_sub hl [1, 0] rfl) hn

noncomputable def f_X6_isPage (st : GS) : Option (Int32) := 
bI1 (f_X6_rulesPlace st) (fun r1 => 
(if r1 = (-1) then some (0) else 
(if (gt st 1 1) ≤ r1 then some (0) else 
bI1 (f_X6_firstFault st) (fun r4 => 
(if r4 = (gt st 1 1) then some (1) else 
some (0))))))
set_option maxRecDepth 100000 in
set_option maxHeartbeats 4000000 in
theorem c_X6_isPage (l : Launch) (D : va_G) (cy : ClassId) (h : Nat → Nat)  (st : GS) (r : Int32) (hf : f_X6_isPage st = some r) : gMi l XSh D cy h yX6_isPage cX6_isPage 2 (some .boolean) 11 st [.ref (h 1)] r st := by
  unfold f_X6_isPage at hf
  refine gMi_of (by decide) (Nat.le_of_ble_eq_true rfl) ?_
  intro p e s m args below meth c A ls C hr hlocks G hl
  have C : gC p s m args c cX6_isPage 2 "LaneOrder$Text" XSh D cy h A := C
  have hl : lv_has ls 2 [(0, .ref (h 1))] := hl
  have hx := C.1
  have hb := C.2.1
  have hown := C.2.2.2.1
  have htb := C.2.2.2.2.1
  refine lv_aload_n hx hb dX6_isPage_0 rfl (lv_at hl 0 rfl) ?_
  obtain ⟨r1, hc1_1, hf⟩ := bI1_some hf
  refine g_callVi C G (As := []) (rest := []) (c_X6_rulesPlace l D cy h st r1 hc1_1) cl6 rfl (C6 ok6_1) v_X6_27 (Nat.le_of_ble_eq_true rfl) (Nat.le_of_ble_eq_true rfl) rfl hl.1 rfl (Nat.le_of_ble_eq_true rfl) dX6_isPage_1 ⟨Nat.zero_le _, Nat.zero_le _⟩ (fun H locs G => ?_)
  refine lv_istore_n (lv' := [(1, .int r1), (0, .ref (h 1))]) hx hb dX6_isPage_4 rfl hl (by decide) rfl (fun ls hl => ?_)
  refine lv_iload_n hx hb dX6_isPage_5 rfl (lv_at hl 0 rfl) ?_
  refine lv_iconst (v := (-1)) hx hb dX6_isPage_6 (by decide) ?_
  refine lv_icmp_eq (tgt := 33) hx hb dX6_isPage_7 (by decide) (fun c2 => ?_) (fun c2 => ?_)
  · have hf := ifP c2 hf
    refine lv_iconst (v := 0) hx hb dX6_isPage_33 (by decide) ?_
    cases hf
    exact g_zret C G (Or.inl rfl) hr hlocks dX6_isPage_34
  · have hf := ifN c2 hf
    refine lv_iload_n hx hb dX6_isPage_10 rfl (lv_at hl 0 rfl) ?_
    refine lv_aload_n hx hb dX6_isPage_11 rfl (lv_at hl 1 rfl) ?_
    refine g_geti C G cl6 (C6 ok6_1) (j := 1) (by decide) (F6_1 ok6_1) k1_34 dX6_isPage_12 ?_
    refine lv_icmp_ge (tgt := 33) hx hb dX6_isPage_15 (by decide) (fun c3 => ?_) (fun c3 => ?_)
    · have hf := ifP c3 hf
      refine lv_iconst (v := 0) hx hb dX6_isPage_33 (by decide) ?_
      cases hf
      exact g_zret C G (Or.inl rfl) hr hlocks dX6_isPage_34
    · have hf := ifN c3 hf
      refine lv_aload_n hx hb dX6_isPage_18 rfl (lv_at hl 1 rfl) ?_
      obtain ⟨r4, hc19_4, hf⟩ := bI1_some hf
      refine g_callVi C G (As := []) (rest := []) (c_X6_firstFault l D cy h st r4 hc19_4) cl6 rfl (C6 ok6_1) v_X6_31 (Nat.le_of_ble_eq_true rfl) (Nat.le_of_ble_eq_true rfl) rfl hl.1 rfl (Nat.le_of_ble_eq_true rfl) dX6_isPage_19 ⟨Nat.zero_le _, Nat.zero_le _⟩ (fun H locs G => ?_)
      refine lv_aload_n hx hb dX6_isPage_22 rfl (lv_at hl 1 rfl) ?_
      refine g_geti C G cl6 (C6 ok6_1) (j := 1) (by decide) (F6_1 ok6_1) k1_34 dX6_isPage_23 ?_
      refine lv_icmp_ne (tgt := 33) hx hb dX6_isPage_26 (by decide) (fun c5 => ?_) (fun c5 => ?_)
      · have hf := ifN c5 hf
        refine lv_iconst (v := 0) hx hb dX6_isPage_33 (by decide) ?_
        cases hf
        exact g_zret C G (Or.inl rfl) hr hlocks dX6_isPage_34
      · have hf := ifP c5 hf
        refine lv_iconst (v := 1) hx hb dX6_isPage_29 (by decide) ?_
        refine lv_goto (tgt := 34) hx hb dX6_isPage_30 (by decide) ?_
        cases hf
        exact g_zret C G (Or.inr rfl) hr hlocks dX6_isPage_34

noncomputable def f_X6_digitAt (a1 : Int32) (st : GS) : Option (Int32) := 
(if (gt st 1 1) ≤ a1 then some (0) else 
gd a1 54 (some (((gt st 2 (a1.toNatClampNeg)) - 48))))
set_option maxRecDepth 100000 in
set_option maxHeartbeats 4000000 in
theorem c_X6_digitAt (l : Launch) (D : va_G) (cy : ClassId) (h : Nat → Nat) (a1 : Int32) (st : GS) (r : Int32) (hf : f_X6_digitAt a1 st = some r) : gMi l XSh D cy h yX6_digitAt cX6_digitAt 2 (some .int) 1 st [.ref (h 1), .int a1] r st := by
  unfold f_X6_digitAt at hf
  refine gMi_of (by decide) (Nat.le_of_ble_eq_true rfl) ?_
  intro p e s m args below meth c A ls C hr hlocks G hl
  have C : gC p s m args c cX6_digitAt 2 "LaneOrder$Text" XSh D cy h A := C
  have hl : lv_has ls 2 [(0, .ref (h 1)), (1, .int a1)] := hl
  have hx := C.1
  have hb := C.2.1
  have hown := C.2.2.2.1
  have htb := C.2.2.2.2.1
  refine lv_iload_n hx hb dX6_digitAt_0 rfl (lv_at hl 1 rfl) ?_
  refine lv_aload_n hx hb dX6_digitAt_1 rfl (lv_at hl 0 rfl) ?_
  refine g_geti C G cl6 (C6 ok6_1) (j := 1) (by decide) (F6_1 ok6_1) k1_34 dX6_digitAt_2 ?_
  refine lv_icmp_ge (tgt := 20) hx hb dX6_digitAt_5 (by decide) (fun c1 => ?_) (fun c1 => ?_)
  · have hf := ifP c1 hf
    refine lv_iconst (v := 0) hx hb dX6_digitAt_20 (by decide) ?_
    cases hf
    exact g_iret C G hr hlocks dX6_digitAt_21
  · have hf := ifN c1 hf
    refine lv_aload_n hx hb dX6_digitAt_8 rfl (lv_at hl 0 rfl) ?_
    refine g_getr (k := 2) C G cl6 (C6 ok6_1) (j := 0) (by decide) (F6_0 ok6_1) k1_32 dX6_digitAt_9 ?_
    refine lv_iload_n hx hb dX6_digitAt_12 rfl (lv_at hl 1 rfl) ?_
    obtain ⟨hi13_1, hf⟩ := gd_some hf
    refine g_iald C G (A6_0 ok6_1) (j := a1.toNatClampNeg) rfl hi13_1 dX6_digitAt_13 ?_
    refine lv_bipush (v := 48) hx hb dX6_digitAt_14 (by decide) ?_
    refine lv_isub hx hb dX6_digitAt_16 ?_
    refine lv_goto (tgt := 21) hx hb dX6_digitAt_17 (by decide) ?_
    cases hf
    exact g_iret C G hr hlocks dX6_digitAt_21

noncomputable def f_X6_writeTo_L11 (a1 : Nat) (r1 : Int32) (x3 : Int32) (st4 : GS) : Option ((Int32 × GS) ⊕ (GS)) := 
(if r1 < (x3 + 6) then some (.inr (st4)) else 
gd x3 54 (bI1 (f_X6_kindOf (gt st4 2 (x3.toNatClampNeg))) (fun r7 => 
bI1 (f_X6_digitAt (x3 + 1) st4) (fun r8 => 
bI1 (f_X6_digitAt (x3 + 2) st4) (fun r9 => 
bI1 (f_X6_digitAt (x3 + 3) st4) (fun r10 => 
bI1 (f_X6_digitAt (x3 + 4) st4) (fun r11 => 
bI1 (f_X5_add a1 r7 r8 r9 r10 r11 st4) (fun st12 => 
lt_ (x3 + 6) (fun x13 => 
some (.inl (x13, st12)))))))))))
noncomputable def f_X6_writeTo_L72 (a1 : Nat) (x16 : Int32) (st17 : GS) : Option ((Int32 × GS) ⊕ (GS)) := 
(if (gt st17 1 1) ≤ x16 then some (.inr (st17)) else 
bI1 (f_X6_digitAt x16 st17) (fun r19 => 
bI1 (f_X5_addRule a1 r19 st17) (fun st20 => 
lt_ (x16 + 1) (fun x21 => 
some (.inl (x21, st20))))))
noncomputable def f_X6_writeTo (a1 : Nat) (st : GS) : Option (GS) := 
bI1 (f_X6_rulesPlace st) (fun r1 => 
bI1 (f_X5_clear a1 st) (fun st2 => 
bI1 (lpx (uc2 (f_X6_writeTo_L11 a1 r1)) (0, st2)) (fun st14 => 
lt_ (imax r1 0) (fun x15 => 
bI1 (lpx (uc2 (f_X6_writeTo_L72 a1)) (x15, st14)) (fun st22 => 
some (st22))))))
set_option maxRecDepth 100000 in
set_option maxHeartbeats 4000000 in
theorem c_X6_writeTo (l : Launch) (D : va_G) (cy : ClassId) (h : Nat → Nat) (a1 : Nat) (ha1 : ok5 a1) (st : GS) (stF : GS) (hf : f_X6_writeTo a1 st = some stF) : gMv l XSh D cy h yX6_writeTo cX6_writeTo 4 none 9 st [.ref (h 1), .ref (h a1)] stF := by
  unfold f_X6_writeTo at hf
  refine gMv_of (by decide) (Nat.le_of_ble_eq_true rfl) ?_
  intro p e s m args below meth c A ls C hr hlocks G hl
  have C : gC p s m args c cX6_writeTo 4 "LaneOrder$Text" XSh D cy h A := C
  have hl : lv_has ls 4 [(0, .ref (h 1)), (1, .ref (h a1))] := hl
  have hx := C.1
  have hb := C.2.1
  have hown := C.2.2.2.1
  have htb := C.2.2.2.2.1
  refine lv_aload_n hx hb dX6_writeTo_0 rfl (lv_at hl 0 rfl) ?_
  obtain ⟨r1, hc1_1, hf⟩ := bI1_some hf
  refine g_callVi C G (As := []) (rest := []) (c_X6_rulesPlace l D cy h st r1 hc1_1) cl6 rfl (C6 ok6_1) v_X6_27 (Nat.le_of_ble_eq_true rfl) (Nat.le_of_ble_eq_true rfl) rfl hl.1 rfl (Nat.le_of_ble_eq_true rfl) dX6_writeTo_1 ⟨Nat.zero_le _, Nat.zero_le _⟩ (fun H locs G => ?_)
  refine lv_istore_n (lv' := [(2, .int r1), (0, .ref (h 1)), (1, .ref (h a1))]) hx hb dX6_writeTo_4 rfl hl (by decide) rfl (fun ls hl => ?_)
  refine lv_aload_n hx hb dX6_writeTo_5 rfl (lv_at hl 2 rfl) ?_
  obtain ⟨st2, hc6_2, hf⟩ := bI1_some hf
  refine g_callVv C G (As := []) (rest := []) (c_X5_clear l D cy h a1 ha1 st st2 hc6_2) cl5 rfl (C5 ha1) v_X6_34 (Nat.le_of_ble_eq_true rfl) (Nat.le_of_ble_eq_true rfl) rfl hl.1 rfl (Nat.le_of_ble_eq_true rfl) dX6_writeTo_6 ⟨Nat.zero_le _, Nat.zero_le _⟩ (fun H locs G => ?_)
  refine lv_iconst (v := 0) hx hb dX6_writeTo_9 (by decide) ?_
  refine lv_istore_n (lv' := [(3, .int 0), (2, .int r1), (0, .ref (h 1)), (1, .ref (h a1))]) hx hb dX6_writeTo_10 rfl hl (by decide) rfl (fun ls hl => ?_)
  obtain ⟨st14, hn, hf⟩ := bI1_some hf
  obtain ⟨n, hn⟩ := lpx_some hn
  have K66 : ∀ (H : Heap) (locs : List Loc) (ls : Array Slot), gG XSh D cy h A s st14 H locs → lv_has ls 4 [(0, .ref (h 1)), (1, .ref (h a1)), (2, .int r1)] → W p l e (gR 9) s m args below meth c H locs 0 0 (MQ below (gQv XSh D cy h A stF) args s 0 0 A) (F0 m 66 ls []) := by
    intro H locs ls G hl
    refine lv_iload_n hx hb dX6_writeTo_66 rfl (lv_at hl 2 rfl) ?_
    refine lv_iconst (v := 0) hx hb dX6_writeTo_67 (by decide) ?_
    refine g_max C hl.1 kl_X6_50 mmax_s ini_java_lang_Math mmax_c (Nat.le_of_ble_eq_true rfl) (Nat.le_of_ble_eq_true rfl) (Nat.zero_le _) (Nat.zero_le _) dX6_writeTo_68 ?_
    refine lv_topi (fun x15 ex15 => ?_)
    have hf := lt_some ex15 hf
    refine lv_istore_n (lv' := [(3, .int x15), (0, .ref (h 1)), (1, .ref (h a1)), (2, .int r1)]) hx hb dX6_writeTo_71 rfl hl (by decide) rfl (fun ls hl => ?_)
    obtain ⟨st22, hn, hf⟩ := bI1_some hf
    obtain ⟨n, hn⟩ := lpx_some hn
    have K95 : ∀ (H : Heap) (locs : List Loc) (ls : Array Slot), gG XSh D cy h A s st22 H locs → lv_has ls 4 [] → W p l e (gR 9) s m args below meth c H locs 0 0 (MQ below (gQv XSh D cy h A stF) args s 0 0 A) (F0 m 95 ls []) := by
      intro H locs ls G hl
      cases hf
      exact g_vret C G hr hlocks dX6_writeTo_95
    have L72 : ∀ (n : Nat) (x16 : Int32) (st17 : GS) (H : Heap) (locs : List Loc) (ls : Array Slot), gG XSh D cy h A s st17 H locs → lv_has ls 4 [(0, .ref (h 1)), (1, .ref (h a1)), (3, .int x16)] → lp (uc2 (f_X6_writeTo_L72 a1)) n (x16, st17) = some (st22) → W p l e (gR 9) s m args below meth c H locs 0 0 (MQ below (gQv XSh D cy h A stF) args s 0 0 A) (F0 m 72 ls []) := by
      intro n
      induction n with
      | zero =>
        intro x16 st17 H locs ls G hl hn
        cases hn
      | succ n ih =>
        intro x16 st17 H locs ls G hl hn
        obtain ⟨q, hf, hq1, hq2⟩ := lp_q hn
        have hf : f_X6_writeTo_L72 a1 x16 st17 = some q := hf
        unfold f_X6_writeTo_L72 at hf
        refine lv_iload_n hx hb dX6_writeTo_72 rfl (lv_at hl 2 rfl) ?_
        refine lv_aload_n hx hb dX6_writeTo_73 rfl (lv_at hl 0 rfl) ?_
        refine g_geti C G cl6 (C6 ok6_1) (j := 1) (by decide) (F6_1 ok6_1) k1_34 dX6_writeTo_74 ?_
        refine lv_icmp_ge (tgt := 95) hx hb dX6_writeTo_77 (by decide) (fun c18 => ?_) (fun c18 => ?_)
        · have hf := ifP c18 hf
          cases hf
          have hz9 := hq2 _ rfl
          cases hz9
          exact K95 _ _ _ G (lv_sub hl [] rfl)
        · have hf := ifN c18 hf
          refine lv_aload_n hx hb dX6_writeTo_80 rfl (lv_at hl 1 rfl) ?_
          refine lv_aload_n hx hb dX6_writeTo_81 rfl (lv_at hl 0 rfl) ?_
          refine lv_iload_n hx hb dX6_writeTo_82 rfl (lv_at hl 2 rfl) ?_
          obtain ⟨r19, hc83_19, hf⟩ := bI1_some hf
          refine g_callVi C G (As := [.int x16]) (rest := [.ref (h a1)]) (c_X6_digitAt l D cy h x16 st17 r19 hc83_19) cl6 rfl (C6 ok6_1) v_X6_43 (Nat.le_of_ble_eq_true rfl) (Nat.le_of_ble_eq_true rfl) rfl hl.1 rfl (Nat.le_of_ble_eq_true rfl) dX6_writeTo_83 ⟨Nat.zero_le _, Nat.zero_le _⟩ (fun H locs G => ?_)
          obtain ⟨st20, hc86_20, hf⟩ := bI1_some hf
          refine g_callVv C G (As := [.int r19]) (rest := []) (c_X5_addRule l D cy h a1 ha1 r19 st17 st20 hc86_20) cl5 rfl (C5 ha1) v_X6_56 (Nat.le_of_ble_eq_true rfl) (Nat.le_of_ble_eq_true rfl) rfl hl.1 rfl (Nat.le_of_ble_eq_true rfl) dX6_writeTo_86 ⟨Nat.zero_le _, Nat.zero_le _⟩ (fun H locs G => ?_)
          obtain ⟨x21, ex21⟩ : ∃ z : Int32, z = (x16 + 1) := ⟨_, rfl⟩
          have hf := lt_some ex21 hf
          refine lv_iinc (v := x21) (lv' := [(3, .int x21), (0, .ref (h 1)), (1, .ref (h a1))]) hx hb dX6_writeTo_89 hl (k := 2) rfl (by rw [ex21]; rfl) (by decide) rfl (fun ls hl => ?_)
          refine lv_goto (tgt := 72) hx hb dX6_writeTo_92 (by decide) ?_
          cases hf
          exact ih _ _ _ _ _ G (lv_sub hl [1, 2, 0] rfl) (hq1 _ rfl)
    exact L72 n _ _ _ _ _ G (lv_sub hl [1, 2, 0] rfl) hn
  have L11 : ∀ (n : Nat) (x3 : Int32) (st4 : GS) (H : Heap) (locs : List Loc) (ls : Array Slot), gG XSh D cy h A s st4 H locs → lv_has ls 4 [(0, .ref (h 1)), (1, .ref (h a1)), (2, .int r1), (3, .int x3)] → lp (uc2 (f_X6_writeTo_L11 a1 r1)) n (x3, st4) = some (st14) → W p l e (gR 9) s m args below meth c H locs 0 0 (MQ below (gQv XSh D cy h A stF) args s 0 0 A) (F0 m 11 ls []) := by
    intro n
    induction n with
    | zero =>
      intro x3 st4 H locs ls G hl hn
      cases hn
    | succ n ih =>
      intro x3 st4 H locs ls G hl hn
      obtain ⟨q, hf, hq1, hq2⟩ := lp_q hn
      have hf : f_X6_writeTo_L11 a1 r1 x3 st4 = some q := hf
      unfold f_X6_writeTo_L11 at hf
      refine lv_iload_n hx hb dX6_writeTo_11 rfl (lv_at hl 3 rfl) ?_
      refine lv_bipush (v := 6) hx hb dX6_writeTo_12 (by decide) ?_
      refine lv_iadd hx hb dX6_writeTo_14 ?_
      refine lv_iload_n hx hb dX6_writeTo_15 rfl (lv_at hl 2 rfl) ?_
      refine lv_icmp_gt (tgt := 66) hx hb dX6_writeTo_16 (by decide) (fun c5 => ?_) (fun c5 => ?_)
      · have hf := ifP c5 hf
        cases hf
        have hz9 := hq2 _ rfl
        cases hz9
        exact K66 _ _ _ G (lv_sub hl [0, 1, 2] rfl)
      · have hf := ifN c5 hf
        refine lv_aload_n hx hb dX6_writeTo_19 rfl (lv_at hl 1 rfl) ?_
        refine lv_aload_n hx hb dX6_writeTo_20 rfl (lv_at hl 0 rfl) ?_
        refine g_getr (k := 2) C G cl6 (C6 ok6_1) (j := 0) (by decide) (F6_0 ok6_1) k1_32 dX6_writeTo_21 ?_
        refine lv_iload_n hx hb dX6_writeTo_24 rfl (lv_at hl 3 rfl) ?_
        obtain ⟨hi25_5, hf⟩ := gd_some hf
        refine g_iald C G (A6_0 ok6_1) (j := x3.toNatClampNeg) rfl hi25_5 dX6_writeTo_25 ?_
        obtain ⟨r7, hc26_7, hf⟩ := bI1_some hf
        refine g_callSi C G (As := [.int (gt st4 2 (x3.toNatClampNeg))]) (rest := [.ref (h a1)]) (c_X6_kindOf l D cy h (gt st4 2 (x3.toNatClampNeg)) st4 r7 hc26_7) v_X6_39 (Nat.le_of_ble_eq_true rfl) (Nat.le_of_ble_eq_true rfl) rfl hl.1 rfl (Nat.le_of_ble_eq_true rfl) dX6_writeTo_26 ⟨Nat.zero_le _, Nat.zero_le _⟩ (fun H locs G => ?_)
        refine lv_aload_n hx hb dX6_writeTo_29 rfl (lv_at hl 0 rfl) ?_
        refine lv_iload_n hx hb dX6_writeTo_30 rfl (lv_at hl 3 rfl) ?_
        refine lv_iconst (v := 1) hx hb dX6_writeTo_31 (by decide) ?_
        refine lv_iadd hx hb dX6_writeTo_32 ?_
        obtain ⟨r8, hc33_8, hf⟩ := bI1_some hf
        refine g_callVi C G (As := [.int (x3 + 1)]) (rest := [.int r7, .ref (h a1)]) (c_X6_digitAt l D cy h (x3 + 1) st4 r8 hc33_8) cl6 rfl (C6 ok6_1) v_X6_43 (Nat.le_of_ble_eq_true rfl) (Nat.le_of_ble_eq_true rfl) rfl hl.1 rfl (Nat.le_of_ble_eq_true rfl) dX6_writeTo_33 ⟨Nat.zero_le _, Nat.zero_le _⟩ (fun H locs G => ?_)
        refine lv_aload_n hx hb dX6_writeTo_36 rfl (lv_at hl 0 rfl) ?_
        refine lv_iload_n hx hb dX6_writeTo_37 rfl (lv_at hl 3 rfl) ?_
        refine lv_iconst (v := 2) hx hb dX6_writeTo_38 (by decide) ?_
        refine lv_iadd hx hb dX6_writeTo_39 ?_
        obtain ⟨r9, hc40_9, hf⟩ := bI1_some hf
        refine g_callVi C G (As := [.int (x3 + 2)]) (rest := [.int r8, .int r7, .ref (h a1)]) (c_X6_digitAt l D cy h (x3 + 2) st4 r9 hc40_9) cl6 rfl (C6 ok6_1) v_X6_43 (Nat.le_of_ble_eq_true rfl) (Nat.le_of_ble_eq_true rfl) rfl hl.1 rfl (Nat.le_of_ble_eq_true rfl) dX6_writeTo_40 ⟨Nat.zero_le _, Nat.zero_le _⟩ (fun H locs G => ?_)
        refine lv_aload_n hx hb dX6_writeTo_43 rfl (lv_at hl 0 rfl) ?_
        refine lv_iload_n hx hb dX6_writeTo_44 rfl (lv_at hl 3 rfl) ?_
        refine lv_iconst (v := 3) hx hb dX6_writeTo_45 (by decide) ?_
        refine lv_iadd hx hb dX6_writeTo_46 ?_
        obtain ⟨r10, hc47_10, hf⟩ := bI1_some hf
        refine g_callVi C G (As := [.int (x3 + 3)]) (rest := [.int r9, .int r8, .int r7, .ref (h a1)]) (c_X6_digitAt l D cy h (x3 + 3) st4 r10 hc47_10) cl6 rfl (C6 ok6_1) v_X6_43 (Nat.le_of_ble_eq_true rfl) (Nat.le_of_ble_eq_true rfl) rfl hl.1 rfl (Nat.le_of_ble_eq_true rfl) dX6_writeTo_47 ⟨Nat.zero_le _, Nat.zero_le _⟩ (fun H locs G => ?_)
        refine lv_aload_n hx hb dX6_writeTo_50 rfl (lv_at hl 0 rfl) ?_
        refine lv_iload_n hx hb dX6_writeTo_51 rfl (lv_at hl 3 rfl) ?_
        refine lv_iconst (v := 4) hx hb dX6_writeTo_52 (by decide) ?_
        refine lv_iadd hx hb dX6_writeTo_53 ?_
        obtain ⟨r11, hc54_11, hf⟩ := bI1_some hf
        refine g_callVi C G (As := [.int (x3 + 4)]) (rest := [.int r10, .int r9, .int r8, .int r7, .ref (h a1)]) (c_X6_digitAt l D cy h (x3 + 4) st4 r11 hc54_11) cl6 rfl (C6 ok6_1) v_X6_43 (Nat.le_of_ble_eq_true rfl) (Nat.le_of_ble_eq_true rfl) rfl hl.1 rfl (Nat.le_of_ble_eq_true rfl) dX6_writeTo_54 ⟨Nat.zero_le _, Nat.zero_le _⟩ (fun H locs G => ?_)
        obtain ⟨st12, hc57_12, hf⟩ := bI1_some hf
        refine g_callVv C G (As := [.int r7, .int r8, .int r9, .int r10, .int r11]) (rest := []) (c_X5_add l D cy h a1 ha1 r7 r8 r9 r10 r11 st4 st12 hc57_12) cl5 rfl (C5 ha1) v_X6_46 (Nat.le_of_ble_eq_true rfl) (Nat.le_of_ble_eq_true rfl) rfl hl.1 rfl (Nat.le_of_ble_eq_true rfl) dX6_writeTo_57 ⟨Nat.zero_le _, Nat.zero_le _⟩ (fun H locs G => ?_)
        obtain ⟨x13, ex13⟩ : ∃ z : Int32, z = (x3 + 6) := ⟨_, rfl⟩
        have hf := lt_some ex13 hf
        refine lv_iinc (v := x13) (lv' := [(3, .int x13), (0, .ref (h 1)), (1, .ref (h a1)), (2, .int r1)]) hx hb dX6_writeTo_60 hl (k := 3) rfl (by rw [ex13]; rfl) (by decide) rfl (fun ls hl => ?_)
        refine lv_goto (tgt := 11) hx hb dX6_writeTo_63 (by decide) ?_
        cases hf
        exact ih _ _ _ _ _ G (lv_sub hl [1, 2, 3, 0] rfl) (hq1 _ rfl)
  exact L11 n _ _ _ _ _ G (lv_sub hl [2, 3, 1, 0] rfl) hn
