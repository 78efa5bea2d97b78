noncomputable def f_X8_in (a1 : Int64) (a2 : Int64) (a3 : Int64) : Option (Int32) := 
(if (lg_cmp a1 a2) < 0 then some (0) else 
(if 0 < (lg_cmp a1 a3) then some (0) else 
some (1)))
set_option maxRecDepth 100000 in
set_option maxHeartbeats 4000000 in
theorem c_X8_in (l : Launch) (D : va_G) (cy : ClassId) (h : Nat → Nat) (a1 : Int64) (a2 : Int64) (a3 : Int64) (st : GS) (r : Int32) (hf : f_X8_in a1 a2 a3 = some r) : gMi l MSh D cy h yX8_in cX8_in 6 (some .boolean) 1 st [.long a1, .long a2, .long a3] r st := by
  unfold f_X8_in at hf
  refine gMi_of (by decide) (Nat.le_of_ble_eq_true rfl) ?_
  intro p e s m args below meth c A ls C hr hlocks G hl
  have C : gC p s m args c cX8_in 6 "LaneOrderModel" MSh D cy h A := C
  have hl : lv_has ls 6 [(0, .long a1), (2, .long a2), (4, .long a3)] := hl
  have hx := C.1
  have hb := C.2.1
  have hown := C.2.2.2.1
  have htb := C.2.2.2.2.1
  refine lv_lload_n hx hb dX8_in_0 rfl (lv_at hl 0 rfl) ?_
  refine lv_lload_n hx hb dX8_in_1 rfl (lv_at hl 1 rfl) ?_
  refine W.lcmp hx hb dX8_in_2 ?_
  refine lv_if_lt (tgt := 17) hx hb dX8_in_3 (by decide) (fun c1 => ?_) (fun c1 => ?_)
  · have hf := ifP c1 hf
    refine lv_iconst (v := 0) hx hb dX8_in_17 (by decide) ?_
    cases hf
    exact g_zret C G (Or.inl rfl) hr hlocks dX8_in_18
  · have hf := ifN c1 hf
    refine lv_lload_n hx hb dX8_in_6 rfl (lv_at hl 0 rfl) ?_
    refine lv_lload hx hb dX8_in_7 (lv_at hl 2 rfl) ?_
    refine W.lcmp hx hb dX8_in_9 ?_
    refine lv_if_gt (tgt := 17) hx hb dX8_in_10 (by decide) (fun c2 => ?_) (fun c2 => ?_)
    · have hf := ifP c2 hf
      refine lv_iconst (v := 0) hx hb dX8_in_17 (by decide) ?_
      cases hf
      exact g_zret C G (Or.inl rfl) hr hlocks dX8_in_18
    · have hf := ifN c2 hf
      refine lv_iconst (v := 1) hx hb dX8_in_13 (by decide) ?_
      refine lv_goto (tgt := 18) hx hb dX8_in_14 (by decide) ?_
      cases hf
      exact g_zret C G (Or.inr rfl) hr hlocks dX8_in_18

noncomputable def f_X8_has (a1 : Int32) (a2 : Int32) : Option (Int32) := 
(if ((ishr a1 a2) &&& 1) = 1 then some (1) else 
some (0))
set_option maxRecDepth 100000 in
set_option maxHeartbeats 4000000 in
theorem c_X8_has (l : Launch) (D : va_G) (cy : ClassId) (h : Nat → Nat) (a1 : Int32) (a2 : Int32) (st : GS) (r : Int32) (hf : f_X8_has a1 a2 = some r) : gMi l MSh D cy h yX8_has cX8_has 2 (some .boolean) 1 st [.int a1, .int a2] r st := by
  unfold f_X8_has at hf
  refine gMi_of (by decide) (Nat.le_of_ble_eq_true rfl) ?_
  intro p e s m args below meth c A ls C hr hlocks G hl
  have C : gC p s m args c cX8_has 2 "LaneOrderModel" MSh D cy h A := C
  have hl : lv_has ls 2 [(0, .int a1), (1, .int a2)] := hl
  have hx := C.1
  have hb := C.2.1
  have hown := C.2.2.2.1
  have htb := C.2.2.2.2.1
  refine lv_iload_n hx hb dX8_has_0 rfl (lv_at hl 0 rfl) ?_
  refine lv_iload_n hx hb dX8_has_1 rfl (lv_at hl 1 rfl) ?_
  refine g_ishr C dX8_has_2 ?_
  refine lv_iconst (v := 1) hx hb dX8_has_3 (by decide) ?_
  refine lv_iand hx hb dX8_has_4 ?_
  refine lv_iconst (v := 1) hx hb dX8_has_5 (by decide) ?_
  refine lv_icmp_ne (tgt := 13) hx hb dX8_has_6 (by decide) (fun c1 => ?_) (fun c1 => ?_)
  · have hf := ifN c1 hf
    refine lv_iconst (v := 0) hx hb dX8_has_13 (by decide) ?_
    cases hf
    exact g_zret C G (Or.inl rfl) hr hlocks dX8_has_14
  · have hf := ifP c1 hf
    refine lv_iconst (v := 1) hx hb dX8_has_9 (by decide) ?_
    refine lv_goto (tgt := 14) hx hb dX8_has_10 (by decide) ?_
    cases hf
    exact g_zret C G (Or.inr rfl) hr hlocks dX8_has_14

noncomputable def f_X8_ones_L4 (a1 : Int32) (x1 : Int32) (x2 : Int32) : Option ((Int32 × Int32) ⊕ (Int32)) := 
(if 8 ≤ x2 then some (.inr (x1)) else 
lt_ (x1 + ((ishr a1 x2) &&& 1)) (fun x4 => 
lt_ (x2 + 1) (fun x5 => 
some (.inl (x4, x5)))))
noncomputable def f_X8_ones (a1 : Int32) : Option (Int32) := 
bI1 (lpx (uc2 (f_X8_ones_L4 a1)) (0, 0)) (fun x6 => 
some (x6))
set_option maxRecDepth 100000 in
set_option maxHeartbeats 4000000 in
theorem c_X8_ones (l : Launch) (D : va_G) (cy : ClassId) (h : Nat → Nat) (a1 : Int32) (st : GS) (r : Int32) (hf : f_X8_ones a1 = some r) : gMi l MSh D cy h yX8_ones cX8_ones 3 (some .int) 1 st [.int a1] r st := by
  unfold f_X8_ones at hf
  refine gMi_of (by decide) (Nat.le_of_ble_eq_true rfl) ?_
  intro p e s m args below meth c A ls C hr hlocks G hl
  have C : gC p s m args c cX8_ones 3 "LaneOrderModel" MSh D cy h A := C
  have hl : lv_has ls 3 [(0, .int a1)] := hl
  have hx := C.1
  have hb := C.2.1
  have hown := C.2.2.2.1
  have htb := C.2.2.2.2.1
  refine lv_iconst (v := 0) hx hb dX8_ones_0 (by decide) ?_
  refine lv_istore_n (lv' := [(1, .int 0), (0, .int a1)]) hx hb dX8_ones_1 rfl hl (by decide) rfl (fun ls hl => ?_)
  refine lv_iconst (v := 0) hx hb dX8_ones_2 (by decide) ?_
  refine lv_istore_n (lv' := [(2, .int 0), (1, .int 0), (0, .int a1)]) hx hb dX8_ones_3 rfl hl (by decide) rfl (fun ls hl => ?_)
  obtain ⟨x6, hn, hf⟩ := bI1_some hf
  obtain ⟨n, hn⟩ := lpx_some hn
  have K24 : ∀ (H : Heap) (locs : List Loc) (ls : Array Slot), gG MSh D cy h A s st H locs → lv_has ls 3 [(1, .int x6)] → W p l e (gR 1) s m args below meth c H locs 0 0 (MQ below (gQi MSh D cy h A r st) args s 0 0 A) (F0 m 24 ls []) := by
    intro H locs ls G hl
    refine lv_iload_n hx hb dX8_ones_24 rfl (lv_at hl 0 rfl) ?_
    cases hf
    exact g_iret C G hr hlocks dX8_ones_25
  have L4 : ∀ (n : Nat) (x1 : Int32) (x2 : Int32) (H : Heap) (locs : List Loc) (ls : Array Slot), gG MSh D cy h A s st H locs → lv_has ls 3 [(0, .int a1), (1, .int x1), (2, .int x2)] → lp (uc2 (f_X8_ones_L4 a1)) n (x1, x2) = some (x6) → W p l e (gR 1) s m args below meth c H locs 0 0 (MQ below (gQi MSh D cy h A r st) args s 0 0 A) (F0 m 4 ls []) := by
    intro n
    induction n with
    | zero =>
      intro x1 x2 H locs ls G hl hn
      cases hn
    | succ n ih =>
      intro x1 x2 H locs ls G hl hn
      obtain ⟨q, hf, hq1, hq2⟩ := lp_q hn
      have hf : f_X8_ones_L4 a1 x1 x2 = some q := hf
      unfold f_X8_ones_L4 at hf
      refine lv_iload_n hx hb dX8_ones_4 rfl (lv_at hl 2 rfl) ?_
      refine lv_bipush (v := 8) hx hb dX8_ones_5 (by decide) ?_
      refine lv_icmp_ge (tgt := 24) hx hb dX8_ones_7 (by decide) (fun c3 => ?_) (fun c3 => ?_)
      · have hf := ifP c3 hf
        cases hf
        have hz9 := hq2 _ rfl
        cases hz9
        exact K24 _ _ _ G (lv_sub hl [1] rfl)
      · have hf := ifN c3 hf
        refine lv_iload_n hx hb dX8_ones_10 rfl (lv_at hl 1 rfl) ?_
        refine lv_iload_n hx hb dX8_ones_11 rfl (lv_at hl 0 rfl) ?_
        refine lv_iload_n hx hb dX8_ones_12 rfl (lv_at hl 2 rfl) ?_
        refine g_ishr C dX8_ones_13 ?_
        refine lv_iconst (v := 1) hx hb dX8_ones_14 (by decide) ?_
        refine lv_iand hx hb dX8_ones_15 ?_
        refine lv_iadd hx hb dX8_ones_16 ?_
        refine lv_topi (fun x4 ex4 => ?_)
        have hf := lt_some ex4 hf
        refine lv_istore_n (lv' := [(1, .int x4), (0, .int a1), (2, .int x2)]) hx hb dX8_ones_17 rfl hl (by decide) rfl (fun ls hl => ?_)
        obtain ⟨x5, ex5⟩ : ∃ z : Int32, z = (x2 + 1) := ⟨_, rfl⟩
        have hf := lt_some ex5 hf
        refine lv_iinc (v := x5) (lv' := [(2, .int x5), (1, .int x4), (0, .int a1)]) hx hb dX8_ones_18 hl (k := 2) rfl (by rw [ex5]; rfl) (by decide) rfl (fun ls hl => ?_)
        refine lv_goto (tgt := 4) hx hb dX8_ones_21 (by decide) ?_
        cases hf
        exact ih _ _ _ _ _ G (lv_sub hl [2, 1, 0] rfl) (hq1 _ rfl)
  exact L4 n _ _ _ _ _ G (lv_sub hl [2, 1, 0] rfl) hn

noncomputable def f_X8_copy_L2 (a1 : Nat) (na1 : Nat) (a2 : Nat) (na2 : Nat) (x1 : Int32) (st2 : GS) : Option ((Int32 × GS) ⊕ (GS)) := 
(if (Int32.ofNat na1) ≤ x1 then some (.inr (st2)) else 
gd x1 na1 (gd x1 na2 (lt_ (sv st2 a2 (x1.toNatClampNeg) (gt st2 a1 (x1.toNatClampNeg))) (fun st6 => 
lt_ (x1 + 1) (fun x7 => 
some (.inl (x7, st6)))))))
noncomputable def f_X8_copy (a1 na1 : Nat) (a2 na2 : Nat) (st : GS) : Option (GS) := 
bI1 (lpx (uc2 (f_X8_copy_L2 a1 na1 a2 na2)) (0, st)) (fun st8 => 
some (st8))
set_option maxRecDepth 100000 in
set_option maxHeartbeats 4000000 in
theorem c_X8_copy (l : Launch) (D : va_G) (cy : ClassId) (h : Nat → Nat) (a1 na1 : Nat) (ha1 : arrO MSh a1 na1) (a2 na2 : Nat) (ha2 : arrO MSh a2 na2) (st : GS) (stF : GS) (hf : f_X8_copy a1 na1 a2 na2 st = some stF) : gMv l MSh D cy h yX8_copy cX8_copy 3 none 1 st [.ref (h a1), .ref (h a2)] stF := by
  unfold f_X8_copy at hf
  refine gMv_of (by decide) (Nat.le_of_ble_eq_true rfl) ?_
  intro p e s m args below meth c A ls C hr hlocks G hl
  have C : gC p s m args c cX8_copy 3 "LaneOrderModel" MSh D cy h A := C
  have hl : lv_has ls 3 [(0, .ref (h a1)), (1, .ref (h a2))] := hl
  have hx := C.1
  have hb := C.2.1
  have hown := C.2.2.2.1
  have htb := C.2.2.2.2.1
  refine lv_iconst (v := 0) hx hb dX8_copy_0 (by decide) ?_
  refine lv_istore_n (lv' := [(2, .int 0), (0, .ref (h a1)), (1, .ref (h a2))]) hx hb dX8_copy_1 rfl hl (by decide) rfl (fun ls hl => ?_)
  obtain ⟨st8, hn, hf⟩ := bI1_some hf
  obtain ⟨n, hn⟩ := lpx_some hn
  have K20 : ∀ (H : Heap) (locs : List Loc) (ls : Array Slot), gG MSh D cy h A s st8 H locs → lv_has ls 3 [] → W p l e (gR 1) s m args below meth c H locs 0 0 (MQ below (gQv MSh D cy h A stF) args s 0 0 A) (F0 m 20 ls []) := by
    intro H locs ls G hl
    cases hf
    exact g_vret C G hr hlocks dX8_copy_20
  have L2 : ∀ (n : Nat) (x1 : Int32) (st2 : GS) (H : Heap) (locs : List Loc) (ls : Array Slot), gG MSh D cy h A s st2 H locs → lv_has ls 3 [(0, .ref (h a1)), (1, .ref (h a2)), (2, .int x1)] → lp (uc2 (f_X8_copy_L2 a1 na1 a2 na2)) n (x1, st2) = some (st8) → W p l e (gR 1) s m args below meth c H locs 0 0 (MQ below (gQv MSh D cy h A stF) args s 0 0 A) (F0 m 2 ls []) := by
    intro n
    induction n with
    | zero =>
      intro x1 st2 H locs ls G hl hn
      cases hn
    | succ n ih =>
      intro x1 st2 H locs ls G hl hn
      obtain ⟨q, hf, hq1, hq2⟩ := lp_q hn
      have hf : f_X8_copy_L2 a1 na1 a2 na2 x1 st2 = some q := hf
      unfold f_X8_copy_L2 at hf
      refine lv_iload_n hx hb dX8_copy_2 rfl (lv_at hl 2 rfl) ?_
      refine lv_aload_n hx hb dX8_copy_3 rfl (lv_at hl 0 rfl) ?_
      refine g_alen C G ha1 rfl dX8_copy_4 ?_
      refine lv_icmp_ge (tgt := 20) hx hb dX8_copy_5 (by decide) (fun c3 => ?_) (fun c3 => ?_)
      · have hf := ifP c3 hf
        cases hf
        have hz9 := hq2 _ rfl
        cases hz9
        exact K20 _ _ _ G (lv_sub hl [] rfl)
      · have hf := ifN c3 hf
        refine lv_aload_n hx hb dX8_copy_8 rfl (lv_at hl 1 rfl) ?_
        refine lv_iload_n hx hb dX8_copy_9 rfl (lv_at hl 2 rfl) ?_
        refine lv_aload_n hx hb dX8_copy_10 rfl (lv_at hl 0 rfl) ?_
        refine lv_iload_n hx hb dX8_copy_11 rfl (lv_at hl 2 rfl) ?_
        obtain ⟨hi12_3, hf⟩ := gd_some hf
        refine g_iald C G ha1 (j := x1.toNatClampNeg) rfl hi12_3 dX8_copy_12 ?_
        obtain ⟨hi13_4, hf⟩ := gd_some hf
        refine g_iast C G ha2 (j := x1.toNatClampNeg) rfl hi13_4 dX8_copy_13 (fun st6 est6 H locs G => ?_)
        have hf := lt_some est6 hf
        obtain ⟨x7, ex7⟩ : ∃ z : Int32, z = (x1 + 1) := ⟨_, rfl⟩
        have hf := lt_some ex7 hf
        refine lv_iinc (v := x7) (lv' := [(2, .int x7), (0, .ref (h a1)), (1, .ref (h a2))]) hx hb dX8_copy_14 hl (k := 2) rfl (by rw [ex7]; rfl) (by decide) rfl (fun ls hl => ?_)
        refine lv_goto (tgt := 2) hx hb dX8_copy_17 (by decide) ?_
        cases hf
        exact ih _ _ _ _ _ G (lv_sub hl [1, 2, 0] rfl) (hq1 _ rfl)
  exact L2 n _ _ _ _ _ G (lv_sub hl [1, 2, 0] rfl) hn

noncomputable def f_X8_letter (a1 : Int32) (st : GS) : Option (Int32 × GS) := 
bI1 (f_X8_in (Int32.toInt64 a1) 1 126) (fun r1 => 
(if r1 = 0 then some (((-102), st)) else 
(if (gt st 0 1) = 54 then some (((-104), st)) else 
gd (gt st 0 1) 54 (lt_ (sv st 1 ((gt st 0 1).toNatClampNeg) a1) (fun st5 => 
lt_ (sv st5 0 1 ((gt st5 0 1) + 1)) (fun st6 => 
some (((gt st6 0 1), st6))))))))
set_option maxRecDepth 100000 in
set_option maxHeartbeats 4000000 in
theorem c_X8_letter (l : Launch) (D : va_G) (cy : ClassId) (h : Nat → Nat) (a1 : Int32) (st : GS) (r : Int32) (stF : GS) (hf : f_X8_letter a1 st = some (r, stF)) : gMi l MSh D cy h yX8_letter cX8_letter 2 (some .int) 2 st [.ref (h 0), .int a1] r stF := by
  unfold f_X8_letter at hf
  refine gMi_of (by decide) (Nat.le_of_ble_eq_true rfl) ?_
  intro p e s m args below meth c A ls C hr hlocks G hl
  have C : gC p s m args c cX8_letter 2 "LaneOrderModel" MSh D cy h A := C
  have hl : lv_has ls 2 [(0, .ref (h 0)), (1, .int a1)] := hl
  have hx := C.1
  have hb := C.2.1
  have hown := C.2.2.2.1
  have htb := C.2.2.2.2.1
  refine lv_iload_n hx hb dX8_letter_0 rfl (lv_at hl 1 rfl) ?_
  refine lv_i2l hx hb dX8_letter_1 rfl ?_
  refine lv_lconst (v := 1) hx hb dX8_letter_2 rfl ?_
  refine lv_ldc2 hx hb (v := 126) hown (htb _ k4_149) dX8_letter_3 ?_
  obtain ⟨r1, hc6_1, hf⟩ := bI1_some hf
  refine g_callSi C G (As := [.long (Int32.toInt64 a1), .long 1, .long 126]) (rest := []) (c_X8_in l D cy h (Int32.toInt64 a1) 1 126 st r1 hc6_1) v_X8_76 (Nat.le_of_ble_eq_true rfl) (Nat.le_of_ble_eq_true rfl) rfl hl.1 rfl (Nat.le_of_ble_eq_true rfl) dX8_letter_6 ⟨Nat.zero_le _, Nat.zero_le _⟩ (fun H locs G => ?_)
  refine lv_if_ne (tgt := 15) hx hb dX8_letter_9 (by decide) (fun c2 => ?_) (fun c2 => ?_)
  · have hf := ifN c2 hf
    refine lv_aload_n hx hb dX8_letter_15 rfl (lv_at hl 0 rfl) ?_
    refine g_geti C G cl8 (C8 ok8_0) (j := 1) (by decide) (F8_1 ok8_0) k4_25 dX8_letter_16 ?_
    refine lv_bipush (v := 54) hx hb dX8_letter_19 (by decide) ?_
    refine lv_icmp_ne (tgt := 27) hx hb dX8_letter_21 (by decide) (fun c3 => ?_) (fun c3 => ?_)
    · have hf := ifN c3 hf
      refine lv_aload_n hx hb dX8_letter_27 rfl (lv_at hl 0 rfl) ?_
      refine g_getr (k := 1) C G cl8 (C8 ok8_0) (j := 0) (by decide) (F8_0 ok8_0) k4_24 dX8_letter_28 ?_
      refine lv_aload_n hx hb dX8_letter_31 rfl (lv_at hl 0 rfl) ?_
      refine g_geti C G cl8 (C8 ok8_0) (j := 1) (by decide) (F8_1 ok8_0) k4_25 dX8_letter_32 ?_
      refine lv_iload_n hx hb dX8_letter_35 rfl (lv_at hl 1 rfl) ?_
      obtain ⟨hi36_3, hf⟩ := gd_some hf
      refine g_iast C G (A8_0 ok8_0) (j := (gt st 0 1).toNatClampNeg) rfl hi36_3 dX8_letter_36 (fun st5 est5 H locs G => ?_)
      have hf := lt_some est5 hf
      refine lv_aload_n hx hb dX8_letter_37 rfl (lv_at hl 0 rfl) ?_
      refine lv_dup hx hb dX8_letter_38 rfl ?_
      refine g_geti C G cl8 (C8 ok8_0) (j := 1) (by decide) (F8_1 ok8_0) k4_25 dX8_letter_39 ?_
      refine lv_iconst (v := 1) hx hb dX8_letter_42 (by decide) ?_
      refine lv_iadd hx hb dX8_letter_43 ?_
      refine g_puti C G cl8 (C8 ok8_0) (j := 1) (by decide) (F8_1 ok8_0) k4_25 rfl rfl rfl dX8_letter_44 (fun st6 est6 H locs G => ?_)
      have hf := lt_some est6 hf
      refine lv_aload_n hx hb dX8_letter_47 rfl (lv_at hl 0 rfl) ?_
      refine g_geti C G cl8 (C8 ok8_0) (j := 1) (by decide) (F8_1 ok8_0) k4_25 dX8_letter_48 ?_
      cases hf
      exact g_iret C G hr hlocks dX8_letter_51
    · have hf := ifP c3 hf
      refine lv_bipush (v := (-104)) hx hb dX8_letter_24 (by decide) ?_
      cases hf
      exact g_iret C G hr hlocks dX8_letter_26
  · have hf := ifP c2 hf
    refine lv_bipush (v := (-102)) hx hb dX8_letter_12 (by decide) ?_
    cases hf
    exact g_iret C G hr hlocks dX8_letter_14

noncomputable def f_X8_blank (st : GS) : Option (Int32 × GS) := 
lt_ (gt st 0 1) (fun x1 => 
lt_ (sv st 0 1 0) (fun st2 => 
some ((x1, st2))))
set_option maxRecDepth 100000 in
set_option maxHeartbeats 4000000 in
theorem c_X8_blank (l : Launch) (D : va_G) (cy : ClassId) (h : Nat → Nat)  (st : GS) (r : Int32) (stF : GS) (hf : f_X8_blank st = some (r, stF)) : gMi l MSh D cy h yX8_blank cX8_blank 2 (some .int) 1 st [.ref (h 0)] r stF := by
  unfold f_X8_blank at hf
  refine gMi_of (by decide) (Nat.le_of_ble_eq_true rfl) ?_
  intro p e s m args below meth c A ls C hr hlocks G hl
  have C : gC p s m args c cX8_blank 2 "LaneOrderModel" MSh D cy h A := C
  have hl : lv_has ls 2 [(0, .ref (h 0))] := hl
  have hx := C.1
  have hb := C.2.1
  have hown := C.2.2.2.1
  have htb := C.2.2.2.2.1
  refine lv_aload_n hx hb dX8_blank_0 rfl (lv_at hl 0 rfl) ?_
  refine g_geti C G cl8 (C8 ok8_0) (j := 1) (by decide) (F8_1 ok8_0) k4_25 dX8_blank_1 ?_
  refine lv_topi (fun x1 ex1 => ?_)
  have hf := lt_some ex1 hf
  refine lv_istore_n (lv' := [(1, .int x1), (0, .ref (h 0))]) hx hb dX8_blank_4 rfl hl (by decide) rfl (fun ls hl => ?_)
  refine lv_aload_n hx hb dX8_blank_5 rfl (lv_at hl 1 rfl) ?_
  refine lv_iconst (v := 0) hx hb dX8_blank_6 (by decide) ?_
  refine g_puti C G cl8 (C8 ok8_0) (j := 1) (by decide) (F8_1 ok8_0) k4_25 rfl rfl rfl dX8_blank_7 (fun st2 est2 H locs G => ?_)
  have hf := lt_some est2 hf
  refine lv_iload_n hx hb dX8_blank_10 rfl (lv_at hl 0 rfl) ?_
  cases hf
  exact g_iret C G hr hlocks dX8_blank_11

noncomputable def f_X8_kindBy (a1 : Int32) : Option (Int32) := 
(if a1 = 98 then some (0) else 
(if a1 = 99 then some (4) else 
(if a1 = 102 then some (3) else 
(if a1 = 110 then some (2) else 
(if a1 = 116 then some (1) else 
some ((-1)))))))
set_option maxRecDepth 100000 in
set_option maxHeartbeats 4000000 in
theorem c_X8_kindBy (l : Launch) (D : va_G) (cy : ClassId) (h : Nat → Nat) (a1 : Int32) (st : GS) (r : Int32) (hf : f_X8_kindBy a1 = some r) : gMi l MSh D cy h yX8_kindBy cX8_kindBy 1 (some .int) 1 st [.int a1] r st := by
  unfold f_X8_kindBy at hf
  refine gMi_of (by decide) (Nat.le_of_ble_eq_true rfl) ?_
  intro p e s m args below meth c A ls C hr hlocks G hl
  have C : gC p s m args c cX8_kindBy 1 "LaneOrderModel" MSh D cy h A := C
  have hl : lv_has ls 1 [(0, .int a1)] := hl
  have hx := C.1
  have hb := C.2.1
  have hown := C.2.2.2.1
  have htb := C.2.2.2.2.1
  refine lv_iload_n hx hb dX8_kindBy_0 rfl (lv_at hl 0 rfl) ?_
  by_cases c1_98 : a1 = 98
  · have hf := ifP c1_98 hf
    refine lv_lookup (off := 51) (tgt := 52) hx hb dX8_kindBy_1 (by decide) (by rw [c1_98] <;> rfl) (by decide) ?_
    refine lv_iconst (v := 0) hx hb dX8_kindBy_52 (by decide) ?_
    cases hf
    exact g_iret C G hr hlocks dX8_kindBy_53
  · have hf := ifN c1_98 hf
    by_cases c1_99 : a1 = 99
    · have hf := ifP c1_99 hf
      refine lv_lookup (off := 59) (tgt := 60) hx hb dX8_kindBy_1 (by decide) (by rw [c1_99] <;> rfl) (by decide) ?_
      refine lv_iconst (v := 4) hx hb dX8_kindBy_60 (by decide) ?_
      cases hf
      exact g_iret C G hr hlocks dX8_kindBy_61
    · have hf := ifN c1_99 hf
      by_cases c1_102 : a1 = 102
      · have hf := ifP c1_102 hf
        refine lv_lookup (off := 57) (tgt := 58) hx hb dX8_kindBy_1 (by decide) (by rw [c1_102] <;> rfl) (by decide) ?_
        refine lv_iconst (v := 3) hx hb dX8_kindBy_58 (by decide) ?_
        cases hf
        exact g_iret C G hr hlocks dX8_kindBy_59
      · have hf := ifN c1_102 hf
        by_cases c1_110 : a1 = 110
        · have hf := ifP c1_110 hf
          refine lv_lookup (off := 55) (tgt := 56) hx hb dX8_kindBy_1 (by decide) (by rw [c1_110] <;> rfl) (by decide) ?_
          refine lv_iconst (v := 2) hx hb dX8_kindBy_56 (by decide) ?_
          cases hf
          exact g_iret C G hr hlocks dX8_kindBy_57
        · have hf := ifN c1_110 hf
          by_cases c1_116 : a1 = 116
          · have hf := ifP c1_116 hf
            refine lv_lookup (off := 53) (tgt := 54) hx hb dX8_kindBy_1 (by decide) (by rw [c1_116] <;> rfl) (by decide) ?_
            refine lv_iconst (v := 1) hx hb dX8_kindBy_54 (by decide) ?_
            cases hf
            exact g_iret C G hr hlocks dX8_kindBy_55
          · have hf := ifN c1_116 hf
            refine lv_lookup (off := 61) (tgt := 62) hx hb dX8_kindBy_1 (by decide) ((lv_osw c1_98 rfl).trans ((lv_osw c1_99 rfl).trans ((lv_osw c1_102 rfl).trans ((lv_osw c1_110 rfl).trans ((lv_osw c1_116 rfl).trans rfl))))) (by decide) ?_
            refine lv_iconst (v := (-1)) hx hb dX8_kindBy_62 (by decide) ?_
            cases hf
            exact g_iret C G hr hlocks dX8_kindBy_63

noncomputable def f_X8_isBoxSign (a1 : Int32) (st : GS) : Option (Int32 × GS) := 
gd a1 54 (lt_ (gt st 1 (a1.toNatClampNeg)) (fun x2 => 
(if (irem a1 6) = 0 then bI1 (f_X8_kindBy x2) (fun r4 => 
(if r4 = (-1) then some ((0, st)) else 
some ((1, st)))) else 
(if (irem a1 6) = 1 then bI1 (f_X8_in (Int32.toInt64 x2) 48 56) (fun r6 => 
gq (r6 = 0 ∨ r6 = 1) (some ((r6, st)))) else 
(if (irem a1 6) = 2 then bI1 (f_X8_in (Int32.toInt64 x2) 48 56) (fun r7 => 
gq (r7 = 0 ∨ r7 = 1) (some ((r7, st)))) else 
(if (irem a1 6) = 3 then gd (a1 - 2) 54 (bI1 (f_X8_in (Int32.toInt64 x2) (Int32.toInt64 ((gt st 1 ((a1 - 2).toNatClampNeg)) + 1)) 57) (fun r9 => 
gq (r9 = 0 ∨ r9 = 1) (some ((r9, st))))) else 
(if (irem a1 6) = 4 then gd (a1 - 2) 54 (bI1 (f_X8_in (Int32.toInt64 x2) (Int32.toInt64 ((gt st 1 ((a1 - 2).toNatClampNeg)) + 1)) 57) (fun r11 => 
gq (r11 = 0 ∨ r11 = 1) (some ((r11, st))))) else 
bI1 ((if x2 = 59 then some (a1) else 
some (0))) (fun (x13 : Int32) => 
lt_ (sv st 0 2 x13) (fun st14 => 
(if x2 = 59 then some ((1, st14)) else 
(if x2 = 44 then (if 47 ≤ a1 then some ((0, st14)) else 
some ((1, st14))) else 
some ((0, st14)))))))))))))
set_option maxRecDepth 100000 in
set_option maxHeartbeats 4000000 in
theorem c_X8_isBoxSign (l : Launch) (D : va_G) (cy : ClassId) (h : Nat → Nat) (a1 : Int32) (st : GS) (r : Int32) (stF : GS) (hf : f_X8_isBoxSign a1 st = some (r, stF)) : gMi l MSh D cy h yX8_isBoxSign cX8_isBoxSign 3 (some .boolean) 2 st [.ref (h 0), .int a1] r stF := by
  unfold f_X8_isBoxSign at hf
  refine gMi_of (by decide) (Nat.le_of_ble_eq_true rfl) ?_
  intro p e s m args below meth c A ls C hr hlocks G hl
  have C : gC p s m args c cX8_isBoxSign 3 "LaneOrderModel" MSh D cy h A := C
  have hl : lv_has ls 3 [(0, .ref (h 0)), (1, .int a1)] := hl
  have hx := C.1
  have hb := C.2.1
  have hown := C.2.2.2.1
  have htb := C.2.2.2.2.1
  refine lv_aload_n hx hb dX8_isBoxSign_0 rfl (lv_at hl 0 rfl) ?_
  refine g_getr (k := 1) C G cl8 (C8 ok8_0) (j := 0) (by decide) (F8_0 ok8_0) k4_24 dX8_isBoxSign_1 ?_
  refine lv_iload_n hx hb dX8_isBoxSign_4 rfl (lv_at hl 1 rfl) ?_
  obtain ⟨hi5_0, hf⟩ := gd_some hf
  refine g_iald C G (A8_0 ok8_0) (j := a1.toNatClampNeg) rfl hi5_0 dX8_isBoxSign_5 ?_
  refine lv_topi (fun x2 ex2 => ?_)
  have hf := lt_some ex2 hf
  refine lv_istore_n (lv' := [(2, .int x2), (0, .ref (h 0)), (1, .int a1)]) hx hb dX8_isBoxSign_6 rfl hl (by decide) rfl (fun ls hl => ?_)
  refine lv_iload_n hx hb dX8_isBoxSign_7 rfl (lv_at hl 2 rfl) ?_
  refine lv_bipush (v := 6) hx hb dX8_isBoxSign_8 (by decide) ?_
  refine g_irem C dX8_isBoxSign_10 (by decide) ?_
  by_cases c3_0 : (irem a1 6) = 0
  · have hf := ifP c3_0 hf
    refine lv_tableIn (tgt := 44) hx hb dX8_isBoxSign_11 (by rw [c3_0]; decide) (by rw [c3_0]; decide) (by rw [c3_0]; rfl) (by decide) ?_
    refine lv_iload_n hx hb dX8_isBoxSign_44 rfl (lv_at hl 0 rfl) ?_
    obtain ⟨r4, hc45_4, hf⟩ := bI1_some hf
    refine g_callSi C G (As := [.int x2]) (rest := []) (c_X8_kindBy l D cy h x2 st r4 hc45_4) v_X8_83 (Nat.le_of_ble_eq_true rfl) (Nat.le_of_ble_eq_true rfl) rfl hl.1 rfl (Nat.le_of_ble_eq_true rfl) dX8_isBoxSign_45 ⟨Nat.zero_le _, Nat.zero_le _⟩ (fun H locs G => ?_)
    refine lv_iconst (v := (-1)) hx hb dX8_isBoxSign_48 (by decide) ?_
    refine lv_icmp_eq (tgt := 56) hx hb dX8_isBoxSign_49 (by decide) (fun c5 => ?_) (fun c5 => ?_)
    · have hf := ifP c5 hf
      refine lv_iconst (v := 0) hx hb dX8_isBoxSign_56 (by decide) ?_
      cases hf
      exact g_zret C G (Or.inl rfl) hr hlocks dX8_isBoxSign_57
    · have hf := ifN c5 hf
      refine lv_iconst (v := 1) hx hb dX8_isBoxSign_52 (by decide) ?_
      refine lv_goto (tgt := 57) hx hb dX8_isBoxSign_53 (by decide) ?_
      cases hf
      exact g_zret C G (Or.inr rfl) hr hlocks dX8_isBoxSign_57
  · have hf := ifN c3_0 hf
    by_cases c3_1 : (irem a1 6) = 1
    · have hf := ifP c3_1 hf
      refine lv_tableIn (tgt := 58) hx hb dX8_isBoxSign_11 (by rw [c3_1]; decide) (by rw [c3_1]; decide) (by rw [c3_1]; rfl) (by decide) ?_
      refine lv_iload_n hx hb dX8_isBoxSign_58 rfl (lv_at hl 0 rfl) ?_
      refine lv_i2l hx hb dX8_isBoxSign_59 rfl ?_
      refine lv_ldc2 hx hb (v := 48) hown (htb _ k4_172) dX8_isBoxSign_60 ?_
      refine lv_ldc2 hx hb (v := 56) hown (htb _ k4_173) dX8_isBoxSign_63 ?_
      obtain ⟨r6, hc66_6, hf⟩ := bI1_some hf
      refine g_callSi C G (As := [.long (Int32.toInt64 x2), .long 48, .long 56]) (rest := []) (c_X8_in l D cy h (Int32.toInt64 x2) 48 56 st r6 hc66_6) v_X8_76 (Nat.le_of_ble_eq_true rfl) (Nat.le_of_ble_eq_true rfl) rfl hl.1 rfl (Nat.le_of_ble_eq_true rfl) dX8_isBoxSign_66 ⟨Nat.zero_le _, Nat.zero_le _⟩ (fun H locs G => ?_)
      obtain ⟨hz, hf⟩ := gq_some hf
      cases hf
      exact g_zret C G hz hr hlocks dX8_isBoxSign_69
    · have hf := ifN c3_1 hf
      by_cases c3_2 : (irem a1 6) = 2
      · have hf := ifP c3_2 hf
        refine lv_tableIn (tgt := 58) hx hb dX8_isBoxSign_11 (by rw [c3_2]; decide) (by rw [c3_2]; decide) (by rw [c3_2]; rfl) (by decide) ?_
        refine lv_iload_n hx hb dX8_isBoxSign_58 rfl (lv_at hl 0 rfl) ?_
        refine lv_i2l hx hb dX8_isBoxSign_59 rfl ?_
        refine lv_ldc2 hx hb (v := 48) hown (htb _ k4_172) dX8_isBoxSign_60 ?_
        refine lv_ldc2 hx hb (v := 56) hown (htb _ k4_173) dX8_isBoxSign_63 ?_
        obtain ⟨r7, hc66_7, hf⟩ := bI1_some hf
        refine g_callSi C G (As := [.long (Int32.toInt64 x2), .long 48, .long 56]) (rest := []) (c_X8_in l D cy h (Int32.toInt64 x2) 48 56 st r7 hc66_7) v_X8_76 (Nat.le_of_ble_eq_true rfl) (Nat.le_of_ble_eq_true rfl) rfl hl.1 rfl (Nat.le_of_ble_eq_true rfl) dX8_isBoxSign_66 ⟨Nat.zero_le _, Nat.zero_le _⟩ (fun H locs G => ?_)
        obtain ⟨hz, hf⟩ := gq_some hf
        cases hf
        exact g_zret C G hz hr hlocks dX8_isBoxSign_69
      · have hf := ifN c3_2 hf
        by_cases c3_3 : (irem a1 6) = 3
        · have hf := ifP c3_3 hf
          refine lv_tableIn (tgt := 70) hx hb dX8_isBoxSign_11 (by rw [c3_3]; decide) (by rw [c3_3]; decide) (by rw [c3_3]; rfl) (by decide) ?_
          refine lv_iload_n hx hb dX8_isBoxSign_70 rfl (lv_at hl 0 rfl) ?_
          refine lv_i2l hx hb dX8_isBoxSign_71 rfl ?_
          refine lv_aload_n hx hb dX8_isBoxSign_72 rfl (lv_at hl 1 rfl) ?_
          refine g_getr (k := 1) C G cl8 (C8 ok8_0) (j := 0) (by decide) (F8_0 ok8_0) k4_24 dX8_isBoxSign_73 ?_
          refine lv_iload_n hx hb dX8_isBoxSign_76 rfl (lv_at hl 2 rfl) ?_
          refine lv_iconst (v := 2) hx hb dX8_isBoxSign_77 (by decide) ?_
          refine lv_isub hx hb dX8_isBoxSign_78 ?_
          obtain ⟨hi79_7, hf⟩ := gd_some hf
          refine g_iald C G (A8_0 ok8_0) (j := (a1 - 2).toNatClampNeg) rfl hi79_7 dX8_isBoxSign_79 ?_
          refine lv_iconst (v := 1) hx hb dX8_isBoxSign_80 (by decide) ?_
          refine lv_iadd hx hb dX8_isBoxSign_81 ?_
          refine lv_i2l hx hb dX8_isBoxSign_82 rfl ?_
          refine lv_ldc2 hx hb (v := 57) hown (htb _ k4_174) dX8_isBoxSign_83 ?_
          obtain ⟨r9, hc86_9, hf⟩ := bI1_some hf
          refine g_callSi C G (As := [.long (Int32.toInt64 x2), .long (Int32.toInt64 ((gt st 1 ((a1 - 2).toNatClampNeg)) + 1)), .long 57]) (rest := []) (c_X8_in l D cy h (Int32.toInt64 x2) (Int32.toInt64 ((gt st 1 ((a1 - 2).toNatClampNeg)) + 1)) 57 st r9 hc86_9) v_X8_76 (Nat.le_of_ble_eq_true rfl) (Nat.le_of_ble_eq_true rfl) rfl hl.1 rfl (Nat.le_of_ble_eq_true rfl) dX8_isBoxSign_86 ⟨Nat.zero_le _, Nat.zero_le _⟩ (fun H locs G => ?_)
          obtain ⟨hz, hf⟩ := gq_some hf
          cases hf
          exact g_zret C G hz hr hlocks dX8_isBoxSign_89
        · have hf := ifN c3_3 hf
          by_cases c3_4 : (irem a1 6) = 4
          · have hf := ifP c3_4 hf
            refine lv_tableIn (tgt := 70) hx hb dX8_isBoxSign_11 (by rw [c3_4]; decide) (by rw [c3_4]; decide) (by rw [c3_4]; rfl) (by decide) ?_
            refine lv_iload_n hx hb dX8_isBoxSign_70 rfl (lv_at hl 0 rfl) ?_
            refine lv_i2l hx hb dX8_isBoxSign_71 rfl ?_
            refine lv_aload_n hx hb dX8_isBoxSign_72 rfl (lv_at hl 1 rfl) ?_
            refine g_getr (k := 1) C G cl8 (C8 ok8_0) (j := 0) (by decide) (F8_0 ok8_0) k4_24 dX8_isBoxSign_73 ?_
            refine lv_iload_n hx hb dX8_isBoxSign_76 rfl (lv_at hl 2 rfl) ?_
            refine lv_iconst (v := 2) hx hb dX8_isBoxSign_77 (by decide) ?_
            refine lv_isub hx hb dX8_isBoxSign_78 ?_
            obtain ⟨hi79_9, hf⟩ := gd_some hf
            refine g_iald C G (A8_0 ok8_0) (j := (a1 - 2).toNatClampNeg) rfl hi79_9 dX8_isBoxSign_79 ?_
            refine lv_iconst (v := 1) hx hb dX8_isBoxSign_80 (by decide) ?_
            refine lv_iadd hx hb dX8_isBoxSign_81 ?_
            refine lv_i2l hx hb dX8_isBoxSign_82 rfl ?_
            refine lv_ldc2 hx hb (v := 57) hown (htb _ k4_174) dX8_isBoxSign_83 ?_
            obtain ⟨r11, hc86_11, hf⟩ := bI1_some hf
            refine g_callSi C G (As := [.long (Int32.toInt64 x2), .long (Int32.toInt64 ((gt st 1 ((a1 - 2).toNatClampNeg)) + 1)), .long 57]) (rest := []) (c_X8_in l D cy h (Int32.toInt64 x2) (Int32.toInt64 ((gt st 1 ((a1 - 2).toNatClampNeg)) + 1)) 57 st r11 hc86_11) v_X8_76 (Nat.le_of_ble_eq_true rfl) (Nat.le_of_ble_eq_true rfl) rfl hl.1 rfl (Nat.le_of_ble_eq_true rfl) dX8_isBoxSign_86 ⟨Nat.zero_le _, Nat.zero_le _⟩ (fun H locs G => ?_)
            obtain ⟨hz, hf⟩ := gq_some hf
            cases hf
            exact g_zret C G hz hr hlocks dX8_isBoxSign_89
          · have hf := ifN c3_4 hf
            refine lv_tableOut (tgt := 90) hx hb dX8_isBoxSign_11 (tab_4 c3_0 c3_1 c3_2 c3_3 c3_4) (by decide) ?_
            refine lv_aload_n hx hb dX8_isBoxSign_90 rfl (lv_at hl 1 rfl) ?_
            refine lv_iload_n hx hb dX8_isBoxSign_91 rfl (lv_at hl 0 rfl) ?_
            refine lv_bipush (v := 59) hx hb dX8_isBoxSign_92 (by decide) ?_
            obtain ⟨x13, hj102, hf⟩ := bI1_some hf
            have K102 : ∀ (H : Heap) (locs : List Loc) (ls : Array Slot) , gG MSh D cy h A s st H locs → lv_has ls 3 [(1, .int a1), (2, .int x2)] → W p l e (gR 2) s m args below meth c H locs 0 0 (MQ below (gQi MSh D cy h A r stF) args s 0 0 A) (F0 m 102 ls [.int x13, .ref (h 0)]) := by
              intro H locs ls G hl
              refine g_puti C G cl8 (C8 ok8_0) (j := 2) (by decide) (F8_2 ok8_0) k4_26 rfl rfl rfl dX8_isBoxSign_102 (fun st14 est14 H locs G => ?_)
              have hf := lt_some est14 hf
              refine lv_iload_n hx hb dX8_isBoxSign_105 rfl (lv_at hl 1 rfl) ?_
              refine lv_bipush (v := 59) hx hb dX8_isBoxSign_106 (by decide) ?_
              refine lv_icmp_eq (tgt := 123) hx hb dX8_isBoxSign_108 (by decide) (fun c15 => ?_) (fun c15 => ?_)
              · have hf := ifP c15 hf
                refine lv_iconst (v := 1) hx hb dX8_isBoxSign_123 (by decide) ?_
                refine lv_goto (tgt := 128) hx hb dX8_isBoxSign_124 (by decide) ?_
                cases hf
                exact g_zret C G (Or.inr rfl) hr hlocks dX8_isBoxSign_128
              · have hf := ifN c15 hf
                refine lv_iload_n hx hb dX8_isBoxSign_111 rfl (lv_at hl 1 rfl) ?_
                refine lv_bipush (v := 44) hx hb dX8_isBoxSign_112 (by decide) ?_
                refine lv_icmp_ne (tgt := 127) hx hb dX8_isBoxSign_114 (by decide) (fun c16 => ?_) (fun c16 => ?_)
                · have hf := ifN c16 hf
                  refine lv_iconst (v := 0) hx hb dX8_isBoxSign_127 (by decide) ?_
                  cases hf
                  exact g_zret C G (Or.inl rfl) hr hlocks dX8_isBoxSign_128
                · have hf := ifP c16 hf
                  refine lv_iload_n hx hb dX8_isBoxSign_117 rfl (lv_at hl 0 rfl) ?_
                  refine lv_bipush (v := 47) hx hb dX8_isBoxSign_118 (by decide) ?_
                  refine lv_icmp_ge (tgt := 127) hx hb dX8_isBoxSign_120 (by decide) (fun c17 => ?_) (fun c17 => ?_)
                  · have hf := ifP c17 hf
                    refine lv_iconst (v := 0) hx hb dX8_isBoxSign_127 (by decide) ?_
                    cases hf
                    exact g_zret C G (Or.inl rfl) hr hlocks dX8_isBoxSign_128
                  · have hf := ifN c17 hf
                    refine lv_iconst (v := 1) hx hb dX8_isBoxSign_123 (by decide) ?_
                    refine lv_goto (tgt := 128) hx hb dX8_isBoxSign_124 (by decide) ?_
                    cases hf
                    exact g_zret C G (Or.inr rfl) hr hlocks dX8_isBoxSign_128
            clear hf
            refine lv_icmp_ne (tgt := 101) hx hb dX8_isBoxSign_94 (by decide) (fun c12 => ?_) (fun c12 => ?_)
            · have hf := ifN c12 hj102
              refine lv_iconst (v := 0) hx hb dX8_isBoxSign_101 (by decide) ?_
              cases hf
              exact K102 _ _ _ G (lv_sub hl [2, 0] rfl)
            · have hf := ifP c12 hj102
              refine lv_iload_n hx hb dX8_isBoxSign_97 rfl (lv_at hl 2 rfl) ?_
              refine lv_goto (tgt := 102) hx hb dX8_isBoxSign_98 (by decide) ?_
              cases hf
              exact K102 _ _ _ G (lv_sub hl [2, 0] rfl)

noncomputable def f_X8_isRuleSign (a1 : Int32) (st : GS) : Option (Int32 × GS) := 
bI1 (f_X8_in (Int32.toInt64 a1) 48 51) (fun r1 => 
(if r1 = 0 then some ((0, st)) else 
bI1 (f_X8_has (gt st 0 3) (a1 - 48)) (fun r3 => 
(if r3 = 0 then lt_ (sv st 0 3 ((gt st 0 3) ||| (ishl 1 (a1 - 48)))) (fun st5 => 
lt_ (sv st5 0 4 ((gt st5 0 4) + 1)) (fun st6 => 
some ((1, st6)))) else 
some ((0, st))))))
set_option maxRecDepth 100000 in
set_option maxHeartbeats 4000000 in
theorem c_X8_isRuleSign (l : Launch) (D : va_G) (cy : ClassId) (h : Nat → Nat) (a1 : Int32) (st : GS) (r : Int32) (stF : GS) (hf : f_X8_isRuleSign a1 st = some (r, stF)) : gMi l MSh D cy h yX8_isRuleSign cX8_isRuleSign 2 (some .boolean) 2 st [.ref (h 0), .int a1] r stF := by
  unfold f_X8_isRuleSign at hf
  refine gMi_of (by decide) (Nat.le_of_ble_eq_true rfl) ?_
  intro p e s m args below meth c A ls C hr hlocks G hl
  have C : gC p s m args c cX8_isRuleSign 2 "LaneOrderModel" MSh D cy h A := C
  have hl : lv_has ls 2 [(0, .ref (h 0)), (1, .int a1)] := hl
  have hx := C.1
  have hb := C.2.1
  have hown := C.2.2.2.1
  have htb := C.2.2.2.2.1
  refine lv_iload_n hx hb dX8_isRuleSign_0 rfl (lv_at hl 1 rfl) ?_
  refine lv_i2l hx hb dX8_isRuleSign_1 rfl ?_
  refine lv_ldc2 hx hb (v := 48) hown (htb _ k4_172) dX8_isRuleSign_2 ?_
  refine lv_ldc2 hx hb (v := 51) hown (htb _ k4_179) dX8_isRuleSign_5 ?_
  obtain ⟨r1, hc8_1, hf⟩ := bI1_some hf
  refine g_callSi C G (As := [.long (Int32.toInt64 a1), .long 48, .long 51]) (rest := []) (c_X8_in l D cy h (Int32.toInt64 a1) 48 51 st r1 hc8_1) v_X8_76 (Nat.le_of_ble_eq_true rfl) (Nat.le_of_ble_eq_true rfl) rfl hl.1 rfl (Nat.le_of_ble_eq_true rfl) dX8_isRuleSign_8 ⟨Nat.zero_le _, Nat.zero_le _⟩ (fun H locs G => ?_)
  refine lv_if_eq (tgt := 28) hx hb dX8_isRuleSign_11 (by decide) (fun c2 => ?_) (fun c2 => ?_)
  · have hf := ifP c2 hf
    refine lv_iconst (v := 0) hx hb dX8_isRuleSign_28 (by decide) ?_
    cases hf
    exact g_zret C G (Or.inl rfl) hr hlocks dX8_isRuleSign_29
  · have hf := ifN c2 hf
    refine lv_aload_n hx hb dX8_isRuleSign_14 rfl (lv_at hl 0 rfl) ?_
    refine g_geti C G cl8 (C8 ok8_0) (j := 3) (by decide) (F8_3 ok8_0) k4_27 dX8_isRuleSign_15 ?_
    refine lv_iload_n hx hb dX8_isRuleSign_18 rfl (lv_at hl 1 rfl) ?_
    refine lv_bipush (v := 48) hx hb dX8_isRuleSign_19 (by decide) ?_
    refine lv_isub hx hb dX8_isRuleSign_21 ?_
    obtain ⟨r3, hc22_3, hf⟩ := bI1_some hf
    refine g_callSi C G (As := [.int (gt st 0 3), .int (a1 - 48)]) (rest := []) (c_X8_has l D cy h (gt st 0 3) (a1 - 48) st r3 hc22_3) v_X8_101 (Nat.le_of_ble_eq_true rfl) (Nat.le_of_ble_eq_true rfl) rfl hl.1 rfl (Nat.le_of_ble_eq_true rfl) dX8_isRuleSign_22 ⟨Nat.zero_le _, Nat.zero_le _⟩ (fun H locs G => ?_)
    refine lv_if_eq (tgt := 30) hx hb dX8_isRuleSign_25 (by decide) (fun c4 => ?_) (fun c4 => ?_)
    · have hf := ifP c4 hf
      refine lv_aload_n hx hb dX8_isRuleSign_30 rfl (lv_at hl 0 rfl) ?_
      refine lv_dup hx hb dX8_isRuleSign_31 rfl ?_
      refine g_geti C G cl8 (C8 ok8_0) (j := 3) (by decide) (F8_3 ok8_0) k4_27 dX8_isRuleSign_32 ?_
      refine lv_iconst (v := 1) hx hb dX8_isRuleSign_35 (by decide) ?_
      refine lv_iload_n hx hb dX8_isRuleSign_36 rfl (lv_at hl 1 rfl) ?_
      refine lv_bipush (v := 48) hx hb dX8_isRuleSign_37 (by decide) ?_
      refine lv_isub hx hb dX8_isRuleSign_39 ?_
      refine g_ishl C dX8_isRuleSign_40 ?_
      refine lv_ior hx hb dX8_isRuleSign_41 ?_
      refine g_puti C G cl8 (C8 ok8_0) (j := 3) (by decide) (F8_3 ok8_0) k4_27 rfl rfl rfl dX8_isRuleSign_42 (fun st5 est5 H locs G => ?_)
      have hf := lt_some est5 hf
      refine lv_aload_n hx hb dX8_isRuleSign_45 rfl (lv_at hl 0 rfl) ?_
      refine lv_dup hx hb dX8_isRuleSign_46 rfl ?_
      refine g_geti C G cl8 (C8 ok8_0) (j := 4) (by decide) (F8_4 ok8_0) k4_28 dX8_isRuleSign_47 ?_
      refine lv_iconst (v := 1) hx hb dX8_isRuleSign_50 (by decide) ?_
      refine lv_iadd hx hb dX8_isRuleSign_51 ?_
      refine g_puti C G cl8 (C8 ok8_0) (j := 4) (by decide) (F8_4 ok8_0) k4_28 rfl rfl rfl dX8_isRuleSign_52 (fun st6 est6 H locs G => ?_)
      have hf := lt_some est6 hf
      refine lv_iconst (v := 1) hx hb dX8_isRuleSign_55 (by decide) ?_
      cases hf
      exact g_zret C G (Or.inr rfl) hr hlocks dX8_isRuleSign_56
    · have hf := ifN c4 hf
      refine lv_iconst (v := 0) hx hb dX8_isRuleSign_28 (by decide) ?_
      cases hf
      exact g_zret C G (Or.inl rfl) hr hlocks dX8_isRuleSign_29

noncomputable def f_X8_faultOf_L17  (x4 : Int32) (st5 : GS) : Option ((Int32 × GS) ⊕ (Int32 × GS)) := 
(if (gt st5 0 1) ≤ x4 then some (.inr (x4, st5)) else 
(if (gt st5 0 2) = 0 then bI2 (f_X8_isBoxSign x4 st5) (fun r13 st14 => 
(if r13 = 0 then some (.inr (x4, st14)) else 
lt_ (x4 + 1) (fun x16 => 
some (.inl (x16, st14))))) else 
gd x4 54 (bI2 (f_X8_isRuleSign (gt st5 1 (x4.toNatClampNeg)) st5) (fun r9 st10 => 
(if r9 = 0 then some (.inr (x4, st10)) else 
lt_ (x4 + 1) (fun x12 => 
some (.inl (x12, st10))))))))
noncomputable def f_X8_faultOf (st : GS) : Option (Int32 × GS) := 
lt_ (sv st 0 2 0) (fun st1 => 
lt_ (sv st1 0 3 0) (fun st2 => 
lt_ (sv st2 0 4 0) (fun st3 => 
bI2 (lpx (uc2 f_X8_faultOf_L17) (0, st3)) (fun x17 st18 => 
some ((x17, st18))))))
set_option maxRecDepth 100000 in
set_option maxHeartbeats 4000000 in
theorem c_X8_faultOf (l : Launch) (D : va_G) (cy : ClassId) (h : Nat → Nat)  (st : GS) (r : Int32) (stF : GS) (hf : f_X8_faultOf st = some (r, stF)) : gMi l MSh D cy h yX8_faultOf cX8_faultOf 2 (some .int) 3 st [.ref (h 0)] r stF := by
  unfold f_X8_faultOf at hf
  refine gMi_of (by decide) (Nat.le_of_ble_eq_true rfl) ?_
  intro p e s m args below meth c A ls C hr hlocks G hl
  have C : gC p s m args c cX8_faultOf 2 "LaneOrderModel" MSh D cy h A := C
  have hl : lv_has ls 2 [(0, .ref (h 0))] := hl
  have hx := C.1
  have hb := C.2.1
  have hown := C.2.2.2.1
  have htb := C.2.2.2.2.1
  refine lv_aload_n hx hb dX8_faultOf_0 rfl (lv_at hl 0 rfl) ?_
  refine lv_iconst (v := 0) hx hb dX8_faultOf_1 (by decide) ?_
  refine g_puti C G cl8 (C8 ok8_0) (j := 2) (by decide) (F8_2 ok8_0) k4_26 rfl rfl rfl dX8_faultOf_2 (fun st1 est1 H locs G => ?_)
  have hf := lt_some est1 hf
  refine lv_aload_n hx hb dX8_faultOf_5 rfl (lv_at hl 0 rfl) ?_
  refine lv_iconst (v := 0) hx hb dX8_faultOf_6 (by decide) ?_
  refine g_puti C G cl8 (C8 ok8_0) (j := 3) (by decide) (F8_3 ok8_0) k4_27 rfl rfl rfl dX8_faultOf_7 (fun st2 est2 H locs G => ?_)
  have hf := lt_some est2 hf
  refine lv_aload_n hx hb dX8_faultOf_10 rfl (lv_at hl 0 rfl) ?_
  refine lv_iconst (v := 0) hx hb dX8_faultOf_11 (by decide) ?_
  refine g_puti C G cl8 (C8 ok8_0) (j := 4) (by decide) (F8_4 ok8_0) k4_28 rfl rfl rfl dX8_faultOf_12 (fun st3 est3 H locs G => ?_)
  have hf := lt_some est3 hf
  refine lv_iconst (v := 0) hx hb dX8_faultOf_15 (by decide) ?_
  refine lv_istore_n (lv' := [(1, .int 0), (0, .ref (h 0))]) hx hb dX8_faultOf_16 rfl hl (by decide) rfl (fun ls hl => ?_)
  obtain ⟨x17, st18, hn, hf⟩ := bI2_some hf
  obtain ⟨n, hn⟩ := lpx_some hn
  have K62 : ∀ (H : Heap) (locs : List Loc) (ls : Array Slot), gG MSh D cy h A s st18 H locs → lv_has ls 2 [(1, .int x17)] → W p l e (gR 3) s m args below meth c H locs 0 0 (MQ below (gQi MSh D cy h A r stF) args s 0 0 A) (F0 m 62 ls []) := by
    intro H locs ls G hl
    refine lv_iload_n hx hb dX8_faultOf_62 rfl (lv_at hl 0 rfl) ?_
    cases hf
    exact g_iret C G hr hlocks dX8_faultOf_63
  have L17 : ∀ (n : Nat) (x4 : Int32) (st5 : GS) (H : Heap) (locs : List Loc) (ls : Array Slot), gG MSh D cy h A s st5 H locs → lv_has ls 2 [(0, .ref (h 0)), (1, .int x4)] → lp (uc2 f_X8_faultOf_L17) n (x4, st5) = some (x17, st18) → W p l e (gR 3) s m args below meth c H locs 0 0 (MQ below (gQi MSh D cy h A r stF) args s 0 0 A) (F0 m 17 ls []) := by
    intro n
    induction n with
    | zero =>
      intro x4 st5 H locs ls G hl hn
      cases hn
    | succ n ih =>
      intro x4 st5 H locs ls G hl hn
      obtain ⟨q, hf, hq1, hq2⟩ := lp_q hn
      have hf : f_X8_faultOf_L17 x4 st5 = some q := hf
      unfold f_X8_faultOf_L17 at hf
      refine lv_iload_n hx hb dX8_faultOf_17 rfl (lv_at hl 1 rfl) ?_
      refine lv_aload_n hx hb dX8_faultOf_18 rfl (lv_at hl 0 rfl) ?_
      refine g_geti C G cl8 (C8 ok8_0) (j := 1) (by decide) (F8_1 ok8_0) k4_25 dX8_faultOf_19 ?_
      refine lv_icmp_ge (tgt := 62) hx hb dX8_faultOf_22 (by decide) (fun c6 => ?_) (fun c6 => ?_)
      · have hf := ifP c6 hf
        cases hf
        have hz9 := hq2 _ rfl
        cases hz9
        exact K62 _ _ _ G (lv_sub hl [1] rfl)
      · have hf := ifN c6 hf
        refine lv_aload_n hx hb dX8_faultOf_25 rfl (lv_at hl 0 rfl) ?_
        refine g_geti C G cl8 (C8 ok8_0) (j := 2) (by decide) (F8_2 ok8_0) k4_26 dX8_faultOf_26 ?_
        refine lv_if_ne (tgt := 43) hx hb dX8_faultOf_29 (by decide) (fun c7 => ?_) (fun c7 => ?_)
        · have hf := ifN c7 hf
          refine lv_aload_n hx hb dX8_faultOf_43 rfl (lv_at hl 0 rfl) ?_
          refine lv_aload_n hx hb dX8_faultOf_44 rfl (lv_at hl 0 rfl) ?_
          refine g_getr (k := 1) C G cl8 (C8 ok8_0) (j := 0) (by decide) (F8_0 ok8_0) k4_24 dX8_faultOf_45 ?_
          refine lv_iload_n hx hb dX8_faultOf_48 rfl (lv_at hl 1 rfl) ?_
          obtain ⟨hi49_7, hf⟩ := gd_some hf
          refine g_iald C G (A8_0 ok8_0) (j := x4.toNatClampNeg) rfl hi49_7 dX8_faultOf_49 ?_
          obtain ⟨r9, st10, hc50_10, hf⟩ := bI2_some hf
          refine g_callVi C G (As := [.int (gt st5 1 (x4.toNatClampNeg))]) (rest := []) (c_X8_isRuleSign l D cy h (gt st5 1 (x4.toNatClampNeg)) st5 r9 st10 hc50_10) cl8 rfl (C8 ok8_0) v_X8_112 (Nat.le_of_ble_eq_true rfl) (Nat.le_of_ble_eq_true rfl) rfl hl.1 rfl (Nat.le_of_ble_eq_true rfl) dX8_faultOf_50 ⟨Nat.zero_le _, Nat.zero_le _⟩ (fun H locs G => ?_)
          refine lv_if_eq (tgt := 62) hx hb dX8_faultOf_53 (by decide) (fun c11 => ?_) (fun c11 => ?_)
          · have hf := ifP c11 hf
            cases hf
            have hz9 := hq2 _ rfl
            cases hz9
            exact K62 _ _ _ G (lv_sub hl [1] rfl)
          · have hf := ifN c11 hf
            obtain ⟨x12, ex12⟩ : ∃ z : Int32, z = (x4 + 1) := ⟨_, rfl⟩
            have hf := lt_some ex12 hf
            refine lv_iinc (v := x12) (lv' := [(1, .int x12), (0, .ref (h 0))]) hx hb dX8_faultOf_56 hl (k := 1) rfl (by rw [ex12]; rfl) (by decide) rfl (fun ls hl => ?_)
            refine lv_goto (tgt := 17) hx hb dX8_faultOf_59 (by decide) ?_
            cases hf
            exact ih _ _ _ _ _ G (lv_sub hl [1, 0] rfl) (hq1 _ rfl)
        · have hf := ifP c7 hf
          refine lv_aload_n hx hb dX8_faultOf_32 rfl (lv_at hl 0 rfl) ?_
          refine lv_iload_n hx hb dX8_faultOf_33 rfl (lv_at hl 1 rfl) ?_
          obtain ⟨r13, st14, hc34_14, hf⟩ := bI2_some hf
          refine g_callVi C G (As := [.int x4]) (rest := []) (c_X8_isBoxSign l D cy h x4 st5 r13 st14 hc34_14) cl8 rfl (C8 ok8_0) v_X8_108 (Nat.le_of_ble_eq_true rfl) (Nat.le_of_ble_eq_true rfl) rfl hl.1 rfl (Nat.le_of_ble_eq_true rfl) dX8_faultOf_34 ⟨Nat.zero_le _, Nat.zero_le _⟩ (fun H locs G => ?_)
          refine lv_if_eq (tgt := 62) hx hb dX8_faultOf_37 (by decide) (fun c15 => ?_) (fun c15 => ?_)
          · have hf := ifP c15 hf
            cases hf
            have hz9 := hq2 _ rfl
            cases hz9
            exact K62 _ _ _ G (lv_sub hl [1] rfl)
          · have hf := ifN c15 hf
            refine lv_goto (tgt := 56) hx hb dX8_faultOf_40 (by decide) ?_
            obtain ⟨x16, ex16⟩ : ∃ z : Int32, z = (x4 + 1) := ⟨_, rfl⟩
            have hf := lt_some ex16 hf
            refine lv_iinc (v := x16) (lv' := [(1, .int x16), (0, .ref (h 0))]) hx hb dX8_faultOf_56 hl (k := 1) rfl (by rw [ex16]; rfl) (by decide) rfl (fun ls hl => ?_)
            refine lv_goto (tgt := 17) hx hb dX8_faultOf_59 (by decide) ?_
            cases hf
            exact ih _ _ _ _ _ G (lv_sub hl [1, 0] rfl) (hq1 _ rfl)
  exact L17 n _ _ _ _ _ G (lv_sub hl [1, 0] rfl) hn

noncomputable def f_X8_fault (st : GS) : Option (Int32 × GS) := 
bI2 (f_X8_faultOf st) (fun r1 st2 => 
some ((r1, st2)))
set_option maxRecDepth 100000 in
set_option maxHeartbeats 4000000 in
theorem c_X8_fault (l : Launch) (D : va_G) (cy : ClassId) (h : Nat → Nat)  (st : GS) (r : Int32) (stF : GS) (hf : f_X8_fault st = some (r, stF)) : gMi l MSh D cy h yX8_fault cX8_fault 1 (some .int) 4 st [.ref (h 0)] r stF := by
  unfold f_X8_fault at hf
  refine gMi_of (by decide) (Nat.le_of_ble_eq_true rfl) ?_
  intro p e s m args below meth c A ls C hr hlocks G hl
  have C : gC p s m args c cX8_fault 1 "LaneOrderModel" MSh D cy h A := C
  have hl : lv_has ls 1 [(0, .ref (h 0))] := hl
  have hx := C.1
  have hb := C.2.1
  have hown := C.2.2.2.1
  have htb := C.2.2.2.2.1
  refine lv_aload_n hx hb dX8_fault_0 rfl (lv_at hl 0 rfl) ?_
  obtain ⟨r1, st2, hc1_2, hf⟩ := bI2_some hf
  refine g_callVi C G (As := []) (rest := []) (c_X8_faultOf l D cy h st r1 st2 hc1_2) cl8 rfl (C8 ok8_0) v_X8_115 (Nat.le_of_ble_eq_true rfl) (Nat.le_of_ble_eq_true rfl) rfl hl.1 rfl (Nat.le_of_ble_eq_true rfl) dX8_fault_1 ⟨Nat.zero_le _, Nat.zero_le _⟩ (fun H locs G => ?_)
  cases hf
  exact g_iret C G hr hlocks dX8_fault_4

noncomputable def f_X8_page_L64 (x6 : Int32) (x13 : Int32) (st14 : GS) : Option ((Int32 × GS) ⊕ (GS)) := 
(if 4 ≤ x13 then some (.inr (st14)) else 
gd (((6 * x6) + 1) + x13) 54 (gd ((4 * x6) + x13) 32 (lt_ (sv st14 3 (((4 * x6) + x13).toNatClampNeg) ((gt st14 1 ((((6 * x6) + 1) + x13).toNatClampNeg)) - 48)) (fun st18 => 
lt_ (x13 + 1) (fun x19 => 
some (.inl (x19, st18)))))))
noncomputable def f_X8_page_L36  (x6 : Int32) (st7 : GS) : Option ((Int32 × GS) ⊕ (GS)) := 
(if (gt st7 0 5) ≤ x6 then some (.inr (st7)) else 
gd (6 * x6) 54 (bI1 (f_X8_kindBy (gt st7 1 ((6 * x6).toNatClampNeg))) (fun r10 => 
gd x6 8 (lt_ (sv st7 2 (x6.toNatClampNeg) r10) (fun st12 => 
bI1 (lpx (uc2 (f_X8_page_L64 x6)) (0, st12)) (fun st20 => 
lt_ (x6 + 1) (fun x21 => 
some (.inl (x21, st20)))))))))
noncomputable def f_X8_page_L117  (x24 : Int32) (st25 : GS) : Option ((Int32 × GS) ⊕ (GS)) := 
(if (gt st25 0 10) ≤ x24 then some (.inr (st25)) else 
gd (((gt st25 0 2) + 1) + x24) 54 (gd x24 4 (lt_ (sv st25 4 (x24.toNatClampNeg) ((gt st25 1 ((((gt st25 0 2) + 1) + x24).toNatClampNeg)) - 48)) (fun st29 => 
lt_ (x24 + 1) (fun x30 => 
some (.inl (x30, st29)))))))
noncomputable def f_X8_page (st : GS) : Option (Int32 × GS) := 
bI2 (f_X8_faultOf st) (fun r1 st2 => 
(if r1 < (gt st2 0 1) then some (((-103), st2)) else 
(if (gt st2 0 4) = 0 then some (((-103), st2)) else 
lt_ (sv st2 0 5 (((gt st2 0 2) + 1) / 6)) (fun st5 => 
bI1 (lpx (uc2 f_X8_page_L36) (0, st5)) (fun st22 => 
lt_ (sv st22 0 10 (gt st22 0 4)) (fun st23 => 
bI1 (lpx (uc2 f_X8_page_L117) (0, st23)) (fun st31 => 
lt_ (sv st31 0 26 0) (fun st32 => 
lt_ (sv st32 0 6 ((gt st32 0 6) + 1)) (fun st33 => 
lt_ (sv st33 0 1 0) (fun st34 => 
some (((gt st34 0 5), st34))))))))))))
set_option maxRecDepth 100000 in
set_option maxHeartbeats 4000000 in
theorem c_X8_page (l : Launch) (D : va_G) (cy : ClassId) (h : Nat → Nat)  (st : GS) (r : Int32) (stF : GS) (hf : f_X8_page st = some (r, stF)) : gMi l MSh D cy h yX8_page cX8_page 3 (some .int) 4 st [.ref (h 0)] r stF := by
  unfold f_X8_page at hf
  refine gMi_of (by decide) (Nat.le_of_ble_eq_true rfl) ?_
  intro p e s m args below meth c A ls C hr hlocks G hl
  have C : gC p s m args c cX8_page 3 "LaneOrderModel" MSh D cy h A := C
  have hl : lv_has ls 3 [(0, .ref (h 0))] := hl
  have hx := C.1
  have hb := C.2.1
  have hown := C.2.2.2.1
  have htb := C.2.2.2.2.1
  refine lv_aload_n hx hb dX8_page_0 rfl (lv_at hl 0 rfl) ?_
  obtain ⟨r1, st2, hc1_2, hf⟩ := bI2_some hf
  refine g_callVi C G (As := []) (rest := []) (c_X8_faultOf l D cy h st r1 st2 hc1_2) cl8 rfl (C8 ok8_0) v_X8_115 (Nat.le_of_ble_eq_true rfl) (Nat.le_of_ble_eq_true rfl) rfl hl.1 rfl (Nat.le_of_ble_eq_true rfl) dX8_page_1 ⟨Nat.zero_le _, Nat.zero_le _⟩ (fun H locs G => ?_)
  refine lv_aload_n hx hb dX8_page_4 rfl (lv_at hl 0 rfl) ?_
  refine g_geti C G cl8 (C8 ok8_0) (j := 1) (by decide) (F8_1 ok8_0) k4_25 dX8_page_5 ?_
  refine lv_icmp_lt (tgt := 18) hx hb dX8_page_8 (by decide) (fun c3 => ?_) (fun c3 => ?_)
  · have hf := ifP c3 hf
    refine lv_bipush (v := (-103)) hx hb dX8_page_18 (by decide) ?_
    cases hf
    exact g_iret C G hr hlocks dX8_page_20
  · have hf := ifN c3 hf
    refine lv_aload_n hx hb dX8_page_11 rfl (lv_at hl 0 rfl) ?_
    refine g_geti C G cl8 (C8 ok8_0) (j := 4) (by decide) (F8_4 ok8_0) k4_28 dX8_page_12 ?_
    refine lv_if_ne (tgt := 21) hx hb dX8_page_15 (by decide) (fun c4 => ?_) (fun c4 => ?_)
    · have hf := ifN c4 hf
      refine lv_aload_n hx hb dX8_page_21 rfl (lv_at hl 0 rfl) ?_
      refine lv_aload_n hx hb dX8_page_22 rfl (lv_at hl 0 rfl) ?_
      refine g_geti C G cl8 (C8 ok8_0) (j := 2) (by decide) (F8_2 ok8_0) k4_26 dX8_page_23 ?_
      refine lv_iconst (v := 1) hx hb dX8_page_26 (by decide) ?_
      refine lv_iadd hx hb dX8_page_27 ?_
      refine lv_bipush (v := 6) hx hb dX8_page_28 (by decide) ?_
      refine lv_idiv hx hb dX8_page_30 (by decide) ?_
      refine g_puti C G cl8 (C8 ok8_0) (j := 5) (by decide) (F8_5 ok8_0) k4_29 rfl rfl rfl dX8_page_31 (fun st5 est5 H locs G => ?_)
      have hf := lt_some est5 hf
      refine lv_iconst (v := 0) hx hb dX8_page_34 (by decide) ?_
      refine lv_istore_n (lv' := [(1, .int 0), (0, .ref (h 0))]) hx hb dX8_page_35 rfl hl (by decide) rfl (fun ls hl => ?_)
      obtain ⟨st22, hn, hf⟩ := bI1_some hf
      obtain ⟨n, hn⟩ := lpx_some hn
      have K107 : ∀ (H : Heap) (locs : List Loc) (ls : Array Slot), gG MSh D cy h A s st22 H locs → lv_has ls 3 [(0, .ref (h 0))] → W p l e (gR 4) s m args below meth c H locs 0 0 (MQ below (gQi MSh D cy h A r stF) args s 0 0 A) (F0 m 107 ls []) := by
        intro H locs ls G hl
        refine lv_aload_n hx hb dX8_page_107 rfl (lv_at hl 0 rfl) ?_
        refine lv_aload_n hx hb dX8_page_108 rfl (lv_at hl 0 rfl) ?_
        refine g_geti C G cl8 (C8 ok8_0) (j := 4) (by decide) (F8_4 ok8_0) k4_28 dX8_page_109 ?_
        refine g_puti C G cl8 (C8 ok8_0) (j := 10) (by decide) (F8_10 ok8_0) k4_34 rfl rfl rfl dX8_page_112 (fun st23 est23 H locs G => ?_)
        have hf := lt_some est23 hf
        refine lv_iconst (v := 0) hx hb dX8_page_115 (by decide) ?_
        refine lv_istore_n (lv' := [(1, .int 0), (0, .ref (h 0))]) hx hb dX8_page_116 rfl hl (by decide) rfl (fun ls hl => ?_)
        obtain ⟨st31, hn, hf⟩ := bI1_some hf
        obtain ⟨n, hn⟩ := lpx_some hn
        have K153 : ∀ (H : Heap) (locs : List Loc) (ls : Array Slot), gG MSh D cy h A s st31 H locs → lv_has ls 3 [(0, .ref (h 0))] → W p l e (gR 4) s m args below meth c H locs 0 0 (MQ below (gQi MSh D cy h A r stF) args s 0 0 A) (F0 m 153 ls []) := by
          intro H locs ls G hl
          refine lv_aload_n hx hb dX8_page_153 rfl (lv_at hl 0 rfl) ?_
          refine lv_iconst (v := 0) hx hb dX8_page_154 (by decide) ?_
          refine g_puti C G cl8 (C8 ok8_0) (j := 26) (by decide) (F8_26 ok8_0) k4_50 rfl rfl rfl dX8_page_155 (fun st32 est32 H locs G => ?_)
          have hf := lt_some est32 hf
          refine lv_aload_n hx hb dX8_page_158 rfl (lv_at hl 0 rfl) ?_
          refine lv_dup hx hb dX8_page_159 rfl ?_
          refine g_geti C G cl8 (C8 ok8_0) (j := 6) (by decide) (F8_6 ok8_0) k4_30 dX8_page_160 ?_
          refine lv_iconst (v := 1) hx hb dX8_page_163 (by decide) ?_
          refine lv_iadd hx hb dX8_page_164 ?_
          refine g_puti C G cl8 (C8 ok8_0) (j := 6) (by decide) (F8_6 ok8_0) k4_30 rfl rfl rfl dX8_page_165 (fun st33 est33 H locs G => ?_)
          have hf := lt_some est33 hf
          refine lv_aload_n hx hb dX8_page_168 rfl (lv_at hl 0 rfl) ?_
          refine lv_iconst (v := 0) hx hb dX8_page_169 (by decide) ?_
          refine g_puti C G cl8 (C8 ok8_0) (j := 1) (by decide) (F8_1 ok8_0) k4_25 rfl rfl rfl dX8_page_170 (fun st34 est34 H locs G => ?_)
          have hf := lt_some est34 hf
          refine lv_aload_n hx hb dX8_page_173 rfl (lv_at hl 0 rfl) ?_
          refine g_geti C G cl8 (C8 ok8_0) (j := 5) (by decide) (F8_5 ok8_0) k4_29 dX8_page_174 ?_
          cases hf
          exact g_iret C G hr hlocks dX8_page_177
        have L117 : ∀ (n : Nat) (x24 : Int32) (st25 : GS) (H : Heap) (locs : List Loc) (ls : Array Slot), gG MSh D cy h A s st25 H locs → lv_has ls 3 [(0, .ref (h 0)), (1, .int x24)] → lp (uc2 f_X8_page_L117) n (x24, st25) = some (st31) → W p l e (gR 4) s m args below meth c H locs 0 0 (MQ below (gQi MSh D cy h A r stF) args s 0 0 A) (F0 m 117 ls []) := by
          intro n
          induction n with
          | zero =>
            intro x24 st25 H locs ls G hl hn
            cases hn
          | succ n ih =>
            intro x24 st25 H locs ls G hl hn
            obtain ⟨q, hf, hq1, hq2⟩ := lp_q hn
            have hf : f_X8_page_L117 x24 st25 = some q := hf
            unfold f_X8_page_L117 at hf
            refine lv_iload_n hx hb dX8_page_117 rfl (lv_at hl 1 rfl) ?_
            refine lv_aload_n hx hb dX8_page_118 rfl (lv_at hl 0 rfl) ?_
            refine g_geti C G cl8 (C8 ok8_0) (j := 10) (by decide) (F8_10 ok8_0) k4_34 dX8_page_119 ?_
            refine lv_icmp_ge (tgt := 153) hx hb dX8_page_122 (by decide) (fun c26 => ?_) (fun c26 => ?_)
            · have hf := ifP c26 hf
              cases hf
              have hz9 := hq2 _ rfl
              cases hz9
              exact K153 _ _ _ G (lv_sub hl [0] rfl)
            · have hf := ifN c26 hf
              refine lv_aload_n hx hb dX8_page_125 rfl (lv_at hl 0 rfl) ?_
              refine g_getr (k := 4) C G cl8 (C8 ok8_0) (j := 9) (by decide) (F8_9 ok8_0) k4_33 dX8_page_126 ?_
              refine lv_iload_n hx hb dX8_page_129 rfl (lv_at hl 1 rfl) ?_
              refine lv_aload_n hx hb dX8_page_130 rfl (lv_at hl 0 rfl) ?_
              refine g_getr (k := 1) C G cl8 (C8 ok8_0) (j := 0) (by decide) (F8_0 ok8_0) k4_24 dX8_page_131 ?_
              refine lv_aload_n hx hb dX8_page_134 rfl (lv_at hl 0 rfl) ?_
              refine g_geti C G cl8 (C8 ok8_0) (j := 2) (by decide) (F8_2 ok8_0) k4_26 dX8_page_135 ?_
              refine lv_iconst (v := 1) hx hb dX8_page_138 (by decide) ?_
              refine lv_iadd hx hb dX8_page_139 ?_
              refine lv_iload_n hx hb dX8_page_140 rfl (lv_at hl 1 rfl) ?_
              refine lv_iadd hx hb dX8_page_141 ?_
              obtain ⟨hi142_26, hf⟩ := gd_some hf
              refine g_iald C G (A8_0 ok8_0) (j := (((gt st25 0 2) + 1) + x24).toNatClampNeg) rfl hi142_26 dX8_page_142 ?_
              refine lv_bipush (v := 48) hx hb dX8_page_143 (by decide) ?_
              refine lv_isub hx hb dX8_page_145 ?_
              obtain ⟨hi146_27, hf⟩ := gd_some hf
              refine g_iast C G (A8_9 ok8_0) (j := x24.toNatClampNeg) rfl hi146_27 dX8_page_146 (fun st29 est29 H locs G => ?_)
              have hf := lt_some est29 hf
              obtain ⟨x30, ex30⟩ : ∃ z : Int32, z = (x24 + 1) := ⟨_, rfl⟩
              have hf := lt_some ex30 hf
              refine lv_iinc (v := x30) (lv' := [(1, .int x30), (0, .ref (h 0))]) hx hb dX8_page_147 hl (k := 1) rfl (by rw [ex30]; rfl) (by decide) rfl (fun ls hl => ?_)
              refine lv_goto (tgt := 117) hx hb dX8_page_150 (by decide) ?_
              cases hf
              exact ih _ _ _ _ _ G (lv_sub hl [1, 0] rfl) (hq1 _ rfl)
        exact L117 n _ _ _ _ _ G (lv_sub hl [1, 0] rfl) hn
      have L36 : ∀ (n : Nat) (x6 : Int32) (st7 : GS) (H : Heap) (locs : List Loc) (ls : Array Slot), gG MSh D cy h A s st7 H locs → lv_has ls 3 [(0, .ref (h 0)), (1, .int x6)] → lp (uc2 f_X8_page_L36) n (x6, st7) = some (st22) → W p l e (gR 4) s m args below meth c H locs 0 0 (MQ below (gQi MSh D cy h A r stF) args s 0 0 A) (F0 m 36 ls []) := by
        intro n
        induction n with
        | zero =>
          intro x6 st7 H locs ls G hl hn
          cases hn
        | succ n ih =>
          intro x6 st7 H locs ls G hl hn
          obtain ⟨q, hf, hq1, hq2⟩ := lp_q hn
          have hf : f_X8_page_L36 x6 st7 = some q := hf
          unfold f_X8_page_L36 at hf
          refine lv_iload_n hx hb dX8_page_36 rfl (lv_at hl 1 rfl) ?_
          refine lv_aload_n hx hb dX8_page_37 rfl (lv_at hl 0 rfl) ?_
          refine g_geti C G cl8 (C8 ok8_0) (j := 5) (by decide) (F8_5 ok8_0) k4_29 dX8_page_38 ?_
          refine lv_icmp_ge (tgt := 107) hx hb dX8_page_41 (by decide) (fun c8 => ?_) (fun c8 => ?_)
          · have hf := ifP c8 hf
            cases hf
            have hz9 := hq2 _ rfl
            cases hz9
            exact K107 _ _ _ G (lv_sub hl [0] rfl)
          · have hf := ifN c8 hf
            refine lv_aload_n hx hb dX8_page_44 rfl (lv_at hl 0 rfl) ?_
            refine g_getr (k := 2) C G cl8 (C8 ok8_0) (j := 7) (by decide) (F8_7 ok8_0) k4_31 dX8_page_45 ?_
            refine lv_iload_n hx hb dX8_page_48 rfl (lv_at hl 1 rfl) ?_
            refine lv_aload_n hx hb dX8_page_49 rfl (lv_at hl 0 rfl) ?_
            refine g_getr (k := 1) C G cl8 (C8 ok8_0) (j := 0) (by decide) (F8_0 ok8_0) k4_24 dX8_page_50 ?_
            refine lv_bipush (v := 6) hx hb dX8_page_53 (by decide) ?_
            refine lv_iload_n hx hb dX8_page_55 rfl (lv_at hl 1 rfl) ?_
            refine lv_imul hx hb dX8_page_56 ?_
            obtain ⟨hi57_8, hf⟩ := gd_some hf
            refine g_iald C G (A8_0 ok8_0) (j := (6 * x6).toNatClampNeg) rfl hi57_8 dX8_page_57 ?_
            obtain ⟨r10, hc58_10, hf⟩ := bI1_some hf
            refine g_callSi C G (As := [.int (gt st7 1 ((6 * x6).toNatClampNeg))]) (rest := [.int x6, .ref (h 2)]) (c_X8_kindBy l D cy h (gt st7 1 ((6 * x6).toNatClampNeg)) st7 r10 hc58_10) v_X8_83 (Nat.le_of_ble_eq_true rfl) (Nat.le_of_ble_eq_true rfl) rfl hl.1 rfl (Nat.le_of_ble_eq_true rfl) dX8_page_58 ⟨Nat.zero_le _, Nat.zero_le _⟩ (fun H locs G => ?_)
            obtain ⟨hi61_10, hf⟩ := gd_some hf
            refine g_iast C G (A8_7 ok8_0) (j := x6.toNatClampNeg) rfl hi61_10 dX8_page_61 (fun st12 est12 H locs G => ?_)
            have hf := lt_some est12 hf
            refine lv_iconst (v := 0) hx hb dX8_page_62 (by decide) ?_
            refine lv_istore_n (lv' := [(2, .int 0), (0, .ref (h 0)), (1, .int x6)]) hx hb dX8_page_63 rfl hl (by decide) rfl (fun ls hl => ?_)
            obtain ⟨st20, hn, hf⟩ := bI1_some hf
            obtain ⟨n, hn⟩ := lpx_some hn
            have K101 : ∀ (H : Heap) (locs : List Loc) (ls : Array Slot), gG MSh D cy h A s st20 H locs → lv_has ls 3 [(0, .ref (h 0)), (1, .int x6)] → W p l e (gR 4) s m args below meth c H locs 0 0 (MQ below (gQi MSh D cy h A r stF) args s 0 0 A) (F0 m 101 ls []) := by
              intro H locs ls G hl
              obtain ⟨x21, ex21⟩ : ∃ z : Int32, z = (x6 + 1) := ⟨_, rfl⟩
              have hf := lt_some ex21 hf
              refine lv_iinc (v := x21) (lv' := [(1, .int x21), (0, .ref (h 0))]) hx hb dX8_page_101 hl (k := 1) rfl (by rw [ex21]; rfl) (by decide) rfl (fun ls hl => ?_)
              refine lv_goto (tgt := 36) hx hb dX8_page_104 (by decide) ?_
              cases hf
              exact ih _ _ _ _ _ G (lv_sub hl [1, 0] rfl) (hq1 _ rfl)
            have L64 : ∀ (n : Nat) (x13 : Int32) (st14 : GS) (H : Heap) (locs : List Loc) (ls : Array Slot), gG MSh D cy h A s st14 H locs → lv_has ls 3 [(0, .ref (h 0)), (1, .int x6), (2, .int x13)] → lp (uc2 (f_X8_page_L64 x6)) n (x13, st14) = some (st20) → W p l e (gR 4) s m args below meth c H locs 0 0 (MQ below (gQi MSh D cy h A r stF) args s 0 0 A) (F0 m 64 ls []) := by
              intro n
              induction n with
              | zero =>
                intro x13 st14 H locs ls G hl hn
                cases hn
              | succ n ih =>
                intro x13 st14 H locs ls G hl hn
                obtain ⟨q, hf, hq1, hq2⟩ := lp_q hn
                have hf : f_X8_page_L64 x6 x13 st14 = some q := hf
                unfold f_X8_page_L64 at hf
                refine lv_iload_n hx hb dX8_page_64 rfl (lv_at hl 2 rfl) ?_
                refine lv_iconst (v := 4) hx hb dX8_page_65 (by decide) ?_
                refine lv_icmp_ge (tgt := 101) hx hb dX8_page_66 (by decide) (fun c15 => ?_) (fun c15 => ?_)
                · have hf := ifP c15 hf
                  cases hf
                  have hz9 := hq2 _ rfl
                  cases hz9
                  exact K101 _ _ _ G (lv_sub hl [0, 1] rfl)
                · have hf := ifN c15 hf
                  refine lv_aload_n hx hb dX8_page_69 rfl (lv_at hl 0 rfl) ?_
                  refine g_getr (k := 3) C G cl8 (C8 ok8_0) (j := 8) (by decide) (F8_8 ok8_0) k4_32 dX8_page_70 ?_
                  refine lv_iconst (v := 4) hx hb dX8_page_73 (by decide) ?_
                  refine lv_iload_n hx hb dX8_page_74 rfl (lv_at hl 1 rfl) ?_
                  refine lv_imul hx hb dX8_page_75 ?_
                  refine lv_iload_n hx hb dX8_page_76 rfl (lv_at hl 2 rfl) ?_
                  refine lv_iadd hx hb dX8_page_77 ?_
                  refine lv_aload_n hx hb dX8_page_78 rfl (lv_at hl 0 rfl) ?_
                  refine g_getr (k := 1) C G cl8 (C8 ok8_0) (j := 0) (by decide) (F8_0 ok8_0) k4_24 dX8_page_79 ?_
                  refine lv_bipush (v := 6) hx hb dX8_page_82 (by decide) ?_
                  refine lv_iload_n hx hb dX8_page_84 rfl (lv_at hl 1 rfl) ?_
                  refine lv_imul hx hb dX8_page_85 ?_
                  refine lv_iconst (v := 1) hx hb dX8_page_86 (by decide) ?_
                  refine lv_iadd hx hb dX8_page_87 ?_
                  refine lv_iload_n hx hb dX8_page_88 rfl (lv_at hl 2 rfl) ?_
                  refine lv_iadd hx hb dX8_page_89 ?_
                  obtain ⟨hi90_15, hf⟩ := gd_some hf
                  refine g_iald C G (A8_0 ok8_0) (j := (((6 * x6) + 1) + x13).toNatClampNeg) rfl hi90_15 dX8_page_90 ?_
                  refine lv_bipush (v := 48) hx hb dX8_page_91 (by decide) ?_
                  refine lv_isub hx hb dX8_page_93 ?_
                  obtain ⟨hi94_16, hf⟩ := gd_some hf
                  refine g_iast C G (A8_8 ok8_0) (j := ((4 * x6) + x13).toNatClampNeg) rfl hi94_16 dX8_page_94 (fun st18 est18 H locs G => ?_)
                  have hf := lt_some est18 hf
                  obtain ⟨x19, ex19⟩ : ∃ z : Int32, z = (x13 + 1) := ⟨_, rfl⟩
                  have hf := lt_some ex19 hf
                  refine lv_iinc (v := x19) (lv' := [(2, .int x19), (0, .ref (h 0)), (1, .int x6)]) hx hb dX8_page_95 hl (k := 2) rfl (by rw [ex19]; rfl) (by decide) rfl (fun ls hl => ?_)
                  refine lv_goto (tgt := 64) hx hb dX8_page_98 (by decide) ?_
                  cases hf
                  exact ih _ _ _ _ _ G (lv_sub hl [1, 2, 0] rfl) (hq1 _ rfl)
            exact L64 n _ _ _ _ _ G (lv_sub hl [1, 2, 0] rfl) hn
      exact L36 n _ _ _ _ _ G (lv_sub hl [1, 0] rfl) hn
    · have hf := ifP c4 hf
      refine lv_bipush (v := (-103)) hx hb dX8_page_18 (by decide) ?_
      cases hf
      exact g_iret C G hr hlocks dX8_page_20

noncomputable def f_X8_lacks (st : GS) : Option (Int32) := 
(if (gt st 0 5) = 0 then some (1) else 
some (0))
set_option maxRecDepth 100000 in
set_option maxHeartbeats 4000000 in
theorem c_X8_lacks (l : Launch) (D : va_G) (cy : ClassId) (h : Nat → Nat)  (st : GS) (r : Int32) (hf : f_X8_lacks st = some r) : gMi l MSh D cy h yX8_lacks cX8_lacks 1 (some .boolean) 1 st [.ref (h 0)] r st := by
  unfold f_X8_lacks at hf
  refine gMi_of (by decide) (Nat.le_of_ble_eq_true rfl) ?_
  intro p e s m args below meth c A ls C hr hlocks G hl
  have C : gC p s m args c cX8_lacks 1 "LaneOrderModel" MSh D cy h A := C
  have hl : lv_has ls 1 [(0, .ref (h 0))] := hl
  have hx := C.1
  have hb := C.2.1
  have hown := C.2.2.2.1
  have htb := C.2.2.2.2.1
  refine lv_aload_n hx hb dX8_lacks_0 rfl (lv_at hl 0 rfl) ?_
  refine g_geti C G cl8 (C8 ok8_0) (j := 5) (by decide) (F8_5 ok8_0) k4_29 dX8_lacks_1 ?_
  refine lv_if_ne (tgt := 11) hx hb dX8_lacks_4 (by decide) (fun c1 => ?_) (fun c1 => ?_)
  · have hf := ifN c1 hf
    refine lv_iconst (v := 0) hx hb dX8_lacks_11 (by decide) ?_
    cases hf
    exact g_zret C G (Or.inl rfl) hr hlocks dX8_lacks_12
  · have hf := ifP c1 hf
    refine lv_iconst (v := 1) hx hb dX8_lacks_7 (by decide) ?_
    refine lv_goto (tgt := 12) hx hb dX8_lacks_8 (by decide) ?_
    cases hf
    exact g_zret C G (Or.inr rfl) hr hlocks dX8_lacks_12

noncomputable def f_X8_isBox (a1 : Int32) (st : GS) : Option (Int32) := 
bI1 (f_X8_in (Int32.toInt64 a1) 0 (Int32.toInt64 ((gt st 0 5) - 1))) (fun r1 => 
gq (r1 = 0 ∨ r1 = 1) (some (r1)))
set_option maxRecDepth 100000 in
set_option maxHeartbeats 4000000 in
theorem c_X8_isBox (l : Launch) (D : va_G) (cy : ClassId) (h : Nat → Nat) (a1 : Int32) (st : GS) (r : Int32) (hf : f_X8_isBox a1 st = some r) : gMi l MSh D cy h yX8_isBox cX8_isBox 2 (some .boolean) 2 st [.ref (h 0), .int a1] r st := by
  unfold f_X8_isBox at hf
  refine gMi_of (by decide) (Nat.le_of_ble_eq_true rfl) ?_
  intro p e s m args below meth c A ls C hr hlocks G hl
  have C : gC p s m args c cX8_isBox 2 "LaneOrderModel" MSh D cy h A := C
  have hl : lv_has ls 2 [(0, .ref (h 0)), (1, .int a1)] := hl
  have hx := C.1
  have hb := C.2.1
  have hown := C.2.2.2.1
  have htb := C.2.2.2.2.1
  refine lv_iload_n hx hb dX8_isBox_0 rfl (lv_at hl 1 rfl) ?_
  refine lv_i2l hx hb dX8_isBox_1 rfl ?_
  refine lv_lconst (v := 0) hx hb dX8_isBox_2 rfl ?_
  refine lv_aload_n hx hb dX8_isBox_3 rfl (lv_at hl 0 rfl) ?_
  refine g_geti C G cl8 (C8 ok8_0) (j := 5) (by decide) (F8_5 ok8_0) k4_29 dX8_isBox_4 ?_
  refine lv_iconst (v := 1) hx hb dX8_isBox_7 (by decide) ?_
  refine lv_isub hx hb dX8_isBox_8 ?_
  refine lv_i2l hx hb dX8_isBox_9 rfl ?_
  obtain ⟨r1, hc10_1, hf⟩ := bI1_some hf
  refine g_callSi C G (As := [.long (Int32.toInt64 a1), .long 0, .long (Int32.toInt64 ((gt st 0 5) - 1))]) (rest := []) (c_X8_in l D cy h (Int32.toInt64 a1) 0 (Int32.toInt64 ((gt st 0 5) - 1)) st r1 hc10_1) v_X8_76 (Nat.le_of_ble_eq_true rfl) (Nat.le_of_ble_eq_true rfl) rfl hl.1 rfl (Nat.le_of_ble_eq_true rfl) dX8_isBox_10 ⟨Nat.zero_le _, Nat.zero_le _⟩ (fun H locs G => ?_)
  obtain ⟨hz, hf⟩ := gq_some hf
  cases hf
  exact g_zret C G hz hr hlocks dX8_isBox_13

noncomputable def f_X8_gap (a1 : Int32) (a2 : Int32) (a3 : Int32) (a4 : Int32) : Option (Int32) := 
(if a3 ≤ a2 then (if a1 ≤ a4 then some (0) else 
some ((a1 - a4))) else 
some ((a3 - a2)))
set_option maxRecDepth 100000 in
set_option maxHeartbeats 4000000 in
theorem c_X8_gap (l : Launch) (D : va_G) (cy : ClassId) (h : Nat → Nat) (a1 : Int32) (a2 : Int32) (a3 : Int32) (a4 : Int32) (st : GS) (r : Int32) (hf : f_X8_gap a1 a2 a3 a4 = some r) : gMi l MSh D cy h yX8_gap cX8_gap 4 (some .int) 1 st [.int a1, .int a2, .int a3, .int a4] r st := by
  unfold f_X8_gap at hf
  refine gMi_of (by decide) (Nat.le_of_ble_eq_true rfl) ?_
  intro p e s m args below meth c A ls C hr hlocks G hl
  have C : gC p s m args c cX8_gap 4 "LaneOrderModel" MSh D cy h A := C
  have hl : lv_has ls 4 [(0, .int a1), (1, .int a2), (2, .int a3), (3, .int a4)] := hl
  have hx := C.1
  have hb := C.2.1
  have hown := C.2.2.2.1
  have htb := C.2.2.2.2.1
  refine lv_iload_n hx hb dX8_gap_0 rfl (lv_at hl 2 rfl) ?_
  refine lv_iload_n hx hb dX8_gap_1 rfl (lv_at hl 1 rfl) ?_
  refine lv_icmp_le (tgt := 11) hx hb dX8_gap_2 (by decide) (fun c1 => ?_) (fun c1 => ?_)
  · have hf := ifP c1 hf
    refine lv_iload_n hx hb dX8_gap_11 rfl (lv_at hl 0 rfl) ?_
    refine lv_iload_n hx hb dX8_gap_12 rfl (lv_at hl 3 rfl) ?_
    refine lv_icmp_le (tgt := 22) hx hb dX8_gap_13 (by decide) (fun c2 => ?_) (fun c2 => ?_)
    · have hf := ifP c2 hf
      refine lv_iconst (v := 0) hx hb dX8_gap_22 (by decide) ?_
      cases hf
      exact g_iret C G hr hlocks dX8_gap_23
    · have hf := ifN c2 hf
      refine lv_iload_n hx hb dX8_gap_16 rfl (lv_at hl 0 rfl) ?_
      refine lv_iload_n hx hb dX8_gap_17 rfl (lv_at hl 3 rfl) ?_
      refine lv_isub hx hb dX8_gap_18 ?_
      refine lv_goto (tgt := 23) hx hb dX8_gap_19 (by decide) ?_
      cases hf
      exact g_iret C G hr hlocks dX8_gap_23
  · have hf := ifN c1 hf
    refine lv_iload_n hx hb dX8_gap_5 rfl (lv_at hl 2 rfl) ?_
    refine lv_iload_n hx hb dX8_gap_6 rfl (lv_at hl 1 rfl) ?_
    refine lv_isub hx hb dX8_gap_7 ?_
    refine lv_goto (tgt := 23) hx hb dX8_gap_8 (by decide) ?_
    cases hf
    exact g_iret C G hr hlocks dX8_gap_23
