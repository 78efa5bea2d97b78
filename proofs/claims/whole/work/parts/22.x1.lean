noncomputable def f_X1_step (st : GS) : Option (GS) := 
lt_ (sv st 66 0 (((1103515245 * (gt st 66 0)) + 12345) &&& 2147483647)) (fun st1 => 
some (st1))
set_option maxRecDepth 100000 in
set_option maxHeartbeats 4000000 in
theorem c_X1_step (l : Launch) (D : va_G) (cy : ClassId) (h : Nat → Nat)  (st : GS) (stF : GS) (hf : f_X1_step st = some stF) : gMv l XSh D cy h yX1_step cX1_step 1 none 1 st [.ref (h 66)] stF := by
  unfold f_X1_step at hf
  refine gMv_of (by decide) (Nat.le_of_ble_eq_true rfl) ?_
  intro p e s m args below meth c A ls C hr hlocks G hl
  have C : gC p s m args c cX1_step 1 "LaneOrder$Draws" XSh D cy h A := C
  have hl : lv_has ls 1 [(0, .ref (h 66))] := hl
  have hx := C.1
  have hb := C.2.1
  have hown := C.2.2.2.1
  have htb := C.2.2.2.2.1
  refine lv_aload_n hx hb dX1_step_0 rfl (lv_at hl 0 rfl) ?_
  refine lv_ldc hx hb (v := 1103515245) hown (htb _ k3_216) dX1_step_1 ?_
  refine lv_aload_n hx hb dX1_step_3 rfl (lv_at hl 0 rfl) ?_
  refine g_geti C G cl1 (C1 ok1_66) (j := 0) (by decide) (F1_0 ok1_66) k1_226 dX1_step_4 ?_
  refine lv_imul hx hb dX1_step_7 ?_
  refine lv_sipush (v := 12345) hx hb dX1_step_8 (by decide) ?_
  refine lv_iadd hx hb dX1_step_11 ?_
  refine lv_ldc hx hb (v := 2147483647) hown (htb _ k3_217) dX1_step_12 ?_
  refine lv_iand hx hb dX1_step_14 ?_
  refine g_puti C G cl1 (C1 ok1_66) (j := 0) (by decide) (F1_0 ok1_66) k1_226 rfl rfl rfl dX1_step_15 (fun st1 est1 H locs G => ?_)
  have hf := lt_some est1 hf
  cases hf
  exact g_vret C G hr hlocks dX1_step_18

noncomputable def f_X1_ofEight (st : GS) : Option (Int32 × GS) := 
bI1 (f_X1_step st) (fun st1 => 
some (((irem ((gt st1 66 0) / 65536) 8), st1)))
set_option maxRecDepth 100000 in
set_option maxHeartbeats 4000000 in
theorem c_X1_ofEight (l : Launch) (D : va_G) (cy : ClassId) (h : Nat → Nat)  (st : GS) (r : Int32) (stF : GS) (hf : f_X1_ofEight st = some (r, stF)) : gMi l XSh D cy h yX1_ofEight cX1_ofEight 1 (some .int) 2 st [.ref (h 66)] r stF := by
  unfold f_X1_ofEight at hf
  refine gMi_of (by decide) (Nat.le_of_ble_eq_true rfl) ?_
  intro p e s m args below meth c A ls C hr hlocks G hl
  have C : gC p s m args c cX1_ofEight 1 "LaneOrder$Draws" XSh D cy h A := C
  have hl : lv_has ls 1 [(0, .ref (h 66))] := hl
  have hx := C.1
  have hb := C.2.1
  have hown := C.2.2.2.1
  have htb := C.2.2.2.2.1
  refine lv_aload_n hx hb dX1_ofEight_0 rfl (lv_at hl 0 rfl) ?_
  obtain ⟨st1, hc1_1, hf⟩ := bI1_some hf
  refine g_callVv C G (As := []) (rest := []) (c_X1_step l D cy h st st1 hc1_1) cl1 rfl (C1 ok1_66) v_X1_31 (Nat.le_of_ble_eq_true rfl) (Nat.le_of_ble_eq_true rfl) rfl hl.1 rfl (Nat.le_of_ble_eq_true rfl) dX1_ofEight_1 ⟨Nat.zero_le _, Nat.zero_le _⟩ (fun H locs G => ?_)
  refine lv_aload_n hx hb dX1_ofEight_4 rfl (lv_at hl 0 rfl) ?_
  refine g_geti C G cl1 (C1 ok1_66) (j := 0) (by decide) (F1_0 ok1_66) k1_226 dX1_ofEight_5 ?_
  refine lv_ldc hx hb (v := 65536) hown (htb _ k3_218) dX1_ofEight_8 ?_
  refine lv_idiv hx hb dX1_ofEight_10 (by decide) ?_
  refine lv_bipush (v := 8) hx hb dX1_ofEight_11 (by decide) ?_
  refine g_irem C dX1_ofEight_13 (by decide) ?_
  cases hf
  exact g_iret C G hr hlocks dX1_ofEight_14

noncomputable def f_X1_ofThree (st : GS) : Option (Int32 × GS) := 
bI1 (f_X1_step st) (fun st1 => 
some (((irem ((gt st1 66 0) / 65536) 3), st1)))
set_option maxRecDepth 100000 in
set_option maxHeartbeats 4000000 in
theorem c_X1_ofThree (l : Launch) (D : va_G) (cy : ClassId) (h : Nat → Nat)  (st : GS) (r : Int32) (stF : GS) (hf : f_X1_ofThree st = some (r, stF)) : gMi l XSh D cy h yX1_ofThree cX1_ofThree 1 (some .int) 2 st [.ref (h 66)] r stF := by
  unfold f_X1_ofThree at hf
  refine gMi_of (by decide) (Nat.le_of_ble_eq_true rfl) ?_
  intro p e s m args below meth c A ls C hr hlocks G hl
  have C : gC p s m args c cX1_ofThree 1 "LaneOrder$Draws" XSh D cy h A := C
  have hl : lv_has ls 1 [(0, .ref (h 66))] := hl
  have hx := C.1
  have hb := C.2.1
  have hown := C.2.2.2.1
  have htb := C.2.2.2.2.1
  refine lv_aload_n hx hb dX1_ofThree_0 rfl (lv_at hl 0 rfl) ?_
  obtain ⟨st1, hc1_1, hf⟩ := bI1_some hf
  refine g_callVv C G (As := []) (rest := []) (c_X1_step l D cy h st st1 hc1_1) cl1 rfl (C1 ok1_66) v_X1_31 (Nat.le_of_ble_eq_true rfl) (Nat.le_of_ble_eq_true rfl) rfl hl.1 rfl (Nat.le_of_ble_eq_true rfl) dX1_ofThree_1 ⟨Nat.zero_le _, Nat.zero_le _⟩ (fun H locs G => ?_)
  refine lv_aload_n hx hb dX1_ofThree_4 rfl (lv_at hl 0 rfl) ?_
  refine g_geti C G cl1 (C1 ok1_66) (j := 0) (by decide) (F1_0 ok1_66) k1_226 dX1_ofThree_5 ?_
  refine lv_ldc hx hb (v := 65536) hown (htb _ k3_218) dX1_ofThree_8 ?_
  refine lv_idiv hx hb dX1_ofThree_10 (by decide) ?_
  refine lv_iconst (v := 3) hx hb dX1_ofThree_11 (by decide) ?_
  refine g_irem C dX1_ofThree_12 (by decide) ?_
  cases hf
  exact g_iret C G hr hlocks dX1_ofThree_13

noncomputable def f_X1_drawTo_L6 (a1 : Nat) (x2 : Int32) (st3 : GS) : Option ((Int32 × GS) ⊕ (GS)) := 
(if 5 ≤ x2 then some (.inr (st3)) else 
bI2 (f_X1_ofEight st3) (fun r5 st6 => 
bI2 (f_X1_ofEight st6) (fun r7 st8 => 
bI2 (f_X1_ofThree st8) (fun r9 st10 => 
lt_ ((r5 + 1) + r9) (fun x11 => 
bI2 (f_X1_ofThree st10) (fun r12 st13 => 
lt_ ((r7 + 1) + r12) (fun x14 => 
bI1 (f_X5_add a1 0 r5 r7 x11 x14 st13) (fun st15 => 
lt_ (x2 + 1) (fun x16 => 
some (.inl (x16, st15)))))))))))
noncomputable def f_X1_drawTo (a1 : Nat) (st : GS) : Option (GS) := 
bI1 (f_X5_clear a1 st) (fun st1 => 
bI1 (lpx (uc2 (f_X1_drawTo_L6 a1)) (0, st1)) (fun st17 => 
bI1 (f_X5_addRule a1 2 st17) (fun st18 => 
bI1 (f_X5_addRule a1 3 st18) (fun st19 => 
some (st19)))))
set_option maxRecDepth 100000 in
set_option maxHeartbeats 4000000 in
theorem c_X1_drawTo (l : Launch) (D : va_G) (cy : ClassId) (h : Nat → Nat) (a1 : Nat) (ha1 : ok5 a1) (st : GS) (stF : GS) (hf : f_X1_drawTo a1 st = some stF) : gMv l XSh D cy h yX1_drawTo cX1_drawTo 7 none 3 st [.ref (h 66), .ref (h a1)] stF := by
  unfold f_X1_drawTo at hf
  refine gMv_of (by decide) (Nat.le_of_ble_eq_true rfl) ?_
  intro p e s m args below meth c A ls C hr hlocks G hl
  have C : gC p s m args c cX1_drawTo 7 "LaneOrder$Draws" XSh D cy h A := C
  have hl : lv_has ls 7 [(0, .ref (h 66)), (1, .ref (h a1))] := hl
  have hx := C.1
  have hb := C.2.1
  have hown := C.2.2.2.1
  have htb := C.2.2.2.2.1
  refine lv_aload_n hx hb dX1_drawTo_0 rfl (lv_at hl 1 rfl) ?_
  obtain ⟨st1, hc1_1, hf⟩ := bI1_some hf
  refine g_callVv C G (As := []) (rest := []) (c_X5_clear l D cy h a1 ha1 st st1 hc1_1) cl5 rfl (C5 ha1) v_X1_9 (Nat.le_of_ble_eq_true rfl) (Nat.le_of_ble_eq_true rfl) rfl hl.1 rfl (Nat.le_of_ble_eq_true rfl) dX1_drawTo_1 ⟨Nat.zero_le _, Nat.zero_le _⟩ (fun H locs G => ?_)
  refine lv_iconst (v := 0) hx hb dX1_drawTo_4 (by decide) ?_
  refine lv_istore_n (lv' := [(2, .int 0), (0, .ref (h 66)), (1, .ref (h a1))]) hx hb dX1_drawTo_5 rfl hl (by decide) rfl (fun ls hl => ?_)
  obtain ⟨st17, hn, hf⟩ := bI1_some hf
  obtain ⟨n, hn⟩ := lpx_some hn
  have K61 : ∀ (H : Heap) (locs : List Loc) (ls : Array Slot), gG XSh D cy h A s st17 H locs → lv_has ls 7 [(1, .ref (h a1))] → W p l e (gR 3) s m args below meth c H locs 0 0 (MQ below (gQv XSh D cy h A stF) args s 0 0 A) (F0 m 61 ls []) := by
    intro H locs ls G hl
    refine lv_aload_n hx hb dX1_drawTo_61 rfl (lv_at hl 0 rfl) ?_
    refine lv_iconst (v := 2) hx hb dX1_drawTo_62 (by decide) ?_
    obtain ⟨st18, hc63_18, hf⟩ := bI1_some hf
    refine g_callVv C G (As := [.int 2]) (rest := []) (c_X5_addRule l D cy h a1 ha1 2 st17 st18 hc63_18) cl5 rfl (C5 ha1) v_X1_27 (Nat.le_of_ble_eq_true rfl) (Nat.le_of_ble_eq_true rfl) rfl hl.1 rfl (Nat.le_of_ble_eq_true rfl) dX1_drawTo_63 ⟨Nat.zero_le _, Nat.zero_le _⟩ (fun H locs G => ?_)
    refine lv_aload_n hx hb dX1_drawTo_66 rfl (lv_at hl 0 rfl) ?_
    refine lv_iconst (v := 3) hx hb dX1_drawTo_67 (by decide) ?_
    obtain ⟨st19, hc68_19, hf⟩ := bI1_some hf
    refine g_callVv C G (As := [.int 3]) (rest := []) (c_X5_addRule l D cy h a1 ha1 3 st18 st19 hc68_19) cl5 rfl (C5 ha1) v_X1_27 (Nat.le_of_ble_eq_true rfl) (Nat.le_of_ble_eq_true rfl) rfl hl.1 rfl (Nat.le_of_ble_eq_true rfl) dX1_drawTo_68 ⟨Nat.zero_le _, Nat.zero_le _⟩ (fun H locs G => ?_)
    cases hf
    exact g_vret C G hr hlocks dX1_drawTo_71
  have L6 : ∀ (n : Nat) (x2 : Int32) (st3 : GS) (H : Heap) (locs : List Loc) (ls : Array Slot), gG XSh D cy h A s st3 H locs → lv_has ls 7 [(0, .ref (h 66)), (1, .ref (h a1)), (2, .int x2)] → lp (uc2 (f_X1_drawTo_L6 a1)) n (x2, st3) = some (st17) → W p l e (gR 3) s m args below meth c H locs 0 0 (MQ below (gQv XSh D cy h A stF) args s 0 0 A) (F0 m 6 ls []) := by
    intro n
    induction n with
    | zero =>
      intro x2 st3 H locs ls G hl hn
      cases hn
    | succ n ih =>
      intro x2 st3 H locs ls G hl hn
      obtain ⟨q, hf, hq1, hq2⟩ := lp_q hn
      have hf : f_X1_drawTo_L6 a1 x2 st3 = some q := hf
      unfold f_X1_drawTo_L6 at hf
      refine lv_iload_n hx hb dX1_drawTo_6 rfl (lv_at hl 2 rfl) ?_
      refine lv_iconst (v := 5) hx hb dX1_drawTo_7 (by decide) ?_
      refine lv_icmp_ge (tgt := 61) hx hb dX1_drawTo_8 (by decide) (fun c4 => ?_) (fun c4 => ?_)
      · have hf := ifP c4 hf
        cases hf
        have hz9 := hq2 _ rfl
        cases hz9
        exact K61 _ _ _ G (lv_sub hl [1] rfl)
      · have hf := ifN c4 hf
        refine lv_aload_n hx hb dX1_drawTo_11 rfl (lv_at hl 0 rfl) ?_
        obtain ⟨r5, st6, hc12_6, hf⟩ := bI2_some hf
        refine g_callVi C G (As := []) (rest := []) (c_X1_ofEight l D cy h st3 r5 st6 hc12_6) cl1 rfl (C1 ok1_66) v_X1_16 (Nat.le_of_ble_eq_true rfl) (Nat.le_of_ble_eq_true rfl) rfl hl.1 rfl (Nat.le_of_ble_eq_true rfl) dX1_drawTo_12 ⟨Nat.zero_le _, Nat.zero_le _⟩ (fun H locs G => ?_)
        refine lv_istore_n (lv' := [(3, .int r5), (0, .ref (h 66)), (1, .ref (h a1)), (2, .int x2)]) hx hb dX1_drawTo_15 rfl hl (by decide) rfl (fun ls hl => ?_)
        refine lv_aload_n hx hb dX1_drawTo_16 rfl (lv_at hl 1 rfl) ?_
        obtain ⟨r7, st8, hc17_8, hf⟩ := bI2_some hf
        refine g_callVi C G (As := []) (rest := []) (c_X1_ofEight l D cy h st6 r7 st8 hc17_8) cl1 rfl (C1 ok1_66) v_X1_16 (Nat.le_of_ble_eq_true rfl) (Nat.le_of_ble_eq_true rfl) rfl hl.1 rfl (Nat.le_of_ble_eq_true rfl) dX1_drawTo_17 ⟨Nat.zero_le _, Nat.zero_le _⟩ (fun H locs G => ?_)
        refine lv_istore (lv' := [(4, .int r7), (3, .int r5), (0, .ref (h 66)), (1, .ref (h a1)), (2, .int x2)]) hx hb dX1_drawTo_20 hl (by decide) rfl (fun ls hl => ?_)
        refine lv_iload_n hx hb dX1_drawTo_22 rfl (lv_at hl 1 rfl) ?_
        refine lv_iconst (v := 1) hx hb dX1_drawTo_23 (by decide) ?_
        refine lv_iadd hx hb dX1_drawTo_24 ?_
        refine lv_aload_n hx hb dX1_drawTo_25 rfl (lv_at hl 2 rfl) ?_
        obtain ⟨r9, st10, hc26_10, hf⟩ := bI2_some hf
        refine g_callVi C G (As := []) (rest := [.int (r5 + 1)]) (c_X1_ofThree l D cy h st8 r9 st10 hc26_10) cl1 rfl (C1 ok1_66) v_X1_20 (Nat.le_of_ble_eq_true rfl) (Nat.le_of_ble_eq_true rfl) rfl hl.1 rfl (Nat.le_of_ble_eq_true rfl) dX1_drawTo_26 ⟨Nat.zero_le _, Nat.zero_le _⟩ (fun H locs G => ?_)
        refine lv_iadd hx hb dX1_drawTo_29 ?_
        refine lv_topi (fun x11 ex11 => ?_)
        have hf := lt_some ex11 hf
        refine lv_istore (lv' := [(5, .int x11), (4, .int r7), (3, .int r5), (0, .ref (h 66)), (1, .ref (h a1)), (2, .int x2)]) hx hb dX1_drawTo_30 hl (by decide) rfl (fun ls hl => ?_)
        refine lv_iload hx hb dX1_drawTo_32 (lv_at hl 1 rfl) ?_
        refine lv_iconst (v := 1) hx hb dX1_drawTo_34 (by decide) ?_
        refine lv_iadd hx hb dX1_drawTo_35 ?_
        refine lv_aload_n hx hb dX1_drawTo_36 rfl (lv_at hl 3 rfl) ?_
        obtain ⟨r12, st13, hc37_13, hf⟩ := bI2_some hf
        refine g_callVi C G (As := []) (rest := [.int (r7 + 1)]) (c_X1_ofThree l D cy h st10 r12 st13 hc37_13) cl1 rfl (C1 ok1_66) v_X1_20 (Nat.le_of_ble_eq_true rfl) (Nat.le_of_ble_eq_true rfl) rfl hl.1 rfl (Nat.le_of_ble_eq_true rfl) dX1_drawTo_37 ⟨Nat.zero_le _, Nat.zero_le _⟩ (fun H locs G => ?_)
        refine lv_iadd hx hb dX1_drawTo_40 ?_
        refine lv_topi (fun x14 ex14 => ?_)
        have hf := lt_some ex14 hf
        refine lv_istore (lv' := [(6, .int x14), (5, .int x11), (4, .int r7), (3, .int r5), (0, .ref (h 66)), (1, .ref (h a1)), (2, .int x2)]) hx hb dX1_drawTo_41 hl (by decide) rfl (fun ls hl => ?_)
        refine lv_aload_n hx hb dX1_drawTo_43 rfl (lv_at hl 5 rfl) ?_
        refine lv_iconst (v := 0) hx hb dX1_drawTo_44 (by decide) ?_
        refine lv_iload_n hx hb dX1_drawTo_45 rfl (lv_at hl 3 rfl) ?_
        refine lv_iload hx hb dX1_drawTo_46 (lv_at hl 2 rfl) ?_
        refine lv_iload hx hb dX1_drawTo_48 (lv_at hl 1 rfl) ?_
        refine lv_iload hx hb dX1_drawTo_50 (lv_at hl 0 rfl) ?_
        obtain ⟨st15, hc52_15, hf⟩ := bI1_some hf
        refine g_callVv C G (As := [.int 0, .int r5, .int r7, .int x11, .int x14]) (rest := []) (c_X5_add l D cy h a1 ha1 0 r5 r7 x11 x14 st13 st15 hc52_15) cl5 rfl (C5 ha1) v_X1_23 (Nat.le_of_ble_eq_true rfl) (Nat.le_of_ble_eq_true rfl) rfl hl.1 rfl (Nat.le_of_ble_eq_true rfl) dX1_drawTo_52 ⟨Nat.zero_le _, Nat.zero_le _⟩ (fun H locs G => ?_)
        obtain ⟨x16, ex16⟩ : ∃ z : Int32, z = (x2 + 1) := ⟨_, rfl⟩
        have hf := lt_some ex16 hf
        refine lv_iinc (v := x16) (lv' := [(2, .int x16), (6, .int x14), (5, .int x11), (4, .int r7), (3, .int r5), (0, .ref (h 66)), (1, .ref (h a1))]) hx hb dX1_drawTo_55 hl (k := 6) rfl (by rw [ex16]; rfl) (by decide) rfl (fun ls hl => ?_)
        refine lv_goto (tgt := 6) hx hb dX1_drawTo_58 (by decide) ?_
        cases hf
        exact ih _ _ _ _ _ G (lv_sub hl [5, 6, 0] rfl) (hq1 _ rfl)
  exact L6 n _ _ _ _ _ G (lv_sub hl [1, 2, 0] rfl) hn
