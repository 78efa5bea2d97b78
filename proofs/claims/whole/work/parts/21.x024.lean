noncomputable def f_X0_clear (o : Nat) (st : GS) : Option (GS) := 
lt_ (sv st o 5 0) (fun st1 => 
some (st1))
set_option maxRecDepth 100000 in
set_option maxHeartbeats 4000000 in
theorem c_X0_clear (l : Launch) (D : va_G) (cy : ClassId) (h : Nat → Nat) (o : Nat) (ho : ok0 o) (st : GS) (stF : GS) (hf : f_X0_clear o st = some stF) : gMv l XSh D cy h yX0_clear cX0_clear 1 none 1 st [.ref (h o)] stF := by
  unfold f_X0_clear at hf
  refine gMv_of (by decide) (Nat.le_of_ble_eq_true rfl) ?_
  intro p e s m args below meth c A ls C hr hlocks G hl
  have C : gC p s m args c cX0_clear 1 "LaneOrder$Cuts" XSh D cy h A := C
  have hl : lv_has ls 1 [(0, .ref (h o))] := hl
  have hx := C.1
  have hb := C.2.1
  have hown := C.2.2.2.1
  have htb := C.2.2.2.2.1
  refine lv_aload_n hx hb dX0_clear_0 rfl (lv_at hl 0 rfl) ?_
  refine lv_iconst (v := 0) hx hb dX0_clear_1 (by decide) ?_
  refine g_puti C G cl0 (C0 ho) (j := 5) (by decide) (F0_5 ho) k1_109 rfl rfl rfl dX0_clear_2 (fun st1 est1 H locs G => ?_)
  have hf := lt_some est1 hf
  cases hf
  exact g_vret C G hr hlocks dX0_clear_5

noncomputable def f_X0_add (o : Nat) (a1 : Int32) (a2 : Int32) (a3 : Int32) (a4 : Int32) (a5 : Int32) (st : GS) : Option (GS) := 
(if 7 ≤ (gt st o 5) then some (st) else 
gd (gt st o 5) 7 (lt_ (sv st (o + 1) ((gt st o 5).toNatClampNeg) a1) (fun st3 => 
gd (gt st3 o 5) 7 (lt_ (sv st3 (o + 2) ((gt st3 o 5).toNatClampNeg) a2) (fun st5 => 
gd (gt st5 o 5) 7 (lt_ (sv st5 (o + 3) ((gt st5 o 5).toNatClampNeg) a3) (fun st7 => 
gd (gt st7 o 5) 7 (lt_ (sv st7 (o + 4) ((gt st7 o 5).toNatClampNeg) a4) (fun st9 => 
gd (gt st9 o 5) 7 (lt_ (sv st9 (o + 5) ((gt st9 o 5).toNatClampNeg) a5) (fun st11 => 
lt_ (sv st11 o 5 ((gt st11 o 5) + 1)) (fun st12 => 
some (st12)))))))))))))
set_option maxRecDepth 100000 in
set_option maxHeartbeats 4000000 in
theorem c_X0_add (l : Launch) (D : va_G) (cy : ClassId) (h : Nat → Nat) (o : Nat) (ho : ok0 o) (a1 : Int32) (a2 : Int32) (a3 : Int32) (a4 : Int32) (a5 : Int32) (st : GS) (stF : GS) (hf : f_X0_add o a1 a2 a3 a4 a5 st = some stF) : gMv l XSh D cy h yX0_add cX0_add 6 none 1 st [.ref (h o), .int a1, .int a2, .int a3, .int a4, .int a5] stF := by
  unfold f_X0_add at hf
  refine gMv_of (by decide) (Nat.le_of_ble_eq_true rfl) ?_
  intro p e s m args below meth c A ls C hr hlocks G hl
  have C : gC p s m args c cX0_add 6 "LaneOrder$Cuts" XSh D cy h A := C
  have hl : lv_has ls 6 [(0, .ref (h o)), (1, .int a1), (2, .int a2), (3, .int a3), (4, .int a4), (5, .int a5)] := hl
  have hx := C.1
  have hb := C.2.1
  have hown := C.2.2.2.1
  have htb := C.2.2.2.2.1
  refine lv_aload_n hx hb dX0_add_0 rfl (lv_at hl 0 rfl) ?_
  refine g_geti C G cl0 (C0 ho) (j := 5) (by decide) (F0_5 ho) k1_109 dX0_add_1 ?_
  refine lv_bipush (v := 7) hx hb dX0_add_4 (by decide) ?_
  refine lv_icmp_ge (tgt := 71) hx hb dX0_add_6 (by decide) (fun c1 => ?_) (fun c1 => ?_)
  · have hf := ifP c1 hf
    cases hf
    exact g_vret C G hr hlocks dX0_add_71
  · have hf := ifN c1 hf
    refine lv_aload_n hx hb dX0_add_9 rfl (lv_at hl 0 rfl) ?_
    refine g_getr (k := (o + 1)) C G cl0 (C0 ho) (j := 0) (by decide) (F0_0 ho) k1_99 dX0_add_10 ?_
    refine lv_aload_n hx hb dX0_add_13 rfl (lv_at hl 0 rfl) ?_
    refine g_geti C G cl0 (C0 ho) (j := 5) (by decide) (F0_5 ho) k1_109 dX0_add_14 ?_
    refine lv_iload_n hx hb dX0_add_17 rfl (lv_at hl 1 rfl) ?_
    obtain ⟨hi18_1, hf⟩ := gd_some hf
    refine g_iast C G (A0_0 ho) (j := (gt st o 5).toNatClampNeg) rfl hi18_1 dX0_add_18 (fun st3 est3 H locs G => ?_)
    have hf := lt_some est3 hf
    refine lv_aload_n hx hb dX0_add_19 rfl (lv_at hl 0 rfl) ?_
    refine g_getr (k := (o + 2)) C G cl0 (C0 ho) (j := 1) (by decide) (F0_1 ho) k1_101 dX0_add_20 ?_
    refine lv_aload_n hx hb dX0_add_23 rfl (lv_at hl 0 rfl) ?_
    refine g_geti C G cl0 (C0 ho) (j := 5) (by decide) (F0_5 ho) k1_109 dX0_add_24 ?_
    refine lv_iload_n hx hb dX0_add_27 rfl (lv_at hl 2 rfl) ?_
    obtain ⟨hi28_3, hf⟩ := gd_some hf
    refine g_iast C G (A0_1 ho) (j := (gt st3 o 5).toNatClampNeg) rfl hi28_3 dX0_add_28 (fun st5 est5 H locs G => ?_)
    have hf := lt_some est5 hf
    refine lv_aload_n hx hb dX0_add_29 rfl (lv_at hl 0 rfl) ?_
    refine g_getr (k := (o + 3)) C G cl0 (C0 ho) (j := 2) (by decide) (F0_2 ho) k1_103 dX0_add_30 ?_
    refine lv_aload_n hx hb dX0_add_33 rfl (lv_at hl 0 rfl) ?_
    refine g_geti C G cl0 (C0 ho) (j := 5) (by decide) (F0_5 ho) k1_109 dX0_add_34 ?_
    refine lv_iload_n hx hb dX0_add_37 rfl (lv_at hl 3 rfl) ?_
    obtain ⟨hi38_5, hf⟩ := gd_some hf
    refine g_iast C G (A0_2 ho) (j := (gt st5 o 5).toNatClampNeg) rfl hi38_5 dX0_add_38 (fun st7 est7 H locs G => ?_)
    have hf := lt_some est7 hf
    refine lv_aload_n hx hb dX0_add_39 rfl (lv_at hl 0 rfl) ?_
    refine g_getr (k := (o + 4)) C G cl0 (C0 ho) (j := 3) (by decide) (F0_3 ho) k1_105 dX0_add_40 ?_
    refine lv_aload_n hx hb dX0_add_43 rfl (lv_at hl 0 rfl) ?_
    refine g_geti C G cl0 (C0 ho) (j := 5) (by decide) (F0_5 ho) k1_109 dX0_add_44 ?_
    refine lv_iload hx hb dX0_add_47 (lv_at hl 4 rfl) ?_
    obtain ⟨hi49_7, hf⟩ := gd_some hf
    refine g_iast C G (A0_3 ho) (j := (gt st7 o 5).toNatClampNeg) rfl hi49_7 dX0_add_49 (fun st9 est9 H locs G => ?_)
    have hf := lt_some est9 hf
    refine lv_aload_n hx hb dX0_add_50 rfl (lv_at hl 0 rfl) ?_
    refine g_getr (k := (o + 5)) C G cl0 (C0 ho) (j := 4) (by decide) (F0_4 ho) k1_107 dX0_add_51 ?_
    refine lv_aload_n hx hb dX0_add_54 rfl (lv_at hl 0 rfl) ?_
    refine g_geti C G cl0 (C0 ho) (j := 5) (by decide) (F0_5 ho) k1_109 dX0_add_55 ?_
    refine lv_iload hx hb dX0_add_58 (lv_at hl 5 rfl) ?_
    obtain ⟨hi60_9, hf⟩ := gd_some hf
    refine g_iast C G (A0_4 ho) (j := (gt st9 o 5).toNatClampNeg) rfl hi60_9 dX0_add_60 (fun st11 est11 H locs G => ?_)
    have hf := lt_some est11 hf
    refine lv_aload_n hx hb dX0_add_61 rfl (lv_at hl 0 rfl) ?_
    refine lv_dup hx hb dX0_add_62 rfl ?_
    refine g_geti C G cl0 (C0 ho) (j := 5) (by decide) (F0_5 ho) k1_109 dX0_add_63 ?_
    refine lv_iconst (v := 1) hx hb dX0_add_66 (by decide) ?_
    refine lv_iadd hx hb dX0_add_67 ?_
    refine g_puti C G cl0 (C0 ho) (j := 5) (by decide) (F0_5 ho) k1_109 rfl rfl rfl dX0_add_68 (fun st12 est12 H locs G => ?_)
    have hf := lt_some est12 hf
    cases hf
    exact g_vret C G hr hlocks dX0_add_71

noncomputable def f_X2_clear (o : Nat) (st : GS) : Option (GS) := 
lt_ (sv st o 3 0) (fun st1 => 
some (st1))
set_option maxRecDepth 100000 in
set_option maxHeartbeats 4000000 in
theorem c_X2_clear (l : Launch) (D : va_G) (cy : ClassId) (h : Nat → Nat) (o : Nat) (ho : ok2 o) (st : GS) (stF : GS) (hf : f_X2_clear o st = some stF) : gMv l XSh D cy h yX2_clear cX2_clear 1 none 1 st [.ref (h o)] stF := by
  unfold f_X2_clear at hf
  refine gMv_of (by decide) (Nat.le_of_ble_eq_true rfl) ?_
  intro p e s m args below meth c A ls C hr hlocks G hl
  have C : gC p s m args c cX2_clear 1 "LaneOrder$Lanes" XSh D cy h A := C
  have hl : lv_has ls 1 [(0, .ref (h o))] := hl
  have hx := C.1
  have hb := C.2.1
  have hown := C.2.2.2.1
  have htb := C.2.2.2.2.1
  refine lv_aload_n hx hb dX2_clear_0 rfl (lv_at hl 0 rfl) ?_
  refine lv_iconst (v := 0) hx hb dX2_clear_1 (by decide) ?_
  refine g_puti C G cl2 (C2 ho) (j := 3) (by decide) (F2_3 ho) k1_139 rfl rfl rfl dX2_clear_2 (fun st1 est1 H locs G => ?_)
  have hf := lt_some est1 hf
  cases hf
  exact g_vret C G hr hlocks dX2_clear_5

noncomputable def f_X2_has_L2 (o : Nat) (a1 : Int32) (a2 : Int32) (st : GS) (x1 : Int32) : Option ((Int32) ⊕ (Int32)) := 
(if (gt st o 3) ≤ x1 then some (.inr (0)) else 
gd x1 14 ((if (gt st (o + 1) (x1.toNatClampNeg)) = a1 then gd x1 14 ((if (gt st (o + 2) (x1.toNatClampNeg)) = a2 then some (.inr (1)) else 
lt_ (x1 + 1) (fun x8 => 
some (.inl (x8))))) else 
lt_ (x1 + 1) (fun x5 => 
some (.inl (x5))))))
noncomputable def f_X2_has (o : Nat) (a1 : Int32) (a2 : Int32) (st : GS) : Option (Int32) := 
lpx (uc1 (f_X2_has_L2 o a1 a2 st)) (0)
set_option maxRecDepth 100000 in
set_option maxHeartbeats 4000000 in
theorem c_X2_has (l : Launch) (D : va_G) (cy : ClassId) (h : Nat → Nat) (o : Nat) (ho : ok2 o) (a1 : Int32) (a2 : Int32) (st : GS) (r : Int32) (hf : f_X2_has o a1 a2 st = some r) : gMi l XSh D cy h yX2_has cX2_has 4 (some .boolean) 1 st [.ref (h o), .int a1, .int a2] r st := by
  unfold f_X2_has at hf
  refine gMi_of (by decide) (Nat.le_of_ble_eq_true rfl) ?_
  intro p e s m args below meth c A ls C hr hlocks G hl
  have C : gC p s m args c cX2_has 4 "LaneOrder$Lanes" XSh D cy h A := C
  have hl : lv_has ls 4 [(0, .ref (h o)), (1, .int a1), (2, .int a2)] := hl
  have hx := C.1
  have hb := C.2.1
  have hown := C.2.2.2.1
  have htb := C.2.2.2.2.1
  refine lv_iconst (v := 0) hx hb dX2_has_0 (by decide) ?_
  refine lv_istore_n (lv' := [(3, .int 0), (0, .ref (h o)), (1, .int a1), (2, .int a2)]) hx hb dX2_has_1 rfl hl (by decide) rfl (fun ls hl => ?_)
  obtain ⟨n, hn⟩ := lpx_some hf
  have L2 : ∀ (n : Nat) (x1 : Int32) (H : Heap) (locs : List Loc) (ls : Array Slot), gG XSh D cy h A s st H locs → lv_has ls 4 [(0, .ref (h o)), (1, .int a1), (2, .int a2), (3, .int x1)] → lp (uc1 (f_X2_has_L2 o a1 a2 st)) n (x1) = some r → W p l e (gR 1) s m args below meth c H locs 0 0 (MQ below (gQi XSh D cy h A r st) args s 0 0 A) (F0 m 2 ls []) := by
    intro n
    induction n with
    | zero =>
      intro x1 H locs ls G hl hn
      cases hn
    | succ n ih =>
      intro x1 H locs ls G hl hn
      obtain ⟨q, hf, hq1, hq2⟩ := lp_q hn
      have hf : f_X2_has_L2 o a1 a2 st x1 = some q := hf
      unfold f_X2_has_L2 at hf
      refine lv_iload_n hx hb dX2_has_2 rfl (lv_at hl 3 rfl) ?_
      refine lv_aload_n hx hb dX2_has_3 rfl (lv_at hl 0 rfl) ?_
      refine g_geti C G cl2 (C2 ho) (j := 3) (by decide) (F2_3 ho) k1_139 dX2_has_4 ?_
      refine lv_icmp_ge (tgt := 38) hx hb dX2_has_7 (by decide) (fun c2 => ?_) (fun c2 => ?_)
      · have hf := ifP c2 hf
        refine lv_iconst (v := 0) hx hb dX2_has_38 (by decide) ?_
        cases hf
        have hz9 := hq2 _ rfl
        cases hz9
        exact g_zret C G (Or.inl rfl) hr hlocks dX2_has_39
      · have hf := ifN c2 hf
        refine lv_aload_n hx hb dX2_has_10 rfl (lv_at hl 0 rfl) ?_
        refine g_getr (k := (o + 1)) C G cl2 (C2 ho) (j := 0) (by decide) (F2_0 ho) k1_130 dX2_has_11 ?_
        refine lv_iload_n hx hb dX2_has_14 rfl (lv_at hl 3 rfl) ?_
        obtain ⟨hi15_2, hf⟩ := gd_some hf
        refine g_iald C G (A2_0 ho) (j := x1.toNatClampNeg) rfl hi15_2 dX2_has_15 ?_
        refine lv_iload_n hx hb dX2_has_16 rfl (lv_at hl 1 rfl) ?_
        refine lv_icmp_ne (tgt := 32) hx hb dX2_has_17 (by decide) (fun c4 => ?_) (fun c4 => ?_)
        · have hf := ifN c4 hf
          obtain ⟨x5, ex5⟩ : ∃ z : Int32, z = (x1 + 1) := ⟨_, rfl⟩
          have hf := lt_some ex5 hf
          refine lv_iinc (v := x5) (lv' := [(3, .int x5), (0, .ref (h o)), (1, .int a1), (2, .int a2)]) hx hb dX2_has_32 hl (k := 3) rfl (by rw [ex5]; rfl) (by decide) rfl (fun ls hl => ?_)
          refine lv_goto (tgt := 2) hx hb dX2_has_35 (by decide) ?_
          cases hf
          exact ih _ _ _ _ G (lv_sub hl [1, 2, 3, 0] rfl) (hq1 _ rfl)
        · have hf := ifP c4 hf
          refine lv_aload_n hx hb dX2_has_20 rfl (lv_at hl 0 rfl) ?_
          refine g_getr (k := (o + 2)) C G cl2 (C2 ho) (j := 1) (by decide) (F2_1 ho) k1_133 dX2_has_21 ?_
          refine lv_iload_n hx hb dX2_has_24 rfl (lv_at hl 3 rfl) ?_
          obtain ⟨hi25_5, hf⟩ := gd_some hf
          refine g_iald C G (A2_1 ho) (j := x1.toNatClampNeg) rfl hi25_5 dX2_has_25 ?_
          refine lv_iload_n hx hb dX2_has_26 rfl (lv_at hl 2 rfl) ?_
          refine lv_icmp_ne (tgt := 32) hx hb dX2_has_27 (by decide) (fun c7 => ?_) (fun c7 => ?_)
          · have hf := ifN c7 hf
            obtain ⟨x8, ex8⟩ : ∃ z : Int32, z = (x1 + 1) := ⟨_, rfl⟩
            have hf := lt_some ex8 hf
            refine lv_iinc (v := x8) (lv' := [(3, .int x8), (0, .ref (h o)), (1, .int a1), (2, .int a2)]) hx hb dX2_has_32 hl (k := 3) rfl (by rw [ex8]; rfl) (by decide) rfl (fun ls hl => ?_)
            refine lv_goto (tgt := 2) hx hb dX2_has_35 (by decide) ?_
            cases hf
            exact ih _ _ _ _ G (lv_sub hl [1, 2, 3, 0] rfl) (hq1 _ rfl)
          · have hf := ifP c7 hf
            refine lv_iconst (v := 1) hx hb dX2_has_30 (by decide) ?_
            cases hf
            have hz9 := hq2 _ rfl
            cases hz9
            exact g_zret C G (Or.inr rfl) hr hlocks dX2_has_31
  exact L2 n _ _ _ _ G (lv_sub hl [1, 2, 3, 0] rfl) hn

noncomputable def f_X2_isBehind (o : Nat) (a1 : Int32) (a2 : Int32) (a3 : Int32) (a4 : Int32) (st : GS) : Option (Int32) := 
gd a1 14 ((if (gt st (o + 3) (a1.toNatClampNeg)) = a4 then gd a1 14 ((if (gt st (o + 1) (a1.toNatClampNeg)) = a2 then gd a1 14 ((if (gt st (o + 2) (a1.toNatClampNeg)) ≤ a3 then some (0) else 
some (1))) else 
(if a2 = 1 then some (1) else 
some (0)))) else 
gd a1 14 ((if a4 ≤ (gt st (o + 3) (a1.toNatClampNeg)) then some (0) else 
some (1)))))
set_option maxRecDepth 100000 in
set_option maxHeartbeats 4000000 in
theorem c_X2_isBehind (l : Launch) (D : va_G) (cy : ClassId) (h : Nat → Nat) (o : Nat) (ho : ok2 o) (a1 : Int32) (a2 : Int32) (a3 : Int32) (a4 : Int32) (st : GS) (r : Int32) (hf : f_X2_isBehind o a1 a2 a3 a4 st = some r) : gMi l XSh D cy h yX2_isBehind cX2_isBehind 5 (some .boolean) 1 st [.ref (h o), .int a1, .int a2, .int a3, .int a4] r st := by
  unfold f_X2_isBehind at hf
  refine gMi_of (by decide) (Nat.le_of_ble_eq_true rfl) ?_
  intro p e s m args below meth c A ls C hr hlocks G hl
  have C : gC p s m args c cX2_isBehind 5 "LaneOrder$Lanes" XSh D cy h A := C
  have hl : lv_has ls 5 [(0, .ref (h o)), (1, .int a1), (2, .int a2), (3, .int a3), (4, .int a4)] := hl
  have hx := C.1
  have hb := C.2.1
  have hown := C.2.2.2.1
  have htb := C.2.2.2.2.1
  refine lv_aload_n hx hb dX2_isBehind_0 rfl (lv_at hl 0 rfl) ?_
  refine g_getr (k := (o + 3)) C G cl2 (C2 ho) (j := 2) (by decide) (F2_2 ho) k1_136 dX2_isBehind_1 ?_
  refine lv_iload_n hx hb dX2_isBehind_4 rfl (lv_at hl 1 rfl) ?_
  obtain ⟨hi5_0, hf⟩ := gd_some hf
  refine g_iald C G (A2_2 ho) (j := a1.toNatClampNeg) rfl hi5_0 dX2_isBehind_5 ?_
  refine lv_iload hx hb dX2_isBehind_6 (lv_at hl 4 rfl) ?_
  refine lv_icmp_eq (tgt := 28) hx hb dX2_isBehind_8 (by decide) (fun c2 => ?_) (fun c2 => ?_)
  · have hf := ifP c2 hf
    refine lv_aload_n hx hb dX2_isBehind_28 rfl (lv_at hl 0 rfl) ?_
    refine g_getr (k := (o + 1)) C G cl2 (C2 ho) (j := 0) (by decide) (F2_0 ho) k1_130 dX2_isBehind_29 ?_
    refine lv_iload_n hx hb dX2_isBehind_32 rfl (lv_at hl 1 rfl) ?_
    obtain ⟨hi33_2, hf⟩ := gd_some hf
    refine g_iald C G (A2_0 ho) (j := a1.toNatClampNeg) rfl hi33_2 dX2_isBehind_33 ?_
    refine lv_iload_n hx hb dX2_isBehind_34 rfl (lv_at hl 2 rfl) ?_
    refine lv_icmp_eq (tgt := 51) hx hb dX2_isBehind_35 (by decide) (fun c4 => ?_) (fun c4 => ?_)
    · have hf := ifP c4 hf
      refine lv_aload_n hx hb dX2_isBehind_51 rfl (lv_at hl 0 rfl) ?_
      refine g_getr (k := (o + 2)) C G cl2 (C2 ho) (j := 1) (by decide) (F2_1 ho) k1_133 dX2_isBehind_52 ?_
      refine lv_iload_n hx hb dX2_isBehind_55 rfl (lv_at hl 1 rfl) ?_
      obtain ⟨hi56_4, hf⟩ := gd_some hf
      refine g_iald C G (A2_1 ho) (j := a1.toNatClampNeg) rfl hi56_4 dX2_isBehind_56 ?_
      refine lv_iload_n hx hb dX2_isBehind_57 rfl (lv_at hl 3 rfl) ?_
      refine lv_icmp_le (tgt := 65) hx hb dX2_isBehind_58 (by decide) (fun c6 => ?_) (fun c6 => ?_)
      · have hf := ifP c6 hf
        refine lv_iconst (v := 0) hx hb dX2_isBehind_65 (by decide) ?_
        cases hf
        exact g_zret C G (Or.inl rfl) hr hlocks dX2_isBehind_66
      · have hf := ifN c6 hf
        refine lv_iconst (v := 1) hx hb dX2_isBehind_61 (by decide) ?_
        refine lv_goto (tgt := 66) hx hb dX2_isBehind_62 (by decide) ?_
        cases hf
        exact g_zret C G (Or.inr rfl) hr hlocks dX2_isBehind_66
    · have hf := ifN c4 hf
      refine lv_iload_n hx hb dX2_isBehind_38 rfl (lv_at hl 2 rfl) ?_
      refine lv_iconst (v := 1) hx hb dX2_isBehind_39 (by decide) ?_
      refine lv_icmp_ne (tgt := 47) hx hb dX2_isBehind_40 (by decide) (fun c7 => ?_) (fun c7 => ?_)
      · have hf := ifN c7 hf
        refine lv_iconst (v := 0) hx hb dX2_isBehind_47 (by decide) ?_
        refine lv_goto (tgt := 66) hx hb dX2_isBehind_48 (by decide) ?_
        cases hf
        exact g_zret C G (Or.inl rfl) hr hlocks dX2_isBehind_66
      · have hf := ifP c7 hf
        refine lv_iconst (v := 1) hx hb dX2_isBehind_43 (by decide) ?_
        refine lv_goto (tgt := 66) hx hb dX2_isBehind_44 (by decide) ?_
        cases hf
        exact g_zret C G (Or.inr rfl) hr hlocks dX2_isBehind_66
  · have hf := ifN c2 hf
    refine lv_aload_n hx hb dX2_isBehind_11 rfl (lv_at hl 0 rfl) ?_
    refine g_getr (k := (o + 3)) C G cl2 (C2 ho) (j := 2) (by decide) (F2_2 ho) k1_136 dX2_isBehind_12 ?_
    refine lv_iload_n hx hb dX2_isBehind_15 rfl (lv_at hl 1 rfl) ?_
    obtain ⟨hi16_7, hf⟩ := gd_some hf
    refine g_iald C G (A2_2 ho) (j := a1.toNatClampNeg) rfl hi16_7 dX2_isBehind_16 ?_
    refine lv_iload hx hb dX2_isBehind_17 (lv_at hl 4 rfl) ?_
    refine lv_icmp_ge (tgt := 26) hx hb dX2_isBehind_19 (by decide) (fun c9 => ?_) (fun c9 => ?_)
    · have hf := ifP c9 hf
      refine lv_iconst (v := 0) hx hb dX2_isBehind_26 (by decide) ?_
      cases hf
      exact g_zret C G (Or.inl rfl) hr hlocks dX2_isBehind_27
    · have hf := ifN c9 hf
      refine lv_iconst (v := 1) hx hb dX2_isBehind_22 (by decide) ?_
      refine lv_goto (tgt := 27) hx hb dX2_isBehind_23 (by decide) ?_
      cases hf
      exact g_zret C G (Or.inr rfl) hr hlocks dX2_isBehind_27

noncomputable def f_X2_add_L16 (o : Nat) (a1 : Int32) (a2 : Int32) (a3 : Int32) (x3 : Int32) (st4 : GS) : Option ((Int32 × GS) ⊕ (Int32 × GS)) := 
(if x3 ≤ 0 then some (.inr (x3, st4)) else 
bI1 (f_X2_isBehind o (x3 - 1) a1 a2 a3 st4) (fun r6 => 
(if r6 = 0 then some (.inr (x3, st4)) else 
gd (x3 - 1) 14 (gd x3 14 (lt_ (sv st4 (o + 1) (x3.toNatClampNeg) (gt st4 (o + 1) ((x3 - 1).toNatClampNeg))) (fun st10 => 
gd (x3 - 1) 14 (gd x3 14 (lt_ (sv st10 (o + 2) (x3.toNatClampNeg) (gt st10 (o + 2) ((x3 - 1).toNatClampNeg))) (fun st13 => 
gd (x3 - 1) 14 (gd x3 14 (lt_ (sv st13 (o + 3) (x3.toNatClampNeg) (gt st13 (o + 3) ((x3 - 1).toNatClampNeg))) (fun st16 => 
lt_ (x3 + (-1)) (fun x17 => 
some (.inl (x17, st16)))))))))))))))
noncomputable def f_X2_add (o : Nat) (a1 : Int32) (a2 : Int32) (a3 : Int32) (st : GS) : Option (GS) := 
(if (gt st o 3) < 14 then lt_ (gt st o 3) (fun x2 => 
bI2 (lpx (uc2 (f_X2_add_L16 o a1 a2 a3)) (x2, st)) (fun x18 st19 => 
gd x18 14 (lt_ (sv st19 (o + 1) (x18.toNatClampNeg) a1) (fun st21 => 
gd x18 14 (lt_ (sv st21 (o + 2) (x18.toNatClampNeg) a2) (fun st23 => 
gd x18 14 (lt_ (sv st23 (o + 3) (x18.toNatClampNeg) a3) (fun st25 => 
lt_ (sv st25 o 3 ((gt st25 o 3) + 1)) (fun st26 => 
some (st26)))))))))) else 
some (st))
set_option maxRecDepth 100000 in
set_option maxHeartbeats 4000000 in
theorem c_X2_add (l : Launch) (D : va_G) (cy : ClassId) (h : Nat → Nat) (o : Nat) (ho : ok2 o) (a1 : Int32) (a2 : Int32) (a3 : Int32) (st : GS) (stF : GS) (hf : f_X2_add o a1 a2 a3 st = some stF) : gMv l XSh D cy h yX2_add cX2_add 5 none 2 st [.ref (h o), .int a1, .int a2, .int a3] stF := by
  unfold f_X2_add at hf
  refine gMv_of (by decide) (Nat.le_of_ble_eq_true rfl) ?_
  intro p e s m args below meth c A ls C hr hlocks G hl
  have C : gC p s m args c cX2_add 5 "LaneOrder$Lanes" XSh D cy h A := C
  have hl : lv_has ls 5 [(0, .ref (h o)), (1, .int a1), (2, .int a2), (3, .int a3)] := hl
  have hx := C.1
  have hb := C.2.1
  have hown := C.2.2.2.1
  have htb := C.2.2.2.2.1
  refine lv_aload_n hx hb dX2_add_0 rfl (lv_at hl 0 rfl) ?_
  refine g_geti C G cl2 (C2 ho) (j := 3) (by decide) (F2_3 ho) k1_139 dX2_add_1 ?_
  refine lv_bipush (v := 14) hx hb dX2_add_4 (by decide) ?_
  refine lv_icmp_lt (tgt := 10) hx hb dX2_add_6 (by decide) (fun c1 => ?_) (fun c1 => ?_)
  · have hf := ifP c1 hf
    refine lv_aload_n hx hb dX2_add_10 rfl (lv_at hl 0 rfl) ?_
    refine g_geti C G cl2 (C2 ho) (j := 3) (by decide) (F2_3 ho) k1_139 dX2_add_11 ?_
    refine lv_topi (fun x2 ex2 => ?_)
    have hf := lt_some ex2 hf
    refine lv_istore (lv' := [(4, .int x2), (0, .ref (h o)), (1, .int a1), (2, .int a2), (3, .int a3)]) hx hb dX2_add_14 hl (by decide) rfl (fun ls hl => ?_)
    obtain ⟨x18, st19, hn, hf⟩ := bI2_some hf
    obtain ⟨n, hn⟩ := lpx_some hn
    have K89 : ∀ (H : Heap) (locs : List Loc) (ls : Array Slot), gG XSh D cy h A s st19 H locs → lv_has ls 5 [(0, .ref (h o)), (1, .int a1), (2, .int a2), (3, .int a3), (4, .int x18)] → W p l e (gR 2) s m args below meth c H locs 0 0 (MQ below (gQv XSh D cy h A stF) args s 0 0 A) (F0 m 89 ls []) := by
      intro H locs ls G hl
      refine lv_aload_n hx hb dX2_add_89 rfl (lv_at hl 0 rfl) ?_
      refine g_getr (k := (o + 1)) C G cl2 (C2 ho) (j := 0) (by decide) (F2_0 ho) k1_130 dX2_add_90 ?_
      refine lv_iload hx hb dX2_add_93 (lv_at hl 4 rfl) ?_
      refine lv_iload_n hx hb dX2_add_95 rfl (lv_at hl 1 rfl) ?_
      obtain ⟨hi96_19, hf⟩ := gd_some hf
      refine g_iast C G (A2_0 ho) (j := x18.toNatClampNeg) rfl hi96_19 dX2_add_96 (fun st21 est21 H locs G => ?_)
      have hf := lt_some est21 hf
      refine lv_aload_n hx hb dX2_add_97 rfl (lv_at hl 0 rfl) ?_
      refine g_getr (k := (o + 2)) C G cl2 (C2 ho) (j := 1) (by decide) (F2_1 ho) k1_133 dX2_add_98 ?_
      refine lv_iload hx hb dX2_add_101 (lv_at hl 4 rfl) ?_
      refine lv_iload_n hx hb dX2_add_103 rfl (lv_at hl 2 rfl) ?_
      obtain ⟨hi104_21, hf⟩ := gd_some hf
      refine g_iast C G (A2_1 ho) (j := x18.toNatClampNeg) rfl hi104_21 dX2_add_104 (fun st23 est23 H locs G => ?_)
      have hf := lt_some est23 hf
      refine lv_aload_n hx hb dX2_add_105 rfl (lv_at hl 0 rfl) ?_
      refine g_getr (k := (o + 3)) C G cl2 (C2 ho) (j := 2) (by decide) (F2_2 ho) k1_136 dX2_add_106 ?_
      refine lv_iload hx hb dX2_add_109 (lv_at hl 4 rfl) ?_
      refine lv_iload_n hx hb dX2_add_111 rfl (lv_at hl 3 rfl) ?_
      obtain ⟨hi112_23, hf⟩ := gd_some hf
      refine g_iast C G (A2_2 ho) (j := x18.toNatClampNeg) rfl hi112_23 dX2_add_112 (fun st25 est25 H locs G => ?_)
      have hf := lt_some est25 hf
      refine lv_aload_n hx hb dX2_add_113 rfl (lv_at hl 0 rfl) ?_
      refine lv_dup hx hb dX2_add_114 rfl ?_
      refine g_geti C G cl2 (C2 ho) (j := 3) (by decide) (F2_3 ho) k1_139 dX2_add_115 ?_
      refine lv_iconst (v := 1) hx hb dX2_add_118 (by decide) ?_
      refine lv_iadd hx hb dX2_add_119 ?_
      refine g_puti C G cl2 (C2 ho) (j := 3) (by decide) (F2_3 ho) k1_139 rfl rfl rfl dX2_add_120 (fun st26 est26 H locs G => ?_)
      have hf := lt_some est26 hf
      cases hf
      exact g_vret C G hr hlocks dX2_add_123
    have L16 : ∀ (n : Nat) (x3 : Int32) (st4 : GS) (H : Heap) (locs : List Loc) (ls : Array Slot), gG XSh D cy h A s st4 H locs → lv_has ls 5 [(0, .ref (h o)), (1, .int a1), (2, .int a2), (3, .int a3), (4, .int x3)] → lp (uc2 (f_X2_add_L16 o a1 a2 a3)) n (x3, st4) = some (x18, st19) → W p l e (gR 2) s m args below meth c H locs 0 0 (MQ below (gQv XSh D cy h A stF) args s 0 0 A) (F0 m 16 ls []) := by
      intro n
      induction n with
      | zero =>
        intro x3 st4 H locs ls G hl hn
        cases hn
      | succ n ih =>
        intro x3 st4 H locs ls G hl hn
        obtain ⟨q, hf, hq1, hq2⟩ := lp_q hn
        have hf : f_X2_add_L16 o a1 a2 a3 x3 st4 = some q := hf
        unfold f_X2_add_L16 at hf
        refine lv_iload hx hb dX2_add_16 (lv_at hl 4 rfl) ?_
        refine lv_if_le (tgt := 89) hx hb dX2_add_18 (by decide) (fun c5 => ?_) (fun c5 => ?_)
        · have hf := ifP c5 hf
          cases hf
          have hz9 := hq2 _ rfl
          cases hz9
          exact K89 _ _ _ G hl
        · have hf := ifN c5 hf
          refine lv_aload_n hx hb dX2_add_21 rfl (lv_at hl 0 rfl) ?_
          refine lv_iload hx hb dX2_add_22 (lv_at hl 4 rfl) ?_
          refine lv_iconst (v := 1) hx hb dX2_add_24 (by decide) ?_
          refine lv_isub hx hb dX2_add_25 ?_
          refine lv_iload_n hx hb dX2_add_26 rfl (lv_at hl 1 rfl) ?_
          refine lv_iload_n hx hb dX2_add_27 rfl (lv_at hl 2 rfl) ?_
          refine lv_iload_n hx hb dX2_add_28 rfl (lv_at hl 3 rfl) ?_
          obtain ⟨r6, hc29_6, hf⟩ := bI1_some hf
          refine g_callVi C G (As := [.int (x3 - 1), .int a1, .int a2, .int a3]) (rest := []) (c_X2_isBehind l D cy h o ho (x3 - 1) a1 a2 a3 st4 r6 hc29_6) cl2 rfl (C2 ho) v_X2_25 (Nat.le_of_ble_eq_true rfl) (Nat.le_of_ble_eq_true rfl) rfl hl.1 rfl (Nat.le_of_ble_eq_true rfl) dX2_add_29 ⟨Nat.zero_le _, Nat.zero_le _⟩ (fun H locs G => ?_)
          refine lv_if_eq (tgt := 89) hx hb dX2_add_32 (by decide) (fun c7 => ?_) (fun c7 => ?_)
          · have hf := ifP c7 hf
            cases hf
            have hz9 := hq2 _ rfl
            cases hz9
            exact K89 _ _ _ G hl
          · have hf := ifN c7 hf
            refine lv_aload_n hx hb dX2_add_35 rfl (lv_at hl 0 rfl) ?_
            refine g_getr (k := (o + 1)) C G cl2 (C2 ho) (j := 0) (by decide) (F2_0 ho) k1_130 dX2_add_36 ?_
            refine lv_iload hx hb dX2_add_39 (lv_at hl 4 rfl) ?_
            refine lv_aload_n hx hb dX2_add_41 rfl (lv_at hl 0 rfl) ?_
            refine g_getr (k := (o + 1)) C G cl2 (C2 ho) (j := 0) (by decide) (F2_0 ho) k1_130 dX2_add_42 ?_
            refine lv_iload hx hb dX2_add_45 (lv_at hl 4 rfl) ?_
            refine lv_iconst (v := 1) hx hb dX2_add_47 (by decide) ?_
            refine lv_isub hx hb dX2_add_48 ?_
            obtain ⟨hi49_7, hf⟩ := gd_some hf
            refine g_iald C G (A2_0 ho) (j := (x3 - 1).toNatClampNeg) rfl hi49_7 dX2_add_49 ?_
            obtain ⟨hi50_8, hf⟩ := gd_some hf
            refine g_iast C G (A2_0 ho) (j := x3.toNatClampNeg) rfl hi50_8 dX2_add_50 (fun st10 est10 H locs G => ?_)
            have hf := lt_some est10 hf
            refine lv_aload_n hx hb dX2_add_51 rfl (lv_at hl 0 rfl) ?_
            refine g_getr (k := (o + 2)) C G cl2 (C2 ho) (j := 1) (by decide) (F2_1 ho) k1_133 dX2_add_52 ?_
            refine lv_iload hx hb dX2_add_55 (lv_at hl 4 rfl) ?_
            refine lv_aload_n hx hb dX2_add_57 rfl (lv_at hl 0 rfl) ?_
            refine g_getr (k := (o + 2)) C G cl2 (C2 ho) (j := 1) (by decide) (F2_1 ho) k1_133 dX2_add_58 ?_
            refine lv_iload hx hb dX2_add_61 (lv_at hl 4 rfl) ?_
            refine lv_iconst (v := 1) hx hb dX2_add_63 (by decide) ?_
            refine lv_isub hx hb dX2_add_64 ?_
            obtain ⟨hi65_10, hf⟩ := gd_some hf
            refine g_iald C G (A2_1 ho) (j := (x3 - 1).toNatClampNeg) rfl hi65_10 dX2_add_65 ?_
            obtain ⟨hi66_11, hf⟩ := gd_some hf
            refine g_iast C G (A2_1 ho) (j := x3.toNatClampNeg) rfl hi66_11 dX2_add_66 (fun st13 est13 H locs G => ?_)
            have hf := lt_some est13 hf
            refine lv_aload_n hx hb dX2_add_67 rfl (lv_at hl 0 rfl) ?_
            refine g_getr (k := (o + 3)) C G cl2 (C2 ho) (j := 2) (by decide) (F2_2 ho) k1_136 dX2_add_68 ?_
            refine lv_iload hx hb dX2_add_71 (lv_at hl 4 rfl) ?_
            refine lv_aload_n hx hb dX2_add_73 rfl (lv_at hl 0 rfl) ?_
            refine g_getr (k := (o + 3)) C G cl2 (C2 ho) (j := 2) (by decide) (F2_2 ho) k1_136 dX2_add_74 ?_
            refine lv_iload hx hb dX2_add_77 (lv_at hl 4 rfl) ?_
            refine lv_iconst (v := 1) hx hb dX2_add_79 (by decide) ?_
            refine lv_isub hx hb dX2_add_80 ?_
            obtain ⟨hi81_13, hf⟩ := gd_some hf
            refine g_iald C G (A2_2 ho) (j := (x3 - 1).toNatClampNeg) rfl hi81_13 dX2_add_81 ?_
            obtain ⟨hi82_14, hf⟩ := gd_some hf
            refine g_iast C G (A2_2 ho) (j := x3.toNatClampNeg) rfl hi82_14 dX2_add_82 (fun st16 est16 H locs G => ?_)
            have hf := lt_some est16 hf
            obtain ⟨x17, ex17⟩ : ∃ z : Int32, z = (x3 + (-1)) := ⟨_, rfl⟩
            have hf := lt_some ex17 hf
            refine lv_iinc (v := x17) (lv' := [(4, .int x17), (0, .ref (h o)), (1, .int a1), (2, .int a2), (3, .int a3)]) hx hb dX2_add_83 hl (k := 4) rfl (by rw [ex17]; rfl) (by decide) rfl (fun ls hl => ?_)
            refine lv_goto (tgt := 16) hx hb dX2_add_86 (by decide) ?_
            cases hf
            exact ih _ _ _ _ _ G (lv_sub hl [1, 2, 3, 4, 0] rfl) (hq1 _ rfl)
    exact L16 n _ _ _ _ _ G (lv_sub hl [1, 2, 3, 4, 0] rfl) hn
  · have hf := ifN c1 hf
    cases hf
    exact g_vret C G hr hlocks dX2_add_9

noncomputable def f_X4_clear (o : Nat) (st : GS) : Option (GS) := 
lt_ (sv st o 2 0) (fun st1 => 
some (st1))
set_option maxRecDepth 100000 in
set_option maxHeartbeats 4000000 in
theorem c_X4_clear (l : Launch) (D : va_G) (cy : ClassId) (h : Nat → Nat) (o : Nat) (ho : ok4 o) (st : GS) (stF : GS) (hf : f_X4_clear o st = some stF) : gMv l XSh D cy h yX4_clear cX4_clear 1 none 1 st [.ref (h o)] stF := by
  unfold f_X4_clear at hf
  refine gMv_of (by decide) (Nat.le_of_ble_eq_true rfl) ?_
  intro p e s m args below meth c A ls C hr hlocks G hl
  have C : gC p s m args c cX4_clear 1 "LaneOrder$Seen" XSh D cy h A := C
  have hl : lv_has ls 1 [(0, .ref (h o))] := hl
  have hx := C.1
  have hb := C.2.1
  have hown := C.2.2.2.1
  have htb := C.2.2.2.2.1
  refine lv_aload_n hx hb dX4_clear_0 rfl (lv_at hl 0 rfl) ?_
  refine lv_iconst (v := 0) hx hb dX4_clear_1 (by decide) ?_
  refine g_puti C G cl4 (C4 ho) (j := 2) (by decide) (F4_2 ho) k1_209 rfl rfl rfl dX4_clear_2 (fun st1 est1 H locs G => ?_)
  have hf := lt_some est1 hf
  cases hf
  exact g_vret C G hr hlocks dX4_clear_5

noncomputable def f_X4_copy (o : Nat) (a1 : Nat) (st : GS) : Option (GS) := 
gq (¬ (0 : Int32) < 0 ∧ ¬ (0 : Int32) < 0 ∧ ¬ (6 : Int32) < 0 ∧ Int32.toNatClampNeg 0 + Int32.toNatClampNeg 6 ≤ 6 ∧ Int32.toNatClampNeg 0 + Int32.toNatClampNeg 6 ≤ 6) (lt_ (sc st (a1 + 1) (o + 1) (Int32.toNatClampNeg 0) (Int32.toNatClampNeg 0) (Int32.toNatClampNeg 6)) (fun st1 => 
gq (¬ (0 : Int32) < 0 ∧ ¬ (0 : Int32) < 0 ∧ ¬ (6 : Int32) < 0 ∧ Int32.toNatClampNeg 0 + Int32.toNatClampNeg 6 ≤ 6 ∧ Int32.toNatClampNeg 0 + Int32.toNatClampNeg 6 ≤ 6) (lt_ (sc st1 (a1 + 2) (o + 2) (Int32.toNatClampNeg 0) (Int32.toNatClampNeg 0) (Int32.toNatClampNeg 6)) (fun st2 => 
lt_ (sv st2 o 2 (gt st2 a1 2)) (fun st3 => 
some (st3))))))
set_option maxRecDepth 100000 in
set_option maxHeartbeats 4000000 in
theorem c_X4_copy (l : Launch) (D : va_G) (cy : ClassId) (h : Nat → Nat) (o : Nat) (ho : ok4 o) (a1 : Nat) (ha1 : ok4 a1) (st : GS) (stF : GS) (hf : f_X4_copy o a1 st = some stF) : gMv l XSh D cy h yX4_copy cX4_copy 2 none 1 st [.ref (h o), .ref (h a1)] stF := by
  unfold f_X4_copy at hf
  refine gMv_of (by decide) (Nat.le_of_ble_eq_true rfl) ?_
  intro p e s m args below meth c A ls C hr hlocks G hl
  have C : gC p s m args c cX4_copy 2 "LaneOrder$Seen" XSh D cy h A := C
  have hl : lv_has ls 2 [(0, .ref (h o)), (1, .ref (h a1))] := hl
  have hx := C.1
  have hb := C.2.1
  have hown := C.2.2.2.1
  have htb := C.2.2.2.2.1
  refine lv_aload_n hx hb dX4_copy_0 rfl (lv_at hl 1 rfl) ?_
  refine g_getr (k := (a1 + 1)) C G cl4 (C4 ha1) (j := 0) (by decide) (F4_0 ha1) k1_207 dX4_copy_1 ?_
  refine lv_iconst (v := 0) hx hb dX4_copy_4 (by decide) ?_
  refine lv_aload_n hx hb dX4_copy_5 rfl (lv_at hl 0 rfl) ?_
  refine g_getr (k := (o + 1)) C G cl4 (C4 ho) (j := 0) (by decide) (F4_0 ho) k1_207 dX4_copy_6 ?_
  refine lv_iconst (v := 0) hx hb dX4_copy_9 (by decide) ?_
  refine lv_bipush (v := 6) hx hb dX4_copy_10 (by decide) ?_
  obtain ⟨hac, hf⟩ := gq_some hf
  refine g_copy C G (rest := []) hl.1 (A4_0 ha1) (A4_0 ho) kl_X4_22 ac_n ac_s ini_java_lang_System hac.1 hac.2.1 hac.2.2.1 hac.2.2.2.1 hac.2.2.2.2 (Nat.le_of_ble_eq_true rfl) (Nat.le_of_ble_eq_true rfl) dX4_copy_12 (fun st1 est1 H locs G => ?_)
  have hf := lt_some est1 hf
  refine lv_aload_n hx hb dX4_copy_15 rfl (lv_at hl 1 rfl) ?_
  refine g_getr (k := (a1 + 2)) C G cl4 (C4 ha1) (j := 1) (by decide) (F4_1 ha1) k1_208 dX4_copy_16 ?_
  refine lv_iconst (v := 0) hx hb dX4_copy_19 (by decide) ?_
  refine lv_aload_n hx hb dX4_copy_20 rfl (lv_at hl 0 rfl) ?_
  refine g_getr (k := (o + 2)) C G cl4 (C4 ho) (j := 1) (by decide) (F4_1 ho) k1_208 dX4_copy_21 ?_
  refine lv_iconst (v := 0) hx hb dX4_copy_24 (by decide) ?_
  refine lv_bipush (v := 6) hx hb dX4_copy_25 (by decide) ?_
  obtain ⟨hac, hf⟩ := gq_some hf
  refine g_copy C G (rest := []) hl.1 (A4_1 ha1) (A4_1 ho) kl_X4_22 ac_n ac_s ini_java_lang_System hac.1 hac.2.1 hac.2.2.1 hac.2.2.2.1 hac.2.2.2.2 (Nat.le_of_ble_eq_true rfl) (Nat.le_of_ble_eq_true rfl) dX4_copy_27 (fun st2 est2 H locs G => ?_)
  have hf := lt_some est2 hf
  refine lv_aload_n hx hb dX4_copy_30 rfl (lv_at hl 0 rfl) ?_
  refine lv_aload_n hx hb dX4_copy_31 rfl (lv_at hl 1 rfl) ?_
  refine g_geti C G cl4 (C4 ha1) (j := 2) (by decide) (F4_2 ha1) k1_209 dX4_copy_32 ?_
  refine g_puti C G cl4 (C4 ho) (j := 2) (by decide) (F4_2 ho) k1_209 rfl rfl rfl dX4_copy_35 (fun st3 est3 H locs G => ?_)
  have hf := lt_some est3 hf
  cases hf
  exact g_vret C G hr hlocks dX4_copy_38

noncomputable def f_X4_kindsSo (a1 : Int32) : Option (Int32) := 
(if a1 = 0 then some (2) else 
(if a1 = 1 then some (20) else 
(if a1 = 2 then some (16) else 
some (8))))
set_option maxRecDepth 100000 in
set_option maxHeartbeats 4000000 in
theorem c_X4_kindsSo (l : Launch) (D : va_G) (cy : ClassId) (h : Nat → Nat) (a1 : Int32) (st : GS) (r : Int32) (hf : f_X4_kindsSo a1 = some r) : gMi l XSh D cy h yX4_kindsSo cX4_kindsSo 1 (some .int) 1 st [.int a1] r st := by
  unfold f_X4_kindsSo at hf
  refine gMi_of (by decide) (Nat.le_of_ble_eq_true rfl) ?_
  intro p e s m args below meth c A ls C hr hlocks G hl
  have C : gC p s m args c cX4_kindsSo 1 "LaneOrder$Seen" XSh D cy h A := C
  have hl : lv_has ls 1 [(0, .int a1)] := hl
  have hx := C.1
  have hb := C.2.1
  have hown := C.2.2.2.1
  have htb := C.2.2.2.2.1
  refine lv_iload_n hx hb dX4_kindsSo_0 rfl (lv_at hl 0 rfl) ?_
  by_cases c1_0 : a1 = 0
  · have hf := ifP c1_0 hf
    refine lv_tableIn (tgt := 28) hx hb dX4_kindsSo_1 (by rw [c1_0]; decide) (by rw [c1_0]; decide) (by rw [c1_0]; rfl) (by decide) ?_
    refine lv_iconst (v := 2) hx hb dX4_kindsSo_28 (by decide) ?_
    cases hf
    exact g_iret C G hr hlocks dX4_kindsSo_29
  · have hf := ifN c1_0 hf
    by_cases c1_1 : a1 = 1
    · have hf := ifP c1_1 hf
      refine lv_tableIn (tgt := 30) hx hb dX4_kindsSo_1 (by rw [c1_1]; decide) (by rw [c1_1]; decide) (by rw [c1_1]; rfl) (by decide) ?_
      refine lv_bipush (v := 20) hx hb dX4_kindsSo_30 (by decide) ?_
      cases hf
      exact g_iret C G hr hlocks dX4_kindsSo_32
    · have hf := ifN c1_1 hf
      by_cases c1_2 : a1 = 2
      · have hf := ifP c1_2 hf
        refine lv_tableIn (tgt := 33) hx hb dX4_kindsSo_1 (by rw [c1_2]; decide) (by rw [c1_2]; decide) (by rw [c1_2]; rfl) (by decide) ?_
        refine lv_bipush (v := 16) hx hb dX4_kindsSo_33 (by decide) ?_
        cases hf
        exact g_iret C G hr hlocks dX4_kindsSo_35
      · have hf := ifN c1_2 hf
        refine lv_tableOut (tgt := 36) hx hb dX4_kindsSo_1 (tab_2 c1_0 c1_1 c1_2) (by decide) ?_
        refine lv_bipush (v := 8) hx hb dX4_kindsSo_36 (by decide) ?_
        cases hf
        exact g_iret C G hr hlocks dX4_kindsSo_38

noncomputable def f_X4_add (o : Nat) (a1 : Int32) (a2 : Int32) (a3 : Int32) (st : GS) : Option (GS) := 
(if 6 ≤ (gt st o 2) then some (st) else 
gd (gt st o 2) 6 (lt_ (sv st (o + 1) ((gt st o 2).toNatClampNeg) a1) (fun st3 => 
bI1 ((if a3 = 0 then bI1 (f_X4_kindsSo a2) (fun r6 => 
some ((31 &&& (r6 ^^^ (-1))))) else 
bI1 (f_X4_kindsSo a2) (fun r7 => 
some (r7)))) (fun (x5 : Int32) => 
gd (gt st3 o 2) 6 (lt_ (sv st3 (o + 2) ((gt st3 o 2).toNatClampNeg) x5) (fun st9 => 
lt_ (sv st9 o 2 ((gt st9 o 2) + 1)) (fun st10 => 
some (st10))))))))
set_option maxRecDepth 100000 in
set_option maxHeartbeats 4000000 in
theorem c_X4_add (l : Launch) (D : va_G) (cy : ClassId) (h : Nat → Nat) (o : Nat) (ho : ok4 o) (a1 : Int32) (a2 : Int32) (a3 : Int32) (st : GS) (stF : GS) (hf : f_X4_add o a1 a2 a3 st = some stF) : gMv l XSh D cy h yX4_add cX4_add 4 none 2 st [.ref (h o), .int a1, .int a2, .int a3] stF := by
  unfold f_X4_add at hf
  refine gMv_of (by decide) (Nat.le_of_ble_eq_true rfl) ?_
  intro p e s m args below meth c A ls C hr hlocks G hl
  have C : gC p s m args c cX4_add 4 "LaneOrder$Seen" XSh D cy h A := C
  have hl : lv_has ls 4 [(0, .ref (h o)), (1, .int a1), (2, .int a2), (3, .int a3)] := hl
  have hx := C.1
  have hb := C.2.1
  have hown := C.2.2.2.1
  have htb := C.2.2.2.2.1
  refine lv_aload_n hx hb dX4_add_0 rfl (lv_at hl 0 rfl) ?_
  refine g_geti C G cl4 (C4 ho) (j := 2) (by decide) (F4_2 ho) k1_209 dX4_add_1 ?_
  refine lv_bipush (v := 6) hx hb dX4_add_4 (by decide) ?_
  refine lv_icmp_ge (tgt := 58) hx hb dX4_add_6 (by decide) (fun c1 => ?_) (fun c1 => ?_)
  · have hf := ifP c1 hf
    cases hf
    exact g_vret C G hr hlocks dX4_add_58
  · have hf := ifN c1 hf
    refine lv_aload_n hx hb dX4_add_9 rfl (lv_at hl 0 rfl) ?_
    refine g_getr (k := (o + 1)) C G cl4 (C4 ho) (j := 0) (by decide) (F4_0 ho) k1_207 dX4_add_10 ?_
    refine lv_aload_n hx hb dX4_add_13 rfl (lv_at hl 0 rfl) ?_
    refine g_geti C G cl4 (C4 ho) (j := 2) (by decide) (F4_2 ho) k1_209 dX4_add_14 ?_
    refine lv_iload_n hx hb dX4_add_17 rfl (lv_at hl 1 rfl) ?_
    obtain ⟨hi18_1, hf⟩ := gd_some hf
    refine g_iast C G (A4_0 ho) (j := (gt st o 2).toNatClampNeg) rfl hi18_1 dX4_add_18 (fun st3 est3 H locs G => ?_)
    have hf := lt_some est3 hf
    refine lv_aload_n hx hb dX4_add_19 rfl (lv_at hl 0 rfl) ?_
    refine g_getr (k := (o + 2)) C G cl4 (C4 ho) (j := 1) (by decide) (F4_1 ho) k1_208 dX4_add_20 ?_
    refine lv_aload_n hx hb dX4_add_23 rfl (lv_at hl 0 rfl) ?_
    refine g_geti C G cl4 (C4 ho) (j := 2) (by decide) (F4_2 ho) k1_209 dX4_add_24 ?_
    refine lv_iload_n hx hb dX4_add_27 rfl (lv_at hl 3 rfl) ?_
    obtain ⟨x5, hj47, hf⟩ := bI1_some hf
    have K47 : ∀ (H : Heap) (locs : List Loc) (ls : Array Slot) , gG XSh D cy h A s st3 H locs → lv_has ls 4 [(0, .ref (h o))] → W p l e (gR 2) s m args below meth c H locs 0 0 (MQ below (gQv XSh D cy h A stF) args s 0 0 A) (F0 m 47 ls [.int x5, .int (gt st3 o 2), .ref (h (o + 2))]) := by
      intro H locs ls G hl
      obtain ⟨hi47_7, hf⟩ := gd_some hf
      refine g_iast C G (A4_1 ho) (j := (gt st3 o 2).toNatClampNeg) rfl hi47_7 dX4_add_47 (fun st9 est9 H locs G => ?_)
      have hf := lt_some est9 hf
      refine lv_aload_n hx hb dX4_add_48 rfl (lv_at hl 0 rfl) ?_
      refine lv_dup hx hb dX4_add_49 rfl ?_
      refine g_geti C G cl4 (C4 ho) (j := 2) (by decide) (F4_2 ho) k1_209 dX4_add_50 ?_
      refine lv_iconst (v := 1) hx hb dX4_add_53 (by decide) ?_
      refine lv_iadd hx hb dX4_add_54 ?_
      refine g_puti C G cl4 (C4 ho) (j := 2) (by decide) (F4_2 ho) k1_209 rfl rfl rfl dX4_add_55 (fun st10 est10 H locs G => ?_)
      have hf := lt_some est10 hf
      cases hf
      exact g_vret C G hr hlocks dX4_add_58
    clear hf
    refine lv_if_eq (tgt := 38) hx hb dX4_add_28 (by decide) (fun c4 => ?_) (fun c4 => ?_)
    · have hf := ifP c4 hj47
      refine lv_bipush (v := 31) hx hb dX4_add_38 (by decide) ?_
      refine lv_iload_n hx hb dX4_add_40 rfl (lv_at hl 2 rfl) ?_
      obtain ⟨r6, hc41_6, hf⟩ := bI1_some hf
      refine g_callSi C G (As := [.int a2]) (rest := [.int 31, .int (gt st3 o 2), .ref (h (o + 2))]) (c_X4_kindsSo l D cy h a2 st3 r6 hc41_6) v_X4_28 (Nat.le_of_ble_eq_true rfl) (Nat.le_of_ble_eq_true rfl) rfl hl.1 rfl (Nat.le_of_ble_eq_true rfl) dX4_add_41 ⟨Nat.zero_le _, Nat.zero_le _⟩ (fun H locs G => ?_)
      refine lv_iconst (v := (-1)) hx hb dX4_add_44 (by decide) ?_
      refine lv_ixor hx hb dX4_add_45 ?_
      refine lv_iand hx hb dX4_add_46 ?_
      cases hf
      exact K47 _ _ _ G (lv_sub hl [0] rfl)
    · have hf := ifN c4 hj47
      refine lv_iload_n hx hb dX4_add_31 rfl (lv_at hl 2 rfl) ?_
      obtain ⟨r7, hc32_7, hf⟩ := bI1_some hf
      refine g_callSi C G (As := [.int a2]) (rest := [.int (gt st3 o 2), .ref (h (o + 2))]) (c_X4_kindsSo l D cy h a2 st3 r7 hc32_7) v_X4_28 (Nat.le_of_ble_eq_true rfl) (Nat.le_of_ble_eq_true rfl) rfl hl.1 rfl (Nat.le_of_ble_eq_true rfl) dX4_add_32 ⟨Nat.zero_le _, Nat.zero_le _⟩ (fun H locs G => ?_)
      refine lv_goto (tgt := 47) hx hb dX4_add_35 (by decide) ?_
      cases hf
      exact K47 _ _ _ G (lv_sub hl [0] rfl)

noncomputable def f_X4_sortsOf_L5 (o : Nat) (a1 : Int32) (st : GS) (x1 : Int32) (x2 : Int32) : Option ((Int32 × Int32) ⊕ (Int32)) := 
(if (gt st o 2) ≤ x2 then some (.inr (x1)) else 
gd x2 6 ((if (gt st (o + 1) (x2.toNatClampNeg)) = a1 then gd x2 6 (lt_ (x1 &&& (gt st (o + 2) (x2.toNatClampNeg))) (fun x8 => 
lt_ (x2 + 1) (fun x9 => 
some (.inl (x8, x9))))) else 
lt_ (x2 + 1) (fun x6 => 
some (.inl (x1, x6))))))
noncomputable def f_X4_sortsOf (o : Nat) (a1 : Int32) (st : GS) : Option (Int32) := 
bI1 (lpx (uc2 (f_X4_sortsOf_L5 o a1 st)) (31, 0)) (fun x10 => 
some (x10))
set_option maxRecDepth 100000 in
set_option maxHeartbeats 4000000 in
theorem c_X4_sortsOf (l : Launch) (D : va_G) (cy : ClassId) (h : Nat → Nat) (o : Nat) (ho : ok4 o) (a1 : Int32) (st : GS) (r : Int32) (hf : f_X4_sortsOf o a1 st = some r) : gMi l XSh D cy h yX4_sortsOf cX4_sortsOf 4 (some .int) 1 st [.ref (h o), .int a1] r st := by
  unfold f_X4_sortsOf at hf
  refine gMi_of (by decide) (Nat.le_of_ble_eq_true rfl) ?_
  intro p e s m args below meth c A ls C hr hlocks G hl
  have C : gC p s m args c cX4_sortsOf 4 "LaneOrder$Seen" XSh D cy h A := C
  have hl : lv_has ls 4 [(0, .ref (h o)), (1, .int a1)] := hl
  have hx := C.1
  have hb := C.2.1
  have hown := C.2.2.2.1
  have htb := C.2.2.2.2.1
  refine lv_bipush (v := 31) hx hb dX4_sortsOf_0 (by decide) ?_
  refine lv_istore_n (lv' := [(2, .int 31), (0, .ref (h o)), (1, .int a1)]) hx hb dX4_sortsOf_2 rfl hl (by decide) rfl (fun ls hl => ?_)
  refine lv_iconst (v := 0) hx hb dX4_sortsOf_3 (by decide) ?_
  refine lv_istore_n (lv' := [(3, .int 0), (2, .int 31), (0, .ref (h o)), (1, .int a1)]) hx hb dX4_sortsOf_4 rfl hl (by decide) rfl (fun ls hl => ?_)
  obtain ⟨x10, hn, hf⟩ := bI1_some hf
  obtain ⟨n, hn⟩ := lpx_some hn
  have K38 : ∀ (H : Heap) (locs : List Loc) (ls : Array Slot), gG XSh D cy h A s st H locs → lv_has ls 4 [(2, .int x10)] → W p l e (gR 1) s m args below meth c H locs 0 0 (MQ below (gQi XSh D cy h A r st) args s 0 0 A) (F0 m 38 ls []) := by
    intro H locs ls G hl
    refine lv_iload_n hx hb dX4_sortsOf_38 rfl (lv_at hl 0 rfl) ?_
    cases hf
    exact g_iret C G hr hlocks dX4_sortsOf_39
  have L5 : ∀ (n : Nat) (x1 : Int32) (x2 : Int32) (H : Heap) (locs : List Loc) (ls : Array Slot), gG XSh D cy h A s st H locs → lv_has ls 4 [(0, .ref (h o)), (1, .int a1), (2, .int x1), (3, .int x2)] → lp (uc2 (f_X4_sortsOf_L5 o a1 st)) n (x1, x2) = some (x10) → W p l e (gR 1) s m args below meth c H locs 0 0 (MQ below (gQi XSh D cy h A r st) args s 0 0 A) (F0 m 5 ls []) := by
    intro n
    induction n with
    | zero =>
      intro x1 x2 H locs ls G hl hn
      cases hn
    | succ n ih =>
      intro x1 x2 H locs ls G hl hn
      obtain ⟨q, hf, hq1, hq2⟩ := lp_q hn
      have hf : f_X4_sortsOf_L5 o a1 st x1 x2 = some q := hf
      unfold f_X4_sortsOf_L5 at hf
      refine lv_iload_n hx hb dX4_sortsOf_5 rfl (lv_at hl 3 rfl) ?_
      refine lv_aload_n hx hb dX4_sortsOf_6 rfl (lv_at hl 0 rfl) ?_
      refine g_geti C G cl4 (C4 ho) (j := 2) (by decide) (F4_2 ho) k1_209 dX4_sortsOf_7 ?_
      refine lv_icmp_ge (tgt := 38) hx hb dX4_sortsOf_10 (by decide) (fun c3 => ?_) (fun c3 => ?_)
      · have hf := ifP c3 hf
        cases hf
        have hz9 := hq2 _ rfl
        cases hz9
        exact K38 _ _ _ G (lv_sub hl [2] rfl)
      · have hf := ifN c3 hf
        refine lv_aload_n hx hb dX4_sortsOf_13 rfl (lv_at hl 0 rfl) ?_
        refine g_getr (k := (o + 1)) C G cl4 (C4 ho) (j := 0) (by decide) (F4_0 ho) k1_207 dX4_sortsOf_14 ?_
        refine lv_iload_n hx hb dX4_sortsOf_17 rfl (lv_at hl 3 rfl) ?_
        obtain ⟨hi18_3, hf⟩ := gd_some hf
        refine g_iald C G (A4_0 ho) (j := x2.toNatClampNeg) rfl hi18_3 dX4_sortsOf_18 ?_
        refine lv_iload_n hx hb dX4_sortsOf_19 rfl (lv_at hl 1 rfl) ?_
        refine lv_icmp_ne (tgt := 32) hx hb dX4_sortsOf_20 (by decide) (fun c5 => ?_) (fun c5 => ?_)
        · have hf := ifN c5 hf
          obtain ⟨x6, ex6⟩ : ∃ z : Int32, z = (x2 + 1) := ⟨_, rfl⟩
          have hf := lt_some ex6 hf
          refine lv_iinc (v := x6) (lv' := [(3, .int x6), (0, .ref (h o)), (1, .int a1), (2, .int x1)]) hx hb dX4_sortsOf_32 hl (k := 3) rfl (by rw [ex6]; rfl) (by decide) rfl (fun ls hl => ?_)
          refine lv_goto (tgt := 5) hx hb dX4_sortsOf_35 (by decide) ?_
          cases hf
          exact ih _ _ _ _ _ G (lv_sub hl [1, 2, 3, 0] rfl) (hq1 _ rfl)
        · have hf := ifP c5 hf
          refine lv_iload_n hx hb dX4_sortsOf_23 rfl (lv_at hl 2 rfl) ?_
          refine lv_aload_n hx hb dX4_sortsOf_24 rfl (lv_at hl 0 rfl) ?_
          refine g_getr (k := (o + 2)) C G cl4 (C4 ho) (j := 1) (by decide) (F4_1 ho) k1_208 dX4_sortsOf_25 ?_
          refine lv_iload_n hx hb dX4_sortsOf_28 rfl (lv_at hl 3 rfl) ?_
          obtain ⟨hi29_6, hf⟩ := gd_some hf
          refine g_iald C G (A4_1 ho) (j := x2.toNatClampNeg) rfl hi29_6 dX4_sortsOf_29 ?_
          refine lv_iand hx hb dX4_sortsOf_30 ?_
          refine lv_topi (fun x8 ex8 => ?_)
          have hf := lt_some ex8 hf
          refine lv_istore_n (lv' := [(2, .int x8), (0, .ref (h o)), (1, .int a1), (3, .int x2)]) hx hb dX4_sortsOf_31 rfl hl (by decide) rfl (fun ls hl => ?_)
          obtain ⟨x9, ex9⟩ : ∃ z : Int32, z = (x2 + 1) := ⟨_, rfl⟩
          have hf := lt_some ex9 hf
          refine lv_iinc (v := x9) (lv' := [(3, .int x9), (2, .int x8), (0, .ref (h o)), (1, .int a1)]) hx hb dX4_sortsOf_32 hl (k := 3) rfl (by rw [ex9]; rfl) (by decide) rfl (fun ls hl => ?_)
          refine lv_goto (tgt := 5) hx hb dX4_sortsOf_35 (by decide) ?_
          cases hf
          exact ih _ _ _ _ _ G (lv_sub hl [2, 3, 1, 0] rfl) (hq1 _ rfl)
  exact L5 n _ _ _ _ _ G (lv_sub hl [2, 3, 1, 0] rfl) hn

noncomputable def f_J6_bitCount_0f7a4 (a1 : Int32) : Option (Int32) := 
lt_ (a1 - ((iushr a1 1) &&& 1431655765)) (fun x1 => 
lt_ ((x1 &&& 858993459) + ((iushr x1 2) &&& 858993459)) (fun x2 => 
lt_ ((x2 + (iushr x2 4)) &&& 252645135) (fun x3 => 
lt_ (x3 + (iushr x3 8)) (fun x4 => 
lt_ (x4 + (iushr x4 16)) (fun x5 => 
some ((x5 &&& 63)))))))
set_option maxRecDepth 100000 in
set_option maxHeartbeats 4000000 in
theorem c_J6_bitCount_0f7a4 (l : Launch) (D : va_G) (cy : ClassId) (h : Nat → Nat) (a1 : Int32) (st : GS) (r : Int32) (hf : f_J6_bitCount_0f7a4 a1 = some r) : gMi l XSh D cy h yJ6_bitCount_0f7a4 cJ6_bitCount_0f7a4 1 (some .int) 1 st [.int a1] r st := by
  unfold f_J6_bitCount_0f7a4 at hf
  refine gMi_of (by decide) (Nat.le_of_ble_eq_true rfl) ?_
  intro p e s m args below meth c A ls C hr hlocks G hl
  have C : gC p s m args c cJ6_bitCount_0f7a4 1 "java/lang/Integer" XSh D cy h A := C
  have hl : lv_has ls 1 [(0, .int a1)] := hl
  have hx := C.1
  have hb := C.2.1
  have hown := C.2.2.2.1
  have htb := C.2.2.2.2.1
  refine lv_iload_n hx hb dJ6_bitCount_0f7a4_0 rfl (lv_at hl 0 rfl) ?_
  refine lv_iload_n hx hb dJ6_bitCount_0f7a4_1 rfl (lv_at hl 0 rfl) ?_
  refine lv_iconst (v := 1) hx hb dJ6_bitCount_0f7a4_2 (by decide) ?_
  refine g_iushr C dJ6_bitCount_0f7a4_3 ?_
  refine lv_ldcw hx hb (v := 1431655765) hown (htb _ k3_50) dJ6_bitCount_0f7a4_4 ?_
  refine lv_iand hx hb dJ6_bitCount_0f7a4_7 ?_
  refine lv_isub hx hb dJ6_bitCount_0f7a4_8 ?_
  refine lv_topi (fun x1 ex1 => ?_)
  have hf := lt_some ex1 hf
  refine lv_istore_n (lv' := [(0, .int x1)]) hx hb dJ6_bitCount_0f7a4_9 rfl hl (by decide) rfl (fun ls hl => ?_)
  refine lv_iload_n hx hb dJ6_bitCount_0f7a4_10 rfl (lv_at hl 0 rfl) ?_
  refine lv_ldcw hx hb (v := 858993459) hown (htb _ k3_51) dJ6_bitCount_0f7a4_11 ?_
  refine lv_iand hx hb dJ6_bitCount_0f7a4_14 ?_
  refine lv_iload_n hx hb dJ6_bitCount_0f7a4_15 rfl (lv_at hl 0 rfl) ?_
  refine lv_iconst (v := 2) hx hb dJ6_bitCount_0f7a4_16 (by decide) ?_
  refine g_iushr C dJ6_bitCount_0f7a4_17 ?_
  refine lv_ldcw hx hb (v := 858993459) hown (htb _ k3_51) dJ6_bitCount_0f7a4_18 ?_
  refine lv_iand hx hb dJ6_bitCount_0f7a4_21 ?_
  refine lv_iadd hx hb dJ6_bitCount_0f7a4_22 ?_
  refine lv_topi (fun x2 ex2 => ?_)
  have hf := lt_some ex2 hf
  refine lv_istore_n (lv' := [(0, .int x2)]) hx hb dJ6_bitCount_0f7a4_23 rfl hl (by decide) rfl (fun ls hl => ?_)
  refine lv_iload_n hx hb dJ6_bitCount_0f7a4_24 rfl (lv_at hl 0 rfl) ?_
  refine lv_iload_n hx hb dJ6_bitCount_0f7a4_25 rfl (lv_at hl 0 rfl) ?_
  refine lv_iconst (v := 4) hx hb dJ6_bitCount_0f7a4_26 (by decide) ?_
  refine g_iushr C dJ6_bitCount_0f7a4_27 ?_
  refine lv_iadd hx hb dJ6_bitCount_0f7a4_28 ?_
  refine lv_ldcw hx hb (v := 252645135) hown (htb _ k3_52) dJ6_bitCount_0f7a4_29 ?_
  refine lv_iand hx hb dJ6_bitCount_0f7a4_32 ?_
  refine lv_topi (fun x3 ex3 => ?_)
  have hf := lt_some ex3 hf
  refine lv_istore_n (lv' := [(0, .int x3)]) hx hb dJ6_bitCount_0f7a4_33 rfl hl (by decide) rfl (fun ls hl => ?_)
  refine lv_iload_n hx hb dJ6_bitCount_0f7a4_34 rfl (lv_at hl 0 rfl) ?_
  refine lv_iload_n hx hb dJ6_bitCount_0f7a4_35 rfl (lv_at hl 0 rfl) ?_
  refine lv_bipush (v := 8) hx hb dJ6_bitCount_0f7a4_36 (by decide) ?_
  refine g_iushr C dJ6_bitCount_0f7a4_38 ?_
  refine lv_iadd hx hb dJ6_bitCount_0f7a4_39 ?_
  refine lv_topi (fun x4 ex4 => ?_)
  have hf := lt_some ex4 hf
  refine lv_istore_n (lv' := [(0, .int x4)]) hx hb dJ6_bitCount_0f7a4_40 rfl hl (by decide) rfl (fun ls hl => ?_)
  refine lv_iload_n hx hb dJ6_bitCount_0f7a4_41 rfl (lv_at hl 0 rfl) ?_
  refine lv_iload_n hx hb dJ6_bitCount_0f7a4_42 rfl (lv_at hl 0 rfl) ?_
  refine lv_bipush (v := 16) hx hb dJ6_bitCount_0f7a4_43 (by decide) ?_
  refine g_iushr C dJ6_bitCount_0f7a4_45 ?_
  refine lv_iadd hx hb dJ6_bitCount_0f7a4_46 ?_
  refine lv_topi (fun x5 ex5 => ?_)
  have hf := lt_some ex5 hf
  refine lv_istore_n (lv' := [(0, .int x5)]) hx hb dJ6_bitCount_0f7a4_47 rfl hl (by decide) rfl (fun ls hl => ?_)
  refine lv_iload_n hx hb dJ6_bitCount_0f7a4_48 rfl (lv_at hl 0 rfl) ?_
  refine lv_bipush (v := 63) hx hb dJ6_bitCount_0f7a4_49 (by decide) ?_
  refine lv_iand hx hb dJ6_bitCount_0f7a4_51 ?_
  cases hf
  exact g_iret C G hr hlocks dJ6_bitCount_0f7a4_52

noncomputable def f_X4_nextQuestionFor_L21 (r1 : Int32) (x3 : Int32) (x4 : Int32) (x5 : Int32) : Option ((Int32 × Int32 × Int32) ⊕ (Int32)) := 
(if 4 ≤ x5 then some (.inr (x3)) else 
bI1 (f_X4_kindsSo x5) (fun r7 => 
bI1 (f_J6_bitCount_0f7a4 (r1 &&& r7)) (fun r8 => 
bI1 (f_X4_kindsSo x5) (fun r9 => 
bI1 (f_J6_bitCount_0f7a4 (r1 &&& (r9 ^^^ (-1)))) (fun r10 => 
lt_ (imax r8 r10) (fun x11 => 
(if x4 ≤ x11 then lt_ (x5 + 1) (fun x13 => 
some (.inl (x3, x4, x13))) else 
lt_ (x5 + 1) (fun x14 => 
some (.inl (x5, x11, x14))))))))))
noncomputable def f_X4_nextQuestionFor (o : Nat) (a1 : Int32) (st : GS) : Option (Int32) := 
bI1 (f_X4_sortsOf o a1 st) (fun r1 => 
(if r1 = 0 then some ((-1)) else 
bI1 (lpx (uc3 (f_X4_nextQuestionFor_L21 r1)) ((-1), 6, 0)) (fun x15 => 
some (x15))))
set_option maxRecDepth 100000 in
set_option maxHeartbeats 4000000 in
theorem c_X4_nextQuestionFor (l : Launch) (D : va_G) (cy : ClassId) (h : Nat → Nat) (o : Nat) (ho : ok4 o) (a1 : Int32) (st : GS) (r : Int32) (hf : f_X4_nextQuestionFor o a1 st = some r) : gMi l XSh D cy h yX4_nextQuestionFor cX4_nextQuestionFor 9 (some .int) 2 st [.ref (h o), .int a1] r st := by
  unfold f_X4_nextQuestionFor at hf
  refine gMi_of (by decide) (Nat.le_of_ble_eq_true rfl) ?_
  intro p e s m args below meth c A ls C hr hlocks G hl
  have C : gC p s m args c cX4_nextQuestionFor 9 "LaneOrder$Seen" XSh D cy h A := C
  have hl : lv_has ls 9 [(0, .ref (h o)), (1, .int a1)] := hl
  have hx := C.1
  have hb := C.2.1
  have hown := C.2.2.2.1
  have htb := C.2.2.2.2.1
  refine lv_aload_n hx hb dX4_nextQuestionFor_0 rfl (lv_at hl 0 rfl) ?_
  refine lv_iload_n hx hb dX4_nextQuestionFor_1 rfl (lv_at hl 1 rfl) ?_
  obtain ⟨r1, hc2_1, hf⟩ := bI1_some hf
  refine g_callVi C G (As := [.int a1]) (rest := []) (c_X4_sortsOf l D cy h o ho a1 st r1 hc2_1) cl4 rfl (C4 ho) v_X4_32 (Nat.le_of_ble_eq_true rfl) (Nat.le_of_ble_eq_true rfl) rfl hl.1 rfl (Nat.le_of_ble_eq_true rfl) dX4_nextQuestionFor_2 ⟨Nat.zero_le _, Nat.zero_le _⟩ (fun H locs G => ?_)
  refine lv_istore_n (lv' := [(2, .int r1), (0, .ref (h o)), (1, .int a1)]) hx hb dX4_nextQuestionFor_5 rfl hl (by decide) rfl (fun ls hl => ?_)
  refine lv_iload_n hx hb dX4_nextQuestionFor_6 rfl (lv_at hl 0 rfl) ?_
  refine lv_if_ne (tgt := 12) hx hb dX4_nextQuestionFor_7 (by decide) (fun c2 => ?_) (fun c2 => ?_)
  · have hf := ifN c2 hf
    refine lv_iconst (v := (-1)) hx hb dX4_nextQuestionFor_12 (by decide) ?_
    refine lv_istore_n (lv' := [(3, .int (-1)), (2, .int r1), (0, .ref (h o)), (1, .int a1)]) hx hb dX4_nextQuestionFor_13 rfl hl (by decide) rfl (fun ls hl => ?_)
    refine lv_bipush (v := 6) hx hb dX4_nextQuestionFor_14 (by decide) ?_
    refine lv_istore (lv' := [(4, .int 6), (3, .int (-1)), (2, .int r1), (0, .ref (h o)), (1, .int a1)]) hx hb dX4_nextQuestionFor_16 hl (by decide) rfl (fun ls hl => ?_)
    refine lv_iconst (v := 0) hx hb dX4_nextQuestionFor_18 (by decide) ?_
    refine lv_istore (lv' := [(5, .int 0), (4, .int 6), (3, .int (-1)), (2, .int r1), (0, .ref (h o)), (1, .int a1)]) hx hb dX4_nextQuestionFor_19 hl (by decide) rfl (fun ls hl => ?_)
    obtain ⟨x15, hn, hf⟩ := bI1_some hf
    obtain ⟨n, hn⟩ := lpx_some hn
    have K82 : ∀ (H : Heap) (locs : List Loc) (ls : Array Slot), gG XSh D cy h A s st H locs → lv_has ls 9 [(3, .int x15)] → W p l e (gR 2) s m args below meth c H locs 0 0 (MQ below (gQi XSh D cy h A r st) args s 0 0 A) (F0 m 82 ls []) := by
      intro H locs ls G hl
      refine lv_iload_n hx hb dX4_nextQuestionFor_82 rfl (lv_at hl 0 rfl) ?_
      cases hf
      exact g_iret C G hr hlocks dX4_nextQuestionFor_83
    have L21 : ∀ (n : Nat) (x3 : Int32) (x4 : Int32) (x5 : Int32) (H : Heap) (locs : List Loc) (ls : Array Slot), gG XSh D cy h A s st H locs → lv_has ls 9 [(2, .int r1), (3, .int x3), (4, .int x4), (5, .int x5)] → lp (uc3 (f_X4_nextQuestionFor_L21 r1)) n (x3, x4, x5) = some (x15) → W p l e (gR 2) s m args below meth c H locs 0 0 (MQ below (gQi XSh D cy h A r st) args s 0 0 A) (F0 m 21 ls []) := by
      intro n
      induction n with
      | zero =>
        intro x3 x4 x5 H locs ls G hl hn
        cases hn
      | succ n ih =>
        intro x3 x4 x5 H locs ls G hl hn
        obtain ⟨q, hf, hq1, hq2⟩ := lp_q hn
        have hf : f_X4_nextQuestionFor_L21 r1 x3 x4 x5 = some q := hf
        unfold f_X4_nextQuestionFor_L21 at hf
        refine lv_iload hx hb dX4_nextQuestionFor_21 (lv_at hl 3 rfl) ?_
        refine lv_iconst (v := 4) hx hb dX4_nextQuestionFor_23 (by decide) ?_
        refine lv_icmp_ge (tgt := 82) hx hb dX4_nextQuestionFor_24 (by decide) (fun c6 => ?_) (fun c6 => ?_)
        · have hf := ifP c6 hf
          cases hf
          have hz9 := hq2 _ rfl
          cases hz9
          exact K82 _ _ _ G (lv_sub hl [1] rfl)
        · have hf := ifN c6 hf
          refine lv_iload_n hx hb dX4_nextQuestionFor_27 rfl (lv_at hl 0 rfl) ?_
          refine lv_iload hx hb dX4_nextQuestionFor_28 (lv_at hl 3 rfl) ?_
          obtain ⟨r7, hc30_7, hf⟩ := bI1_some hf
          refine g_callSi C G (As := [.int x5]) (rest := [.int r1]) (c_X4_kindsSo l D cy h x5 st r7 hc30_7) v_X4_28 (Nat.le_of_ble_eq_true rfl) (Nat.le_of_ble_eq_true rfl) rfl hl.1 rfl (Nat.le_of_ble_eq_true rfl) dX4_nextQuestionFor_30 ⟨Nat.zero_le _, Nat.zero_le _⟩ (fun H locs G => ?_)
          refine lv_iand hx hb dX4_nextQuestionFor_33 ?_
          obtain ⟨r8, hc34_8, hf⟩ := bI1_some hf
          refine g_callSi C G (As := [.int (r1 &&& r7)]) (rest := []) (c_J6_bitCount_0f7a4 l D cy h (r1 &&& r7) st r8 hc34_8) v_X4_35 (Nat.le_of_ble_eq_true rfl) (Nat.le_of_ble_eq_true rfl) rfl hl.1 rfl (Nat.le_of_ble_eq_true rfl) dX4_nextQuestionFor_34 ⟨Nat.zero_le _, Nat.zero_le _⟩ (fun H locs G => ?_)
          refine lv_istore (lv' := [(6, .int r8), (2, .int r1), (3, .int x3), (4, .int x4), (5, .int x5)]) hx hb dX4_nextQuestionFor_37 hl (by decide) rfl (fun ls hl => ?_)
          refine lv_iload_n hx hb dX4_nextQuestionFor_39 rfl (lv_at hl 1 rfl) ?_
          refine lv_iload hx hb dX4_nextQuestionFor_40 (lv_at hl 4 rfl) ?_
          obtain ⟨r9, hc42_9, hf⟩ := bI1_some hf
          refine g_callSi C G (As := [.int x5]) (rest := [.int r1]) (c_X4_kindsSo l D cy h x5 st r9 hc42_9) v_X4_28 (Nat.le_of_ble_eq_true rfl) (Nat.le_of_ble_eq_true rfl) rfl hl.1 rfl (Nat.le_of_ble_eq_true rfl) dX4_nextQuestionFor_42 ⟨Nat.zero_le _, Nat.zero_le _⟩ (fun H locs G => ?_)
          refine lv_iconst (v := (-1)) hx hb dX4_nextQuestionFor_45 (by decide) ?_
          refine lv_ixor hx hb dX4_nextQuestionFor_46 ?_
          refine lv_iand hx hb dX4_nextQuestionFor_47 ?_
          obtain ⟨r10, hc48_10, hf⟩ := bI1_some hf
          refine g_callSi C G (As := [.int (r1 &&& (r9 ^^^ (-1)))]) (rest := []) (c_J6_bitCount_0f7a4 l D cy h (r1 &&& (r9 ^^^ (-1))) st r10 hc48_10) v_X4_35 (Nat.le_of_ble_eq_true rfl) (Nat.le_of_ble_eq_true rfl) rfl hl.1 rfl (Nat.le_of_ble_eq_true rfl) dX4_nextQuestionFor_48 ⟨Nat.zero_le _, Nat.zero_le _⟩ (fun H locs G => ?_)
          refine lv_istore (lv' := [(7, .int r10), (6, .int r8), (2, .int r1), (3, .int x3), (4, .int x4), (5, .int x5)]) hx hb dX4_nextQuestionFor_51 hl (by decide) rfl (fun ls hl => ?_)
          refine lv_iload hx hb dX4_nextQuestionFor_53 (lv_at hl 1 rfl) ?_
          refine lv_iload hx hb dX4_nextQuestionFor_55 (lv_at hl 0 rfl) ?_
          refine g_max C hl.1 kl_X4_40 mmax_s ini_java_lang_Math mmax_c (Nat.le_of_ble_eq_true rfl) (Nat.le_of_ble_eq_true rfl) (Nat.zero_le _) (Nat.zero_le _) dX4_nextQuestionFor_57 ?_
          refine lv_topi (fun x11 ex11 => ?_)
          have hf := lt_some ex11 hf
          refine lv_istore (lv' := [(8, .int x11), (7, .int r10), (6, .int r8), (2, .int r1), (3, .int x3), (4, .int x4), (5, .int x5)]) hx hb dX4_nextQuestionFor_60 hl (by decide) rfl (fun ls hl => ?_)
          refine lv_iload hx hb dX4_nextQuestionFor_62 (lv_at hl 0 rfl) ?_
          refine lv_iload hx hb dX4_nextQuestionFor_64 (lv_at hl 5 rfl) ?_
          refine lv_icmp_ge (tgt := 76) hx hb dX4_nextQuestionFor_66 (by decide) (fun c12 => ?_) (fun c12 => ?_)
          · have hf := ifP c12 hf
            obtain ⟨x13, ex13⟩ : ∃ z : Int32, z = (x5 + 1) := ⟨_, rfl⟩
            have hf := lt_some ex13 hf
            refine lv_iinc (v := x13) (lv' := [(5, .int x13), (8, .int x11), (7, .int r10), (6, .int r8), (2, .int r1), (3, .int x3), (4, .int x4)]) hx hb dX4_nextQuestionFor_76 hl (k := 6) rfl (by rw [ex13]; rfl) (by decide) rfl (fun ls hl => ?_)
            refine lv_goto (tgt := 21) hx hb dX4_nextQuestionFor_79 (by decide) ?_
            cases hf
            exact ih _ _ _ _ _ _ G (lv_sub hl [4, 5, 6, 0] rfl) (hq1 _ rfl)
          · have hf := ifN c12 hf
            refine lv_iload hx hb dX4_nextQuestionFor_69 (lv_at hl 0 rfl) ?_
            refine lv_istore (lv' := [(4, .int x11), (8, .int x11), (7, .int r10), (6, .int r8), (2, .int r1), (3, .int x3), (5, .int x5)]) hx hb dX4_nextQuestionFor_71 hl (by decide) rfl (fun ls hl => ?_)
            refine lv_iload hx hb dX4_nextQuestionFor_73 (lv_at hl 6 rfl) ?_
            refine lv_istore_n (lv' := [(3, .int x5), (4, .int x11), (8, .int x11), (7, .int r10), (6, .int r8), (2, .int r1), (5, .int x5)]) hx hb dX4_nextQuestionFor_75 rfl hl (by decide) rfl (fun ls hl => ?_)
            obtain ⟨x14, ex14⟩ : ∃ z : Int32, z = (x5 + 1) := ⟨_, rfl⟩
            have hf := lt_some ex14 hf
            refine lv_iinc (v := x14) (lv' := [(5, .int x14), (3, .int x5), (4, .int x11), (8, .int x11), (7, .int r10), (6, .int r8), (2, .int r1)]) hx hb dX4_nextQuestionFor_76 hl (k := 6) rfl (by rw [ex14]; rfl) (by decide) rfl (fun ls hl => ?_)
            refine lv_goto (tgt := 21) hx hb dX4_nextQuestionFor_79 (by decide) ?_
            cases hf
            exact ih _ _ _ _ _ _ G (lv_sub hl [6, 1, 2, 0] rfl) (hq1 _ rfl)
    exact L21 n _ _ _ _ _ _ G (lv_sub hl [3, 2, 1, 0] rfl) hn
  · have hf := ifP c2 hf
    refine lv_iconst (v := (-1)) hx hb dX4_nextQuestionFor_10 (by decide) ?_
    cases hf
    exact g_iret C G hr hlocks dX4_nextQuestionFor_11
