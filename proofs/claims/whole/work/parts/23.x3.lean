noncomputable def f_X3_nearestFigure_L7 (o : Nat) (a1 : Int32) (st : GS) (x1 : Int32) (x2 : Int32) (x3 : Int32) : Option ((Int32 × Int32 × Int32) ⊕ (Int32)) := 
(if (gt st (o + 1) 5) ≤ x3 then some (.inr (x1)) else 
gd x3 8 ((if (gt st (o + 2) (x3.toNatClampNeg)) = 3 then bI1 (f_X5_distance (o + 1) a1 x3 st) (fun r8 => 
(if x1 = (-1) then lt_ (x3 + 1) (fun x10 => 
some (.inl (x3, r8, x10))) else 
(if x2 ≤ r8 then lt_ (x3 + 1) (fun x12 => 
some (.inl (x1, x2, x12))) else 
lt_ (x3 + 1) (fun x13 => 
some (.inl (x3, r8, x13)))))) else 
lt_ (x3 + 1) (fun x7 => 
some (.inl (x1, x2, x7))))))
noncomputable def f_X3_nearestFigure (o : Nat) (a1 : Int32) (st : GS) : Option (Int32) := 
bI1 (lpx (uc3 (f_X3_nearestFigure_L7 o a1 st)) ((-1), 0, 0)) (fun x14 => 
some (x14))
set_option maxRecDepth 100000 in
set_option maxHeartbeats 4000000 in
theorem c_X3_nearestFigure (l : Launch) (D : va_G) (cy : ClassId) (h : Nat → Nat) (o : Nat) (ho : ok3 o) (a1 : Int32) (st : GS) (r : Int32) (hf : f_X3_nearestFigure o a1 st = some r) : gMi l XSh D cy h yX3_nearestFigure cX3_nearestFigure 6 (some .int) 3 st [.ref (h o), .int a1] r st := by
  unfold f_X3_nearestFigure at hf
  refine gMi_of (by decide) (Nat.le_of_ble_eq_true rfl) ?_
  intro p e s m args below meth c A ls C hr hlocks G hl
  have C : gC p s m args c cX3_nearestFigure 6 "LaneOrder$Reading" XSh D cy h A := C
  have hl : lv_has ls 6 [(0, .ref (h o)), (1, .int a1)] := hl
  have hx := C.1
  have hb := C.2.1
  have hown := C.2.2.2.1
  have htb := C.2.2.2.2.1
  refine lv_iconst (v := (-1)) hx hb dX3_nearestFigure_0 (by decide) ?_
  refine lv_istore_n (lv' := [(2, .int (-1)), (0, .ref (h o)), (1, .int a1)]) hx hb dX3_nearestFigure_1 rfl hl (by decide) rfl (fun ls hl => ?_)
  refine lv_iconst (v := 0) hx hb dX3_nearestFigure_2 (by decide) ?_
  refine lv_istore_n (lv' := [(3, .int 0), (2, .int (-1)), (0, .ref (h o)), (1, .int a1)]) hx hb dX3_nearestFigure_3 rfl hl (by decide) rfl (fun ls hl => ?_)
  refine lv_iconst (v := 0) hx hb dX3_nearestFigure_4 (by decide) ?_
  refine lv_istore (lv' := [(4, .int 0), (3, .int 0), (2, .int (-1)), (0, .ref (h o)), (1, .int a1)]) hx hb dX3_nearestFigure_5 hl (by decide) rfl (fun ls hl => ?_)
  obtain ⟨x14, hn, hf⟩ := bI1_some hf
  obtain ⟨n, hn⟩ := lpx_some hn
  have K68 : ∀ (H : Heap) (locs : List Loc) (ls : Array Slot), gG XSh D cy h A s st H locs → lv_has ls 6 [(2, .int x14)] → W p l e (gR 3) s m args below meth c H locs 0 0 (MQ below (gQi XSh D cy h A r st) args s 0 0 A) (F0 m 68 ls []) := by
    intro H locs ls G hl
    refine lv_iload_n hx hb dX3_nearestFigure_68 rfl (lv_at hl 0 rfl) ?_
    cases hf
    exact g_iret C G hr hlocks dX3_nearestFigure_69
  have L7 : ∀ (n : Nat) (x1 : Int32) (x2 : Int32) (x3 : Int32) (H : Heap) (locs : List Loc) (ls : Array Slot), gG XSh D cy h A s st H locs → lv_has ls 6 [(0, .ref (h o)), (1, .int a1), (2, .int x1), (3, .int x2), (4, .int x3)] → lp (uc3 (f_X3_nearestFigure_L7 o a1 st)) n (x1, x2, x3) = some (x14) → W p l e (gR 3) s m args below meth c H locs 0 0 (MQ below (gQi XSh D cy h A r st) args s 0 0 A) (F0 m 7 ls []) := by
    intro n
    induction n with
    | zero =>
      intro x1 x2 x3 H locs ls G hl hn
      cases hn
    | succ n ih =>
      intro x1 x2 x3 H locs ls G hl hn
      obtain ⟨q, hf, hq1, hq2⟩ := lp_q hn
      have hf : f_X3_nearestFigure_L7 o a1 st x1 x2 x3 = some q := hf
      unfold f_X3_nearestFigure_L7 at hf
      refine lv_iload hx hb dX3_nearestFigure_7 (lv_at hl 4 rfl) ?_
      refine lv_aload_n hx hb dX3_nearestFigure_9 rfl (lv_at hl 0 rfl) ?_
      refine g_getr (k := (o + 1)) C G cl3 (C3 ho) (j := 0) (by decide) (F3_0 ho) k1_151 dX3_nearestFigure_10 ?_
      refine g_getiN C G cl5 (C5 (O3_0 ho)) (j := 5) (by decide) (F5_5 (O3_0 ho)) k1_70 dX3_nearestFigure_13 ?_
      refine lv_icmp_ge (tgt := 68) hx hb dX3_nearestFigure_16 (by decide) (fun c4 => ?_) (fun c4 => ?_)
      · have hf := ifP c4 hf
        cases hf
        have hz9 := hq2 _ rfl
        cases hz9
        exact K68 _ _ _ G (lv_sub hl [2] rfl)
      · have hf := ifN c4 hf
        refine lv_aload_n hx hb dX3_nearestFigure_19 rfl (lv_at hl 0 rfl) ?_
        refine g_getr (k := (o + 1)) C G cl3 (C3 ho) (j := 0) (by decide) (F3_0 ho) k1_151 dX3_nearestFigure_20 ?_
        refine g_getrN (k := (o + 2)) C G cl5 (C5 (O3_0 ho)) (j := 0) (by decide) (F5_0 (O3_0 ho)) k1_55 dX3_nearestFigure_23 ?_
        refine lv_iload hx hb dX3_nearestFigure_26 (lv_at hl 4 rfl) ?_
        obtain ⟨hi28_4, hf⟩ := gd_some hf
        refine g_iald C G (A5_0 (O3_0 ho)) (j := x3.toNatClampNeg) rfl hi28_4 dX3_nearestFigure_28 ?_
        refine lv_iconst (v := 3) hx hb dX3_nearestFigure_29 (by decide) ?_
        refine lv_icmp_ne (tgt := 62) hx hb dX3_nearestFigure_30 (by decide) (fun c6 => ?_) (fun c6 => ?_)
        · have hf := ifN c6 hf
          obtain ⟨x7, ex7⟩ : ∃ z : Int32, z = (x3 + 1) := ⟨_, rfl⟩
          have hf := lt_some ex7 hf
          refine lv_iinc (v := x7) (lv' := [(4, .int x7), (0, .ref (h o)), (1, .int a1), (2, .int x1), (3, .int x2)]) hx hb dX3_nearestFigure_62 hl (k := 4) rfl (by rw [ex7]; rfl) (by decide) rfl (fun ls hl => ?_)
          refine lv_goto (tgt := 7) hx hb dX3_nearestFigure_65 (by decide) ?_
          cases hf
          exact ih _ _ _ _ _ _ G (lv_sub hl [1, 2, 3, 4, 0] rfl) (hq1 _ rfl)
        · have hf := ifP c6 hf
          refine lv_aload_n hx hb dX3_nearestFigure_33 rfl (lv_at hl 0 rfl) ?_
          refine g_getr (k := (o + 1)) C G cl3 (C3 ho) (j := 0) (by decide) (F3_0 ho) k1_151 dX3_nearestFigure_34 ?_
          refine lv_iload_n hx hb dX3_nearestFigure_37 rfl (lv_at hl 1 rfl) ?_
          refine lv_iload hx hb dX3_nearestFigure_38 (lv_at hl 4 rfl) ?_
          obtain ⟨r8, hc40_8, hf⟩ := bI1_some hf
          refine g_callVi C G (As := [.int a1, .int x3]) (rest := []) (c_X5_distance l D cy h (o + 1) (O3_0 ho) a1 x3 st r8 hc40_8) cl5 rfl (C5 (O3_0 ho)) v_X3_148 (Nat.le_of_ble_eq_true rfl) (Nat.le_of_ble_eq_true rfl) rfl hl.1 rfl (Nat.le_of_ble_eq_true rfl) dX3_nearestFigure_40 ⟨Nat.zero_le _, Nat.zero_le _⟩ (fun H locs G => ?_)
          refine lv_istore (lv' := [(5, .int r8), (0, .ref (h o)), (1, .int a1), (2, .int x1), (3, .int x2), (4, .int x3)]) hx hb dX3_nearestFigure_43 hl (by decide) rfl (fun ls hl => ?_)
          refine lv_iload_n hx hb dX3_nearestFigure_45 rfl (lv_at hl 3 rfl) ?_
          refine lv_iconst (v := (-1)) hx hb dX3_nearestFigure_46 (by decide) ?_
          refine lv_icmp_eq (tgt := 56) hx hb dX3_nearestFigure_47 (by decide) (fun c9 => ?_) (fun c9 => ?_)
          · have hf := ifP c9 hf
            refine lv_iload hx hb dX3_nearestFigure_56 (lv_at hl 5 rfl) ?_
            refine lv_istore_n (lv' := [(2, .int x3), (5, .int r8), (0, .ref (h o)), (1, .int a1), (3, .int x2), (4, .int x3)]) hx hb dX3_nearestFigure_58 rfl hl (by decide) rfl (fun ls hl => ?_)
            refine lv_iload hx hb dX3_nearestFigure_59 (lv_at hl 1 rfl) ?_
            refine lv_istore_n (lv' := [(3, .int r8), (2, .int x3), (5, .int r8), (0, .ref (h o)), (1, .int a1), (4, .int x3)]) hx hb dX3_nearestFigure_61 rfl hl (by decide) rfl (fun ls hl => ?_)
            obtain ⟨x10, ex10⟩ : ∃ z : Int32, z = (x3 + 1) := ⟨_, rfl⟩
            have hf := lt_some ex10 hf
            refine lv_iinc (v := x10) (lv' := [(4, .int x10), (3, .int r8), (2, .int x3), (5, .int r8), (0, .ref (h o)), (1, .int a1)]) hx hb dX3_nearestFigure_62 hl (k := 5) rfl (by rw [ex10]; rfl) (by decide) rfl (fun ls hl => ?_)
            refine lv_goto (tgt := 7) hx hb dX3_nearestFigure_65 (by decide) ?_
            cases hf
            exact ih _ _ _ _ _ _ G (lv_sub hl [4, 5, 2, 1, 0] rfl) (hq1 _ rfl)
          · have hf := ifN c9 hf
            refine lv_iload hx hb dX3_nearestFigure_50 (lv_at hl 0 rfl) ?_
            refine lv_iload_n hx hb dX3_nearestFigure_52 rfl (lv_at hl 4 rfl) ?_
            refine lv_icmp_ge (tgt := 62) hx hb dX3_nearestFigure_53 (by decide) (fun c11 => ?_) (fun c11 => ?_)
            · have hf := ifP c11 hf
              obtain ⟨x12, ex12⟩ : ∃ z : Int32, z = (x3 + 1) := ⟨_, rfl⟩
              have hf := lt_some ex12 hf
              refine lv_iinc (v := x12) (lv' := [(4, .int x12), (5, .int r8), (0, .ref (h o)), (1, .int a1), (2, .int x1), (3, .int x2)]) hx hb dX3_nearestFigure_62 hl (k := 5) rfl (by rw [ex12]; rfl) (by decide) rfl (fun ls hl => ?_)
              refine lv_goto (tgt := 7) hx hb dX3_nearestFigure_65 (by decide) ?_
              cases hf
              exact ih _ _ _ _ _ _ G (lv_sub hl [2, 3, 4, 5, 0] rfl) (hq1 _ rfl)
            · have hf := ifN c11 hf
              refine lv_iload hx hb dX3_nearestFigure_56 (lv_at hl 5 rfl) ?_
              refine lv_istore_n (lv' := [(2, .int x3), (5, .int r8), (0, .ref (h o)), (1, .int a1), (3, .int x2), (4, .int x3)]) hx hb dX3_nearestFigure_58 rfl hl (by decide) rfl (fun ls hl => ?_)
              refine lv_iload hx hb dX3_nearestFigure_59 (lv_at hl 1 rfl) ?_
              refine lv_istore_n (lv' := [(3, .int r8), (2, .int x3), (5, .int r8), (0, .ref (h o)), (1, .int a1), (4, .int x3)]) hx hb dX3_nearestFigure_61 rfl hl (by decide) rfl (fun ls hl => ?_)
              obtain ⟨x13, ex13⟩ : ∃ z : Int32, z = (x3 + 1) := ⟨_, rfl⟩
              have hf := lt_some ex13 hf
              refine lv_iinc (v := x13) (lv' := [(4, .int x13), (3, .int r8), (2, .int x3), (5, .int r8), (0, .ref (h o)), (1, .int a1)]) hx hb dX3_nearestFigure_62 hl (k := 5) rfl (by rw [ex13]; rfl) (by decide) rfl (fun ls hl => ?_)
              refine lv_goto (tgt := 7) hx hb dX3_nearestFigure_65 (by decide) ?_
              cases hf
              exact ih _ _ _ _ _ _ G (lv_sub hl [4, 5, 2, 1, 0] rfl) (hq1 _ rfl)
  exact L7 n _ _ _ _ _ _ G (lv_sub hl [3, 4, 2, 1, 0] rfl) hn

noncomputable def f_X3_nextBegin_L10 (o : Nat) (a1 : Nat) (a2 : Nat) (a3 : Int32) (a5 : Int32) (st : GS) (x1 : Int32) (x2 : Int32) (x3 : Int32) : Option ((Int32 × Int32 × Int32) ⊕ (Int32)) := 
(if a5 ≤ x3 then some (.inr (x2)) else 
gd x3 8 (lt_ (gt st (o + 23) (x3.toNatClampNeg)) (fun x6 => 
gd x6 8 ((if (gt st a2 (x6.toNatClampNeg)) ≤ a3 then lt_ (x3 + 1) (fun x9 => 
some (.inl (x1, x2, x9))) else 
(if x1 = 0 then gd x6 8 (lt_ (gt st a1 (x6.toNatClampNeg)) (fun x12 => 
lt_ (x3 + 1) (fun x13 => 
some (.inl (1, x12, x13))))) else 
gd x6 8 ((if x2 ≤ (gt st a1 (x6.toNatClampNeg)) then lt_ (x3 + 1) (fun x16 => 
some (.inl (x1, x2, x16))) else 
gd x6 8 (lt_ (gt st a1 (x6.toNatClampNeg)) (fun x18 => 
lt_ (x3 + 1) (fun x19 => 
some (.inl (1, x18, x19)))))))))))))
noncomputable def f_X3_nextBegin (o : Nat) (a1 : Nat) (a2 : Nat) (a3 : Int32) (a4 : Int32) (a5 : Int32) (st : GS) : Option (Int32) := 
bI1 (lpx (uc3 (f_X3_nextBegin_L10 o a1 a2 a3 a5 st)) (0, a3, a4)) (fun x20 => 
some (x20))
set_option maxRecDepth 100000 in
set_option maxHeartbeats 4000000 in
theorem c_X3_nextBegin (l : Launch) (D : va_G) (cy : ClassId) (h : Nat → Nat) (o : Nat) (ho : ok3 o) (a1 : Nat) (ha1 : arrO XSh a1 8) (a2 : Nat) (ha2 : arrO XSh a2 8) (a3 : Int32) (a4 : Int32) (a5 : Int32) (st : GS) (r : Int32) (hf : f_X3_nextBegin o a1 a2 a3 a4 a5 st = some r) : gMi l XSh D cy h yX3_nextBegin cX3_nextBegin 10 (some .int) 1 st [.ref (h o), .ref (h a1), .ref (h a2), .int a3, .int a4, .int a5] r st := by
  unfold f_X3_nextBegin at hf
  refine gMi_of (by decide) (Nat.le_of_ble_eq_true rfl) ?_
  intro p e s m args below meth c A ls C hr hlocks G hl
  have C : gC p s m args c cX3_nextBegin 10 "LaneOrder$Reading" XSh D cy h A := C
  have hl : lv_has ls 10 [(0, .ref (h o)), (1, .ref (h a1)), (2, .ref (h a2)), (3, .int a3), (4, .int a4), (5, .int a5)] := hl
  have hx := C.1
  have hb := C.2.1
  have hown := C.2.2.2.1
  have htb := C.2.2.2.2.1
  refine lv_iconst (v := 0) hx hb dX3_nextBegin_0 (by decide) ?_
  refine lv_istore (lv' := [(6, .int 0), (0, .ref (h o)), (1, .ref (h a1)), (2, .ref (h a2)), (3, .int a3), (4, .int a4), (5, .int a5)]) hx hb dX3_nextBegin_1 hl (by decide) rfl (fun ls hl => ?_)
  refine lv_iload_n hx hb dX3_nextBegin_3 rfl (lv_at hl 4 rfl) ?_
  refine lv_istore (lv' := [(7, .int a3), (6, .int 0), (0, .ref (h o)), (1, .ref (h a1)), (2, .ref (h a2)), (3, .int a3), (4, .int a4), (5, .int a5)]) hx hb dX3_nextBegin_4 hl (by decide) rfl (fun ls hl => ?_)
  refine lv_iload hx hb dX3_nextBegin_6 (lv_at hl 6 rfl) ?_
  refine lv_istore (lv' := [(8, .int a4), (7, .int a3), (6, .int 0), (0, .ref (h o)), (1, .ref (h a1)), (2, .ref (h a2)), (3, .int a3), (4, .int a4), (5, .int a5)]) hx hb dX3_nextBegin_8 hl (by decide) rfl (fun ls hl => ?_)
  obtain ⟨x20, hn, hf⟩ := bI1_some hf
  obtain ⟨n, hn⟩ := lpx_some hn
  have K63 : ∀ (H : Heap) (locs : List Loc) (ls : Array Slot), gG XSh D cy h A s st H locs → lv_has ls 10 [(7, .int x20)] → W p l e (gR 1) s m args below meth c H locs 0 0 (MQ below (gQi XSh D cy h A r st) args s 0 0 A) (F0 m 63 ls []) := by
    intro H locs ls G hl
    refine lv_iload hx hb dX3_nextBegin_63 (lv_at hl 0 rfl) ?_
    cases hf
    exact g_iret C G hr hlocks dX3_nextBegin_65
  have L10 : ∀ (n : Nat) (x1 : Int32) (x2 : Int32) (x3 : Int32) (H : Heap) (locs : List Loc) (ls : Array Slot), gG XSh D cy h A s st H locs → lv_has ls 10 [(0, .ref (h o)), (1, .ref (h a1)), (2, .ref (h a2)), (3, .int a3), (5, .int a5), (6, .int x1), (7, .int x2), (8, .int x3)] → lp (uc3 (f_X3_nextBegin_L10 o a1 a2 a3 a5 st)) n (x1, x2, x3) = some (x20) → W p l e (gR 1) s m args below meth c H locs 0 0 (MQ below (gQi XSh D cy h A r st) args s 0 0 A) (F0 m 10 ls []) := by
    intro n
    induction n with
    | zero =>
      intro x1 x2 x3 H locs ls G hl hn
      cases hn
    | succ n ih =>
      intro x1 x2 x3 H locs ls G hl hn
      obtain ⟨q, hf, hq1, hq2⟩ := lp_q hn
      have hf : f_X3_nextBegin_L10 o a1 a2 a3 a5 st x1 x2 x3 = some q := hf
      unfold f_X3_nextBegin_L10 at hf
      refine lv_iload hx hb dX3_nextBegin_10 (lv_at hl 7 rfl) ?_
      refine lv_iload hx hb dX3_nextBegin_12 (lv_at hl 4 rfl) ?_
      refine lv_icmp_ge (tgt := 63) hx hb dX3_nextBegin_14 (by decide) (fun c4 => ?_) (fun c4 => ?_)
      · have hf := ifP c4 hf
        cases hf
        have hz9 := hq2 _ rfl
        cases hz9
        exact K63 _ _ _ G (lv_sub hl [6] rfl)
      · have hf := ifN c4 hf
        refine lv_aload_n hx hb dX3_nextBegin_17 rfl (lv_at hl 0 rfl) ?_
        refine g_getr (k := (o + 23)) C G cl3 (C3 ho) (j := 10) (by decide) (F3_10 ho) k1_170 dX3_nextBegin_18 ?_
        refine lv_iload hx hb dX3_nextBegin_21 (lv_at hl 7 rfl) ?_
        obtain ⟨hi23_4, hf⟩ := gd_some hf
        refine g_iald C G (A3_10 ho) (j := x3.toNatClampNeg) rfl hi23_4 dX3_nextBegin_23 ?_
        refine lv_topi (fun x6 ex6 => ?_)
        have hf := lt_some ex6 hf
        refine lv_istore (lv' := [(9, .int x6), (0, .ref (h o)), (1, .ref (h a1)), (2, .ref (h a2)), (3, .int a3), (5, .int a5), (6, .int x1), (7, .int x2), (8, .int x3)]) hx hb dX3_nextBegin_24 hl (by decide) rfl (fun ls hl => ?_)
        refine lv_aload_n hx hb dX3_nextBegin_26 rfl (lv_at hl 3 rfl) ?_
        refine lv_iload hx hb dX3_nextBegin_27 (lv_at hl 0 rfl) ?_
        obtain ⟨hi29_6, hf⟩ := gd_some hf
        refine g_iald C G ha2 (j := x6.toNatClampNeg) rfl hi29_6 dX3_nextBegin_29 ?_
        refine lv_iload_n hx hb dX3_nextBegin_30 rfl (lv_at hl 4 rfl) ?_
        refine lv_icmp_le (tgt := 57) hx hb dX3_nextBegin_31 (by decide) (fun c8 => ?_) (fun c8 => ?_)
        · have hf := ifP c8 hf
          obtain ⟨x9, ex9⟩ : ∃ z : Int32, z = (x3 + 1) := ⟨_, rfl⟩
          have hf := lt_some ex9 hf
          refine lv_iinc (v := x9) (lv' := [(8, .int x9), (9, .int x6), (0, .ref (h o)), (1, .ref (h a1)), (2, .ref (h a2)), (3, .int a3), (5, .int a5), (6, .int x1), (7, .int x2)]) hx hb dX3_nextBegin_57 hl (k := 8) rfl (by rw [ex9]; rfl) (by decide) rfl (fun ls hl => ?_)
          refine lv_goto (tgt := 10) hx hb dX3_nextBegin_60 (by decide) ?_
          cases hf
          exact ih _ _ _ _ _ _ G (lv_sub hl [2, 3, 4, 5, 6, 7, 8, 0] rfl) (hq1 _ rfl)
        · have hf := ifN c8 hf
          refine lv_iload hx hb dX3_nextBegin_34 (lv_at hl 6 rfl) ?_
          refine lv_if_eq (tgt := 48) hx hb dX3_nextBegin_36 (by decide) (fun c10 => ?_) (fun c10 => ?_)
          · have hf := ifP c10 hf
            refine lv_iconst (v := 1) hx hb dX3_nextBegin_48 (by decide) ?_
            refine lv_istore (lv' := [(6, .int 1), (9, .int x6), (0, .ref (h o)), (1, .ref (h a1)), (2, .ref (h a2)), (3, .int a3), (5, .int a5), (7, .int x2), (8, .int x3)]) hx hb dX3_nextBegin_49 hl (by decide) rfl (fun ls hl => ?_)
            refine lv_aload_n hx hb dX3_nextBegin_51 rfl (lv_at hl 3 rfl) ?_
            refine lv_iload hx hb dX3_nextBegin_52 (lv_at hl 1 rfl) ?_
            obtain ⟨hi54_10, hf⟩ := gd_some hf
            refine g_iald C G ha1 (j := x6.toNatClampNeg) rfl hi54_10 dX3_nextBegin_54 ?_
            refine lv_topi (fun x12 ex12 => ?_)
            have hf := lt_some ex12 hf
            refine lv_istore (lv' := [(7, .int x12), (6, .int 1), (9, .int x6), (0, .ref (h o)), (1, .ref (h a1)), (2, .ref (h a2)), (3, .int a3), (5, .int a5), (8, .int x3)]) hx hb dX3_nextBegin_55 hl (by decide) rfl (fun ls hl => ?_)
            obtain ⟨x13, ex13⟩ : ∃ z : Int32, z = (x3 + 1) := ⟨_, rfl⟩
            have hf := lt_some ex13 hf
            refine lv_iinc (v := x13) (lv' := [(8, .int x13), (7, .int x12), (6, .int 1), (9, .int x6), (0, .ref (h o)), (1, .ref (h a1)), (2, .ref (h a2)), (3, .int a3), (5, .int a5)]) hx hb dX3_nextBegin_57 hl (k := 8) rfl (by rw [ex13]; rfl) (by decide) rfl (fun ls hl => ?_)
            refine lv_goto (tgt := 10) hx hb dX3_nextBegin_60 (by decide) ?_
            cases hf
            exact ih _ _ _ _ _ _ G (lv_sub hl [4, 5, 6, 7, 8, 2, 1, 0] rfl) (hq1 _ rfl)
          · have hf := ifN c10 hf
            refine lv_aload_n hx hb dX3_nextBegin_39 rfl (lv_at hl 2 rfl) ?_
            refine lv_iload hx hb dX3_nextBegin_40 (lv_at hl 0 rfl) ?_
            obtain ⟨hi42_13, hf⟩ := gd_some hf
            refine g_iald C G ha1 (j := x6.toNatClampNeg) rfl hi42_13 dX3_nextBegin_42 ?_
            refine lv_iload hx hb dX3_nextBegin_43 (lv_at hl 7 rfl) ?_
            refine lv_icmp_ge (tgt := 57) hx hb dX3_nextBegin_45 (by decide) (fun c15 => ?_) (fun c15 => ?_)
            · have hf := ifP c15 hf
              obtain ⟨x16, ex16⟩ : ∃ z : Int32, z = (x3 + 1) := ⟨_, rfl⟩
              have hf := lt_some ex16 hf
              refine lv_iinc (v := x16) (lv' := [(8, .int x16), (9, .int x6), (0, .ref (h o)), (1, .ref (h a1)), (2, .ref (h a2)), (3, .int a3), (5, .int a5), (6, .int x1), (7, .int x2)]) hx hb dX3_nextBegin_57 hl (k := 8) rfl (by rw [ex16]; rfl) (by decide) rfl (fun ls hl => ?_)
              refine lv_goto (tgt := 10) hx hb dX3_nextBegin_60 (by decide) ?_
              cases hf
              exact ih _ _ _ _ _ _ G (lv_sub hl [2, 3, 4, 5, 6, 7, 8, 0] rfl) (hq1 _ rfl)
            · have hf := ifN c15 hf
              refine lv_iconst (v := 1) hx hb dX3_nextBegin_48 (by decide) ?_
              refine lv_istore (lv' := [(6, .int 1), (9, .int x6), (0, .ref (h o)), (1, .ref (h a1)), (2, .ref (h a2)), (3, .int a3), (5, .int a5), (7, .int x2), (8, .int x3)]) hx hb dX3_nextBegin_49 hl (by decide) rfl (fun ls hl => ?_)
              refine lv_aload_n hx hb dX3_nextBegin_51 rfl (lv_at hl 3 rfl) ?_
              refine lv_iload hx hb dX3_nextBegin_52 (lv_at hl 1 rfl) ?_
              obtain ⟨hi54_16, hf⟩ := gd_some hf
              refine g_iald C G ha1 (j := x6.toNatClampNeg) rfl hi54_16 dX3_nextBegin_54 ?_
              refine lv_topi (fun x18 ex18 => ?_)
              have hf := lt_some ex18 hf
              refine lv_istore (lv' := [(7, .int x18), (6, .int 1), (9, .int x6), (0, .ref (h o)), (1, .ref (h a1)), (2, .ref (h a2)), (3, .int a3), (5, .int a5), (8, .int x3)]) hx hb dX3_nextBegin_55 hl (by decide) rfl (fun ls hl => ?_)
              obtain ⟨x19, ex19⟩ : ∃ z : Int32, z = (x3 + 1) := ⟨_, rfl⟩
              have hf := lt_some ex19 hf
              refine lv_iinc (v := x19) (lv' := [(8, .int x19), (7, .int x18), (6, .int 1), (9, .int x6), (0, .ref (h o)), (1, .ref (h a1)), (2, .ref (h a2)), (3, .int a3), (5, .int a5)]) hx hb dX3_nextBegin_57 hl (k := 8) rfl (by rw [ex19]; rfl) (by decide) rfl (fun ls hl => ?_)
              refine lv_goto (tgt := 10) hx hb dX3_nextBegin_60 (by decide) ?_
              cases hf
              exact ih _ _ _ _ _ _ G (lv_sub hl [4, 5, 6, 7, 8, 2, 1, 0] rfl) (hq1 _ rfl)
  exact L10 n _ _ _ _ _ _ G (lv_sub hl [3, 4, 5, 6, 8, 2, 1, 0] rfl) hn

noncomputable def f_X3_gatherLanesOf_L4 (o : Nat) (a1 : Int32) (a2 : Nat) (a3 : Nat) (a4 : Int32) (a5 : Int32) (x1 : Int32) (st2 : GS) : Option ((Int32 × GS) ⊕ (GS)) := 
(if a5 ≤ x1 then some (.inr (st2)) else 
gd x1 8 (gd (gt st2 (o + 23) (x1.toNatClampNeg)) 8 (lt_ (gt st2 a3 ((gt st2 (o + 23) (x1.toNatClampNeg)).toNatClampNeg)) (fun x6 => 
bI1 (f_X3_nextBegin o a2 a3 x6 a4 a5 st2) (fun r7 => 
(if r7 ≤ x6 then lt_ (x1 + 1) (fun x9 => 
some (.inl (x9, st2))) else 
bI1 (f_X2_has (o + 19) a1 x6 st2) (fun r10 => 
(if r10 = 0 then bI1 (f_X2_add (o + 19) a1 x6 (r7 - x6) st2) (fun st13 => 
lt_ (x1 + 1) (fun x14 => 
some (.inl (x14, st13)))) else 
lt_ (x1 + 1) (fun x12 => 
some (.inl (x12, st2)))))))))))
noncomputable def f_X3_gatherLanesOf (o : Nat) (a1 : Int32) (a2 : Nat) (a3 : Nat) (a4 : Int32) (a5 : Int32) (st : GS) : Option (GS) := 
bI1 (lpx (uc2 (f_X3_gatherLanesOf_L4 o a1 a2 a3 a4 a5)) (a4, st)) (fun st15 => 
some (st15))
set_option maxRecDepth 100000 in
set_option maxHeartbeats 4000000 in
theorem c_X3_gatherLanesOf (l : Launch) (D : va_G) (cy : ClassId) (h : Nat → Nat) (o : Nat) (ho : ok3 o) (a1 : Int32) (a2 : Nat) (ha2 : arrO XSh a2 8) (a3 : Nat) (ha3 : arrO XSh a3 8) (a4 : Int32) (a5 : Int32) (st : GS) (stF : GS) (hf : f_X3_gatherLanesOf o a1 a2 a3 a4 a5 st = some stF) : gMv l XSh D cy h yX3_gatherLanesOf cX3_gatherLanesOf 9 none 3 st [.ref (h o), .int a1, .ref (h a2), .ref (h a3), .int a4, .int a5] stF := by
  unfold f_X3_gatherLanesOf at hf
  refine gMv_of (by decide) (Nat.le_of_ble_eq_true rfl) ?_
  intro p e s m args below meth c A ls C hr hlocks G hl
  have C : gC p s m args c cX3_gatherLanesOf 9 "LaneOrder$Reading" XSh D cy h A := C
  have hl : lv_has ls 9 [(0, .ref (h o)), (1, .int a1), (2, .ref (h a2)), (3, .ref (h a3)), (4, .int a4), (5, .int a5)] := hl
  have hx := C.1
  have hb := C.2.1
  have hown := C.2.2.2.1
  have htb := C.2.2.2.2.1
  refine lv_iload hx hb dX3_gatherLanesOf_0 (lv_at hl 4 rfl) ?_
  refine lv_istore (lv' := [(6, .int a4), (0, .ref (h o)), (1, .int a1), (2, .ref (h a2)), (3, .ref (h a3)), (4, .int a4), (5, .int a5)]) hx hb dX3_gatherLanesOf_2 hl (by decide) rfl (fun ls hl => ?_)
  obtain ⟨st15, hn, hf⟩ := bI1_some hf
  obtain ⟨n, hn⟩ := lpx_some hn
  have K77 : ∀ (H : Heap) (locs : List Loc) (ls : Array Slot), gG XSh D cy h A s st15 H locs → lv_has ls 9 [] → W p l e (gR 3) s m args below meth c H locs 0 0 (MQ below (gQv XSh D cy h A stF) args s 0 0 A) (F0 m 77 ls []) := by
    intro H locs ls G hl
    cases hf
    exact g_vret C G hr hlocks dX3_gatherLanesOf_77
  have L4 : ∀ (n : Nat) (x1 : Int32) (st2 : GS) (H : Heap) (locs : List Loc) (ls : Array Slot), gG XSh D cy h A s st2 H locs → lv_has ls 9 [(0, .ref (h o)), (1, .int a1), (2, .ref (h a2)), (3, .ref (h a3)), (4, .int a4), (5, .int a5), (6, .int x1)] → lp (uc2 (f_X3_gatherLanesOf_L4 o a1 a2 a3 a4 a5)) n (x1, st2) = some (st15) → W p l e (gR 3) s m args below meth c H locs 0 0 (MQ below (gQv XSh D cy h A stF) args s 0 0 A) (F0 m 4 ls []) := by
    intro n
    induction n with
    | zero =>
      intro x1 st2 H locs ls G hl hn
      cases hn
    | succ n ih =>
      intro x1 st2 H locs ls G hl hn
      obtain ⟨q, hf, hq1, hq2⟩ := lp_q hn
      have hf : f_X3_gatherLanesOf_L4 o a1 a2 a3 a4 a5 x1 st2 = some q := hf
      unfold f_X3_gatherLanesOf_L4 at hf
      refine lv_iload hx hb dX3_gatherLanesOf_4 (lv_at hl 6 rfl) ?_
      refine lv_iload hx hb dX3_gatherLanesOf_6 (lv_at hl 5 rfl) ?_
      refine lv_icmp_ge (tgt := 77) hx hb dX3_gatherLanesOf_8 (by decide) (fun c3 => ?_) (fun c3 => ?_)
      · have hf := ifP c3 hf
        cases hf
        have hz9 := hq2 _ rfl
        cases hz9
        exact K77 _ _ _ G (lv_sub hl [] rfl)
      · have hf := ifN c3 hf
        refine lv_aload_n hx hb dX3_gatherLanesOf_11 rfl (lv_at hl 3 rfl) ?_
        refine lv_aload_n hx hb dX3_gatherLanesOf_12 rfl (lv_at hl 0 rfl) ?_
        refine g_getr (k := (o + 23)) C G cl3 (C3 ho) (j := 10) (by decide) (F3_10 ho) k1_170 dX3_gatherLanesOf_13 ?_
        refine lv_iload hx hb dX3_gatherLanesOf_16 (lv_at hl 6 rfl) ?_
        obtain ⟨hi18_3, hf⟩ := gd_some hf
        refine g_iald C G (A3_10 ho) (j := x1.toNatClampNeg) rfl hi18_3 dX3_gatherLanesOf_18 ?_
        obtain ⟨hi19_4, hf⟩ := gd_some hf
        refine g_iald C G ha3 (j := (gt st2 (o + 23) (x1.toNatClampNeg)).toNatClampNeg) rfl hi19_4 dX3_gatherLanesOf_19 ?_
        refine lv_topi (fun x6 ex6 => ?_)
        have hf := lt_some ex6 hf
        refine lv_istore (lv' := [(7, .int x6), (0, .ref (h o)), (1, .int a1), (2, .ref (h a2)), (3, .ref (h a3)), (4, .int a4), (5, .int a5), (6, .int x1)]) hx hb dX3_gatherLanesOf_20 hl (by decide) rfl (fun ls hl => ?_)
        refine lv_aload_n hx hb dX3_gatherLanesOf_22 rfl (lv_at hl 1 rfl) ?_
        refine lv_aload_n hx hb dX3_gatherLanesOf_23 rfl (lv_at hl 3 rfl) ?_
        refine lv_aload_n hx hb dX3_gatherLanesOf_24 rfl (lv_at hl 4 rfl) ?_
        refine lv_iload hx hb dX3_gatherLanesOf_25 (lv_at hl 0 rfl) ?_
        refine lv_iload hx hb dX3_gatherLanesOf_27 (lv_at hl 5 rfl) ?_
        refine lv_iload hx hb dX3_gatherLanesOf_29 (lv_at hl 6 rfl) ?_
        obtain ⟨r7, hc31_7, hf⟩ := bI1_some hf
        refine g_callVi C G (As := [.ref (h a2), .ref (h a3), .int x6, .int a4, .int a5]) (rest := []) (c_X3_nextBegin l D cy h o ho a2 ha2 a3 ha3 x6 a4 a5 st2 r7 hc31_7) cl3 rfl (C3 ho) v_X3_105 (Nat.le_of_ble_eq_true rfl) (Nat.le_of_ble_eq_true rfl) rfl hl.1 rfl (Nat.le_of_ble_eq_true rfl) dX3_gatherLanesOf_31 ⟨Nat.zero_le _, Nat.zero_le _⟩ (fun H locs G => ?_)
        refine lv_istore (lv' := [(8, .int r7), (7, .int x6), (0, .ref (h o)), (1, .int a1), (2, .ref (h a2)), (3, .ref (h a3)), (4, .int a4), (5, .int a5), (6, .int x1)]) hx hb dX3_gatherLanesOf_34 hl (by decide) rfl (fun ls hl => ?_)
        refine lv_iload hx hb dX3_gatherLanesOf_36 (lv_at hl 0 rfl) ?_
        refine lv_iload hx hb dX3_gatherLanesOf_38 (lv_at hl 1 rfl) ?_
        refine lv_icmp_le (tgt := 71) hx hb dX3_gatherLanesOf_40 (by decide) (fun c8 => ?_) (fun c8 => ?_)
        · have hf := ifP c8 hf
          obtain ⟨x9, ex9⟩ : ∃ z : Int32, z = (x1 + 1) := ⟨_, rfl⟩
          have hf := lt_some ex9 hf
          refine lv_iinc (v := x9) (lv' := [(6, .int x9), (8, .int r7), (7, .int x6), (0, .ref (h o)), (1, .int a1), (2, .ref (h a2)), (3, .ref (h a3)), (4, .int a4), (5, .int a5)]) hx hb dX3_gatherLanesOf_71 hl (k := 8) rfl (by rw [ex9]; rfl) (by decide) rfl (fun ls hl => ?_)
          refine lv_goto (tgt := 4) hx hb dX3_gatherLanesOf_74 (by decide) ?_
          cases hf
          exact ih _ _ _ _ _ G (lv_sub hl [3, 4, 5, 6, 7, 8, 0] rfl) (hq1 _ rfl)
        · have hf := ifN c8 hf
          refine lv_aload_n hx hb dX3_gatherLanesOf_43 rfl (lv_at hl 2 rfl) ?_
          refine g_getr (k := (o + 19)) C G cl3 (C3 ho) (j := 9) (by decide) (F3_9 ho) k1_168 dX3_gatherLanesOf_44 ?_
          refine lv_iload_n hx hb dX3_gatherLanesOf_47 rfl (lv_at hl 3 rfl) ?_
          refine lv_iload hx hb dX3_gatherLanesOf_48 (lv_at hl 1 rfl) ?_
          obtain ⟨r10, hc50_10, hf⟩ := bI1_some hf
          refine g_callVi C G (As := [.int a1, .int x6]) (rest := []) (c_X2_has l D cy h (o + 19) (O3_9 ho) a1 x6 st2 r10 hc50_10) cl2 rfl (C2 (O3_9 ho)) v_X3_109 (Nat.le_of_ble_eq_true rfl) (Nat.le_of_ble_eq_true rfl) rfl hl.1 rfl (Nat.le_of_ble_eq_true rfl) dX3_gatherLanesOf_50 ⟨Nat.zero_le _, Nat.zero_le _⟩ (fun H locs G => ?_)
          refine lv_if_ne (tgt := 71) hx hb dX3_gatherLanesOf_53 (by decide) (fun c11 => ?_) (fun c11 => ?_)
          · have hf := ifN c11 hf
            obtain ⟨x12, ex12⟩ : ∃ z : Int32, z = (x1 + 1) := ⟨_, rfl⟩
            have hf := lt_some ex12 hf
            refine lv_iinc (v := x12) (lv' := [(6, .int x12), (8, .int r7), (7, .int x6), (0, .ref (h o)), (1, .int a1), (2, .ref (h a2)), (3, .ref (h a3)), (4, .int a4), (5, .int a5)]) hx hb dX3_gatherLanesOf_71 hl (k := 8) rfl (by rw [ex12]; rfl) (by decide) rfl (fun ls hl => ?_)
            refine lv_goto (tgt := 4) hx hb dX3_gatherLanesOf_74 (by decide) ?_
            cases hf
            exact ih _ _ _ _ _ G (lv_sub hl [3, 4, 5, 6, 7, 8, 0] rfl) (hq1 _ rfl)
          · have hf := ifP c11 hf
            refine lv_aload_n hx hb dX3_gatherLanesOf_56 rfl (lv_at hl 2 rfl) ?_
            refine g_getr (k := (o + 19)) C G cl3 (C3 ho) (j := 9) (by decide) (F3_9 ho) k1_168 dX3_gatherLanesOf_57 ?_
            refine lv_iload_n hx hb dX3_gatherLanesOf_60 rfl (lv_at hl 3 rfl) ?_
            refine lv_iload hx hb dX3_gatherLanesOf_61 (lv_at hl 1 rfl) ?_
            refine lv_iload hx hb dX3_gatherLanesOf_63 (lv_at hl 0 rfl) ?_
            refine lv_iload hx hb dX3_gatherLanesOf_65 (lv_at hl 1 rfl) ?_
            refine lv_isub hx hb dX3_gatherLanesOf_67 ?_
            obtain ⟨st13, hc68_13, hf⟩ := bI1_some hf
            refine g_callVv C G (As := [.int a1, .int x6, .int (r7 - x6)]) (rest := []) (c_X2_add l D cy h (o + 19) (O3_9 ho) a1 x6 (r7 - x6) st2 st13 hc68_13) cl2 rfl (C2 (O3_9 ho)) v_X3_113 (Nat.le_of_ble_eq_true rfl) (Nat.le_of_ble_eq_true rfl) rfl hl.1 rfl (Nat.le_of_ble_eq_true rfl) dX3_gatherLanesOf_68 ⟨Nat.zero_le _, Nat.zero_le _⟩ (fun H locs G => ?_)
            obtain ⟨x14, ex14⟩ : ∃ z : Int32, z = (x1 + 1) := ⟨_, rfl⟩
            have hf := lt_some ex14 hf
            refine lv_iinc (v := x14) (lv' := [(6, .int x14), (8, .int r7), (7, .int x6), (0, .ref (h o)), (1, .int a1), (2, .ref (h a2)), (3, .ref (h a3)), (4, .int a4), (5, .int a5)]) hx hb dX3_gatherLanesOf_71 hl (k := 8) rfl (by rw [ex14]; rfl) (by decide) rfl (fun ls hl => ?_)
            refine lv_goto (tgt := 4) hx hb dX3_gatherLanesOf_74 (by decide) ?_
            cases hf
            exact ih _ _ _ _ _ G (lv_sub hl [3, 4, 5, 6, 7, 8, 0] rfl) (hq1 _ rfl)
  exact L4 n _ _ _ _ _ G (lv_sub hl [1, 2, 3, 4, 5, 6, 0] rfl) hn

noncomputable def f_X3_gatherLanes (o : Nat) (a1 : Int32) (a2 : Int32) (st : GS) : Option (GS) := 
bI1 (f_X2_clear (o + 19) st) (fun st1 => 
bI1 (f_X3_gatherLanesOf o 1 (o + 4) (o + 6) a1 a2 st1) (fun st2 => 
bI1 (f_X3_gatherLanesOf o 0 (o + 3) (o + 5) a1 a2 st2) (fun st3 => 
some (st3))))
set_option maxRecDepth 100000 in
set_option maxHeartbeats 4000000 in
theorem c_X3_gatherLanes (l : Launch) (D : va_G) (cy : ClassId) (h : Nat → Nat) (o : Nat) (ho : ok3 o) (a1 : Int32) (a2 : Int32) (st : GS) (stF : GS) (hf : f_X3_gatherLanes o a1 a2 st = some stF) : gMv l XSh D cy h yX3_gatherLanes cX3_gatherLanes 3 none 4 st [.ref (h o), .int a1, .int a2] stF := by
  unfold f_X3_gatherLanes at hf
  refine gMv_of (by decide) (Nat.le_of_ble_eq_true rfl) ?_
  intro p e s m args below meth c A ls C hr hlocks G hl
  have C : gC p s m args c cX3_gatherLanes 3 "LaneOrder$Reading" XSh D cy h A := C
  have hl : lv_has ls 3 [(0, .ref (h o)), (1, .int a1), (2, .int a2)] := hl
  have hx := C.1
  have hb := C.2.1
  have hown := C.2.2.2.1
  have htb := C.2.2.2.2.1
  refine lv_aload_n hx hb dX3_gatherLanes_0 rfl (lv_at hl 0 rfl) ?_
  refine g_getr (k := (o + 19)) C G cl3 (C3 ho) (j := 9) (by decide) (F3_9 ho) k1_168 dX3_gatherLanes_1 ?_
  obtain ⟨st1, hc4_1, hf⟩ := bI1_some hf
  refine g_callVv C G (As := []) (rest := []) (c_X2_clear l D cy h (o + 19) (O3_9 ho) st st1 hc4_1) cl2 rfl (C2 (O3_9 ho)) v_X3_88 (Nat.le_of_ble_eq_true rfl) (Nat.le_of_ble_eq_true rfl) rfl hl.1 rfl (Nat.le_of_ble_eq_true rfl) dX3_gatherLanes_4 ⟨Nat.zero_le _, Nat.zero_le _⟩ (fun H locs G => ?_)
  refine lv_aload_n hx hb dX3_gatherLanes_7 rfl (lv_at hl 0 rfl) ?_
  refine lv_iconst (v := 1) hx hb dX3_gatherLanes_8 (by decide) ?_
  refine lv_aload_n hx hb dX3_gatherLanes_9 rfl (lv_at hl 0 rfl) ?_
  refine g_getr (k := (o + 1)) C G cl3 (C3 ho) (j := 0) (by decide) (F3_0 ho) k1_151 dX3_gatherLanes_10 ?_
  refine g_getrN (k := (o + 4)) C G cl5 (C5 (O3_0 ho)) (j := 2) (by decide) (F5_2 (O3_0 ho)) k1_61 dX3_gatherLanes_13 ?_
  refine lv_aload_n hx hb dX3_gatherLanes_16 rfl (lv_at hl 0 rfl) ?_
  refine g_getr (k := (o + 1)) C G cl3 (C3 ho) (j := 0) (by decide) (F3_0 ho) k1_151 dX3_gatherLanes_17 ?_
  refine g_getrN (k := (o + 6)) C G cl5 (C5 (O3_0 ho)) (j := 4) (by decide) (F5_4 (O3_0 ho)) k1_67 dX3_gatherLanes_20 ?_
  refine lv_iload_n hx hb dX3_gatherLanes_23 rfl (lv_at hl 1 rfl) ?_
  refine lv_iload_n hx hb dX3_gatherLanes_24 rfl (lv_at hl 2 rfl) ?_
  obtain ⟨st2, hc25_2, hf⟩ := bI1_some hf
  refine g_callVv C G (As := [.int 1, .ref (h (o + 4)), .ref (h (o + 6)), .int a1, .int a2]) (rest := []) (c_X3_gatherLanesOf l D cy h o ho 1 (o + 4) (A5_2 (O3_0 ho)) (o + 6) (A5_4 (O3_0 ho)) a1 a2 st1 st2 hc25_2) cl3 rfl (C3 ho) v_X3_95 (Nat.le_of_ble_eq_true rfl) (Nat.le_of_ble_eq_true rfl) rfl hl.1 rfl (Nat.le_of_ble_eq_true rfl) dX3_gatherLanes_25 ⟨Nat.zero_le _, Nat.zero_le _⟩ (fun H locs G => ?_)
  refine lv_aload_n hx hb dX3_gatherLanes_28 rfl (lv_at hl 0 rfl) ?_
  refine lv_iconst (v := 0) hx hb dX3_gatherLanes_29 (by decide) ?_
  refine lv_aload_n hx hb dX3_gatherLanes_30 rfl (lv_at hl 0 rfl) ?_
  refine g_getr (k := (o + 1)) C G cl3 (C3 ho) (j := 0) (by decide) (F3_0 ho) k1_151 dX3_gatherLanes_31 ?_
  refine g_getrN (k := (o + 3)) C G cl5 (C5 (O3_0 ho)) (j := 1) (by decide) (F5_1 (O3_0 ho)) k1_58 dX3_gatherLanes_34 ?_
  refine lv_aload_n hx hb dX3_gatherLanes_37 rfl (lv_at hl 0 rfl) ?_
  refine g_getr (k := (o + 1)) C G cl3 (C3 ho) (j := 0) (by decide) (F3_0 ho) k1_151 dX3_gatherLanes_38 ?_
  refine g_getrN (k := (o + 5)) C G cl5 (C5 (O3_0 ho)) (j := 3) (by decide) (F5_3 (O3_0 ho)) k1_64 dX3_gatherLanes_41 ?_
  refine lv_iload_n hx hb dX3_gatherLanes_44 rfl (lv_at hl 1 rfl) ?_
  refine lv_iload_n hx hb dX3_gatherLanes_45 rfl (lv_at hl 2 rfl) ?_
  obtain ⟨st3, hc46_3, hf⟩ := bI1_some hf
  refine g_callVv C G (As := [.int 0, .ref (h (o + 3)), .ref (h (o + 5)), .int a1, .int a2]) (rest := []) (c_X3_gatherLanesOf l D cy h o ho 0 (o + 3) (A5_1 (O3_0 ho)) (o + 5) (A5_3 (O3_0 ho)) a1 a2 st2 st3 hc46_3) cl3 rfl (C3 ho) v_X3_95 (Nat.le_of_ble_eq_true rfl) (Nat.le_of_ble_eq_true rfl) rfl hl.1 rfl (Nat.le_of_ble_eq_true rfl) dX3_gatherLanes_46 ⟨Nat.zero_le _, Nat.zero_le _⟩ (fun H locs G => ?_)
  cases hf
  exact g_vret C G hr hlocks dX3_gatherLanes_49

noncomputable def f_X3_readLeaf_L41 (o : Nat) (a1 : Int32) (x5 : Int32) (x10 : Int32) (st11 : GS) : Option ((Int32 × GS) ⊕ (Int32 × GS)) := 
(if x10 ≤ a1 then some (.inr (x10, st11)) else 
gd (x10 - 1) 8 (bI1 (f_X5_isAhead (o + 1) x5 (gt st11 (o + 23) ((x10 - 1).toNatClampNeg)) st11) (fun r14 => 
(if r14 = 0 then some (.inr (x10, st11)) else 
gd (x10 - 1) 8 (gd x10 8 (lt_ (sv st11 (o + 23) (x10.toNatClampNeg) (gt st11 (o + 23) ((x10 - 1).toNatClampNeg))) (fun st18 => 
lt_ (x10 + (-1)) (fun x19 => 
some (.inl (x19, st18))))))))))
noncomputable def f_X3_readLeaf_L3 (o : Nat) (a1 : Int32) (a2 : Int32) (a3 : Int32) (x1 : Int32) (st2 : GS) : Option ((Int32 × GS) ⊕ (GS)) := 
(if a2 ≤ x1 then some (.inr (st2)) else 
gd x1 8 (lt_ (gt st2 (o + 23) (x1.toNatClampNeg)) (fun x5 => 
gd x5 8 (lt_ (sv st2 (o + 11) (x5.toNatClampNeg) a3) (fun st7 => 
gd x5 8 (lt_ (sv st7 (o + 12) (x5.toNatClampNeg) (gt st7 o 7)) (fun st9 => 
bI2 (lpx (uc2 (f_X3_readLeaf_L41 o a1 x5)) (x1, st9)) (fun x20 st21 => 
gd x20 8 (lt_ (sv st21 (o + 23) (x20.toNatClampNeg) x5) (fun st23 => 
lt_ (x1 + 1) (fun x24 => 
some (.inl (x24, st23)))))))))))))
noncomputable def f_X3_readLeaf (o : Nat) (a1 : Int32) (a2 : Int32) (a3 : Int32) (st : GS) : Option (GS) := 
bI1 (lpx (uc2 (f_X3_readLeaf_L3 o a1 a2 a3)) (a1, st)) (fun st25 => 
lt_ (sv st25 o 7 ((gt st25 o 7) + 1)) (fun st26 => 
some (st26)))
set_option maxRecDepth 100000 in
set_option maxHeartbeats 4000000 in
theorem c_X3_readLeaf (l : Launch) (D : va_G) (cy : ClassId) (h : Nat → Nat) (o : Nat) (ho : ok3 o) (a1 : Int32) (a2 : Int32) (a3 : Int32) (st : GS) (stF : GS) (hf : f_X3_readLeaf o a1 a2 a3 st = some stF) : gMv l XSh D cy h yX3_readLeaf cX3_readLeaf 7 none 4 st [.ref (h o), .int a1, .int a2, .int a3] stF := by
  unfold f_X3_readLeaf at hf
  refine gMv_of (by decide) (Nat.le_of_ble_eq_true rfl) ?_
  intro p e s m args below meth c A ls C hr hlocks G hl
  have C : gC p s m args c cX3_readLeaf 7 "LaneOrder$Reading" XSh D cy h A := C
  have hl : lv_has ls 7 [(0, .ref (h o)), (1, .int a1), (2, .int a2), (3, .int a3)] := hl
  have hx := C.1
  have hb := C.2.1
  have hown := C.2.2.2.1
  have htb := C.2.2.2.2.1
  refine lv_iload_n hx hb dX3_readLeaf_0 rfl (lv_at hl 1 rfl) ?_
  refine lv_istore (lv' := [(4, .int a1), (0, .ref (h o)), (1, .int a1), (2, .int a2), (3, .int a3)]) hx hb dX3_readLeaf_1 hl (by decide) rfl (fun ls hl => ?_)
  obtain ⟨st25, hn, hf⟩ := bI1_some hf
  obtain ⟨n, hn⟩ := lpx_some hn
  have K105 : ∀ (H : Heap) (locs : List Loc) (ls : Array Slot), gG XSh D cy h A s st25 H locs → lv_has ls 7 [(0, .ref (h o))] → W p l e (gR 4) s m args below meth c H locs 0 0 (MQ below (gQv XSh D cy h A stF) args s 0 0 A) (F0 m 105 ls []) := by
    intro H locs ls G hl
    refine lv_aload_n hx hb dX3_readLeaf_105 rfl (lv_at hl 0 rfl) ?_
    refine lv_dup hx hb dX3_readLeaf_106 rfl ?_
    refine g_geti C G cl3 (C3 ho) (j := 7) (by decide) (F3_7 ho) k1_164 dX3_readLeaf_107 ?_
    refine lv_iconst (v := 1) hx hb dX3_readLeaf_110 (by decide) ?_
    refine lv_iadd hx hb dX3_readLeaf_111 ?_
    refine g_puti C G cl3 (C3 ho) (j := 7) (by decide) (F3_7 ho) k1_164 rfl rfl rfl dX3_readLeaf_112 (fun st26 est26 H locs G => ?_)
    have hf := lt_some est26 hf
    cases hf
    exact g_vret C G hr hlocks dX3_readLeaf_115
  have L3 : ∀ (n : Nat) (x1 : Int32) (st2 : GS) (H : Heap) (locs : List Loc) (ls : Array Slot), gG XSh D cy h A s st2 H locs → lv_has ls 7 [(0, .ref (h o)), (1, .int a1), (2, .int a2), (3, .int a3), (4, .int x1)] → lp (uc2 (f_X3_readLeaf_L3 o a1 a2 a3)) n (x1, st2) = some (st25) → W p l e (gR 4) s m args below meth c H locs 0 0 (MQ below (gQv XSh D cy h A stF) args s 0 0 A) (F0 m 3 ls []) := by
    intro n
    induction n with
    | zero =>
      intro x1 st2 H locs ls G hl hn
      cases hn
    | succ n ih =>
      intro x1 st2 H locs ls G hl hn
      obtain ⟨q, hf, hq1, hq2⟩ := lp_q hn
      have hf : f_X3_readLeaf_L3 o a1 a2 a3 x1 st2 = some q := hf
      unfold f_X3_readLeaf_L3 at hf
      refine lv_iload hx hb dX3_readLeaf_3 (lv_at hl 4 rfl) ?_
      refine lv_iload_n hx hb dX3_readLeaf_5 rfl (lv_at hl 2 rfl) ?_
      refine lv_icmp_ge (tgt := 105) hx hb dX3_readLeaf_6 (by decide) (fun c3 => ?_) (fun c3 => ?_)
      · have hf := ifP c3 hf
        cases hf
        have hz9 := hq2 _ rfl
        cases hz9
        exact K105 _ _ _ G (lv_sub hl [0] rfl)
      · have hf := ifN c3 hf
        refine lv_aload_n hx hb dX3_readLeaf_9 rfl (lv_at hl 0 rfl) ?_
        refine g_getr (k := (o + 23)) C G cl3 (C3 ho) (j := 10) (by decide) (F3_10 ho) k1_170 dX3_readLeaf_10 ?_
        refine lv_iload hx hb dX3_readLeaf_13 (lv_at hl 4 rfl) ?_
        obtain ⟨hi15_3, hf⟩ := gd_some hf
        refine g_iald C G (A3_10 ho) (j := x1.toNatClampNeg) rfl hi15_3 dX3_readLeaf_15 ?_
        refine lv_topi (fun x5 ex5 => ?_)
        have hf := lt_some ex5 hf
        refine lv_istore (lv' := [(5, .int x5), (0, .ref (h o)), (1, .int a1), (2, .int a2), (3, .int a3), (4, .int x1)]) hx hb dX3_readLeaf_16 hl (by decide) rfl (fun ls hl => ?_)
        refine lv_aload_n hx hb dX3_readLeaf_18 rfl (lv_at hl 1 rfl) ?_
        refine g_getr (k := (o + 11)) C G cl3 (C3 ho) (j := 5) (by decide) (F3_5 ho) k1_161 dX3_readLeaf_19 ?_
        refine lv_iload hx hb dX3_readLeaf_22 (lv_at hl 0 rfl) ?_
        refine lv_iload_n hx hb dX3_readLeaf_24 rfl (lv_at hl 4 rfl) ?_
        obtain ⟨hi25_5, hf⟩ := gd_some hf
        refine g_iast C G (A3_5 ho) (j := x5.toNatClampNeg) rfl hi25_5 dX3_readLeaf_25 (fun st7 est7 H locs G => ?_)
        have hf := lt_some est7 hf
        refine lv_aload_n hx hb dX3_readLeaf_26 rfl (lv_at hl 1 rfl) ?_
        refine g_getr (k := (o + 12)) C G cl3 (C3 ho) (j := 6) (by decide) (F3_6 ho) k1_163 dX3_readLeaf_27 ?_
        refine lv_iload hx hb dX3_readLeaf_30 (lv_at hl 0 rfl) ?_
        refine lv_aload_n hx hb dX3_readLeaf_32 rfl (lv_at hl 1 rfl) ?_
        refine g_geti C G cl3 (C3 ho) (j := 7) (by decide) (F3_7 ho) k1_164 dX3_readLeaf_33 ?_
        obtain ⟨hi36_7, hf⟩ := gd_some hf
        refine g_iast C G (A3_6 ho) (j := x5.toNatClampNeg) rfl hi36_7 dX3_readLeaf_36 (fun st9 est9 H locs G => ?_)
        have hf := lt_some est9 hf
        refine lv_iload hx hb dX3_readLeaf_37 (lv_at hl 5 rfl) ?_
        refine lv_istore (lv' := [(6, .int x1), (5, .int x5), (0, .ref (h o)), (1, .int a1), (2, .int a2), (3, .int a3), (4, .int x1)]) hx hb dX3_readLeaf_39 hl (by decide) rfl (fun ls hl => ?_)
        obtain ⟨x20, st21, hn, hf⟩ := bI2_some hf
        obtain ⟨n, hn⟩ := lpx_some hn
        have K90 : ∀ (H : Heap) (locs : List Loc) (ls : Array Slot), gG XSh D cy h A s st21 H locs → lv_has ls 7 [(0, .ref (h o)), (1, .int a1), (2, .int a2), (3, .int a3), (4, .int x1), (5, .int x5), (6, .int x20)] → W p l e (gR 4) s m args below meth c H locs 0 0 (MQ below (gQv XSh D cy h A stF) args s 0 0 A) (F0 m 90 ls []) := by
          intro H locs ls G hl
          refine lv_aload_n hx hb dX3_readLeaf_90 rfl (lv_at hl 0 rfl) ?_
          refine g_getr (k := (o + 23)) C G cl3 (C3 ho) (j := 10) (by decide) (F3_10 ho) k1_170 dX3_readLeaf_91 ?_
          refine lv_iload hx hb dX3_readLeaf_94 (lv_at hl 6 rfl) ?_
          refine lv_iload hx hb dX3_readLeaf_96 (lv_at hl 5 rfl) ?_
          obtain ⟨hi98_21, hf⟩ := gd_some hf
          refine g_iast C G (A3_10 ho) (j := x20.toNatClampNeg) rfl hi98_21 dX3_readLeaf_98 (fun st23 est23 H locs G => ?_)
          have hf := lt_some est23 hf
          obtain ⟨x24, ex24⟩ : ∃ z : Int32, z = (x1 + 1) := ⟨_, rfl⟩
          have hf := lt_some ex24 hf
          refine lv_iinc (v := x24) (lv' := [(4, .int x24), (0, .ref (h o)), (1, .int a1), (2, .int a2), (3, .int a3), (5, .int x5), (6, .int x20)]) hx hb dX3_readLeaf_99 hl (k := 4) rfl (by rw [ex24]; rfl) (by decide) rfl (fun ls hl => ?_)
          refine lv_goto (tgt := 3) hx hb dX3_readLeaf_102 (by decide) ?_
          cases hf
          exact ih _ _ _ _ _ G (lv_sub hl [1, 2, 3, 4, 0] rfl) (hq1 _ rfl)
        have L41 : ∀ (n : Nat) (x10 : Int32) (st11 : GS) (H : Heap) (locs : List Loc) (ls : Array Slot), gG XSh D cy h A s st11 H locs → lv_has ls 7 [(0, .ref (h o)), (1, .int a1), (2, .int a2), (3, .int a3), (4, .int x1), (5, .int x5), (6, .int x10)] → lp (uc2 (f_X3_readLeaf_L41 o a1 x5)) n (x10, st11) = some (x20, st21) → W p l e (gR 4) s m args below meth c H locs 0 0 (MQ below (gQv XSh D cy h A stF) args s 0 0 A) (F0 m 41 ls []) := by
          intro n
          induction n with
          | zero =>
            intro x10 st11 H locs ls G hl hn
            cases hn
          | succ n ih =>
            intro x10 st11 H locs ls G hl hn
            obtain ⟨q, hf, hq1, hq2⟩ := lp_q hn
            have hf : f_X3_readLeaf_L41 o a1 x5 x10 st11 = some q := hf
            unfold f_X3_readLeaf_L41 at hf
            refine lv_iload hx hb dX3_readLeaf_41 (lv_at hl 6 rfl) ?_
            refine lv_iload_n hx hb dX3_readLeaf_43 rfl (lv_at hl 1 rfl) ?_
            refine lv_icmp_le (tgt := 90) hx hb dX3_readLeaf_44 (by decide) (fun c12 => ?_) (fun c12 => ?_)
            · have hf := ifP c12 hf
              cases hf
              have hz9 := hq2 _ rfl
              cases hz9
              exact K90 _ _ _ G hl
            · have hf := ifN c12 hf
              refine lv_aload_n hx hb dX3_readLeaf_47 rfl (lv_at hl 0 rfl) ?_
              refine g_getr (k := (o + 1)) C G cl3 (C3 ho) (j := 0) (by decide) (F3_0 ho) k1_151 dX3_readLeaf_48 ?_
              refine lv_iload hx hb dX3_readLeaf_51 (lv_at hl 5 rfl) ?_
              refine lv_aload_n hx hb dX3_readLeaf_53 rfl (lv_at hl 0 rfl) ?_
              refine g_getr (k := (o + 23)) C G cl3 (C3 ho) (j := 10) (by decide) (F3_10 ho) k1_170 dX3_readLeaf_54 ?_
              refine lv_iload hx hb dX3_readLeaf_57 (lv_at hl 6 rfl) ?_
              refine lv_iconst (v := 1) hx hb dX3_readLeaf_59 (by decide) ?_
              refine lv_isub hx hb dX3_readLeaf_60 ?_
              obtain ⟨hi61_12, hf⟩ := gd_some hf
              refine g_iald C G (A3_10 ho) (j := (x10 - 1).toNatClampNeg) rfl hi61_12 dX3_readLeaf_61 ?_
              obtain ⟨r14, hc62_14, hf⟩ := bI1_some hf
              refine g_callVi C G (As := [.int x5, .int (gt st11 (o + 23) ((x10 - 1).toNatClampNeg))]) (rest := []) (c_X5_isAhead l D cy h (o + 1) (O3_0 ho) x5 (gt st11 (o + 23) ((x10 - 1).toNatClampNeg)) st11 r14 hc62_14) cl5 rfl (C5 (O3_0 ho)) v_X3_145 (Nat.le_of_ble_eq_true rfl) (Nat.le_of_ble_eq_true rfl) rfl hl.1 rfl (Nat.le_of_ble_eq_true rfl) dX3_readLeaf_62 ⟨Nat.zero_le _, Nat.zero_le _⟩ (fun H locs G => ?_)
              refine lv_if_eq (tgt := 90) hx hb dX3_readLeaf_65 (by decide) (fun c15 => ?_) (fun c15 => ?_)
              · have hf := ifP c15 hf
                cases hf
                have hz9 := hq2 _ rfl
                cases hz9
                exact K90 _ _ _ G hl
              · have hf := ifN c15 hf
                refine lv_aload_n hx hb dX3_readLeaf_68 rfl (lv_at hl 0 rfl) ?_
                refine g_getr (k := (o + 23)) C G cl3 (C3 ho) (j := 10) (by decide) (F3_10 ho) k1_170 dX3_readLeaf_69 ?_
                refine lv_iload hx hb dX3_readLeaf_72 (lv_at hl 6 rfl) ?_
                refine lv_aload_n hx hb dX3_readLeaf_74 rfl (lv_at hl 0 rfl) ?_
                refine g_getr (k := (o + 23)) C G cl3 (C3 ho) (j := 10) (by decide) (F3_10 ho) k1_170 dX3_readLeaf_75 ?_
                refine lv_iload hx hb dX3_readLeaf_78 (lv_at hl 6 rfl) ?_
                refine lv_iconst (v := 1) hx hb dX3_readLeaf_80 (by decide) ?_
                refine lv_isub hx hb dX3_readLeaf_81 ?_
                obtain ⟨hi82_15, hf⟩ := gd_some hf
                refine g_iald C G (A3_10 ho) (j := (x10 - 1).toNatClampNeg) rfl hi82_15 dX3_readLeaf_82 ?_
                obtain ⟨hi83_16, hf⟩ := gd_some hf
                refine g_iast C G (A3_10 ho) (j := x10.toNatClampNeg) rfl hi83_16 dX3_readLeaf_83 (fun st18 est18 H locs G => ?_)
                have hf := lt_some est18 hf
                obtain ⟨x19, ex19⟩ : ∃ z : Int32, z = (x10 + (-1)) := ⟨_, rfl⟩
                have hf := lt_some ex19 hf
                refine lv_iinc (v := x19) (lv' := [(6, .int x19), (0, .ref (h o)), (1, .int a1), (2, .int a2), (3, .int a3), (4, .int x1), (5, .int x5)]) hx hb dX3_readLeaf_84 hl (k := 6) rfl (by rw [ex19]; rfl) (by decide) rfl (fun ls hl => ?_)
                refine lv_goto (tgt := 41) hx hb dX3_readLeaf_87 (by decide) ?_
                cases hf
                exact ih _ _ _ _ _ G (lv_sub hl [1, 2, 3, 4, 5, 6, 0] rfl) (hq1 _ rfl)
        exact L41 n _ _ _ _ _ G (lv_sub hl [2, 3, 4, 5, 6, 1, 0] rfl) hn
  exact L3 n _ _ _ _ _ G (lv_sub hl [1, 2, 3, 4, 0] rfl) hn

noncomputable def f_X3_divide_L40 (o : Nat) (a2 : Int32) (b2 : Nat) (x3 : Int32) (x4 : Int32) (x5 : Int32) (st6 : GS) : Option ((Int32 × Int32 × Int32 × GS) ⊕ (Int32 × Int32 × GS)) := 
(if a2 ≤ x5 then some (.inr (x3, x4, st6)) else 
gd x5 8 (lt_ (gt st6 (o + 23) (x5.toNatClampNeg)) (fun x9 => 
gd x9 8 ((if (gt st6 (o + 21) 0) < (gt st6 b2 (x9.toNatClampNeg)) then gd x4 8 (lt_ (sv st6 (o + 24) (x4.toNatClampNeg) x9) (fun st13 => 
lt_ (x4 + 1) (fun x14 => 
lt_ (x5 + 1) (fun x15 => 
some (.inl (x3, x14, x15, st13)))))) else 
gd x3 8 (lt_ (sv st6 (o + 23) (x3.toNatClampNeg) x9) (fun st17 => 
lt_ (x3 + 1) (fun x18 => 
lt_ (x5 + 1) (fun x19 => 
some (.inl (x18, x4, x19, st17)))))))))))
noncomputable def f_X3_divide (o : Nat) (a1 : Int32) (a2 : Int32) (st : GS) : Option (Int32 × GS) := 
bI1 ((if (gt st (o + 20) 0) = 1 then some ((o + 6)) else 
some ((o + 5)))) (fun (b2 : Nat) => 
bI3 (lpx (uc4 (f_X3_divide_L40 o a2 b2)) (a1, 0, a1, st)) (fun x20 x21 st22 => 
gq (¬ (0 : Int32) < 0 ∧ ¬ x20 < 0 ∧ ¬ x21 < 0 ∧ Int32.toNatClampNeg 0 + (x21).toNatClampNeg ≤ 8 ∧ (x20).toNatClampNeg + (x21).toNatClampNeg ≤ 8) (lt_ (sc st22 (o + 24) (o + 23) (Int32.toNatClampNeg 0) ((x20).toNatClampNeg) ((x21).toNatClampNeg)) (fun st23 => 
some ((x20, st23))))))
set_option maxRecDepth 100000 in
set_option maxHeartbeats 4000000 in
theorem c_X3_divide (l : Launch) (D : va_G) (cy : ClassId) (h : Nat → Nat) (o : Nat) (ho : ok3 o) (a1 : Int32) (a2 : Int32) (st : GS) (r : Int32) (stF : GS) (hf : f_X3_divide o a1 a2 st = some (r, stF)) : gMi l XSh D cy h yX3_divide cX3_divide 8 (some .int) 1 st [.ref (h o), .int a1, .int a2] r stF := by
  unfold f_X3_divide at hf
  refine gMi_of (by decide) (Nat.le_of_ble_eq_true rfl) ?_
  intro p e s m args below meth c A ls C hr hlocks G hl
  have C : gC p s m args c cX3_divide 8 "LaneOrder$Reading" XSh D cy h A := C
  have hl : lv_has ls 8 [(0, .ref (h o)), (1, .int a1), (2, .int a2)] := hl
  have hx := C.1
  have hb := C.2.1
  have hown := C.2.2.2.1
  have htb := C.2.2.2.2.1
  refine lv_aload_n hx hb dX3_divide_0 rfl (lv_at hl 0 rfl) ?_
  refine g_getr (k := (o + 19)) C G cl3 (C3 ho) (j := 9) (by decide) (F3_9 ho) k1_168 dX3_divide_1 ?_
  refine g_getrN (k := (o + 20)) C G cl2 (C2 (O3_9 ho)) (j := 0) (by decide) (F2_0 (O3_9 ho)) k1_131 dX3_divide_4 ?_
  refine lv_iconst (v := 0) hx hb dX3_divide_7 (by decide) ?_
  refine g_iald C G (A2_0 (O3_9 ho)) (j := 0) (by decide) (vin_lit (j := 0) (by decide) (by decide) (by decide)) dX3_divide_8 ?_
  refine lv_iconst (v := 1) hx hb dX3_divide_9 (by decide) ?_
  obtain ⟨b2, hj30, hf⟩ := bI1_some hf
  have K30 : ∀ (H : Heap) (locs : List Loc) (ls : Array Slot) (hb2 : arrO XSh b2 8), gG XSh D cy h A s st H locs → lv_has ls 8 [(0, .ref (h o)), (1, .int a1), (2, .int a2)] → W p l e (gR 1) s m args below meth c H locs 0 0 (MQ below (gQi XSh D cy h A r stF) args s 0 0 A) (F0 m 30 ls [.ref (h b2)]) := by
    intro H locs ls hb2 G hl
    refine lv_astore_n (lv' := [(3, .ref (h b2)), (0, .ref (h o)), (1, .int a1), (2, .int a2)]) hx hb dX3_divide_30 rfl hl (by decide) rfl (fun ls hl => ?_)
    refine lv_iload_n hx hb dX3_divide_31 rfl (lv_at hl 2 rfl) ?_
    refine lv_istore (lv' := [(4, .int a1), (3, .ref (h b2)), (0, .ref (h o)), (1, .int a1), (2, .int a2)]) hx hb dX3_divide_32 hl (by decide) rfl (fun ls hl => ?_)
    refine lv_iconst (v := 0) hx hb dX3_divide_34 (by decide) ?_
    refine lv_istore (lv' := [(5, .int 0), (4, .int a1), (3, .ref (h b2)), (0, .ref (h o)), (1, .int a1), (2, .int a2)]) hx hb dX3_divide_35 hl (by decide) rfl (fun ls hl => ?_)
    refine lv_iload_n hx hb dX3_divide_37 rfl (lv_at hl 4 rfl) ?_
    refine lv_istore (lv' := [(6, .int a1), (5, .int 0), (4, .int a1), (3, .ref (h b2)), (0, .ref (h o)), (1, .int a1), (2, .int a2)]) hx hb dX3_divide_38 hl (by decide) rfl (fun ls hl => ?_)
    obtain ⟨x20, x21, st22, hn, hf⟩ := bI3_some hf
    obtain ⟨n, hn⟩ := lpx_some hn
    have K104 : ∀ (H : Heap) (locs : List Loc) (ls : Array Slot), gG XSh D cy h A s st22 H locs → lv_has ls 8 [(0, .ref (h o)), (4, .int x20), (5, .int x21)] → W p l e (gR 1) s m args below meth c H locs 0 0 (MQ below (gQi XSh D cy h A r stF) args s 0 0 A) (F0 m 104 ls []) := by
      intro H locs ls G hl
      refine lv_aload_n hx hb dX3_divide_104 rfl (lv_at hl 0 rfl) ?_
      refine g_getr (k := (o + 24)) C G cl3 (C3 ho) (j := 12) (by decide) (F3_12 ho) k1_173 dX3_divide_105 ?_
      refine lv_iconst (v := 0) hx hb dX3_divide_108 (by decide) ?_
      refine lv_aload_n hx hb dX3_divide_109 rfl (lv_at hl 0 rfl) ?_
      refine g_getr (k := (o + 23)) C G cl3 (C3 ho) (j := 10) (by decide) (F3_10 ho) k1_170 dX3_divide_110 ?_
      refine lv_iload hx hb dX3_divide_113 (lv_at hl 1 rfl) ?_
      refine lv_iload hx hb dX3_divide_115 (lv_at hl 2 rfl) ?_
      obtain ⟨hac, hf⟩ := gq_some hf
      refine g_copy C G (rest := []) hl.1 (A3_12 ho) (A3_10 ho) kl_X3_139 ac_n ac_s ini_java_lang_System hac.1 hac.2.1 hac.2.2.1 hac.2.2.2.1 hac.2.2.2.2 (Nat.le_of_ble_eq_true rfl) (Nat.le_of_ble_eq_true rfl) dX3_divide_117 (fun st23 est23 H locs G => ?_)
      have hf := lt_some est23 hf
      refine lv_iload hx hb dX3_divide_120 (lv_at hl 1 rfl) ?_
      cases hf
      exact g_iret C G hr hlocks dX3_divide_122
    have L40 : ∀ (n : Nat) (x3 : Int32) (x4 : Int32) (x5 : Int32) (st6 : GS) (H : Heap) (locs : List Loc) (ls : Array Slot), gG XSh D cy h A s st6 H locs → lv_has ls 8 [(0, .ref (h o)), (2, .int a2), (3, .ref (h b2)), (4, .int x3), (5, .int x4), (6, .int x5)] → lp (uc4 (f_X3_divide_L40 o a2 b2)) n (x3, x4, x5, st6) = some (x20, x21, st22) → W p l e (gR 1) s m args below meth c H locs 0 0 (MQ below (gQi XSh D cy h A r stF) args s 0 0 A) (F0 m 40 ls []) := by
      intro n
      induction n with
      | zero =>
        intro x3 x4 x5 st6 H locs ls G hl hn
        cases hn
      | succ n ih =>
        intro x3 x4 x5 st6 H locs ls G hl hn
        obtain ⟨q, hf, hq1, hq2⟩ := lp_q hn
        have hf : f_X3_divide_L40 o a2 b2 x3 x4 x5 st6 = some q := hf
        unfold f_X3_divide_L40 at hf
        refine lv_iload hx hb dX3_divide_40 (lv_at hl 5 rfl) ?_
        refine lv_iload_n hx hb dX3_divide_42 rfl (lv_at hl 1 rfl) ?_
        refine lv_icmp_ge (tgt := 104) hx hb dX3_divide_43 (by decide) (fun c7 => ?_) (fun c7 => ?_)
        · have hf := ifP c7 hf
          cases hf
          have hz9 := hq2 _ rfl
          cases hz9
          exact K104 _ _ _ G (lv_sub hl [0, 3, 4] rfl)
        · have hf := ifN c7 hf
          refine lv_aload_n hx hb dX3_divide_46 rfl (lv_at hl 0 rfl) ?_
          refine g_getr (k := (o + 23)) C G cl3 (C3 ho) (j := 10) (by decide) (F3_10 ho) k1_170 dX3_divide_47 ?_
          refine lv_iload hx hb dX3_divide_50 (lv_at hl 5 rfl) ?_
          obtain ⟨hi52_7, hf⟩ := gd_some hf
          refine g_iald C G (A3_10 ho) (j := x5.toNatClampNeg) rfl hi52_7 dX3_divide_52 ?_
          refine lv_topi (fun x9 ex9 => ?_)
          have hf := lt_some ex9 hf
          refine lv_istore (lv' := [(7, .int x9), (0, .ref (h o)), (2, .int a2), (3, .ref (h b2)), (4, .int x3), (5, .int x4), (6, .int x5)]) hx hb dX3_divide_53 hl (by decide) rfl (fun ls hl => ?_)
          refine lv_aload_n hx hb dX3_divide_55 rfl (lv_at hl 3 rfl) ?_
          refine lv_iload hx hb dX3_divide_56 (lv_at hl 0 rfl) ?_
          obtain ⟨hi58_9, hf⟩ := gd_some hf
          refine g_iald C G hb2 (j := x9.toNatClampNeg) rfl hi58_9 dX3_divide_58 ?_
          refine lv_aload_n hx hb dX3_divide_59 rfl (lv_at hl 1 rfl) ?_
          refine g_getr (k := (o + 19)) C G cl3 (C3 ho) (j := 9) (by decide) (F3_9 ho) k1_168 dX3_divide_60 ?_
          refine g_getrN (k := (o + 21)) C G cl2 (C2 (O3_9 ho)) (j := 1) (by decide) (F2_1 (O3_9 ho)) k1_134 dX3_divide_63 ?_
          refine lv_iconst (v := 0) hx hb dX3_divide_66 (by decide) ?_
          refine g_iald C G (A2_1 (O3_9 ho)) (j := 0) (by decide) (vin_lit (j := 0) (by decide) (by decide) (by decide)) dX3_divide_67 ?_
          refine lv_icmp_gt (tgt := 86) hx hb dX3_divide_68 (by decide) (fun c11 => ?_) (fun c11 => ?_)
          · have hf := ifP c11 hf
            refine lv_aload_n hx hb dX3_divide_86 rfl (lv_at hl 1 rfl) ?_
            refine g_getr (k := (o + 24)) C G cl3 (C3 ho) (j := 12) (by decide) (F3_12 ho) k1_173 dX3_divide_87 ?_
            refine lv_iload hx hb dX3_divide_90 (lv_at hl 5 rfl) ?_
            refine lv_iload hx hb dX3_divide_92 (lv_at hl 0 rfl) ?_
            obtain ⟨hi94_11, hf⟩ := gd_some hf
            refine g_iast C G (A3_12 ho) (j := x4.toNatClampNeg) rfl hi94_11 dX3_divide_94 (fun st13 est13 H locs G => ?_)
            have hf := lt_some est13 hf
            obtain ⟨x14, ex14⟩ : ∃ z : Int32, z = (x4 + 1) := ⟨_, rfl⟩
            have hf := lt_some ex14 hf
            refine lv_iinc (v := x14) (lv' := [(5, .int x14), (7, .int x9), (0, .ref (h o)), (2, .int a2), (3, .ref (h b2)), (4, .int x3), (6, .int x5)]) hx hb dX3_divide_95 hl (k := 5) rfl (by rw [ex14]; rfl) (by decide) rfl (fun ls hl => ?_)
            obtain ⟨x15, ex15⟩ : ∃ z : Int32, z = (x5 + 1) := ⟨_, rfl⟩
            have hf := lt_some ex15 hf
            refine lv_iinc (v := x15) (lv' := [(6, .int x15), (5, .int x14), (7, .int x9), (0, .ref (h o)), (2, .int a2), (3, .ref (h b2)), (4, .int x3)]) hx hb dX3_divide_98 hl (k := 6) rfl (by rw [ex15]; rfl) (by decide) rfl (fun ls hl => ?_)
            refine lv_goto (tgt := 40) hx hb dX3_divide_101 (by decide) ?_
            cases hf
            exact ih _ _ _ _ _ _ _ G (lv_sub hl [3, 4, 5, 6, 1, 0] rfl) (hq1 _ rfl)
          · have hf := ifN c11 hf
            refine lv_aload_n hx hb dX3_divide_71 rfl (lv_at hl 1 rfl) ?_
            refine g_getr (k := (o + 23)) C G cl3 (C3 ho) (j := 10) (by decide) (F3_10 ho) k1_170 dX3_divide_72 ?_
            refine lv_iload hx hb dX3_divide_75 (lv_at hl 4 rfl) ?_
            refine lv_iload hx hb dX3_divide_77 (lv_at hl 0 rfl) ?_
            obtain ⟨hi79_15, hf⟩ := gd_some hf
            refine g_iast C G (A3_10 ho) (j := x3.toNatClampNeg) rfl hi79_15 dX3_divide_79 (fun st17 est17 H locs G => ?_)
            have hf := lt_some est17 hf
            obtain ⟨x18, ex18⟩ : ∃ z : Int32, z = (x3 + 1) := ⟨_, rfl⟩
            have hf := lt_some ex18 hf
            refine lv_iinc (v := x18) (lv' := [(4, .int x18), (7, .int x9), (0, .ref (h o)), (2, .int a2), (3, .ref (h b2)), (5, .int x4), (6, .int x5)]) hx hb dX3_divide_80 hl (k := 4) rfl (by rw [ex18]; rfl) (by decide) rfl (fun ls hl => ?_)
            refine lv_goto (tgt := 98) hx hb dX3_divide_83 (by decide) ?_
            obtain ⟨x19, ex19⟩ : ∃ z : Int32, z = (x5 + 1) := ⟨_, rfl⟩
            have hf := lt_some ex19 hf
            refine lv_iinc (v := x19) (lv' := [(6, .int x19), (4, .int x18), (7, .int x9), (0, .ref (h o)), (2, .int a2), (3, .ref (h b2)), (5, .int x4)]) hx hb dX3_divide_98 hl (k := 6) rfl (by rw [ex19]; rfl) (by decide) rfl (fun ls hl => ?_)
            refine lv_goto (tgt := 40) hx hb dX3_divide_101 (by decide) ?_
            cases hf
            exact ih _ _ _ _ _ _ _ G (lv_sub hl [3, 4, 5, 1, 6, 0] rfl) (hq1 _ rfl)
    exact L40 n _ _ _ _ _ _ _ G (lv_sub hl [4, 6, 3, 2, 1, 0] rfl) hn
  clear hf
  refine lv_icmp_ne (tgt := 23) hx hb dX3_divide_10 (by decide) (fun c1 => ?_) (fun c1 => ?_)
  · have hf := ifN c1 hj30
    refine lv_aload_n hx hb dX3_divide_23 rfl (lv_at hl 0 rfl) ?_
    refine g_getr (k := (o + 1)) C G cl3 (C3 ho) (j := 0) (by decide) (F3_0 ho) k1_151 dX3_divide_24 ?_
    refine g_getrN (k := (o + 5)) C G cl5 (C5 (O3_0 ho)) (j := 3) (by decide) (F5_3 (O3_0 ho)) k1_64 dX3_divide_27 ?_
    cases hf
    exact K30 _ _ _ (A5_3 (O3_0 ho)) G hl
  · have hf := ifP c1 hj30
    refine lv_aload_n hx hb dX3_divide_13 rfl (lv_at hl 0 rfl) ?_
    refine g_getr (k := (o + 1)) C G cl3 (C3 ho) (j := 0) (by decide) (F3_0 ho) k1_151 dX3_divide_14 ?_
    refine g_getrN (k := (o + 6)) C G cl5 (C5 (O3_0 ho)) (j := 4) (by decide) (F5_4 (O3_0 ho)) k1_67 dX3_divide_17 ?_
    refine lv_goto (tgt := 30) hx hb dX3_divide_20 (by decide) ?_
    cases hf
    exact K30 _ _ _ (A5_4 (O3_0 ho)) G hl

noncomputable def f_X3_readPart : Nat → Nat → Int32 → Int32 → Int32 → GS → Option (GS)
  | 0, _, _, _, _, _ => none
  | n + 1, o, a1, a2, a3, st => 
      bI1 (f_X3_gatherLanes o a1 a2 st) (fun st1 => 
      (if (gt st1 (o + 19) 3) = 0 then bI1 (f_X3_readLeaf o a1 a2 a3 st1) (fun st3 => 
      some (st3)) else 
      (if a3 < 7 then bI2 (f_X3_divide o a1 a2 st1) (fun r5 st6 => 
      bI1 (f_X0_add (o + 13) (gt st6 (o + 20) 0) (gt st6 (o + 21) 0) (gt st6 (o + 22) 0) (r5 - a1) (a2 - r5) st6) (fun st7 => 
      bI1 (f_X3_readPart n o a1 r5 (a3 + 1) st7) (fun st8 => 
      bI1 (f_X3_readPart n o r5 a2 (a3 + 1) st8) (fun st9 => 
      some (st9))))) else 
      bI1 (f_X3_readLeaf o a1 a2 a3 st1) (fun st10 => 
      some (st10)))))
set_option maxRecDepth 100000 in
set_option maxHeartbeats 4000000 in
theorem c_X3_readPart (n : Nat) (l : Launch) (D : va_G) (cy : ClassId) (h : Nat → Nat) : ∀ (o : Nat) (ho : ok3 o) (a1 : Int32) (a2 : Int32) (a3 : Int32) (st : GS) (stF : GS), f_X3_readPart n o a1 a2 a3 st = some stF → gMv l XSh D cy h yX3_readPart cX3_readPart 5 none (5 + n) st [.ref (h o), .int a1, .int a2, .int a3] stF := by
  induction n with
  | zero =>
    intro o ho a1 a2 a3 st stF hf
    cases hf
  | succ n ihn =>
    intro o ho a1 a2 a3 st stF hf
    unfold f_X3_readPart at hf
    refine gMv_of (by decide) (Nat.le_of_ble_eq_true rfl) ?_
    intro p e s m args below meth c A ls C hr hlocks G hl
    have C : gC p s m args c cX3_readPart 5 "LaneOrder$Reading" XSh D cy h A := C
    have hl : lv_has ls 5 [(0, .ref (h o)), (1, .int a1), (2, .int a2), (3, .int a3)] := hl
    have hx := C.1
    have hb := C.2.1
    have hown := C.2.2.2.1
    have htb := C.2.2.2.2.1
    refine lv_aload_n hx hb dX3_readPart_0 rfl (lv_at hl 0 rfl) ?_
    refine lv_iload_n hx hb dX3_readPart_1 rfl (lv_at hl 1 rfl) ?_
    refine lv_iload_n hx hb dX3_readPart_2 rfl (lv_at hl 2 rfl) ?_
    obtain ⟨st1, hc3_1, hf⟩ := bI1_some hf
    refine g_callVv C G (As := [.int a1, .int a2]) (rest := []) (c_X3_gatherLanes l D cy h o ho a1 a2 st st1 hc3_1) cl3 rfl (C3 ho) v_X3_116 (by simp only [gR]; omega) (by simp only [gR]; omega) rfl hl.1 rfl (Nat.le_of_ble_eq_true rfl) dX3_readPart_3 ⟨Nat.zero_le _, Nat.zero_le _⟩ (fun H locs G => ?_)
    refine lv_aload_n hx hb dX3_readPart_6 rfl (lv_at hl 0 rfl) ?_
    refine g_getr (k := (o + 19)) C G cl3 (C3 ho) (j := 9) (by decide) (F3_9 ho) k1_168 dX3_readPart_7 ?_
    refine g_getiN C G cl2 (C2 (O3_9 ho)) (j := 3) (by decide) (F2_3 (O3_9 ho)) k1_140 dX3_readPart_10 ?_
    refine lv_if_eq (tgt := 22) hx hb dX3_readPart_13 (by decide) (fun c2 => ?_) (fun c2 => ?_)
    · have hf := ifP c2 hf
      refine lv_aload_n hx hb dX3_readPart_22 rfl (lv_at hl 0 rfl) ?_
      refine lv_iload_n hx hb dX3_readPart_23 rfl (lv_at hl 1 rfl) ?_
      refine lv_iload_n hx hb dX3_readPart_24 rfl (lv_at hl 2 rfl) ?_
      refine lv_iload_n hx hb dX3_readPart_25 rfl (lv_at hl 3 rfl) ?_
      obtain ⟨st3, hc26_3, hf⟩ := bI1_some hf
      refine g_callVv C G (As := [.int a1, .int a2, .int a3]) (rest := []) (c_X3_readLeaf l D cy h o ho a1 a2 a3 st1 st3 hc26_3) cl3 rfl (C3 ho) v_X3_121 (by simp only [gR]; omega) (by simp only [gR]; omega) rfl hl.1 rfl (Nat.le_of_ble_eq_true rfl) dX3_readPart_26 ⟨Nat.zero_le _, Nat.zero_le _⟩ (fun H locs G => ?_)
      cases hf
      exact g_vret C G hr hlocks dX3_readPart_29
    · have hf := ifN c2 hf
      refine lv_iload_n hx hb dX3_readPart_16 rfl (lv_at hl 3 rfl) ?_
      refine lv_bipush (v := 7) hx hb dX3_readPart_17 (by decide) ?_
      refine lv_icmp_lt (tgt := 30) hx hb dX3_readPart_19 (by decide) (fun c4 => ?_) (fun c4 => ?_)
      · have hf := ifP c4 hf
        refine lv_aload_n hx hb dX3_readPart_30 rfl (lv_at hl 0 rfl) ?_
        refine lv_iload_n hx hb dX3_readPart_31 rfl (lv_at hl 1 rfl) ?_
        refine lv_iload_n hx hb dX3_readPart_32 rfl (lv_at hl 2 rfl) ?_
        obtain ⟨r5, st6, hc33_6, hf⟩ := bI2_some hf
        refine g_callVi C G (As := [.int a1, .int a2]) (rest := []) (c_X3_divide l D cy h o ho a1 a2 st1 r5 st6 hc33_6) cl3 rfl (C3 ho) v_X3_124 (by simp only [gR]; omega) (by simp only [gR]; omega) rfl hl.1 rfl (Nat.le_of_ble_eq_true rfl) dX3_readPart_33 ⟨Nat.zero_le _, Nat.zero_le _⟩ (fun H locs G => ?_)
        refine lv_istore (lv' := [(4, .int r5), (0, .ref (h o)), (1, .int a1), (2, .int a2), (3, .int a3)]) hx hb dX3_readPart_36 hl (by decide) rfl (fun ls hl => ?_)
        refine lv_aload_n hx hb dX3_readPart_38 rfl (lv_at hl 1 rfl) ?_
        refine g_getr (k := (o + 13)) C G cl3 (C3 ho) (j := 8) (by decide) (F3_8 ho) k1_166 dX3_readPart_39 ?_
        refine lv_aload_n hx hb dX3_readPart_42 rfl (lv_at hl 1 rfl) ?_
        refine g_getr (k := (o + 19)) C G cl3 (C3 ho) (j := 9) (by decide) (F3_9 ho) k1_168 dX3_readPart_43 ?_
        refine g_getrN (k := (o + 20)) C G cl2 (C2 (O3_9 ho)) (j := 0) (by decide) (F2_0 (O3_9 ho)) k1_131 dX3_readPart_46 ?_
        refine lv_iconst (v := 0) hx hb dX3_readPart_49 (by decide) ?_
        refine g_iald C G (A2_0 (O3_9 ho)) (j := 0) (by decide) (vin_lit (j := 0) (by decide) (by decide) (by decide)) dX3_readPart_50 ?_
        refine lv_aload_n hx hb dX3_readPart_51 rfl (lv_at hl 1 rfl) ?_
        refine g_getr (k := (o + 19)) C G cl3 (C3 ho) (j := 9) (by decide) (F3_9 ho) k1_168 dX3_readPart_52 ?_
        refine g_getrN (k := (o + 21)) C G cl2 (C2 (O3_9 ho)) (j := 1) (by decide) (F2_1 (O3_9 ho)) k1_134 dX3_readPart_55 ?_
        refine lv_iconst (v := 0) hx hb dX3_readPart_58 (by decide) ?_
        refine g_iald C G (A2_1 (O3_9 ho)) (j := 0) (by decide) (vin_lit (j := 0) (by decide) (by decide) (by decide)) dX3_readPart_59 ?_
        refine lv_aload_n hx hb dX3_readPart_60 rfl (lv_at hl 1 rfl) ?_
        refine g_getr (k := (o + 19)) C G cl3 (C3 ho) (j := 9) (by decide) (F3_9 ho) k1_168 dX3_readPart_61 ?_
        refine g_getrN (k := (o + 22)) C G cl2 (C2 (O3_9 ho)) (j := 2) (by decide) (F2_2 (O3_9 ho)) k1_137 dX3_readPart_64 ?_
        refine lv_iconst (v := 0) hx hb dX3_readPart_67 (by decide) ?_
        refine g_iald C G (A2_2 (O3_9 ho)) (j := 0) (by decide) (vin_lit (j := 0) (by decide) (by decide) (by decide)) dX3_readPart_68 ?_
        refine lv_iload hx hb dX3_readPart_69 (lv_at hl 0 rfl) ?_
        refine lv_iload_n hx hb dX3_readPart_71 rfl (lv_at hl 2 rfl) ?_
        refine lv_isub hx hb dX3_readPart_72 ?_
        refine lv_iload_n hx hb dX3_readPart_73 rfl (lv_at hl 3 rfl) ?_
        refine lv_iload hx hb dX3_readPart_74 (lv_at hl 0 rfl) ?_
        refine lv_isub hx hb dX3_readPart_76 ?_
        obtain ⟨st7, hc77_7, hf⟩ := bI1_some hf
        refine g_callVv C G (As := [.int (gt st6 (o + 20) 0), .int (gt st6 (o + 21) 0), .int (gt st6 (o + 22) 0), .int (r5 - a1), .int (a2 - r5)]) (rest := []) (c_X0_add l D cy h (o + 13) (O3_8 ho) (gt st6 (o + 20) 0) (gt st6 (o + 21) 0) (gt st6 (o + 22) 0) (r5 - a1) (a2 - r5) st6 st7 hc77_7) cl0 rfl (C0 (O3_8 ho)) v_X3_136 (by simp only [gR]; omega) (by simp only [gR]; omega) rfl hl.1 rfl (Nat.le_of_ble_eq_true rfl) dX3_readPart_77 ⟨Nat.zero_le _, Nat.zero_le _⟩ (fun H locs G => ?_)
        refine lv_aload_n hx hb dX3_readPart_80 rfl (lv_at hl 1 rfl) ?_
        refine lv_iload_n hx hb dX3_readPart_81 rfl (lv_at hl 2 rfl) ?_
        refine lv_iload hx hb dX3_readPart_82 (lv_at hl 0 rfl) ?_
        refine lv_iload_n hx hb dX3_readPart_84 rfl (lv_at hl 4 rfl) ?_
        refine lv_iconst (v := 1) hx hb dX3_readPart_85 (by decide) ?_
        refine lv_iadd hx hb dX3_readPart_86 ?_
        obtain ⟨st8, hc87_8, hf⟩ := bI1_some hf
        refine g_callVv C G (As := [.int a1, .int r5, .int (a3 + 1)]) (rest := []) (ihn o ho a1 r5 (a3 + 1) st7 st8 hc87_8) cl3 rfl (C3 ho) v_X3_74 (by simp only [gR]; omega) (by simp only [gR]; omega) rfl hl.1 rfl (Nat.le_of_ble_eq_true rfl) dX3_readPart_87 ⟨Nat.zero_le _, Nat.zero_le _⟩ (fun H locs G => ?_)
        refine lv_aload_n hx hb dX3_readPart_90 rfl (lv_at hl 1 rfl) ?_
        refine lv_iload hx hb dX3_readPart_91 (lv_at hl 0 rfl) ?_
        refine lv_iload_n hx hb dX3_readPart_93 rfl (lv_at hl 3 rfl) ?_
        refine lv_iload_n hx hb dX3_readPart_94 rfl (lv_at hl 4 rfl) ?_
        refine lv_iconst (v := 1) hx hb dX3_readPart_95 (by decide) ?_
        refine lv_iadd hx hb dX3_readPart_96 ?_
        obtain ⟨st9, hc97_9, hf⟩ := bI1_some hf
        refine g_callVv C G (As := [.int r5, .int a2, .int (a3 + 1)]) (rest := []) (ihn o ho r5 a2 (a3 + 1) st8 st9 hc97_9) cl3 rfl (C3 ho) v_X3_74 (by simp only [gR]; omega) (by simp only [gR]; omega) rfl hl.1 rfl (Nat.le_of_ble_eq_true rfl) dX3_readPart_97 ⟨Nat.zero_le _, Nat.zero_le _⟩ (fun H locs G => ?_)
        cases hf
        exact g_vret C G hr hlocks dX3_readPart_100
      · have hf := ifN c4 hf
        refine lv_aload_n hx hb dX3_readPart_22 rfl (lv_at hl 0 rfl) ?_
        refine lv_iload_n hx hb dX3_readPart_23 rfl (lv_at hl 1 rfl) ?_
        refine lv_iload_n hx hb dX3_readPart_24 rfl (lv_at hl 2 rfl) ?_
        refine lv_iload_n hx hb dX3_readPart_25 rfl (lv_at hl 3 rfl) ?_
        obtain ⟨st10, hc26_10, hf⟩ := bI1_some hf
        refine g_callVv C G (As := [.int a1, .int a2, .int a3]) (rest := []) (c_X3_readLeaf l D cy h o ho a1 a2 a3 st1 st10 hc26_10) cl3 rfl (C3 ho) v_X3_121 (by simp only [gR]; omega) (by simp only [gR]; omega) rfl hl.1 rfl (Nat.le_of_ble_eq_true rfl) dX3_readPart_26 ⟨Nat.zero_le _, Nat.zero_le _⟩ (fun H locs G => ?_)
        cases hf
        exact g_vret C G hr hlocks dX3_readPart_29

noncomputable def f_X3_putNext (o : Nat) (a1 : Int32) (st : GS) : Option (GS) := 
(if 8 ≤ (gt st o 2) then some (st) else 
gd (gt st o 2) 8 (lt_ (sv st (o + 8) ((gt st o 2).toNatClampNeg) a1) (fun st3 => 
gd a1 8 (lt_ (sv st3 (o + 9) (a1.toNatClampNeg) (gt st3 o 2)) (fun st5 => 
lt_ (sv st5 o 2 ((gt st5 o 2) + 1)) (fun st6 => 
some (st6)))))))
set_option maxRecDepth 100000 in
set_option maxHeartbeats 4000000 in
theorem c_X3_putNext (l : Launch) (D : va_G) (cy : ClassId) (h : Nat → Nat) (o : Nat) (ho : ok3 o) (a1 : Int32) (st : GS) (stF : GS) (hf : f_X3_putNext o a1 st = some stF) : gMv l XSh D cy h yX3_putNext cX3_putNext 2 none 1 st [.ref (h o), .int a1] stF := by
  unfold f_X3_putNext at hf
  refine gMv_of (by decide) (Nat.le_of_ble_eq_true rfl) ?_
  intro p e s m args below meth c A ls C hr hlocks G hl
  have C : gC p s m args c cX3_putNext 2 "LaneOrder$Reading" XSh D cy h A := C
  have hl : lv_has ls 2 [(0, .ref (h o)), (1, .int a1)] := hl
  have hx := C.1
  have hb := C.2.1
  have hown := C.2.2.2.1
  have htb := C.2.2.2.2.1
  refine lv_aload_n hx hb dX3_putNext_0 rfl (lv_at hl 0 rfl) ?_
  refine g_geti C G cl3 (C3 ho) (j := 2) (by decide) (F3_2 ho) k1_155 dX3_putNext_1 ?_
  refine lv_bipush (v := 8) hx hb dX3_putNext_4 (by decide) ?_
  refine lv_icmp_ge (tgt := 39) hx hb dX3_putNext_6 (by decide) (fun c1 => ?_) (fun c1 => ?_)
  · have hf := ifP c1 hf
    cases hf
    exact g_vret C G hr hlocks dX3_putNext_39
  · have hf := ifN c1 hf
    refine lv_aload_n hx hb dX3_putNext_9 rfl (lv_at hl 0 rfl) ?_
    refine g_getr (k := (o + 8)) C G cl3 (C3 ho) (j := 1) (by decide) (F3_1 ho) k1_153 dX3_putNext_10 ?_
    refine lv_aload_n hx hb dX3_putNext_13 rfl (lv_at hl 0 rfl) ?_
    refine g_geti C G cl3 (C3 ho) (j := 2) (by decide) (F3_2 ho) k1_155 dX3_putNext_14 ?_
    refine lv_iload_n hx hb dX3_putNext_17 rfl (lv_at hl 1 rfl) ?_
    obtain ⟨hi18_1, hf⟩ := gd_some hf
    refine g_iast C G (A3_1 ho) (j := (gt st o 2).toNatClampNeg) rfl hi18_1 dX3_putNext_18 (fun st3 est3 H locs G => ?_)
    have hf := lt_some est3 hf
    refine lv_aload_n hx hb dX3_putNext_19 rfl (lv_at hl 0 rfl) ?_
    refine g_getr (k := (o + 9)) C G cl3 (C3 ho) (j := 3) (by decide) (F3_3 ho) k1_157 dX3_putNext_20 ?_
    refine lv_iload_n hx hb dX3_putNext_23 rfl (lv_at hl 1 rfl) ?_
    refine lv_aload_n hx hb dX3_putNext_24 rfl (lv_at hl 0 rfl) ?_
    refine g_geti C G cl3 (C3 ho) (j := 2) (by decide) (F3_2 ho) k1_155 dX3_putNext_25 ?_
    obtain ⟨hi28_3, hf⟩ := gd_some hf
    refine g_iast C G (A3_3 ho) (j := a1.toNatClampNeg) rfl hi28_3 dX3_putNext_28 (fun st5 est5 H locs G => ?_)
    have hf := lt_some est5 hf
    refine lv_aload_n hx hb dX3_putNext_29 rfl (lv_at hl 0 rfl) ?_
    refine lv_dup hx hb dX3_putNext_30 rfl ?_
    refine g_geti C G cl3 (C3 ho) (j := 2) (by decide) (F3_2 ho) k1_155 dX3_putNext_31 ?_
    refine lv_iconst (v := 1) hx hb dX3_putNext_34 (by decide) ?_
    refine lv_iadd hx hb dX3_putNext_35 ?_
    refine g_puti C G cl3 (C3 ho) (j := 2) (by decide) (F3_2 ho) k1_155 rfl rfl rfl dX3_putNext_36 (fun st6 est6 H locs G => ?_)
    have hf := lt_some est6 hf
    cases hf
    exact g_vret C G hr hlocks dX3_putNext_39

noncomputable def f_X3_putInOrder_L27 (o : Nat) (x2 : Int32) (x7 : Int32) (st8 : GS) : Option ((Int32 × GS) ⊕ (GS)) := 
(if (gt st8 (o + 1) 5) ≤ x7 then some (.inr (st8)) else 
gd x7 8 (gd x2 8 ((if (gt st8 (o + 10) (x7.toNatClampNeg)) = (gt st8 (o + 23) (x2.toNatClampNeg)) then bI1 (f_X3_putNext o x7 st8) (fun st14 => 
lt_ (x7 + 1) (fun x15 => 
some (.inl (x15, st14)))) else 
lt_ (x7 + 1) (fun x13 => 
some (.inl (x13, st8)))))))
noncomputable def f_X3_putInOrder_L7 (o : Nat) (x2 : Int32) (st3 : GS) : Option ((Int32 × GS) ⊕ (GS)) := 
(if (gt st3 o 11) ≤ x2 then some (.inr (st3)) else 
gd x2 8 (bI1 (f_X3_putNext o (gt st3 (o + 23) (x2.toNatClampNeg)) st3) (fun st6 => 
bI1 (lpx (uc2 (f_X3_putInOrder_L27 o x2)) (0, st6)) (fun st16 => 
lt_ (x2 + 1) (fun x17 => 
some (.inl (x17, st16)))))))
noncomputable def f_X3_putInOrder (o : Nat) (st : GS) : Option (GS) := 
lt_ (sv st o 2 0) (fun st1 => 
bI1 (lpx (uc2 (f_X3_putInOrder_L7 o)) (0, st1)) (fun st18 => 
some (st18)))
set_option maxRecDepth 100000 in
set_option maxHeartbeats 4000000 in
theorem c_X3_putInOrder (l : Launch) (D : va_G) (cy : ClassId) (h : Nat → Nat) (o : Nat) (ho : ok3 o) (st : GS) (stF : GS) (hf : f_X3_putInOrder o st = some stF) : gMv l XSh D cy h yX3_putInOrder cX3_putInOrder 3 none 2 st [.ref (h o)] stF := by
  unfold f_X3_putInOrder at hf
  refine gMv_of (by decide) (Nat.le_of_ble_eq_true rfl) ?_
  intro p e s m args below meth c A ls C hr hlocks G hl
  have C : gC p s m args c cX3_putInOrder 3 "LaneOrder$Reading" XSh D cy h A := C
  have hl : lv_has ls 3 [(0, .ref (h o))] := hl
  have hx := C.1
  have hb := C.2.1
  have hown := C.2.2.2.1
  have htb := C.2.2.2.2.1
  refine lv_aload_n hx hb dX3_putInOrder_0 rfl (lv_at hl 0 rfl) ?_
  refine lv_iconst (v := 0) hx hb dX3_putInOrder_1 (by decide) ?_
  refine g_puti C G cl3 (C3 ho) (j := 2) (by decide) (F3_2 ho) k1_155 rfl rfl rfl dX3_putInOrder_2 (fun st1 est1 H locs G => ?_)
  have hf := lt_some est1 hf
  refine lv_iconst (v := 0) hx hb dX3_putInOrder_5 (by decide) ?_
  refine lv_istore_n (lv' := [(1, .int 0), (0, .ref (h o))]) hx hb dX3_putInOrder_6 rfl hl (by decide) rfl (fun ls hl => ?_)
  obtain ⟨st18, hn, hf⟩ := bI1_some hf
  obtain ⟨n, hn⟩ := lpx_some hn
  have K70 : ∀ (H : Heap) (locs : List Loc) (ls : Array Slot), gG XSh D cy h A s st18 H locs → lv_has ls 3 [] → W p l e (gR 2) s m args below meth c H locs 0 0 (MQ below (gQv XSh D cy h A stF) args s 0 0 A) (F0 m 70 ls []) := by
    intro H locs ls G hl
    cases hf
    exact g_vret C G hr hlocks dX3_putInOrder_70
  have L7 : ∀ (n : Nat) (x2 : Int32) (st3 : GS) (H : Heap) (locs : List Loc) (ls : Array Slot), gG XSh D cy h A s st3 H locs → lv_has ls 3 [(0, .ref (h o)), (1, .int x2)] → lp (uc2 (f_X3_putInOrder_L7 o)) n (x2, st3) = some (st18) → W p l e (gR 2) s m args below meth c H locs 0 0 (MQ below (gQv XSh D cy h A stF) args s 0 0 A) (F0 m 7 ls []) := by
    intro n
    induction n with
    | zero =>
      intro x2 st3 H locs ls G hl hn
      cases hn
    | succ n ih =>
      intro x2 st3 H locs ls G hl hn
      obtain ⟨q, hf, hq1, hq2⟩ := lp_q hn
      have hf : f_X3_putInOrder_L7 o x2 st3 = some q := hf
      unfold f_X3_putInOrder_L7 at hf
      refine lv_iload_n hx hb dX3_putInOrder_7 rfl (lv_at hl 1 rfl) ?_
      refine lv_aload_n hx hb dX3_putInOrder_8 rfl (lv_at hl 0 rfl) ?_
      refine g_geti C G cl3 (C3 ho) (j := 11) (by decide) (F3_11 ho) k1_171 dX3_putInOrder_9 ?_
      refine lv_icmp_ge (tgt := 70) hx hb dX3_putInOrder_12 (by decide) (fun c4 => ?_) (fun c4 => ?_)
      · have hf := ifP c4 hf
        cases hf
        have hz9 := hq2 _ rfl
        cases hz9
        exact K70 _ _ _ G (lv_sub hl [] rfl)
      · have hf := ifN c4 hf
        refine lv_aload_n hx hb dX3_putInOrder_15 rfl (lv_at hl 0 rfl) ?_
        refine lv_aload_n hx hb dX3_putInOrder_16 rfl (lv_at hl 0 rfl) ?_
        refine g_getr (k := (o + 23)) C G cl3 (C3 ho) (j := 10) (by decide) (F3_10 ho) k1_170 dX3_putInOrder_17 ?_
        refine lv_iload_n hx hb dX3_putInOrder_20 rfl (lv_at hl 1 rfl) ?_
        obtain ⟨hi21_4, hf⟩ := gd_some hf
        refine g_iald C G (A3_10 ho) (j := x2.toNatClampNeg) rfl hi21_4 dX3_putInOrder_21 ?_
        obtain ⟨st6, hc22_6, hf⟩ := bI1_some hf
        refine g_callVv C G (As := [.int (gt st3 (o + 23) (x2.toNatClampNeg))]) (rest := []) (c_X3_putNext l D cy h o ho (gt st3 (o + 23) (x2.toNatClampNeg)) st3 st6 hc22_6) cl3 rfl (C3 ho) v_X3_151 (Nat.le_of_ble_eq_true rfl) (Nat.le_of_ble_eq_true rfl) rfl hl.1 rfl (Nat.le_of_ble_eq_true rfl) dX3_putInOrder_22 ⟨Nat.zero_le _, Nat.zero_le _⟩ (fun H locs G => ?_)
        refine lv_iconst (v := 0) hx hb dX3_putInOrder_25 (by decide) ?_
        refine lv_istore_n (lv' := [(2, .int 0), (0, .ref (h o)), (1, .int x2)]) hx hb dX3_putInOrder_26 rfl hl (by decide) rfl (fun ls hl => ?_)
        obtain ⟨st16, hn, hf⟩ := bI1_some hf
        obtain ⟨n, hn⟩ := lpx_some hn
        have K64 : ∀ (H : Heap) (locs : List Loc) (ls : Array Slot), gG XSh D cy h A s st16 H locs → lv_has ls 3 [(0, .ref (h o)), (1, .int x2)] → W p l e (gR 2) s m args below meth c H locs 0 0 (MQ below (gQv XSh D cy h A stF) args s 0 0 A) (F0 m 64 ls []) := by
          intro H locs ls G hl
          obtain ⟨x17, ex17⟩ : ∃ z : Int32, z = (x2 + 1) := ⟨_, rfl⟩
          have hf := lt_some ex17 hf
          refine lv_iinc (v := x17) (lv' := [(1, .int x17), (0, .ref (h o))]) hx hb dX3_putInOrder_64 hl (k := 1) rfl (by rw [ex17]; rfl) (by decide) rfl (fun ls hl => ?_)
          refine lv_goto (tgt := 7) hx hb dX3_putInOrder_67 (by decide) ?_
          cases hf
          exact ih _ _ _ _ _ G (lv_sub hl [1, 0] rfl) (hq1 _ rfl)
        have L27 : ∀ (n : Nat) (x7 : Int32) (st8 : GS) (H : Heap) (locs : List Loc) (ls : Array Slot), gG XSh D cy h A s st8 H locs → lv_has ls 3 [(0, .ref (h o)), (1, .int x2), (2, .int x7)] → lp (uc2 (f_X3_putInOrder_L27 o x2)) n (x7, st8) = some (st16) → W p l e (gR 2) s m args below meth c H locs 0 0 (MQ below (gQv XSh D cy h A stF) args s 0 0 A) (F0 m 27 ls []) := by
          intro n
          induction n with
          | zero =>
            intro x7 st8 H locs ls G hl hn
            cases hn
          | succ n ih =>
            intro x7 st8 H locs ls G hl hn
            obtain ⟨q, hf, hq1, hq2⟩ := lp_q hn
            have hf : f_X3_putInOrder_L27 o x2 x7 st8 = some q := hf
            unfold f_X3_putInOrder_L27 at hf
            refine lv_iload_n hx hb dX3_putInOrder_27 rfl (lv_at hl 2 rfl) ?_
            refine lv_aload_n hx hb dX3_putInOrder_28 rfl (lv_at hl 0 rfl) ?_
            refine g_getr (k := (o + 1)) C G cl3 (C3 ho) (j := 0) (by decide) (F3_0 ho) k1_151 dX3_putInOrder_29 ?_
            refine g_getiN C G cl5 (C5 (O3_0 ho)) (j := 5) (by decide) (F5_5 (O3_0 ho)) k1_70 dX3_putInOrder_32 ?_
            refine lv_icmp_ge (tgt := 64) hx hb dX3_putInOrder_35 (by decide) (fun c9 => ?_) (fun c9 => ?_)
            · have hf := ifP c9 hf
              cases hf
              have hz9 := hq2 _ rfl
              cases hz9
              exact K64 _ _ _ G (lv_sub hl [0, 1] rfl)
            · have hf := ifN c9 hf
              refine lv_aload_n hx hb dX3_putInOrder_38 rfl (lv_at hl 0 rfl) ?_
              refine g_getr (k := (o + 10)) C G cl3 (C3 ho) (j := 4) (by decide) (F3_4 ho) k1_159 dX3_putInOrder_39 ?_
              refine lv_iload_n hx hb dX3_putInOrder_42 rfl (lv_at hl 2 rfl) ?_
              obtain ⟨hi43_9, hf⟩ := gd_some hf
              refine g_iald C G (A3_4 ho) (j := x7.toNatClampNeg) rfl hi43_9 dX3_putInOrder_43 ?_
              refine lv_aload_n hx hb dX3_putInOrder_44 rfl (lv_at hl 0 rfl) ?_
              refine g_getr (k := (o + 23)) C G cl3 (C3 ho) (j := 10) (by decide) (F3_10 ho) k1_170 dX3_putInOrder_45 ?_
              refine lv_iload_n hx hb dX3_putInOrder_48 rfl (lv_at hl 1 rfl) ?_
              obtain ⟨hi49_10, hf⟩ := gd_some hf
              refine g_iald C G (A3_10 ho) (j := x2.toNatClampNeg) rfl hi49_10 dX3_putInOrder_49 ?_
              refine lv_icmp_ne (tgt := 58) hx hb dX3_putInOrder_50 (by decide) (fun c12 => ?_) (fun c12 => ?_)
              · have hf := ifN c12 hf
                obtain ⟨x13, ex13⟩ : ∃ z : Int32, z = (x7 + 1) := ⟨_, rfl⟩
                have hf := lt_some ex13 hf
                refine lv_iinc (v := x13) (lv' := [(2, .int x13), (0, .ref (h o)), (1, .int x2)]) hx hb dX3_putInOrder_58 hl (k := 2) rfl (by rw [ex13]; rfl) (by decide) rfl (fun ls hl => ?_)
                refine lv_goto (tgt := 27) hx hb dX3_putInOrder_61 (by decide) ?_
                cases hf
                exact ih _ _ _ _ _ G (lv_sub hl [1, 2, 0] rfl) (hq1 _ rfl)
              · have hf := ifP c12 hf
                refine lv_aload_n hx hb dX3_putInOrder_53 rfl (lv_at hl 0 rfl) ?_
                refine lv_iload_n hx hb dX3_putInOrder_54 rfl (lv_at hl 2 rfl) ?_
                obtain ⟨st14, hc55_14, hf⟩ := bI1_some hf
                refine g_callVv C G (As := [.int x7]) (rest := []) (c_X3_putNext l D cy h o ho x7 st8 st14 hc55_14) cl3 rfl (C3 ho) v_X3_151 (Nat.le_of_ble_eq_true rfl) (Nat.le_of_ble_eq_true rfl) rfl hl.1 rfl (Nat.le_of_ble_eq_true rfl) dX3_putInOrder_55 ⟨Nat.zero_le _, Nat.zero_le _⟩ (fun H locs G => ?_)
                obtain ⟨x15, ex15⟩ : ∃ z : Int32, z = (x7 + 1) := ⟨_, rfl⟩
                have hf := lt_some ex15 hf
                refine lv_iinc (v := x15) (lv' := [(2, .int x15), (0, .ref (h o)), (1, .int x2)]) hx hb dX3_putInOrder_58 hl (k := 2) rfl (by rw [ex15]; rfl) (by decide) rfl (fun ls hl => ?_)
                refine lv_goto (tgt := 27) hx hb dX3_putInOrder_61 (by decide) ?_
                cases hf
                exact ih _ _ _ _ _ G (lv_sub hl [1, 2, 0] rfl) (hq1 _ rfl)
        exact L27 n _ _ _ _ _ G (lv_sub hl [1, 2, 0] rfl) hn
  exact L7 n _ _ _ _ _ G (lv_sub hl [1, 0] rfl) hn

noncomputable def f_X3_renew_L19 (o : Nat) (x4 : Int32) (st5 : GS) : Option ((Int32 × GS) ⊕ (GS)) := 
(if (gt st5 (o + 1) 5) ≤ x4 then some (.inr (st5)) else 
gd x4 8 (bI1 ((if (gt st5 (o + 2) (x4.toNatClampNeg)) = 4 then bI1 (f_X3_nearestFigure o x4 st5) (fun r10 => 
some (r10)) else 
some ((-1)))) (fun (x9 : Int32) => 
gd x4 8 (lt_ (sv st5 (o + 10) (x4.toNatClampNeg) x9) (fun st12 => 
gd x4 8 (lt_ (sv st12 (o + 11) (x4.toNatClampNeg) (-1)) (fun st14 => 
gd x4 8 ((if (gt st14 (o + 10) (x4.toNatClampNeg)) = (-1) then gd (gt st14 o 11) 8 (lt_ (sv st14 (o + 23) ((gt st14 o 11).toNatClampNeg) x4) (fun st19 => 
lt_ (sv st19 o 11 ((gt st19 o 11) + 1)) (fun st20 => 
lt_ (x4 + 1) (fun x21 => 
some (.inl (x21, st20)))))) else 
lt_ (x4 + 1) (fun x17 => 
some (.inl (x17, st14))))))))))))
noncomputable def f_X3_renew (o : Nat) (st : GS) : Option (GS) := 
bI1 (f_X0_clear (o + 13) st) (fun st1 => 
lt_ (sv st1 o 7 0) (fun st2 => 
lt_ (sv st2 o 11 0) (fun st3 => 
bI1 (lpx (uc2 (f_X3_renew_L19 o)) (0, st3)) (fun st22 => 
bI1 ((if (gt st22 o 11) ≤ 0 then some (st22) else 
bI1 (f_X3_readPart 9 o 0 (gt st22 o 11) 0 st22) (fun st25 => 
some (st25)))) (fun (st24 : GS) => 
bI1 (f_X3_putInOrder o st24) (fun st26 => 
some (st26)))))))
set_option maxRecDepth 100000 in
set_option maxHeartbeats 4000000 in
theorem c_X3_renew (l : Launch) (D : va_G) (cy : ClassId) (h : Nat → Nat) (o : Nat) (ho : ok3 o) (st : GS) (stF : GS) (hf : f_X3_renew o st = some stF) : gMv l XSh D cy h yX3_renew cX3_renew 2 none 15 st [.ref (h o)] stF := by
  unfold f_X3_renew at hf
  refine gMv_of (by decide) (Nat.le_of_ble_eq_true rfl) ?_
  intro p e s m args below meth c A ls C hr hlocks G hl
  have C : gC p s m args c cX3_renew 2 "LaneOrder$Reading" XSh D cy h A := C
  have hl : lv_has ls 2 [(0, .ref (h o))] := hl
  have hx := C.1
  have hb := C.2.1
  have hown := C.2.2.2.1
  have htb := C.2.2.2.2.1
  refine lv_aload_n hx hb dX3_renew_0 rfl (lv_at hl 0 rfl) ?_
  refine g_getr (k := (o + 13)) C G cl3 (C3 ho) (j := 8) (by decide) (F3_8 ho) k1_166 dX3_renew_1 ?_
  obtain ⟨st1, hc4_1, hf⟩ := bI1_some hf
  refine g_callVv C G (As := []) (rest := []) (c_X0_clear l D cy h (o + 13) (O3_8 ho) st st1 hc4_1) cl0 rfl (C0 (O3_8 ho)) v_X3_54 (Nat.le_of_ble_eq_true rfl) (Nat.le_of_ble_eq_true rfl) rfl hl.1 rfl (Nat.le_of_ble_eq_true rfl) dX3_renew_4 ⟨Nat.zero_le _, Nat.zero_le _⟩ (fun H locs G => ?_)
  refine lv_aload_n hx hb dX3_renew_7 rfl (lv_at hl 0 rfl) ?_
  refine lv_iconst (v := 0) hx hb dX3_renew_8 (by decide) ?_
  refine g_puti C G cl3 (C3 ho) (j := 7) (by decide) (F3_7 ho) k1_164 rfl rfl rfl dX3_renew_9 (fun st2 est2 H locs G => ?_)
  have hf := lt_some est2 hf
  refine lv_aload_n hx hb dX3_renew_12 rfl (lv_at hl 0 rfl) ?_
  refine lv_iconst (v := 0) hx hb dX3_renew_13 (by decide) ?_
  refine g_puti C G cl3 (C3 ho) (j := 11) (by decide) (F3_11 ho) k1_171 rfl rfl rfl dX3_renew_14 (fun st3 est3 H locs G => ?_)
  have hf := lt_some est3 hf
  refine lv_iconst (v := 0) hx hb dX3_renew_17 (by decide) ?_
  refine lv_istore_n (lv' := [(1, .int 0), (0, .ref (h o))]) hx hb dX3_renew_18 rfl hl (by decide) rfl (fun ls hl => ?_)
  obtain ⟨st22, hn, hf⟩ := bI1_some hf
  obtain ⟨n, hn⟩ := lpx_some hn
  have K101 : ∀ (H : Heap) (locs : List Loc) (ls : Array Slot), gG XSh D cy h A s st22 H locs → lv_has ls 2 [(0, .ref (h o))] → W p l e (gR 15) s m args below meth c H locs 0 0 (MQ below (gQv XSh D cy h A stF) args s 0 0 A) (F0 m 101 ls []) := by
    intro H locs ls G hl
    refine lv_aload_n hx hb dX3_renew_101 rfl (lv_at hl 0 rfl) ?_
    refine g_geti C G cl3 (C3 ho) (j := 11) (by decide) (F3_11 ho) k1_171 dX3_renew_102 ?_
    obtain ⟨st24, hj118, hf⟩ := bI1_some hf
    have K118 : ∀ (H : Heap) (locs : List Loc) (ls : Array Slot) , gG XSh D cy h A s st24 H locs → lv_has ls 2 [(0, .ref (h o))] → W p l e (gR 15) s m args below meth c H locs 0 0 (MQ below (gQv XSh D cy h A stF) args s 0 0 A) (F0 m 118 ls []) := by
      intro H locs ls G hl
      refine lv_aload_n hx hb dX3_renew_118 rfl (lv_at hl 0 rfl) ?_
      obtain ⟨st26, hc119_26, hf⟩ := bI1_some hf
      refine g_callVv C G (As := []) (rest := []) (c_X3_putInOrder l D cy h o ho st24 st26 hc119_26) cl3 rfl (C3 ho) v_X3_78 (Nat.le_of_ble_eq_true rfl) (Nat.le_of_ble_eq_true rfl) rfl hl.1 rfl (Nat.le_of_ble_eq_true rfl) dX3_renew_119 ⟨Nat.zero_le _, Nat.zero_le _⟩ (fun H locs G => ?_)
      cases hf
      exact g_vret C G hr hlocks dX3_renew_122
    clear hf
    refine lv_if_le (tgt := 118) hx hb dX3_renew_105 (by decide) (fun c23 => ?_) (fun c23 => ?_)
    · have hf := ifP c23 hj118
      cases hf
      exact K118 _ _ _ G hl
    · have hf := ifN c23 hj118
      refine lv_aload_n hx hb dX3_renew_108 rfl (lv_at hl 0 rfl) ?_
      refine lv_iconst (v := 0) hx hb dX3_renew_109 (by decide) ?_
      refine lv_aload_n hx hb dX3_renew_110 rfl (lv_at hl 0 rfl) ?_
      refine g_geti C G cl3 (C3 ho) (j := 11) (by decide) (F3_11 ho) k1_171 dX3_renew_111 ?_
      refine lv_iconst (v := 0) hx hb dX3_renew_114 (by decide) ?_
      obtain ⟨st25, hc115_25, hf⟩ := bI1_some hf
      refine g_callVv C G (As := [.int 0, .int (gt st22 o 11), .int 0]) (rest := []) (c_X3_readPart 9 l D cy h o ho 0 (gt st22 o 11) 0 st22 st25 hc115_25) cl3 rfl (C3 ho) v_X3_74 (Nat.le_of_ble_eq_true rfl) (Nat.le_of_ble_eq_true rfl) rfl hl.1 rfl (Nat.le_of_ble_eq_true rfl) dX3_renew_115 ⟨Nat.zero_le _, Nat.zero_le _⟩ (fun H locs G => ?_)
      cases hf
      exact K118 _ _ _ G hl
  have L19 : ∀ (n : Nat) (x4 : Int32) (st5 : GS) (H : Heap) (locs : List Loc) (ls : Array Slot), gG XSh D cy h A s st5 H locs → lv_has ls 2 [(0, .ref (h o)), (1, .int x4)] → lp (uc2 (f_X3_renew_L19 o)) n (x4, st5) = some (st22) → W p l e (gR 15) s m args below meth c H locs 0 0 (MQ below (gQv XSh D cy h A stF) args s 0 0 A) (F0 m 19 ls []) := by
    intro n
    induction n with
    | zero =>
      intro x4 st5 H locs ls G hl hn
      cases hn
    | succ n ih =>
      intro x4 st5 H locs ls G hl hn
      obtain ⟨q, hf, hq1, hq2⟩ := lp_q hn
      have hf : f_X3_renew_L19 o x4 st5 = some q := hf
      unfold f_X3_renew_L19 at hf
      refine lv_iload_n hx hb dX3_renew_19 rfl (lv_at hl 1 rfl) ?_
      refine lv_aload_n hx hb dX3_renew_20 rfl (lv_at hl 0 rfl) ?_
      refine g_getr (k := (o + 1)) C G cl3 (C3 ho) (j := 0) (by decide) (F3_0 ho) k1_151 dX3_renew_21 ?_
      refine g_getiN C G cl5 (C5 (O3_0 ho)) (j := 5) (by decide) (F5_5 (O3_0 ho)) k1_70 dX3_renew_24 ?_
      refine lv_icmp_ge (tgt := 101) hx hb dX3_renew_27 (by decide) (fun c6 => ?_) (fun c6 => ?_)
      · have hf := ifP c6 hf
        cases hf
        have hz9 := hq2 _ rfl
        cases hz9
        exact K101 _ _ _ G (lv_sub hl [0] rfl)
      · have hf := ifN c6 hf
        refine lv_aload_n hx hb dX3_renew_30 rfl (lv_at hl 0 rfl) ?_
        refine g_getr (k := (o + 10)) C G cl3 (C3 ho) (j := 4) (by decide) (F3_4 ho) k1_159 dX3_renew_31 ?_
        refine lv_iload_n hx hb dX3_renew_34 rfl (lv_at hl 1 rfl) ?_
        refine lv_aload_n hx hb dX3_renew_35 rfl (lv_at hl 0 rfl) ?_
        refine g_getr (k := (o + 1)) C G cl3 (C3 ho) (j := 0) (by decide) (F3_0 ho) k1_151 dX3_renew_36 ?_
        refine g_getrN (k := (o + 2)) C G cl5 (C5 (O3_0 ho)) (j := 0) (by decide) (F5_0 (O3_0 ho)) k1_55 dX3_renew_39 ?_
        refine lv_iload_n hx hb dX3_renew_42 rfl (lv_at hl 1 rfl) ?_
        obtain ⟨hi43_6, hf⟩ := gd_some hf
        refine g_iald C G (A5_0 (O3_0 ho)) (j := x4.toNatClampNeg) rfl hi43_6 dX3_renew_43 ?_
        refine lv_iconst (v := 4) hx hb dX3_renew_44 (by decide) ?_
        obtain ⟨x9, hj57, hf⟩ := bI1_some hf
        have K57 : ∀ (H : Heap) (locs : List Loc) (ls : Array Slot) , gG XSh D cy h A s st5 H locs → lv_has ls 2 [(0, .ref (h o)), (1, .int x4)] → W p l e (gR 15) s m args below meth c H locs 0 0 (MQ below (gQv XSh D cy h A stF) args s 0 0 A) (F0 m 57 ls [.int x9, .int x4, .ref (h (o + 10))]) := by
          intro H locs ls G hl
          obtain ⟨hi57_10, hf⟩ := gd_some hf
          refine g_iast C G (A3_4 ho) (j := x4.toNatClampNeg) rfl hi57_10 dX3_renew_57 (fun st12 est12 H locs G => ?_)
          have hf := lt_some est12 hf
          refine lv_aload_n hx hb dX3_renew_58 rfl (lv_at hl 0 rfl) ?_
          refine g_getr (k := (o + 11)) C G cl3 (C3 ho) (j := 5) (by decide) (F3_5 ho) k1_161 dX3_renew_59 ?_
          refine lv_iload_n hx hb dX3_renew_62 rfl (lv_at hl 1 rfl) ?_
          refine lv_iconst (v := (-1)) hx hb dX3_renew_63 (by decide) ?_
          obtain ⟨hi64_12, hf⟩ := gd_some hf
          refine g_iast C G (A3_5 ho) (j := x4.toNatClampNeg) rfl hi64_12 dX3_renew_64 (fun st14 est14 H locs G => ?_)
          have hf := lt_some est14 hf
          refine lv_aload_n hx hb dX3_renew_65 rfl (lv_at hl 0 rfl) ?_
          refine g_getr (k := (o + 10)) C G cl3 (C3 ho) (j := 4) (by decide) (F3_4 ho) k1_159 dX3_renew_66 ?_
          refine lv_iload_n hx hb dX3_renew_69 rfl (lv_at hl 1 rfl) ?_
          obtain ⟨hi70_14, hf⟩ := gd_some hf
          refine g_iald C G (A3_4 ho) (j := x4.toNatClampNeg) rfl hi70_14 dX3_renew_70 ?_
          refine lv_iconst (v := (-1)) hx hb dX3_renew_71 (by decide) ?_
          refine lv_icmp_ne (tgt := 95) hx hb dX3_renew_72 (by decide) (fun c16 => ?_) (fun c16 => ?_)
          · have hf := ifN c16 hf
            obtain ⟨x17, ex17⟩ : ∃ z : Int32, z = (x4 + 1) := ⟨_, rfl⟩
            have hf := lt_some ex17 hf
            refine lv_iinc (v := x17) (lv' := [(1, .int x17), (0, .ref (h o))]) hx hb dX3_renew_95 hl (k := 1) rfl (by rw [ex17]; rfl) (by decide) rfl (fun ls hl => ?_)
            refine lv_goto (tgt := 19) hx hb dX3_renew_98 (by decide) ?_
            cases hf
            exact ih _ _ _ _ _ G (lv_sub hl [1, 0] rfl) (hq1 _ rfl)
          · have hf := ifP c16 hf
            refine lv_aload_n hx hb dX3_renew_75 rfl (lv_at hl 0 rfl) ?_
            refine g_getr (k := (o + 23)) C G cl3 (C3 ho) (j := 10) (by decide) (F3_10 ho) k1_170 dX3_renew_76 ?_
            refine lv_aload_n hx hb dX3_renew_79 rfl (lv_at hl 0 rfl) ?_
            refine g_geti C G cl3 (C3 ho) (j := 11) (by decide) (F3_11 ho) k1_171 dX3_renew_80 ?_
            refine lv_iload_n hx hb dX3_renew_83 rfl (lv_at hl 1 rfl) ?_
            obtain ⟨hi84_17, hf⟩ := gd_some hf
            refine g_iast C G (A3_10 ho) (j := (gt st14 o 11).toNatClampNeg) rfl hi84_17 dX3_renew_84 (fun st19 est19 H locs G => ?_)
            have hf := lt_some est19 hf
            refine lv_aload_n hx hb dX3_renew_85 rfl (lv_at hl 0 rfl) ?_
            refine lv_dup hx hb dX3_renew_86 rfl ?_
            refine g_geti C G cl3 (C3 ho) (j := 11) (by decide) (F3_11 ho) k1_171 dX3_renew_87 ?_
            refine lv_iconst (v := 1) hx hb dX3_renew_90 (by decide) ?_
            refine lv_iadd hx hb dX3_renew_91 ?_
            refine g_puti C G cl3 (C3 ho) (j := 11) (by decide) (F3_11 ho) k1_171 rfl rfl rfl dX3_renew_92 (fun st20 est20 H locs G => ?_)
            have hf := lt_some est20 hf
            obtain ⟨x21, ex21⟩ : ∃ z : Int32, z = (x4 + 1) := ⟨_, rfl⟩
            have hf := lt_some ex21 hf
            refine lv_iinc (v := x21) (lv' := [(1, .int x21), (0, .ref (h o))]) hx hb dX3_renew_95 hl (k := 1) rfl (by rw [ex21]; rfl) (by decide) rfl (fun ls hl => ?_)
            refine lv_goto (tgt := 19) hx hb dX3_renew_98 (by decide) ?_
            cases hf
            exact ih _ _ _ _ _ G (lv_sub hl [1, 0] rfl) (hq1 _ rfl)
        clear hf
        refine lv_icmp_ne (tgt := 56) hx hb dX3_renew_45 (by decide) (fun c8 => ?_) (fun c8 => ?_)
        · have hf := ifN c8 hj57
          refine lv_iconst (v := (-1)) hx hb dX3_renew_56 (by decide) ?_
          cases hf
          exact K57 _ _ _ G hl
        · have hf := ifP c8 hj57
          refine lv_aload_n hx hb dX3_renew_48 rfl (lv_at hl 0 rfl) ?_
          refine lv_iload_n hx hb dX3_renew_49 rfl (lv_at hl 1 rfl) ?_
          obtain ⟨r10, hc50_10, hf⟩ := bI1_some hf
          refine g_callVi C G (As := [.int x4]) (rest := [.int x4, .ref (h (o + 10))]) (c_X3_nearestFigure l D cy h o ho x4 st5 r10 hc50_10) cl3 rfl (C3 ho) v_X3_70 (Nat.le_of_ble_eq_true rfl) (Nat.le_of_ble_eq_true rfl) rfl hl.1 rfl (Nat.le_of_ble_eq_true rfl) dX3_renew_50 ⟨Nat.zero_le _, Nat.zero_le _⟩ (fun H locs G => ?_)
          refine lv_goto (tgt := 57) hx hb dX3_renew_53 (by decide) ?_
          cases hf
          exact K57 _ _ _ G hl
  exact L19 n _ _ _ _ _ G (lv_sub hl [1, 0] rfl) hn

noncomputable def f_X3_reason (o : Nat) (a1 : Int32) (a2 : Int32) (st : GS) : Option (Int32) := 
gd a1 8 ((if (gt st (o + 10) (a1.toNatClampNeg)) = (-1) then gd a2 8 ((if (gt st (o + 10) (a2.toNatClampNeg)) = (-1) then gd a1 8 (gd a2 8 ((if (gt st (o + 12) (a1.toNatClampNeg)) = (gt st (o + 12) (a2.toNatClampNeg)) then bI1 (f_X5_ruleThatTells (o + 1) a1 a2 st) (fun r8 => 
(if r8 = (-1) then some (4) else 
some (r8))) else 
some (5)))) else 
some (6))) else 
some (6)))
set_option maxRecDepth 100000 in
set_option maxHeartbeats 4000000 in
theorem c_X3_reason (l : Launch) (D : va_G) (cy : ClassId) (h : Nat → Nat) (o : Nat) (ho : ok3 o) (a1 : Int32) (a2 : Int32) (st : GS) (r : Int32) (hf : f_X3_reason o a1 a2 st = some r) : gMi l XSh D cy h yX3_reason cX3_reason 4 (some .int) 4 st [.ref (h o), .int a1, .int a2] r st := by
  unfold f_X3_reason at hf
  refine gMi_of (by decide) (Nat.le_of_ble_eq_true rfl) ?_
  intro p e s m args below meth c A ls C hr hlocks G hl
  have C : gC p s m args c cX3_reason 4 "LaneOrder$Reading" XSh D cy h A := C
  have hl : lv_has ls 4 [(0, .ref (h o)), (1, .int a1), (2, .int a2)] := hl
  have hx := C.1
  have hb := C.2.1
  have hown := C.2.2.2.1
  have htb := C.2.2.2.2.1
  refine lv_aload_n hx hb dX3_reason_0 rfl (lv_at hl 0 rfl) ?_
  refine g_getr (k := (o + 10)) C G cl3 (C3 ho) (j := 4) (by decide) (F3_4 ho) k1_159 dX3_reason_1 ?_
  refine lv_iload_n hx hb dX3_reason_4 rfl (lv_at hl 1 rfl) ?_
  obtain ⟨hi5_0, hf⟩ := gd_some hf
  refine g_iald C G (A3_4 ho) (j := a1.toNatClampNeg) rfl hi5_0 dX3_reason_5 ?_
  refine lv_iconst (v := (-1)) hx hb dX3_reason_6 (by decide) ?_
  refine lv_icmp_ne (tgt := 20) hx hb dX3_reason_7 (by decide) (fun c2 => ?_) (fun c2 => ?_)
  · have hf := ifN c2 hf
    refine lv_bipush (v := 6) hx hb dX3_reason_20 (by decide) ?_
    cases hf
    exact g_iret C G hr hlocks dX3_reason_22
  · have hf := ifP c2 hf
    refine lv_aload_n hx hb dX3_reason_10 rfl (lv_at hl 0 rfl) ?_
    refine g_getr (k := (o + 10)) C G cl3 (C3 ho) (j := 4) (by decide) (F3_4 ho) k1_159 dX3_reason_11 ?_
    refine lv_iload_n hx hb dX3_reason_14 rfl (lv_at hl 2 rfl) ?_
    obtain ⟨hi15_2, hf⟩ := gd_some hf
    refine g_iald C G (A3_4 ho) (j := a2.toNatClampNeg) rfl hi15_2 dX3_reason_15 ?_
    refine lv_iconst (v := (-1)) hx hb dX3_reason_16 (by decide) ?_
    refine lv_icmp_eq (tgt := 23) hx hb dX3_reason_17 (by decide) (fun c4 => ?_) (fun c4 => ?_)
    · have hf := ifP c4 hf
      refine lv_aload_n hx hb dX3_reason_23 rfl (lv_at hl 0 rfl) ?_
      refine g_getr (k := (o + 12)) C G cl3 (C3 ho) (j := 6) (by decide) (F3_6 ho) k1_163 dX3_reason_24 ?_
      refine lv_iload_n hx hb dX3_reason_27 rfl (lv_at hl 1 rfl) ?_
      obtain ⟨hi28_4, hf⟩ := gd_some hf
      refine g_iald C G (A3_6 ho) (j := a1.toNatClampNeg) rfl hi28_4 dX3_reason_28 ?_
      refine lv_aload_n hx hb dX3_reason_29 rfl (lv_at hl 0 rfl) ?_
      refine g_getr (k := (o + 12)) C G cl3 (C3 ho) (j := 6) (by decide) (F3_6 ho) k1_163 dX3_reason_30 ?_
      refine lv_iload_n hx hb dX3_reason_33 rfl (lv_at hl 2 rfl) ?_
      obtain ⟨hi34_5, hf⟩ := gd_some hf
      refine g_iald C G (A3_6 ho) (j := a2.toNatClampNeg) rfl hi34_5 dX3_reason_34 ?_
      refine lv_icmp_eq (tgt := 40) hx hb dX3_reason_35 (by decide) (fun c7 => ?_) (fun c7 => ?_)
      · have hf := ifP c7 hf
        refine lv_aload_n hx hb dX3_reason_40 rfl (lv_at hl 0 rfl) ?_
        refine g_getr (k := (o + 1)) C G cl3 (C3 ho) (j := 0) (by decide) (F3_0 ho) k1_151 dX3_reason_41 ?_
        refine lv_iload_n hx hb dX3_reason_44 rfl (lv_at hl 1 rfl) ?_
        refine lv_iload_n hx hb dX3_reason_45 rfl (lv_at hl 2 rfl) ?_
        obtain ⟨r8, hc46_8, hf⟩ := bI1_some hf
        refine g_callVi C G (As := [.int a1, .int a2]) (rest := []) (c_X5_ruleThatTells l D cy h (o + 1) (O3_0 ho) a1 a2 st r8 hc46_8) cl5 rfl (C5 (O3_0 ho)) v_X3_81 (Nat.le_of_ble_eq_true rfl) (Nat.le_of_ble_eq_true rfl) rfl hl.1 rfl (Nat.le_of_ble_eq_true rfl) dX3_reason_46 ⟨Nat.zero_le _, Nat.zero_le _⟩ (fun H locs G => ?_)
        refine lv_istore_n (lv' := [(3, .int r8), (0, .ref (h o)), (1, .int a1), (2, .int a2)]) hx hb dX3_reason_49 rfl hl (by decide) rfl (fun ls hl => ?_)
        refine lv_iload_n hx hb dX3_reason_50 rfl (lv_at hl 0 rfl) ?_
        refine lv_iconst (v := (-1)) hx hb dX3_reason_51 (by decide) ?_
        refine lv_icmp_ne (tgt := 59) hx hb dX3_reason_52 (by decide) (fun c9 => ?_) (fun c9 => ?_)
        · have hf := ifN c9 hf
          refine lv_iload_n hx hb dX3_reason_59 rfl (lv_at hl 0 rfl) ?_
          cases hf
          exact g_iret C G hr hlocks dX3_reason_60
        · have hf := ifP c9 hf
          refine lv_iconst (v := 4) hx hb dX3_reason_55 (by decide) ?_
          refine lv_goto (tgt := 60) hx hb dX3_reason_56 (by decide) ?_
          cases hf
          exact g_iret C G hr hlocks dX3_reason_60
      · have hf := ifN c7 hf
        refine lv_iconst (v := 5) hx hb dX3_reason_38 (by decide) ?_
        cases hf
        exact g_iret C G hr hlocks dX3_reason_39
    · have hf := ifN c4 hf
      refine lv_bipush (v := 6) hx hb dX3_reason_20 (by decide) ?_
      cases hf
      exact g_iret C G hr hlocks dX3_reason_22

noncomputable def f_X3_isOrderedLike_L15 (o : Nat) (a1 : Nat) (st : GS) (x2 : Int32) : Option ((Int32) ⊕ (Int32)) := 
(if (gt st o 2) ≤ x2 then some (.inr (1)) else 
gd x2 8 (gd x2 8 ((if (gt st (o + 8) (x2.toNatClampNeg)) = (gt st (a1 + 8) (x2.toNatClampNeg)) then lt_ (x2 + 1) (fun x7 => 
some (.inl (x7))) else 
some (.inr (0))))))
noncomputable def f_X3_isOrderedLike (o : Nat) (a1 : Nat) (st : GS) : Option (Int32) := 
(if (gt st o 2) = (gt st a1 2) then lpx (uc1 (f_X3_isOrderedLike_L15 o a1 st)) (0) else 
some (0))
set_option maxRecDepth 100000 in
set_option maxHeartbeats 4000000 in
theorem c_X3_isOrderedLike (l : Launch) (D : va_G) (cy : ClassId) (h : Nat → Nat) (o : Nat) (ho : ok3 o) (a1 : Nat) (ha1 : ok3 a1) (st : GS) (r : Int32) (hf : f_X3_isOrderedLike o a1 st = some r) : gMi l XSh D cy h yX3_isOrderedLike cX3_isOrderedLike 3 (some .boolean) 1 st [.ref (h o), .ref (h a1)] r st := by
  unfold f_X3_isOrderedLike at hf
  refine gMi_of (by decide) (Nat.le_of_ble_eq_true rfl) ?_
  intro p e s m args below meth c A ls C hr hlocks G hl
  have C : gC p s m args c cX3_isOrderedLike 3 "LaneOrder$Reading" XSh D cy h A := C
  have hl : lv_has ls 3 [(0, .ref (h o)), (1, .ref (h a1))] := hl
  have hx := C.1
  have hb := C.2.1
  have hown := C.2.2.2.1
  have htb := C.2.2.2.2.1
  refine lv_aload_n hx hb dX3_isOrderedLike_0 rfl (lv_at hl 0 rfl) ?_
  refine g_geti C G cl3 (C3 ho) (j := 2) (by decide) (F3_2 ho) k1_155 dX3_isOrderedLike_1 ?_
  refine lv_aload_n hx hb dX3_isOrderedLike_4 rfl (lv_at hl 1 rfl) ?_
  refine g_geti C G cl3 (C3 ha1) (j := 2) (by decide) (F3_2 ha1) k1_155 dX3_isOrderedLike_5 ?_
  refine lv_icmp_eq (tgt := 13) hx hb dX3_isOrderedLike_8 (by decide) (fun c1 => ?_) (fun c1 => ?_)
  · have hf := ifP c1 hf
    refine lv_iconst (v := 0) hx hb dX3_isOrderedLike_13 (by decide) ?_
    refine lv_istore_n (lv' := [(2, .int 0), (0, .ref (h o)), (1, .ref (h a1))]) hx hb dX3_isOrderedLike_14 rfl hl (by decide) rfl (fun ls hl => ?_)
    obtain ⟨n, hn⟩ := lpx_some hf
    have L15 : ∀ (n : Nat) (x2 : Int32) (H : Heap) (locs : List Loc) (ls : Array Slot), gG XSh D cy h A s st H locs → lv_has ls 3 [(0, .ref (h o)), (1, .ref (h a1)), (2, .int x2)] → lp (uc1 (f_X3_isOrderedLike_L15 o a1 st)) n (x2) = some r → W p l e (gR 1) s m args below meth c H locs 0 0 (MQ below (gQi XSh D cy h A r st) args s 0 0 A) (F0 m 15 ls []) := by
      intro n
      induction n with
      | zero =>
        intro x2 H locs ls G hl hn
        cases hn
      | succ n ih =>
        intro x2 H locs ls G hl hn
        obtain ⟨q, hf, hq1, hq2⟩ := lp_q hn
        have hf : f_X3_isOrderedLike_L15 o a1 st x2 = some q := hf
        unfold f_X3_isOrderedLike_L15 at hf
        refine lv_iload_n hx hb dX3_isOrderedLike_15 rfl (lv_at hl 2 rfl) ?_
        refine lv_aload_n hx hb dX3_isOrderedLike_16 rfl (lv_at hl 0 rfl) ?_
        refine g_geti C G cl3 (C3 ho) (j := 2) (by decide) (F3_2 ho) k1_155 dX3_isOrderedLike_17 ?_
        refine lv_icmp_ge (tgt := 46) hx hb dX3_isOrderedLike_20 (by decide) (fun c3 => ?_) (fun c3 => ?_)
        · have hf := ifP c3 hf
          refine lv_iconst (v := 1) hx hb dX3_isOrderedLike_46 (by decide) ?_
          cases hf
          have hz9 := hq2 _ rfl
          cases hz9
          exact g_zret C G (Or.inr rfl) hr hlocks dX3_isOrderedLike_47
        · have hf := ifN c3 hf
          refine lv_aload_n hx hb dX3_isOrderedLike_23 rfl (lv_at hl 0 rfl) ?_
          refine g_getr (k := (o + 8)) C G cl3 (C3 ho) (j := 1) (by decide) (F3_1 ho) k1_153 dX3_isOrderedLike_24 ?_
          refine lv_iload_n hx hb dX3_isOrderedLike_27 rfl (lv_at hl 2 rfl) ?_
          obtain ⟨hi28_3, hf⟩ := gd_some hf
          refine g_iald C G (A3_1 ho) (j := x2.toNatClampNeg) rfl hi28_3 dX3_isOrderedLike_28 ?_
          refine lv_aload_n hx hb dX3_isOrderedLike_29 rfl (lv_at hl 1 rfl) ?_
          refine g_getr (k := (a1 + 8)) C G cl3 (C3 ha1) (j := 1) (by decide) (F3_1 ha1) k1_153 dX3_isOrderedLike_30 ?_
          refine lv_iload_n hx hb dX3_isOrderedLike_33 rfl (lv_at hl 2 rfl) ?_
          obtain ⟨hi34_4, hf⟩ := gd_some hf
          refine g_iald C G (A3_1 ha1) (j := x2.toNatClampNeg) rfl hi34_4 dX3_isOrderedLike_34 ?_
          refine lv_icmp_eq (tgt := 40) hx hb dX3_isOrderedLike_35 (by decide) (fun c6 => ?_) (fun c6 => ?_)
          · have hf := ifP c6 hf
            obtain ⟨x7, ex7⟩ : ∃ z : Int32, z = (x2 + 1) := ⟨_, rfl⟩
            have hf := lt_some ex7 hf
            refine lv_iinc (v := x7) (lv' := [(2, .int x7), (0, .ref (h o)), (1, .ref (h a1))]) hx hb dX3_isOrderedLike_40 hl (k := 2) rfl (by rw [ex7]; rfl) (by decide) rfl (fun ls hl => ?_)
            refine lv_goto (tgt := 15) hx hb dX3_isOrderedLike_43 (by decide) ?_
            cases hf
            exact ih _ _ _ _ G (lv_sub hl [1, 2, 0] rfl) (hq1 _ rfl)
          · have hf := ifN c6 hf
            refine lv_iconst (v := 0) hx hb dX3_isOrderedLike_38 (by decide) ?_
            cases hf
            have hz9 := hq2 _ rfl
            cases hz9
            exact g_zret C G (Or.inl rfl) hr hlocks dX3_isOrderedLike_39
    exact L15 n _ _ _ _ G (lv_sub hl [1, 2, 0] rfl) hn
  · have hf := ifN c1 hf
    refine lv_iconst (v := 0) hx hb dX3_isOrderedLike_11 (by decide) ?_
    cases hf
    exact g_zret C G (Or.inl rfl) hr hlocks dX3_isOrderedLike_12

noncomputable def f_X3_isByNumber_L2 (o : Nat) (st : GS) (x1 : Int32) : Option ((Int32) ⊕ (Int32)) := 
(if (gt st o 2) ≤ x1 then some (.inr (1)) else 
gd x1 8 ((if (gt st (o + 8) (x1.toNatClampNeg)) = x1 then lt_ (x1 + 1) (fun x5 => 
some (.inl (x5))) else 
some (.inr (0)))))
noncomputable def f_X3_isByNumber (o : Nat) (st : GS) : Option (Int32) := 
lpx (uc1 (f_X3_isByNumber_L2 o st)) (0)
set_option maxRecDepth 100000 in
set_option maxHeartbeats 4000000 in
theorem c_X3_isByNumber (l : Launch) (D : va_G) (cy : ClassId) (h : Nat → Nat) (o : Nat) (ho : ok3 o) (st : GS) (r : Int32) (hf : f_X3_isByNumber o st = some r) : gMi l XSh D cy h yX3_isByNumber cX3_isByNumber 2 (some .boolean) 1 st [.ref (h o)] r st := by
  unfold f_X3_isByNumber at hf
  refine gMi_of (by decide) (Nat.le_of_ble_eq_true rfl) ?_
  intro p e s m args below meth c A ls C hr hlocks G hl
  have C : gC p s m args c cX3_isByNumber 2 "LaneOrder$Reading" XSh D cy h A := C
  have hl : lv_has ls 2 [(0, .ref (h o))] := hl
  have hx := C.1
  have hb := C.2.1
  have hown := C.2.2.2.1
  have htb := C.2.2.2.2.1
  refine lv_iconst (v := 0) hx hb dX3_isByNumber_0 (by decide) ?_
  refine lv_istore_n (lv' := [(1, .int 0), (0, .ref (h o))]) hx hb dX3_isByNumber_1 rfl hl (by decide) rfl (fun ls hl => ?_)
  obtain ⟨n, hn⟩ := lpx_some hf
  have L2 : ∀ (n : Nat) (x1 : Int32) (H : Heap) (locs : List Loc) (ls : Array Slot), gG XSh D cy h A s st H locs → lv_has ls 2 [(0, .ref (h o)), (1, .int x1)] → lp (uc1 (f_X3_isByNumber_L2 o st)) n (x1) = some r → W p l e (gR 1) s m args below meth c H locs 0 0 (MQ below (gQi XSh D cy h A r st) args s 0 0 A) (F0 m 2 ls []) := by
    intro n
    induction n with
    | zero =>
      intro x1 H locs ls G hl hn
      cases hn
    | succ n ih =>
      intro x1 H locs ls G hl hn
      obtain ⟨q, hf, hq1, hq2⟩ := lp_q hn
      have hf : f_X3_isByNumber_L2 o st x1 = some q := hf
      unfold f_X3_isByNumber_L2 at hf
      refine lv_iload_n hx hb dX3_isByNumber_2 rfl (lv_at hl 1 rfl) ?_
      refine lv_aload_n hx hb dX3_isByNumber_3 rfl (lv_at hl 0 rfl) ?_
      refine g_geti C G cl3 (C3 ho) (j := 2) (by decide) (F3_2 ho) k1_155 dX3_isByNumber_4 ?_
      refine lv_icmp_ge (tgt := 28) hx hb dX3_isByNumber_7 (by decide) (fun c2 => ?_) (fun c2 => ?_)
      · have hf := ifP c2 hf
        refine lv_iconst (v := 1) hx hb dX3_isByNumber_28 (by decide) ?_
        cases hf
        have hz9 := hq2 _ rfl
        cases hz9
        exact g_zret C G (Or.inr rfl) hr hlocks dX3_isByNumber_29
      · have hf := ifN c2 hf
        refine lv_aload_n hx hb dX3_isByNumber_10 rfl (lv_at hl 0 rfl) ?_
        refine g_getr (k := (o + 8)) C G cl3 (C3 ho) (j := 1) (by decide) (F3_1 ho) k1_153 dX3_isByNumber_11 ?_
        refine lv_iload_n hx hb dX3_isByNumber_14 rfl (lv_at hl 1 rfl) ?_
        obtain ⟨hi15_2, hf⟩ := gd_some hf
        refine g_iald C G (A3_1 ho) (j := x1.toNatClampNeg) rfl hi15_2 dX3_isByNumber_15 ?_
        refine lv_iload_n hx hb dX3_isByNumber_16 rfl (lv_at hl 1 rfl) ?_
        refine lv_icmp_eq (tgt := 22) hx hb dX3_isByNumber_17 (by decide) (fun c4 => ?_) (fun c4 => ?_)
        · have hf := ifP c4 hf
          obtain ⟨x5, ex5⟩ : ∃ z : Int32, z = (x1 + 1) := ⟨_, rfl⟩
          have hf := lt_some ex5 hf
          refine lv_iinc (v := x5) (lv' := [(1, .int x5), (0, .ref (h o))]) hx hb dX3_isByNumber_22 hl (k := 1) rfl (by rw [ex5]; rfl) (by decide) rfl (fun ls hl => ?_)
          refine lv_goto (tgt := 2) hx hb dX3_isByNumber_25 (by decide) ?_
          cases hf
          exact ih _ _ _ _ G (lv_sub hl [1, 0] rfl) (hq1 _ rfl)
        · have hf := ifN c4 hf
          refine lv_iconst (v := 0) hx hb dX3_isByNumber_20 (by decide) ?_
          cases hf
          have hz9 := hq2 _ rfl
          cases hz9
          exact g_zret C G (Or.inl rfl) hr hlocks dX3_isByNumber_21
  exact L2 n _ _ _ _ G (lv_sub hl [1, 0] rfl) hn
