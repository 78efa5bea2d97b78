noncomputable def f_X7_change (a1 : Int32) (a2 : Int32) (st : GS) : Option (Int32 × GS) := 
bI1 (f_X5_has 4 a1 st) (fun r1 => 
(if r1 = 0 then some (((-101), st)) else 
bI1 (f_X7_isKind a2) (fun r3 => 
(if r3 = 0 then some (((-102), st)) else 
gd a1 8 (lt_ (gt st 5 (a1.toNatClampNeg)) (fun x6 => 
gd a1 8 (lt_ (sv st 5 (a1.toNatClampNeg) a2) (fun st8 => 
bI1 (f_X3_renew 3 st8) (fun st9 => 
some ((x6, st9)))))))))))
set_option maxRecDepth 100000 in
set_option maxHeartbeats 4000000 in
theorem c_X7_change (l : Launch) (D : va_G) (cy : ClassId) (h : Nat → Nat) (a1 : Int32) (a2 : Int32) (st : GS) (r : Int32) (stF : GS) (hf : f_X7_change a1 a2 st = some (r, stF)) : gMi l XSh D cy h yX7_change cX7_change 4 (some .int) 16 st [.ref (h 0), .int a1, .int a2] r stF := by
  unfold f_X7_change at hf
  refine gMi_of (by decide) (Nat.le_of_ble_eq_true rfl) ?_
  intro p e s m args below meth c A ls C hr hlocks G hl
  have C : gC p s m args c cX7_change 4 "LaneOrder" XSh D cy h A := C
  have hl : lv_has ls 4 [(0, .ref (h 0)), (1, .int a1), (2, .int a2)] := hl
  have hx := C.1
  have hb := C.2.1
  have hown := C.2.2.2.1
  have htb := C.2.2.2.2.1
  refine lv_aload_n hx hb dX7_change_0 rfl (lv_at hl 0 rfl) ?_
  refine g_getr (k := 3) C G cl7 (C7 ok7_0) (j := 1) (by decide) (F7_1 ok7_0) k1_232 dX7_change_1 ?_
  refine g_getrN (k := 4) C G cl3 (C3 (O7_1 ok7_0)) (j := 0) (by decide) (F3_0 (O7_1 ok7_0)) k1_152 dX7_change_4 ?_
  refine lv_iload_n hx hb dX7_change_7 rfl (lv_at hl 1 rfl) ?_
  obtain ⟨r1, hc8_1, hf⟩ := bI1_some hf
  refine g_callVi C G (As := [.int a1]) (rest := []) (c_X5_has l D cy h 4 (O3_0 (O7_1 ok7_0)) a1 st r1 hc8_1) cl5 rfl (C5 (O3_0 (O7_1 ok7_0))) v_X7_90 (Nat.le_of_ble_eq_true rfl) (Nat.le_of_ble_eq_true rfl) rfl hl.1 rfl (Nat.le_of_ble_eq_true rfl) dX7_change_8 ⟨Nat.zero_le _, Nat.zero_le _⟩ (fun H locs G => ?_)
  refine lv_if_ne (tgt := 17) hx hb dX7_change_11 (by decide) (fun c2 => ?_) (fun c2 => ?_)
  · have hf := ifN c2 hf
    refine lv_iload_n hx hb dX7_change_17 rfl (lv_at hl 2 rfl) ?_
    obtain ⟨r3, hc18_3, hf⟩ := bI1_some hf
    refine g_callSi C G (As := [.int a2]) (rest := []) (c_X7_isKind l D cy h a2 st r3 hc18_3) v_X7_126 (Nat.le_of_ble_eq_true rfl) (Nat.le_of_ble_eq_true rfl) rfl hl.1 rfl (Nat.le_of_ble_eq_true rfl) dX7_change_18 ⟨Nat.zero_le _, Nat.zero_le _⟩ (fun H locs G => ?_)
    refine lv_if_ne (tgt := 27) hx hb dX7_change_21 (by decide) (fun c4 => ?_) (fun c4 => ?_)
    · have hf := ifN c4 hf
      refine lv_aload_n hx hb dX7_change_27 rfl (lv_at hl 0 rfl) ?_
      refine g_getr (k := 3) C G cl7 (C7 ok7_0) (j := 1) (by decide) (F7_1 ok7_0) k1_232 dX7_change_28 ?_
      refine g_getrN (k := 4) C G cl3 (C3 (O7_1 ok7_0)) (j := 0) (by decide) (F3_0 (O7_1 ok7_0)) k1_152 dX7_change_31 ?_
      refine g_getrN (k := 5) C G cl5 (C5 (O3_0 (O7_1 ok7_0))) (j := 0) (by decide) (F5_0 (O3_0 (O7_1 ok7_0))) k1_56 dX7_change_34 ?_
      refine lv_iload_n hx hb dX7_change_37 rfl (lv_at hl 1 rfl) ?_
      obtain ⟨hi38_4, hf⟩ := gd_some hf
      refine g_iald C G (A5_0 (O3_0 (O7_1 ok7_0))) (j := a1.toNatClampNeg) rfl hi38_4 dX7_change_38 ?_
      refine lv_topi (fun x6 ex6 => ?_)
      have hf := lt_some ex6 hf
      refine lv_istore_n (lv' := [(3, .int x6), (0, .ref (h 0)), (1, .int a1), (2, .int a2)]) hx hb dX7_change_39 rfl hl (by decide) rfl (fun ls hl => ?_)
      refine lv_aload_n hx hb dX7_change_40 rfl (lv_at hl 1 rfl) ?_
      refine g_getr (k := 3) C G cl7 (C7 ok7_0) (j := 1) (by decide) (F7_1 ok7_0) k1_232 dX7_change_41 ?_
      refine g_getrN (k := 4) C G cl3 (C3 (O7_1 ok7_0)) (j := 0) (by decide) (F3_0 (O7_1 ok7_0)) k1_152 dX7_change_44 ?_
      refine g_getrN (k := 5) C G cl5 (C5 (O3_0 (O7_1 ok7_0))) (j := 0) (by decide) (F5_0 (O3_0 (O7_1 ok7_0))) k1_56 dX7_change_47 ?_
      refine lv_iload_n hx hb dX7_change_50 rfl (lv_at hl 2 rfl) ?_
      refine lv_iload_n hx hb dX7_change_51 rfl (lv_at hl 3 rfl) ?_
      obtain ⟨hi52_6, hf⟩ := gd_some hf
      refine g_iast C G (A5_0 (O3_0 (O7_1 ok7_0))) (j := a1.toNatClampNeg) rfl hi52_6 dX7_change_52 (fun st8 est8 H locs G => ?_)
      have hf := lt_some est8 hf
      refine lv_aload_n hx hb dX7_change_53 rfl (lv_at hl 1 rfl) ?_
      refine g_getr (k := 3) C G cl7 (C7 ok7_0) (j := 1) (by decide) (F7_1 ok7_0) k1_232 dX7_change_54 ?_
      obtain ⟨st9, hc57_9, hf⟩ := bI1_some hf
      refine g_callVv C G (As := []) (rest := []) (c_X3_renew l D cy h 3 (O7_1 ok7_0) st8 st9 hc57_9) cl3 rfl (C3 (O7_1 ok7_0)) v_X7_76 (Nat.le_of_ble_eq_true rfl) (Nat.le_of_ble_eq_true rfl) rfl hl.1 rfl (Nat.le_of_ble_eq_true rfl) dX7_change_57 ⟨Nat.zero_le _, Nat.zero_le _⟩ (fun H locs G => ?_)
      refine lv_iload_n hx hb dX7_change_60 rfl (lv_at hl 0 rfl) ?_
      cases hf
      exact g_iret C G hr hlocks dX7_change_61
    · have hf := ifP c4 hf
      refine lv_bipush (v := (-102)) hx hb dX7_change_24 (by decide) ?_
      cases hf
      exact g_iret C G hr hlocks dX7_change_26
  · have hf := ifP c2 hf
    refine lv_bipush (v := (-101)) hx hb dX7_change_14 (by decide) ?_
    cases hf
    exact g_iret C G hr hlocks dX7_change_16

noncomputable def f_X7_areRules_L18  (x3 : Int32) (x4 : Int32) : Option ((Int32 × Int32) ⊕ (Int32)) := 
(if x4 ≤ 0 then some (.inr (1)) else 
lt_ (irem x4 10) (fun x6 => 
lt_ (ishl 1 x6) (fun x7 => 
(if x6 < 1 then some (.inr (0)) else 
(if 4 < x6 then some (.inr (0)) else 
(if (x3 &&& x7) = 0 then lt_ (x3 ||| x7) (fun x11 => 
lt_ (x4 / 10) (fun x12 => 
some (.inl (x11, x12)))) else 
some (.inr (0))))))))
noncomputable def f_X7_areRules (a1 : Int32) : Option (Int32) := 
(if a1 < 1 then some (0) else 
(if a1 ≤ 9999 then lpx (uc2 f_X7_areRules_L18) (0, a1) else 
some (0)))
set_option maxRecDepth 100000 in
set_option maxHeartbeats 4000000 in
theorem c_X7_areRules (l : Launch) (D : va_G) (cy : ClassId) (h : Nat → Nat) (a1 : Int32) (st : GS) (r : Int32) (hf : f_X7_areRules a1 = some r) : gMi l XSh D cy h yX7_areRules cX7_areRules 5 (some .boolean) 1 st [.int a1] r st := by
  unfold f_X7_areRules at hf
  refine gMi_of (by decide) (Nat.le_of_ble_eq_true rfl) ?_
  intro p e s m args below meth c A ls C hr hlocks G hl
  have C : gC p s m args c cX7_areRules 5 "LaneOrder" XSh D cy h A := C
  have hl : lv_has ls 5 [(0, .int a1)] := hl
  have hx := C.1
  have hb := C.2.1
  have hown := C.2.2.2.1
  have htb := C.2.2.2.2.1
  refine lv_iload_n hx hb dX7_areRules_0 rfl (lv_at hl 0 rfl) ?_
  refine lv_iconst (v := 1) hx hb dX7_areRules_1 (by decide) ?_
  refine lv_icmp_lt (tgt := 12) hx hb dX7_areRules_2 (by decide) (fun c1 => ?_) (fun c1 => ?_)
  · have hf := ifP c1 hf
    refine lv_iconst (v := 0) hx hb dX7_areRules_12 (by decide) ?_
    cases hf
    exact g_zret C G (Or.inl rfl) hr hlocks dX7_areRules_13
  · have hf := ifN c1 hf
    refine lv_iload_n hx hb dX7_areRules_5 rfl (lv_at hl 0 rfl) ?_
    refine lv_sipush (v := 9999) hx hb dX7_areRules_6 (by decide) ?_
    refine lv_icmp_le (tgt := 14) hx hb dX7_areRules_9 (by decide) (fun c2 => ?_) (fun c2 => ?_)
    · have hf := ifP c2 hf
      refine lv_iconst (v := 0) hx hb dX7_areRules_14 (by decide) ?_
      refine lv_istore_n (lv' := [(1, .int 0), (0, .int a1)]) hx hb dX7_areRules_15 rfl hl (by decide) rfl (fun ls hl => ?_)
      refine lv_iload_n hx hb dX7_areRules_16 rfl (lv_at hl 1 rfl) ?_
      refine lv_istore_n (lv' := [(2, .int a1), (1, .int 0), (0, .int a1)]) hx hb dX7_areRules_17 rfl hl (by decide) rfl (fun ls hl => ?_)
      obtain ⟨n, hn⟩ := lpx_some hf
      have L18 : ∀ (n : Nat) (x3 : Int32) (x4 : Int32) (H : Heap) (locs : List Loc) (ls : Array Slot), gG XSh D cy h A s st H locs → lv_has ls 5 [(1, .int x3), (2, .int x4)] → lp (uc2 f_X7_areRules_L18) n (x3, x4) = some r → W p l e (gR 1) s m args below meth c H locs 0 0 (MQ below (gQi XSh D cy h A r st) args s 0 0 A) (F0 m 18 ls []) := by
        intro n
        induction n with
        | zero =>
          intro x3 x4 H locs ls G hl hn
          cases hn
        | succ n ih =>
          intro x3 x4 H locs ls G hl hn
          obtain ⟨q, hf, hq1, hq2⟩ := lp_q hn
          have hf : f_X7_areRules_L18 x3 x4 = some q := hf
          unfold f_X7_areRules_L18 at hf
          refine lv_iload_n hx hb dX7_areRules_18 rfl (lv_at hl 1 rfl) ?_
          refine lv_if_le (tgt := 64) hx hb dX7_areRules_19 (by decide) (fun c5 => ?_) (fun c5 => ?_)
          · have hf := ifP c5 hf
            refine lv_iconst (v := 1) hx hb dX7_areRules_64 (by decide) ?_
            cases hf
            have hz9 := hq2 _ rfl
            cases hz9
            exact g_zret C G (Or.inr rfl) hr hlocks dX7_areRules_65
          · have hf := ifN c5 hf
            refine lv_iload_n hx hb dX7_areRules_22 rfl (lv_at hl 1 rfl) ?_
            refine lv_bipush (v := 10) hx hb dX7_areRules_23 (by decide) ?_
            refine g_irem C dX7_areRules_25 (by decide) ?_
            refine lv_topi (fun x6 ex6 => ?_)
            have hf := lt_some ex6 hf
            refine lv_istore_n (lv' := [(3, .int x6), (1, .int x3), (2, .int x4)]) hx hb dX7_areRules_26 rfl hl (by decide) rfl (fun ls hl => ?_)
            refine lv_iconst (v := 1) hx hb dX7_areRules_27 (by decide) ?_
            refine lv_iload_n hx hb dX7_areRules_28 rfl (lv_at hl 0 rfl) ?_
            refine g_ishl C dX7_areRules_29 ?_
            refine lv_topi (fun x7 ex7 => ?_)
            have hf := lt_some ex7 hf
            refine lv_istore (lv' := [(4, .int x7), (3, .int x6), (1, .int x3), (2, .int x4)]) hx hb dX7_areRules_30 hl (by decide) rfl (fun ls hl => ?_)
            refine lv_iload_n hx hb dX7_areRules_32 rfl (lv_at hl 1 rfl) ?_
            refine lv_iconst (v := 1) hx hb dX7_areRules_33 (by decide) ?_
            refine lv_icmp_lt (tgt := 49) hx hb dX7_areRules_34 (by decide) (fun c8 => ?_) (fun c8 => ?_)
            · have hf := ifP c8 hf
              refine lv_iconst (v := 0) hx hb dX7_areRules_49 (by decide) ?_
              cases hf
              have hz9 := hq2 _ rfl
              cases hz9
              exact g_zret C G (Or.inl rfl) hr hlocks dX7_areRules_50
            · have hf := ifN c8 hf
              refine lv_iload_n hx hb dX7_areRules_37 rfl (lv_at hl 1 rfl) ?_
              refine lv_iconst (v := 4) hx hb dX7_areRules_38 (by decide) ?_
              refine lv_icmp_gt (tgt := 49) hx hb dX7_areRules_39 (by decide) (fun c9 => ?_) (fun c9 => ?_)
              · have hf := ifP c9 hf
                refine lv_iconst (v := 0) hx hb dX7_areRules_49 (by decide) ?_
                cases hf
                have hz9 := hq2 _ rfl
                cases hz9
                exact g_zret C G (Or.inl rfl) hr hlocks dX7_areRules_50
              · have hf := ifN c9 hf
                refine lv_iload_n hx hb dX7_areRules_42 rfl (lv_at hl 2 rfl) ?_
                refine lv_iload hx hb dX7_areRules_43 (lv_at hl 0 rfl) ?_
                refine lv_iand hx hb dX7_areRules_45 ?_
                refine lv_if_eq (tgt := 51) hx hb dX7_areRules_46 (by decide) (fun c10 => ?_) (fun c10 => ?_)
                · have hf := ifP c10 hf
                  refine lv_iload_n hx hb dX7_areRules_51 rfl (lv_at hl 2 rfl) ?_
                  refine lv_iload hx hb dX7_areRules_52 (lv_at hl 0 rfl) ?_
                  refine lv_ior hx hb dX7_areRules_54 ?_
                  refine lv_topi (fun x11 ex11 => ?_)
                  have hf := lt_some ex11 hf
                  refine lv_istore_n (lv' := [(1, .int x11), (4, .int x7), (3, .int x6), (2, .int x4)]) hx hb dX7_areRules_55 rfl hl (by decide) rfl (fun ls hl => ?_)
                  refine lv_iload_n hx hb dX7_areRules_56 rfl (lv_at hl 3 rfl) ?_
                  refine lv_bipush (v := 10) hx hb dX7_areRules_57 (by decide) ?_
                  refine lv_idiv hx hb dX7_areRules_59 (by decide) ?_
                  refine lv_topi (fun x12 ex12 => ?_)
                  have hf := lt_some ex12 hf
                  refine lv_istore_n (lv' := [(2, .int x12), (1, .int x11), (4, .int x7), (3, .int x6)]) hx hb dX7_areRules_60 rfl hl (by decide) rfl (fun ls hl => ?_)
                  refine lv_goto (tgt := 18) hx hb dX7_areRules_61 (by decide) ?_
                  cases hf
                  exact ih _ _ _ _ _ G (lv_sub hl [1, 0] rfl) (hq1 _ rfl)
                · have hf := ifN c10 hf
                  refine lv_iconst (v := 0) hx hb dX7_areRules_49 (by decide) ?_
                  cases hf
                  have hz9 := hq2 _ rfl
                  cases hz9
                  exact g_zret C G (Or.inl rfl) hr hlocks dX7_areRules_50
      exact L18 n _ _ _ _ _ G (lv_sub hl [1, 0] rfl) hn
    · have hf := ifN c2 hf
      refine lv_iconst (v := 0) hx hb dX7_areRules_12 (by decide) ?_
      cases hf
      exact g_zret C G (Or.inl rfl) hr hlocks dX7_areRules_13

noncomputable def f_X7_rules (a1 : Int32) (st : GS) : Option (Int32 × GS) := 
bI1 (f_X7_areRules a1) (fun r1 => 
(if r1 = 0 then some (((-102), st)) else 
bI1 (f_X7_hasNoPage st) (fun r3 => 
(if r3 = 0 then bI1 (f_X5_takeRules 4 a1 st) (fun st5 => 
bI1 (f_X3_renew 3 st5) (fun st6 => 
some (((gt st6 4 7), st6)))) else 
some (((-103), st))))))
set_option maxRecDepth 100000 in
set_option maxHeartbeats 4000000 in
theorem c_X7_rules (l : Launch) (D : va_G) (cy : ClassId) (h : Nat → Nat) (a1 : Int32) (st : GS) (r : Int32) (stF : GS) (hf : f_X7_rules a1 st = some (r, stF)) : gMi l XSh D cy h yX7_rules cX7_rules 2 (some .int) 16 st [.ref (h 0), .int a1] r stF := by
  unfold f_X7_rules at hf
  refine gMi_of (by decide) (Nat.le_of_ble_eq_true rfl) ?_
  intro p e s m args below meth c A ls C hr hlocks G hl
  have C : gC p s m args c cX7_rules 2 "LaneOrder" XSh D cy h A := C
  have hl : lv_has ls 2 [(0, .ref (h 0)), (1, .int a1)] := hl
  have hx := C.1
  have hb := C.2.1
  have hown := C.2.2.2.1
  have htb := C.2.2.2.2.1
  refine lv_iload_n hx hb dX7_rules_0 rfl (lv_at hl 1 rfl) ?_
  obtain ⟨r1, hc1_1, hf⟩ := bI1_some hf
  refine g_callSi C G (As := [.int a1]) (rest := []) (c_X7_areRules l D cy h a1 st r1 hc1_1) v_X7_202 (Nat.le_of_ble_eq_true rfl) (Nat.le_of_ble_eq_true rfl) rfl hl.1 rfl (Nat.le_of_ble_eq_true rfl) dX7_rules_1 ⟨Nat.zero_le _, Nat.zero_le _⟩ (fun H locs G => ?_)
  refine lv_if_ne (tgt := 10) hx hb dX7_rules_4 (by decide) (fun c2 => ?_) (fun c2 => ?_)
  · have hf := ifN c2 hf
    refine lv_aload_n hx hb dX7_rules_10 rfl (lv_at hl 0 rfl) ?_
    obtain ⟨r3, hc11_3, hf⟩ := bI1_some hf
    refine g_callVi C G (As := []) (rest := []) (c_X7_hasNoPage l D cy h st r3 hc11_3) cl7 rfl (C7 ok7_0) v_X7_182 (Nat.le_of_ble_eq_true rfl) (Nat.le_of_ble_eq_true rfl) rfl hl.1 rfl (Nat.le_of_ble_eq_true rfl) dX7_rules_11 ⟨Nat.zero_le _, Nat.zero_le _⟩ (fun H locs G => ?_)
    refine lv_if_eq (tgt := 20) hx hb dX7_rules_14 (by decide) (fun c4 => ?_) (fun c4 => ?_)
    · have hf := ifP c4 hf
      refine lv_aload_n hx hb dX7_rules_20 rfl (lv_at hl 0 rfl) ?_
      refine g_getr (k := 3) C G cl7 (C7 ok7_0) (j := 1) (by decide) (F7_1 ok7_0) k1_232 dX7_rules_21 ?_
      refine g_getrN (k := 4) C G cl3 (C3 (O7_1 ok7_0)) (j := 0) (by decide) (F3_0 (O7_1 ok7_0)) k1_152 dX7_rules_24 ?_
      refine lv_iload_n hx hb dX7_rules_27 rfl (lv_at hl 1 rfl) ?_
      obtain ⟨st5, hc28_5, hf⟩ := bI1_some hf
      refine g_callVv C G (As := [.int a1]) (rest := []) (c_X5_takeRules l D cy h 4 (O3_0 (O7_1 ok7_0)) a1 st st5 hc28_5) cl5 rfl (C5 (O3_0 (O7_1 ok7_0))) v_X7_205 (Nat.le_of_ble_eq_true rfl) (Nat.le_of_ble_eq_true rfl) rfl hl.1 rfl (Nat.le_of_ble_eq_true rfl) dX7_rules_28 ⟨Nat.zero_le _, Nat.zero_le _⟩ (fun H locs G => ?_)
      refine lv_aload_n hx hb dX7_rules_31 rfl (lv_at hl 0 rfl) ?_
      refine g_getr (k := 3) C G cl7 (C7 ok7_0) (j := 1) (by decide) (F7_1 ok7_0) k1_232 dX7_rules_32 ?_
      obtain ⟨st6, hc35_6, hf⟩ := bI1_some hf
      refine g_callVv C G (As := []) (rest := []) (c_X3_renew l D cy h 3 (O7_1 ok7_0) st5 st6 hc35_6) cl3 rfl (C3 (O7_1 ok7_0)) v_X7_76 (Nat.le_of_ble_eq_true rfl) (Nat.le_of_ble_eq_true rfl) rfl hl.1 rfl (Nat.le_of_ble_eq_true rfl) dX7_rules_35 ⟨Nat.zero_le _, Nat.zero_le _⟩ (fun H locs G => ?_)
      refine lv_aload_n hx hb dX7_rules_38 rfl (lv_at hl 0 rfl) ?_
      refine g_getr (k := 3) C G cl7 (C7 ok7_0) (j := 1) (by decide) (F7_1 ok7_0) k1_232 dX7_rules_39 ?_
      refine g_getrN (k := 4) C G cl3 (C3 (O7_1 ok7_0)) (j := 0) (by decide) (F3_0 (O7_1 ok7_0)) k1_152 dX7_rules_42 ?_
      refine g_getiN C G cl5 (C5 (O3_0 (O7_1 ok7_0))) (j := 7) (by decide) (F5_7 (O3_0 (O7_1 ok7_0))) k1_75 dX7_rules_45 ?_
      cases hf
      exact g_iret C G hr hlocks dX7_rules_48
    · have hf := ifN c4 hf
      refine lv_bipush (v := (-103)) hx hb dX7_rules_17 (by decide) ?_
      cases hf
      exact g_iret C G hr hlocks dX7_rules_19
  · have hf := ifP c2 hf
    refine lv_bipush (v := (-102)) hx hb dX7_rules_7 (by decide) ?_
    cases hf
    exact g_iret C G hr hlocks dX7_rules_9

noncomputable def f_X7_scale (a1 : Int32) (st : GS) : Option (Int32 × GS) := 
(if a1 < 1 then some (((-102), st)) else 
(if 5 < a1 then some (((-102), st)) else 
bI1 (f_X5_greatestNumber 4 st) (fun r3 => 
(if (a1 * r3) ≤ 999 then bI1 (f_X7_hasNoPage st) (fun r5 => 
(if r5 = 0 then bI1 (f_X5_stretch 4 a1 st) (fun st7 => 
bI1 (f_X3_renew 3 st7) (fun st8 => 
bI1 (f_X5_greatestNumber 4 st8) (fun r9 => 
some ((r9, st8))))) else 
some (((-103), st)))) else 
some (((-102), st))))))
set_option maxRecDepth 100000 in
set_option maxHeartbeats 4000000 in
theorem c_X7_scale (l : Launch) (D : va_G) (cy : ClassId) (h : Nat → Nat) (a1 : Int32) (st : GS) (r : Int32) (stF : GS) (hf : f_X7_scale a1 st = some (r, stF)) : gMi l XSh D cy h yX7_scale cX7_scale 2 (some .int) 16 st [.ref (h 0), .int a1] r stF := by
  unfold f_X7_scale at hf
  refine gMi_of (by decide) (Nat.le_of_ble_eq_true rfl) ?_
  intro p e s m args below meth c A ls C hr hlocks G hl
  have C : gC p s m args c cX7_scale 2 "LaneOrder" XSh D cy h A := C
  have hl : lv_has ls 2 [(0, .ref (h 0)), (1, .int a1)] := hl
  have hx := C.1
  have hb := C.2.1
  have hown := C.2.2.2.1
  have htb := C.2.2.2.2.1
  refine lv_iload_n hx hb dX7_scale_0 rfl (lv_at hl 1 rfl) ?_
  refine lv_iconst (v := 1) hx hb dX7_scale_1 (by decide) ?_
  refine lv_icmp_lt (tgt := 28) hx hb dX7_scale_2 (by decide) (fun c1 => ?_) (fun c1 => ?_)
  · have hf := ifP c1 hf
    refine lv_bipush (v := (-102)) hx hb dX7_scale_28 (by decide) ?_
    cases hf
    exact g_iret C G hr hlocks dX7_scale_30
  · have hf := ifN c1 hf
    refine lv_iload_n hx hb dX7_scale_5 rfl (lv_at hl 1 rfl) ?_
    refine lv_iconst (v := 5) hx hb dX7_scale_6 (by decide) ?_
    refine lv_icmp_gt (tgt := 28) hx hb dX7_scale_7 (by decide) (fun c2 => ?_) (fun c2 => ?_)
    · have hf := ifP c2 hf
      refine lv_bipush (v := (-102)) hx hb dX7_scale_28 (by decide) ?_
      cases hf
      exact g_iret C G hr hlocks dX7_scale_30
    · have hf := ifN c2 hf
      refine lv_iload_n hx hb dX7_scale_10 rfl (lv_at hl 1 rfl) ?_
      refine lv_aload_n hx hb dX7_scale_11 rfl (lv_at hl 0 rfl) ?_
      refine g_getr (k := 3) C G cl7 (C7 ok7_0) (j := 1) (by decide) (F7_1 ok7_0) k1_232 dX7_scale_12 ?_
      refine g_getrN (k := 4) C G cl3 (C3 (O7_1 ok7_0)) (j := 0) (by decide) (F3_0 (O7_1 ok7_0)) k1_152 dX7_scale_15 ?_
      obtain ⟨r3, hc18_3, hf⟩ := bI1_some hf
      refine g_callVi C G (As := []) (rest := [.int a1]) (c_X5_greatestNumber l D cy h 4 (O3_0 (O7_1 ok7_0)) st r3 hc18_3) cl5 rfl (C5 (O3_0 (O7_1 ok7_0))) v_X7_211 (Nat.le_of_ble_eq_true rfl) (Nat.le_of_ble_eq_true rfl) rfl hl.1 rfl (Nat.le_of_ble_eq_true rfl) dX7_scale_18 ⟨Nat.zero_le _, Nat.zero_le _⟩ (fun H locs G => ?_)
      refine lv_imul hx hb dX7_scale_21 ?_
      refine lv_sipush (v := 999) hx hb dX7_scale_22 (by decide) ?_
      refine lv_icmp_le (tgt := 31) hx hb dX7_scale_25 (by decide) (fun c4 => ?_) (fun c4 => ?_)
      · have hf := ifP c4 hf
        refine lv_aload_n hx hb dX7_scale_31 rfl (lv_at hl 0 rfl) ?_
        obtain ⟨r5, hc32_5, hf⟩ := bI1_some hf
        refine g_callVi C G (As := []) (rest := []) (c_X7_hasNoPage l D cy h st r5 hc32_5) cl7 rfl (C7 ok7_0) v_X7_182 (Nat.le_of_ble_eq_true rfl) (Nat.le_of_ble_eq_true rfl) rfl hl.1 rfl (Nat.le_of_ble_eq_true rfl) dX7_scale_32 ⟨Nat.zero_le _, Nat.zero_le _⟩ (fun H locs G => ?_)
        refine lv_if_eq (tgt := 41) hx hb dX7_scale_35 (by decide) (fun c6 => ?_) (fun c6 => ?_)
        · have hf := ifP c6 hf
          refine lv_aload_n hx hb dX7_scale_41 rfl (lv_at hl 0 rfl) ?_
          refine g_getr (k := 3) C G cl7 (C7 ok7_0) (j := 1) (by decide) (F7_1 ok7_0) k1_232 dX7_scale_42 ?_
          refine g_getrN (k := 4) C G cl3 (C3 (O7_1 ok7_0)) (j := 0) (by decide) (F3_0 (O7_1 ok7_0)) k1_152 dX7_scale_45 ?_
          refine lv_iload_n hx hb dX7_scale_48 rfl (lv_at hl 1 rfl) ?_
          obtain ⟨st7, hc49_7, hf⟩ := bI1_some hf
          refine g_callVv C G (As := [.int a1]) (rest := []) (c_X5_stretch l D cy h 4 (O3_0 (O7_1 ok7_0)) a1 st st7 hc49_7) cl5 rfl (C5 (O3_0 (O7_1 ok7_0))) v_X7_214 (Nat.le_of_ble_eq_true rfl) (Nat.le_of_ble_eq_true rfl) rfl hl.1 rfl (Nat.le_of_ble_eq_true rfl) dX7_scale_49 ⟨Nat.zero_le _, Nat.zero_le _⟩ (fun H locs G => ?_)
          refine lv_aload_n hx hb dX7_scale_52 rfl (lv_at hl 0 rfl) ?_
          refine g_getr (k := 3) C G cl7 (C7 ok7_0) (j := 1) (by decide) (F7_1 ok7_0) k1_232 dX7_scale_53 ?_
          obtain ⟨st8, hc56_8, hf⟩ := bI1_some hf
          refine g_callVv C G (As := []) (rest := []) (c_X3_renew l D cy h 3 (O7_1 ok7_0) st7 st8 hc56_8) cl3 rfl (C3 (O7_1 ok7_0)) v_X7_76 (Nat.le_of_ble_eq_true rfl) (Nat.le_of_ble_eq_true rfl) rfl hl.1 rfl (Nat.le_of_ble_eq_true rfl) dX7_scale_56 ⟨Nat.zero_le _, Nat.zero_le _⟩ (fun H locs G => ?_)
          refine lv_aload_n hx hb dX7_scale_59 rfl (lv_at hl 0 rfl) ?_
          refine g_getr (k := 3) C G cl7 (C7 ok7_0) (j := 1) (by decide) (F7_1 ok7_0) k1_232 dX7_scale_60 ?_
          refine g_getrN (k := 4) C G cl3 (C3 (O7_1 ok7_0)) (j := 0) (by decide) (F3_0 (O7_1 ok7_0)) k1_152 dX7_scale_63 ?_
          obtain ⟨r9, hc66_9, hf⟩ := bI1_some hf
          refine g_callVi C G (As := []) (rest := []) (c_X5_greatestNumber l D cy h 4 (O3_0 (O7_1 ok7_0)) st8 r9 hc66_9) cl5 rfl (C5 (O3_0 (O7_1 ok7_0))) v_X7_211 (Nat.le_of_ble_eq_true rfl) (Nat.le_of_ble_eq_true rfl) rfl hl.1 rfl (Nat.le_of_ble_eq_true rfl) dX7_scale_66 ⟨Nat.zero_le _, Nat.zero_le _⟩ (fun H locs G => ?_)
          cases hf
          exact g_iret C G hr hlocks dX7_scale_69
        · have hf := ifN c6 hf
          refine lv_bipush (v := (-103)) hx hb dX7_scale_38 (by decide) ?_
          cases hf
          exact g_iret C G hr hlocks dX7_scale_40
      · have hf := ifN c4 hf
        refine lv_bipush (v := (-102)) hx hb dX7_scale_28 (by decide) ?_
        cases hf
        exact g_iret C G hr hlocks dX7_scale_30

noncomputable def f_X7_without_L46 (a1 : Int32) (st4 : GS) (x5 : Int32) (x6 : Int32) : Option ((Int32 × Int32) ⊕ (Int32)) := 
(if (gt st4 41 2) ≤ x6 then some (.inr (x5)) else 
(if (gt st4 3 2) ≤ (x6 + 1) then some (.inr (x5)) else 
gd x6 8 (bI1 ((if a1 ≤ (gt st4 49 (x6.toNatClampNeg)) then gd x6 8 (some (((gt st4 49 (x6.toNatClampNeg)) + 1))) else 
gd x6 8 (some ((gt st4 49 (x6.toNatClampNeg)))))) (fun (x11 : Int32) => 
gd a1 8 (bI1 ((if (gt st4 12 (a1.toNatClampNeg)) ≤ x6 then gd (x6 + 1) 8 (some ((gt st4 11 ((x6 + 1).toNatClampNeg)))) else 
gd x6 8 (some ((gt st4 11 (x6.toNatClampNeg)))))) (fun (x16 : Int32) => 
(if x11 = x16 then lt_ (x6 + 1) (fun x20 => 
some (.inl (x5, x20))) else 
lt_ (x5 + 1) (fun x21 => 
lt_ (x6 + 1) (fun x22 => 
some (.inl (x21, x22)))))))))))
noncomputable def f_X7_without (a1 : Int32) (st : GS) : Option (Int32 × GS) := 
bI1 (f_X5_has 4 a1 st) (fun r1 => 
(if r1 = 0 then some (((-101), st)) else 
bI1 (f_X5_copyWithout 42 4 a1 st) (fun st3 => 
bI1 (f_X3_renew 41 st3) (fun st4 => 
bI1 (lpx (uc2 (f_X7_without_L46 a1 st4)) (0, 0)) (fun x23 => 
some ((x23, st4)))))))
set_option maxRecDepth 100000 in
set_option maxHeartbeats 4000000 in
theorem c_X7_without (l : Launch) (D : va_G) (cy : ClassId) (h : Nat → Nat) (a1 : Int32) (st : GS) (r : Int32) (stF : GS) (hf : f_X7_without a1 st = some (r, stF)) : gMi l XSh D cy h yX7_without cX7_without 6 (some .int) 16 st [.ref (h 0), .int a1] r stF := by
  unfold f_X7_without at hf
  refine gMi_of (by decide) (Nat.le_of_ble_eq_true rfl) ?_
  intro p e s m args below meth c A ls C hr hlocks G hl
  have C : gC p s m args c cX7_without 6 "LaneOrder" XSh D cy h A := C
  have hl : lv_has ls 6 [(0, .ref (h 0)), (1, .int a1)] := hl
  have hx := C.1
  have hb := C.2.1
  have hown := C.2.2.2.1
  have htb := C.2.2.2.2.1
  refine lv_aload_n hx hb dX7_without_0 rfl (lv_at hl 0 rfl) ?_
  refine g_getr (k := 3) C G cl7 (C7 ok7_0) (j := 1) (by decide) (F7_1 ok7_0) k1_232 dX7_without_1 ?_
  refine g_getrN (k := 4) C G cl3 (C3 (O7_1 ok7_0)) (j := 0) (by decide) (F3_0 (O7_1 ok7_0)) k1_152 dX7_without_4 ?_
  refine lv_iload_n hx hb dX7_without_7 rfl (lv_at hl 1 rfl) ?_
  obtain ⟨r1, hc8_1, hf⟩ := bI1_some hf
  refine g_callVi C G (As := [.int a1]) (rest := []) (c_X5_has l D cy h 4 (O3_0 (O7_1 ok7_0)) a1 st r1 hc8_1) cl5 rfl (C5 (O3_0 (O7_1 ok7_0))) v_X7_90 (Nat.le_of_ble_eq_true rfl) (Nat.le_of_ble_eq_true rfl) rfl hl.1 rfl (Nat.le_of_ble_eq_true rfl) dX7_without_8 ⟨Nat.zero_le _, Nat.zero_le _⟩ (fun H locs G => ?_)
  refine lv_if_ne (tgt := 17) hx hb dX7_without_11 (by decide) (fun c2 => ?_) (fun c2 => ?_)
  · have hf := ifN c2 hf
    refine lv_aload_n hx hb dX7_without_17 rfl (lv_at hl 0 rfl) ?_
    refine g_getr (k := 41) C G cl7 (C7 ok7_0) (j := 7) (by decide) (F7_7 ok7_0) k1_238 dX7_without_18 ?_
    refine g_getrN (k := 42) C G cl3 (C3 (O7_7 ok7_0)) (j := 0) (by decide) (F3_0 (O7_7 ok7_0)) k1_152 dX7_without_21 ?_
    refine lv_aload_n hx hb dX7_without_24 rfl (lv_at hl 0 rfl) ?_
    refine g_getr (k := 3) C G cl7 (C7 ok7_0) (j := 1) (by decide) (F7_1 ok7_0) k1_232 dX7_without_25 ?_
    refine g_getrN (k := 4) C G cl3 (C3 (O7_1 ok7_0)) (j := 0) (by decide) (F3_0 (O7_1 ok7_0)) k1_152 dX7_without_28 ?_
    refine lv_iload_n hx hb dX7_without_31 rfl (lv_at hl 1 rfl) ?_
    obtain ⟨st3, hc32_3, hf⟩ := bI1_some hf
    refine g_callVv C G (As := [.ref (h 4), .int a1]) (rest := []) (c_X5_copyWithout l D cy h 42 (O3_0 (O7_7 ok7_0)) 4 (O3_0 (O7_1 ok7_0)) a1 st st3 hc32_3) cl5 rfl (C5 (O3_0 (O7_7 ok7_0))) v_X7_217 (Nat.le_of_ble_eq_true rfl) (Nat.le_of_ble_eq_true rfl) rfl hl.1 rfl (Nat.le_of_ble_eq_true rfl) dX7_without_32 ⟨Nat.zero_le _, Nat.zero_le _⟩ (fun H locs G => ?_)
    refine lv_aload_n hx hb dX7_without_35 rfl (lv_at hl 0 rfl) ?_
    refine g_getr (k := 41) C G cl7 (C7 ok7_0) (j := 7) (by decide) (F7_7 ok7_0) k1_238 dX7_without_36 ?_
    obtain ⟨st4, hc39_4, hf⟩ := bI1_some hf
    refine g_callVv C G (As := []) (rest := []) (c_X3_renew l D cy h 41 (O7_7 ok7_0) st3 st4 hc39_4) cl3 rfl (C3 (O7_7 ok7_0)) v_X7_76 (Nat.le_of_ble_eq_true rfl) (Nat.le_of_ble_eq_true rfl) rfl hl.1 rfl (Nat.le_of_ble_eq_true rfl) dX7_without_39 ⟨Nat.zero_le _, Nat.zero_le _⟩ (fun H locs G => ?_)
    refine lv_iconst (v := 0) hx hb dX7_without_42 (by decide) ?_
    refine lv_istore_n (lv' := [(2, .int 0), (0, .ref (h 0)), (1, .int a1)]) hx hb dX7_without_43 rfl hl (by decide) rfl (fun ls hl => ?_)
    refine lv_iconst (v := 0) hx hb dX7_without_44 (by decide) ?_
    refine lv_istore_n (lv' := [(3, .int 0), (2, .int 0), (0, .ref (h 0)), (1, .int a1)]) hx hb dX7_without_45 rfl hl (by decide) rfl (fun ls hl => ?_)
    obtain ⟨x23, hn, hf⟩ := bI1_some hf
    obtain ⟨n, hn⟩ := lpx_some hn
    have K162 : ∀ (H : Heap) (locs : List Loc) (ls : Array Slot), gG XSh D cy h A s st4 H locs → lv_has ls 6 [(2, .int x23)] → W p l e (gR 16) s m args below meth c H locs 0 0 (MQ below (gQi XSh D cy h A r stF) args s 0 0 A) (F0 m 162 ls []) := by
      intro H locs ls G hl
      refine lv_iload_n hx hb dX7_without_162 rfl (lv_at hl 0 rfl) ?_
      cases hf
      exact g_iret C G hr hlocks dX7_without_163
    have L46 : ∀ (n : Nat) (x5 : Int32) (x6 : Int32) (H : Heap) (locs : List Loc) (ls : Array Slot), gG XSh D cy h A s st4 H locs → lv_has ls 6 [(0, .ref (h 0)), (1, .int a1), (2, .int x5), (3, .int x6)] → lp (uc2 (f_X7_without_L46 a1 st4)) n (x5, x6) = some (x23) → W p l e (gR 16) s m args below meth c H locs 0 0 (MQ below (gQi XSh D cy h A r stF) args s 0 0 A) (F0 m 46 ls []) := by
      intro n
      induction n with
      | zero =>
        intro x5 x6 H locs ls G hl hn
        cases hn
      | succ n ih =>
        intro x5 x6 H locs ls G hl hn
        obtain ⟨q, hf, hq1, hq2⟩ := lp_q hn
        have hf : f_X7_without_L46 a1 st4 x5 x6 = some q := hf
        unfold f_X7_without_L46 at hf
        refine lv_iload_n hx hb dX7_without_46 rfl (lv_at hl 3 rfl) ?_
        refine lv_aload_n hx hb dX7_without_47 rfl (lv_at hl 0 rfl) ?_
        refine g_getr (k := 41) C G cl7 (C7 ok7_0) (j := 7) (by decide) (F7_7 ok7_0) k1_238 dX7_without_48 ?_
        refine g_getiN C G cl3 (C3 (O7_7 ok7_0)) (j := 2) (by decide) (F3_2 (O7_7 ok7_0)) k1_156 dX7_without_51 ?_
        refine lv_icmp_ge (tgt := 162) hx hb dX7_without_54 (by decide) (fun c7 => ?_) (fun c7 => ?_)
        · have hf := ifP c7 hf
          cases hf
          have hz9 := hq2 _ rfl
          cases hz9
          exact K162 _ _ _ G (lv_sub hl [2] rfl)
        · have hf := ifN c7 hf
          refine lv_iload_n hx hb dX7_without_57 rfl (lv_at hl 3 rfl) ?_
          refine lv_iconst (v := 1) hx hb dX7_without_58 (by decide) ?_
          refine lv_iadd hx hb dX7_without_59 ?_
          refine lv_aload_n hx hb dX7_without_60 rfl (lv_at hl 0 rfl) ?_
          refine g_getr (k := 3) C G cl7 (C7 ok7_0) (j := 1) (by decide) (F7_1 ok7_0) k1_232 dX7_without_61 ?_
          refine g_getiN C G cl3 (C3 (O7_1 ok7_0)) (j := 2) (by decide) (F3_2 (O7_1 ok7_0)) k1_156 dX7_without_64 ?_
          refine lv_icmp_ge (tgt := 162) hx hb dX7_without_67 (by decide) (fun c8 => ?_) (fun c8 => ?_)
          · have hf := ifP c8 hf
            cases hf
            have hz9 := hq2 _ rfl
            cases hz9
            exact K162 _ _ _ G (lv_sub hl [2] rfl)
          · have hf := ifN c8 hf
            refine lv_aload_n hx hb dX7_without_70 rfl (lv_at hl 0 rfl) ?_
            refine g_getr (k := 41) C G cl7 (C7 ok7_0) (j := 7) (by decide) (F7_7 ok7_0) k1_238 dX7_without_71 ?_
            refine g_getrN (k := 49) C G cl3 (C3 (O7_7 ok7_0)) (j := 1) (by decide) (F3_1 (O7_7 ok7_0)) k1_154 dX7_without_74 ?_
            refine lv_iload_n hx hb dX7_without_77 rfl (lv_at hl 3 rfl) ?_
            obtain ⟨hi78_8, hf⟩ := gd_some hf
            refine g_iald C G (A3_1 (O7_7 ok7_0)) (j := x6.toNatClampNeg) rfl hi78_8 dX7_without_78 ?_
            refine lv_iload_n hx hb dX7_without_79 rfl (lv_at hl 1 rfl) ?_
            obtain ⟨x11, hj106, hf⟩ := bI1_some hf
            have K106 : ∀ (H : Heap) (locs : List Loc) (ls : Array Slot) , gG XSh D cy h A s st4 H locs → lv_has ls 6 [(0, .ref (h 0)), (1, .int a1), (2, .int x5), (3, .int x6)] → W p l e (gR 16) s m args below meth c H locs 0 0 (MQ below (gQi XSh D cy h A r stF) args s 0 0 A) (F0 m 106 ls [.int x11]) := by
              intro H locs ls G hl
              refine lv_istore (lv' := [(4, .int x11), (0, .ref (h 0)), (1, .int a1), (2, .int x5), (3, .int x6)]) hx hb dX7_without_106 hl (by decide) rfl (fun ls hl => ?_)
              refine lv_iload_n hx hb dX7_without_108 rfl (lv_at hl 4 rfl) ?_
              refine lv_aload_n hx hb dX7_without_109 rfl (lv_at hl 1 rfl) ?_
              refine g_getr (k := 3) C G cl7 (C7 ok7_0) (j := 1) (by decide) (F7_1 ok7_0) k1_232 dX7_without_110 ?_
              refine g_getrN (k := 12) C G cl3 (C3 (O7_1 ok7_0)) (j := 3) (by decide) (F3_3 (O7_1 ok7_0)) k1_158 dX7_without_113 ?_
              refine lv_iload_n hx hb dX7_without_116 rfl (lv_at hl 2 rfl) ?_
              obtain ⟨hi117_13, hf⟩ := gd_some hf
              refine g_iald C G (A3_3 (O7_1 ok7_0)) (j := a1.toNatClampNeg) rfl hi117_13 dX7_without_117 ?_
              obtain ⟨x16, hj144, hf⟩ := bI1_some hf
              have K144 : ∀ (H : Heap) (locs : List Loc) (ls : Array Slot) , gG XSh D cy h A s st4 H locs → lv_has ls 6 [(0, .ref (h 0)), (1, .int a1), (2, .int x5), (3, .int x6), (4, .int x11)] → W p l e (gR 16) s m args below meth c H locs 0 0 (MQ below (gQi XSh D cy h A r stF) args s 0 0 A) (F0 m 144 ls [.int x16]) := by
                intro H locs ls G hl
                refine lv_istore (lv' := [(5, .int x16), (0, .ref (h 0)), (1, .int a1), (2, .int x5), (3, .int x6), (4, .int x11)]) hx hb dX7_without_144 hl (by decide) rfl (fun ls hl => ?_)
                refine lv_iload hx hb dX7_without_146 (lv_at hl 5 rfl) ?_
                refine lv_iload hx hb dX7_without_148 (lv_at hl 0 rfl) ?_
                refine lv_icmp_eq (tgt := 156) hx hb dX7_without_150 (by decide) (fun c19 => ?_) (fun c19 => ?_)
                · have hf := ifP c19 hf
                  obtain ⟨x20, ex20⟩ : ∃ z : Int32, z = (x6 + 1) := ⟨_, rfl⟩
                  have hf := lt_some ex20 hf
                  refine lv_iinc (v := x20) (lv' := [(3, .int x20), (5, .int x16), (0, .ref (h 0)), (1, .int a1), (2, .int x5), (4, .int x11)]) hx hb dX7_without_156 hl (k := 4) rfl (by rw [ex20]; rfl) (by decide) rfl (fun ls hl => ?_)
                  refine lv_goto (tgt := 46) hx hb dX7_without_159 (by decide) ?_
                  cases hf
                  exact ih _ _ _ _ _ G (lv_sub hl [2, 3, 4, 0] rfl) (hq1 _ rfl)
                · have hf := ifN c19 hf
                  obtain ⟨x21, ex21⟩ : ∃ z : Int32, z = (x5 + 1) := ⟨_, rfl⟩
                  have hf := lt_some ex21 hf
                  refine lv_iinc (v := x21) (lv' := [(2, .int x21), (5, .int x16), (0, .ref (h 0)), (1, .int a1), (3, .int x6), (4, .int x11)]) hx hb dX7_without_153 hl (k := 3) rfl (by rw [ex21]; rfl) (by decide) rfl (fun ls hl => ?_)
                  obtain ⟨x22, ex22⟩ : ∃ z : Int32, z = (x6 + 1) := ⟨_, rfl⟩
                  have hf := lt_some ex22 hf
                  refine lv_iinc (v := x22) (lv' := [(3, .int x22), (2, .int x21), (5, .int x16), (0, .ref (h 0)), (1, .int a1), (4, .int x11)]) hx hb dX7_without_156 hl (k := 4) rfl (by rw [ex22]; rfl) (by decide) rfl (fun ls hl => ?_)
                  refine lv_goto (tgt := 46) hx hb dX7_without_159 (by decide) ?_
                  cases hf
                  exact ih _ _ _ _ _ G (lv_sub hl [3, 4, 1, 0] rfl) (hq1 _ rfl)
              clear hf
              refine lv_icmp_ge (tgt := 133) hx hb dX7_without_118 (by decide) (fun c15 => ?_) (fun c15 => ?_)
              · have hf := ifP c15 hj144
                refine lv_aload_n hx hb dX7_without_133 rfl (lv_at hl 1 rfl) ?_
                refine g_getr (k := 3) C G cl7 (C7 ok7_0) (j := 1) (by decide) (F7_1 ok7_0) k1_232 dX7_without_134 ?_
                refine g_getrN (k := 11) C G cl3 (C3 (O7_1 ok7_0)) (j := 1) (by decide) (F3_1 (O7_1 ok7_0)) k1_154 dX7_without_137 ?_
                refine lv_iload_n hx hb dX7_without_140 rfl (lv_at hl 4 rfl) ?_
                refine lv_iconst (v := 1) hx hb dX7_without_141 (by decide) ?_
                refine lv_iadd hx hb dX7_without_142 ?_
                obtain ⟨hi143_16, hf⟩ := gd_some hf
                refine g_iald C G (A3_1 (O7_1 ok7_0)) (j := (x6 + 1).toNatClampNeg) rfl hi143_16 dX7_without_143 ?_
                cases hf
                exact K144 _ _ _ G (lv_sub hl [1, 2, 3, 4, 0] rfl)
              · have hf := ifN c15 hj144
                refine lv_aload_n hx hb dX7_without_121 rfl (lv_at hl 1 rfl) ?_
                refine g_getr (k := 3) C G cl7 (C7 ok7_0) (j := 1) (by decide) (F7_1 ok7_0) k1_232 dX7_without_122 ?_
                refine g_getrN (k := 11) C G cl3 (C3 (O7_1 ok7_0)) (j := 1) (by decide) (F3_1 (O7_1 ok7_0)) k1_154 dX7_without_125 ?_
                refine lv_iload_n hx hb dX7_without_128 rfl (lv_at hl 4 rfl) ?_
                obtain ⟨hi129_17, hf⟩ := gd_some hf
                refine g_iald C G (A3_1 (O7_1 ok7_0)) (j := x6.toNatClampNeg) rfl hi129_17 dX7_without_129 ?_
                refine lv_goto (tgt := 144) hx hb dX7_without_130 (by decide) ?_
                cases hf
                exact K144 _ _ _ G (lv_sub hl [1, 2, 3, 4, 0] rfl)
            clear hf
            refine lv_icmp_ge (tgt := 95) hx hb dX7_without_80 (by decide) (fun c10 => ?_) (fun c10 => ?_)
            · have hf := ifP c10 hj106
              refine lv_aload_n hx hb dX7_without_95 rfl (lv_at hl 0 rfl) ?_
              refine g_getr (k := 41) C G cl7 (C7 ok7_0) (j := 7) (by decide) (F7_7 ok7_0) k1_238 dX7_without_96 ?_
              refine g_getrN (k := 49) C G cl3 (C3 (O7_7 ok7_0)) (j := 1) (by decide) (F3_1 (O7_7 ok7_0)) k1_154 dX7_without_99 ?_
              refine lv_iload_n hx hb dX7_without_102 rfl (lv_at hl 3 rfl) ?_
              obtain ⟨hi103_11, hf⟩ := gd_some hf
              refine g_iald C G (A3_1 (O7_7 ok7_0)) (j := x6.toNatClampNeg) rfl hi103_11 dX7_without_103 ?_
              refine lv_iconst (v := 1) hx hb dX7_without_104 (by decide) ?_
              refine lv_iadd hx hb dX7_without_105 ?_
              cases hf
              exact K106 _ _ _ G hl
            · have hf := ifN c10 hj106
              refine lv_aload_n hx hb dX7_without_83 rfl (lv_at hl 0 rfl) ?_
              refine g_getr (k := 41) C G cl7 (C7 ok7_0) (j := 7) (by decide) (F7_7 ok7_0) k1_238 dX7_without_84 ?_
              refine g_getrN (k := 49) C G cl3 (C3 (O7_7 ok7_0)) (j := 1) (by decide) (F3_1 (O7_7 ok7_0)) k1_154 dX7_without_87 ?_
              refine lv_iload_n hx hb dX7_without_90 rfl (lv_at hl 3 rfl) ?_
              obtain ⟨hi91_12, hf⟩ := gd_some hf
              refine g_iald C G (A3_1 (O7_7 ok7_0)) (j := x6.toNatClampNeg) rfl hi91_12 dX7_without_91 ?_
              refine lv_goto (tgt := 106) hx hb dX7_without_92 (by decide) ?_
              cases hf
              exact K106 _ _ _ G hl
    exact L46 n _ _ _ _ _ G (lv_sub hl [2, 3, 1, 0] rfl) hn
  · have hf := ifP c2 hf
    refine lv_bipush (v := (-101)) hx hb dX7_without_14 (by decide) ?_
    cases hf
    exact g_iret C G hr hlocks dX7_without_16

noncomputable def f_X7_calm_L30 (x4 : Int32) (x7 : Int32) (x8 : Int32) (st9 : GS) : Option ((Int32 × Int32 × GS) ⊕ (Int32 × GS)) := 
(if 4 ≤ x8 then some (.inr (x7, st9)) else 
bI1 (f_X5_copy 42 4 st9) (fun st11 => 
gd x8 4 (gd x8 4 (bI1 (f_X5_shift 42 x4 (stR (x8.toNatClampNeg)) (stD (x8.toNatClampNeg)) st11) (fun st14 => 
bI1 (f_X3_renew 41 st14) (fun st15 => 
bI1 (f_X3_isOrderedLike 41 3 st15) (fun r16 => 
(if r16 = 0 then lt_ (x8 + 1) (fun x18 => 
some (.inl (x7, x18, st15))) else 
lt_ (x7 + 1) (fun x19 => 
lt_ (x8 + 1) (fun x20 => 
some (.inl (x19, x20, st15))))))))))))
noncomputable def f_X7_calm_L14  (x3 : Int32) (x4 : Int32) (st5 : GS) : Option ((Int32 × Int32 × GS) ⊕ (Int32 × GS)) := 
(if (gt st5 4 5) ≤ x4 then some (.inr (x3, st5)) else 
bI2 (lpx (uc3 (f_X7_calm_L30 x4)) (x3, 0, st5)) (fun x21 st22 => 
lt_ (x4 + 1) (fun x23 => 
some (.inl (x21, x23, st22)))))
noncomputable def f_X7_calm (st : GS) : Option (Int32 × GS) := 
bI1 (f_X7_hasNoPage st) (fun r1 => 
(if r1 = 0 then bI2 (lpx (uc3 f_X7_calm_L14) (0, 0, st)) (fun x24 st25 => 
some ((x24, st25))) else 
some (((-103), st))))
set_option maxRecDepth 100000 in
set_option maxHeartbeats 4000000 in
theorem c_X7_calm (l : Launch) (D : va_G) (cy : ClassId) (h : Nat → Nat)  (st : GS) (r : Int32) (stF : GS) (hf : f_X7_calm st = some (r, stF)) : gMi l XSh D cy h yX7_calm cX7_calm 4 (some .int) 16 st [.ref (h 0)] r stF := by
  unfold f_X7_calm at hf
  refine gMi_of (by decide) (Nat.le_of_ble_eq_true rfl) ?_
  intro p e s m args below meth c A ls C hr hlocks G hl
  have C : gC p s m args c cX7_calm 4 "LaneOrder" XSh D cy h A := C
  have hl : lv_has ls 4 [(0, .ref (h 0))] := hl
  have hx := C.1
  have hb := C.2.1
  have hown := C.2.2.2.1
  have htb := C.2.2.2.2.1
  refine lv_aload_n hx hb dX7_calm_0 rfl (lv_at hl 0 rfl) ?_
  obtain ⟨r1, hc1_1, hf⟩ := bI1_some hf
  refine g_callVi C G (As := []) (rest := []) (c_X7_hasNoPage l D cy h st r1 hc1_1) cl7 rfl (C7 ok7_0) v_X7_182 (Nat.le_of_ble_eq_true rfl) (Nat.le_of_ble_eq_true rfl) rfl hl.1 rfl (Nat.le_of_ble_eq_true rfl) dX7_calm_1 ⟨Nat.zero_le _, Nat.zero_le _⟩ (fun H locs G => ?_)
  refine lv_if_eq (tgt := 10) hx hb dX7_calm_4 (by decide) (fun c2 => ?_) (fun c2 => ?_)
  · have hf := ifP c2 hf
    refine lv_iconst (v := 0) hx hb dX7_calm_10 (by decide) ?_
    refine lv_istore_n (lv' := [(1, .int 0), (0, .ref (h 0))]) hx hb dX7_calm_11 rfl hl (by decide) rfl (fun ls hl => ?_)
    refine lv_iconst (v := 0) hx hb dX7_calm_12 (by decide) ?_
    refine lv_istore_n (lv' := [(2, .int 0), (1, .int 0), (0, .ref (h 0))]) hx hb dX7_calm_13 rfl hl (by decide) rfl (fun ls hl => ?_)
    obtain ⟨x24, st25, hn, hf⟩ := bI2_some hf
    obtain ⟨n, hn⟩ := lpx_some hn
    have K112 : ∀ (H : Heap) (locs : List Loc) (ls : Array Slot), gG XSh D cy h A s st25 H locs → lv_has ls 4 [(1, .int x24)] → W p l e (gR 16) s m args below meth c H locs 0 0 (MQ below (gQi XSh D cy h A r stF) args s 0 0 A) (F0 m 112 ls []) := by
      intro H locs ls G hl
      refine lv_iload_n hx hb dX7_calm_112 rfl (lv_at hl 0 rfl) ?_
      cases hf
      exact g_iret C G hr hlocks dX7_calm_113
    have L14 : ∀ (n : Nat) (x3 : Int32) (x4 : Int32) (st5 : GS) (H : Heap) (locs : List Loc) (ls : Array Slot), gG XSh D cy h A s st5 H locs → lv_has ls 4 [(0, .ref (h 0)), (1, .int x3), (2, .int x4)] → lp (uc3 f_X7_calm_L14) n (x3, x4, st5) = some (x24, st25) → W p l e (gR 16) s m args below meth c H locs 0 0 (MQ below (gQi XSh D cy h A r stF) args s 0 0 A) (F0 m 14 ls []) := by
      intro n
      induction n with
      | zero =>
        intro x3 x4 st5 H locs ls G hl hn
        cases hn
      | succ n ih =>
        intro x3 x4 st5 H locs ls G hl hn
        obtain ⟨q, hf, hq1, hq2⟩ := lp_q hn
        have hf : f_X7_calm_L14 x3 x4 st5 = some q := hf
        unfold f_X7_calm_L14 at hf
        refine lv_iload_n hx hb dX7_calm_14 rfl (lv_at hl 2 rfl) ?_
        refine lv_aload_n hx hb dX7_calm_15 rfl (lv_at hl 0 rfl) ?_
        refine g_getr (k := 3) C G cl7 (C7 ok7_0) (j := 1) (by decide) (F7_1 ok7_0) k1_232 dX7_calm_16 ?_
        refine g_getrN (k := 4) C G cl3 (C3 (O7_1 ok7_0)) (j := 0) (by decide) (F3_0 (O7_1 ok7_0)) k1_152 dX7_calm_19 ?_
        refine g_getiN C G cl5 (C5 (O3_0 (O7_1 ok7_0))) (j := 5) (by decide) (F5_5 (O3_0 (O7_1 ok7_0))) k1_71 dX7_calm_22 ?_
        refine lv_icmp_ge (tgt := 112) hx hb dX7_calm_25 (by decide) (fun c6 => ?_) (fun c6 => ?_)
        · have hf := ifP c6 hf
          cases hf
          have hz9 := hq2 _ rfl
          cases hz9
          exact K112 _ _ _ G (lv_sub hl [1] rfl)
        · have hf := ifN c6 hf
          refine lv_iconst (v := 0) hx hb dX7_calm_28 (by decide) ?_
          refine lv_istore_n (lv' := [(3, .int 0), (0, .ref (h 0)), (1, .int x3), (2, .int x4)]) hx hb dX7_calm_29 rfl hl (by decide) rfl (fun ls hl => ?_)
          obtain ⟨x21, st22, hn, hf⟩ := bI2_some hf
          obtain ⟨n, hn⟩ := lpx_some hn
          have K106 : ∀ (H : Heap) (locs : List Loc) (ls : Array Slot), gG XSh D cy h A s st22 H locs → lv_has ls 4 [(0, .ref (h 0)), (1, .int x21), (2, .int x4)] → W p l e (gR 16) s m args below meth c H locs 0 0 (MQ below (gQi XSh D cy h A r stF) args s 0 0 A) (F0 m 106 ls []) := by
            intro H locs ls G hl
            obtain ⟨x23, ex23⟩ : ∃ z : Int32, z = (x4 + 1) := ⟨_, rfl⟩
            have hf := lt_some ex23 hf
            refine lv_iinc (v := x23) (lv' := [(2, .int x23), (0, .ref (h 0)), (1, .int x21)]) hx hb dX7_calm_106 hl (k := 2) rfl (by rw [ex23]; rfl) (by decide) rfl (fun ls hl => ?_)
            refine lv_goto (tgt := 14) hx hb dX7_calm_109 (by decide) ?_
            cases hf
            exact ih _ _ _ _ _ _ G (lv_sub hl [1, 2, 0] rfl) (hq1 _ rfl)
          have L30 : ∀ (n : Nat) (x7 : Int32) (x8 : Int32) (st9 : GS) (H : Heap) (locs : List Loc) (ls : Array Slot), gG XSh D cy h A s st9 H locs → lv_has ls 4 [(0, .ref (h 0)), (1, .int x7), (2, .int x4), (3, .int x8)] → lp (uc3 (f_X7_calm_L30 x4)) n (x7, x8, st9) = some (x21, st22) → W p l e (gR 16) s m args below meth c H locs 0 0 (MQ below (gQi XSh D cy h A r stF) args s 0 0 A) (F0 m 30 ls []) := by
            intro n
            induction n with
            | zero =>
              intro x7 x8 st9 H locs ls G hl hn
              cases hn
            | succ n ih =>
              intro x7 x8 st9 H locs ls G hl hn
              obtain ⟨q, hf, hq1, hq2⟩ := lp_q hn
              have hf : f_X7_calm_L30 x4 x7 x8 st9 = some q := hf
              unfold f_X7_calm_L30 at hf
              refine lv_iload_n hx hb dX7_calm_30 rfl (lv_at hl 3 rfl) ?_
              refine g_stR C G k3_166 dX7_calm_31 ?_
              refine g_stRlen C G dX7_calm_34 ?_
              refine lv_icmp_ge (tgt := 106) hx hb dX7_calm_35 (by decide) (fun c10 => ?_) (fun c10 => ?_)
              · have hf := ifP c10 hf
                cases hf
                have hz9 := hq2 _ rfl
                cases hz9
                exact K106 _ _ _ G (lv_sub hl [0, 1, 2] rfl)
              · have hf := ifN c10 hf
                refine lv_aload_n hx hb dX7_calm_38 rfl (lv_at hl 0 rfl) ?_
                refine g_getr (k := 41) C G cl7 (C7 ok7_0) (j := 7) (by decide) (F7_7 ok7_0) k1_238 dX7_calm_39 ?_
                refine g_getrN (k := 42) C G cl3 (C3 (O7_7 ok7_0)) (j := 0) (by decide) (F3_0 (O7_7 ok7_0)) k1_152 dX7_calm_42 ?_
                refine lv_aload_n hx hb dX7_calm_45 rfl (lv_at hl 0 rfl) ?_
                refine g_getr (k := 3) C G cl7 (C7 ok7_0) (j := 1) (by decide) (F7_1 ok7_0) k1_232 dX7_calm_46 ?_
                refine g_getrN (k := 4) C G cl3 (C3 (O7_1 ok7_0)) (j := 0) (by decide) (F3_0 (O7_1 ok7_0)) k1_152 dX7_calm_49 ?_
                obtain ⟨st11, hc52_11, hf⟩ := bI1_some hf
                refine g_callVv C G (As := [.ref (h 4)]) (rest := []) (c_X5_copy l D cy h 42 (O3_0 (O7_7 ok7_0)) 4 (O3_0 (O7_1 ok7_0)) st9 st11 hc52_11) cl5 rfl (C5 (O3_0 (O7_7 ok7_0))) v_X7_224 (Nat.le_of_ble_eq_true rfl) (Nat.le_of_ble_eq_true rfl) rfl hl.1 rfl (Nat.le_of_ble_eq_true rfl) dX7_calm_52 ⟨Nat.zero_le _, Nat.zero_le _⟩ (fun H locs G => ?_)
                refine lv_aload_n hx hb dX7_calm_55 rfl (lv_at hl 0 rfl) ?_
                refine g_getr (k := 41) C G cl7 (C7 ok7_0) (j := 7) (by decide) (F7_7 ok7_0) k1_238 dX7_calm_56 ?_
                refine g_getrN (k := 42) C G cl3 (C3 (O7_7 ok7_0)) (j := 0) (by decide) (F3_0 (O7_7 ok7_0)) k1_152 dX7_calm_59 ?_
                refine lv_iload_n hx hb dX7_calm_62 rfl (lv_at hl 2 rfl) ?_
                refine g_stR C G k3_166 dX7_calm_63 ?_
                refine lv_iload_n hx hb dX7_calm_66 rfl (lv_at hl 3 rfl) ?_
                obtain ⟨hi67_11, hf⟩ := gd_some hf
                refine g_stRld C G (j := x8.toNatClampNeg) rfl hi67_11 dX7_calm_67 ?_
                refine g_stD C G k3_169 dX7_calm_68 ?_
                refine lv_iload_n hx hb dX7_calm_71 rfl (lv_at hl 3 rfl) ?_
                obtain ⟨hi72_12, hf⟩ := gd_some hf
                refine g_stDld C G (j := x8.toNatClampNeg) rfl hi72_12 dX7_calm_72 ?_
                obtain ⟨st14, hc73_14, hf⟩ := bI1_some hf
                refine g_callVv C G (As := [.int x4, .int (stR (x8.toNatClampNeg)), .int (stD (x8.toNatClampNeg))]) (rest := []) (c_X5_shift l D cy h 42 (O3_0 (O7_7 ok7_0)) x4 (stR (x8.toNatClampNeg)) (stD (x8.toNatClampNeg)) st11 st14 hc73_14) cl5 rfl (C5 (O3_0 (O7_7 ok7_0))) v_X7_198 (Nat.le_of_ble_eq_true rfl) (Nat.le_of_ble_eq_true rfl) rfl hl.1 rfl (Nat.le_of_ble_eq_true rfl) dX7_calm_73 ⟨Nat.zero_le _, Nat.zero_le _⟩ (fun H locs G => ?_)
                refine lv_aload_n hx hb dX7_calm_76 rfl (lv_at hl 0 rfl) ?_
                refine g_getr (k := 41) C G cl7 (C7 ok7_0) (j := 7) (by decide) (F7_7 ok7_0) k1_238 dX7_calm_77 ?_
                obtain ⟨st15, hc80_15, hf⟩ := bI1_some hf
                refine g_callVv C G (As := []) (rest := []) (c_X3_renew l D cy h 41 (O7_7 ok7_0) st14 st15 hc80_15) cl3 rfl (C3 (O7_7 ok7_0)) v_X7_76 (Nat.le_of_ble_eq_true rfl) (Nat.le_of_ble_eq_true rfl) rfl hl.1 rfl (Nat.le_of_ble_eq_true rfl) dX7_calm_80 ⟨Nat.zero_le _, Nat.zero_le _⟩ (fun H locs G => ?_)
                refine lv_aload_n hx hb dX7_calm_83 rfl (lv_at hl 0 rfl) ?_
                refine g_getr (k := 41) C G cl7 (C7 ok7_0) (j := 7) (by decide) (F7_7 ok7_0) k1_238 dX7_calm_84 ?_
                refine lv_aload_n hx hb dX7_calm_87 rfl (lv_at hl 0 rfl) ?_
                refine g_getr (k := 3) C G cl7 (C7 ok7_0) (j := 1) (by decide) (F7_1 ok7_0) k1_232 dX7_calm_88 ?_
                obtain ⟨r16, hc91_16, hf⟩ := bI1_some hf
                refine g_callVi C G (As := [.ref (h 3)]) (rest := []) (c_X3_isOrderedLike l D cy h 41 (O7_7 ok7_0) 3 (O7_1 ok7_0) st15 r16 hc91_16) cl3 rfl (C3 (O7_7 ok7_0)) v_X7_230 (Nat.le_of_ble_eq_true rfl) (Nat.le_of_ble_eq_true rfl) rfl hl.1 rfl (Nat.le_of_ble_eq_true rfl) dX7_calm_91 ⟨Nat.zero_le _, Nat.zero_le _⟩ (fun H locs G => ?_)
                refine lv_if_eq (tgt := 100) hx hb dX7_calm_94 (by decide) (fun c17 => ?_) (fun c17 => ?_)
                · have hf := ifP c17 hf
                  obtain ⟨x18, ex18⟩ : ∃ z : Int32, z = (x8 + 1) := ⟨_, rfl⟩
                  have hf := lt_some ex18 hf
                  refine lv_iinc (v := x18) (lv' := [(3, .int x18), (0, .ref (h 0)), (1, .int x7), (2, .int x4)]) hx hb dX7_calm_100 hl (k := 3) rfl (by rw [ex18]; rfl) (by decide) rfl (fun ls hl => ?_)
                  refine lv_goto (tgt := 30) hx hb dX7_calm_103 (by decide) ?_
                  cases hf
                  exact ih _ _ _ _ _ _ G (lv_sub hl [1, 2, 3, 0] rfl) (hq1 _ rfl)
                · have hf := ifN c17 hf
                  obtain ⟨x19, ex19⟩ : ∃ z : Int32, z = (x7 + 1) := ⟨_, rfl⟩
                  have hf := lt_some ex19 hf
                  refine lv_iinc (v := x19) (lv' := [(1, .int x19), (0, .ref (h 0)), (2, .int x4), (3, .int x8)]) hx hb dX7_calm_97 hl (k := 1) rfl (by rw [ex19]; rfl) (by decide) rfl (fun ls hl => ?_)
                  obtain ⟨x20, ex20⟩ : ∃ z : Int32, z = (x8 + 1) := ⟨_, rfl⟩
                  have hf := lt_some ex20 hf
                  refine lv_iinc (v := x20) (lv' := [(3, .int x20), (1, .int x19), (0, .ref (h 0)), (2, .int x4)]) hx hb dX7_calm_100 hl (k := 3) rfl (by rw [ex20]; rfl) (by decide) rfl (fun ls hl => ?_)
                  refine lv_goto (tgt := 30) hx hb dX7_calm_103 (by decide) ?_
                  cases hf
                  exact ih _ _ _ _ _ _ G (lv_sub hl [2, 1, 3, 0] rfl) (hq1 _ rfl)
          exact L30 n _ _ _ _ _ _ G (lv_sub hl [1, 2, 3, 0] rfl) hn
    exact L14 n _ _ _ _ _ _ G (lv_sub hl [2, 1, 0] rfl) hn
  · have hf := ifN c2 hf
    refine lv_bipush (v := (-103)) hx hb dX7_calm_7 (by decide) ?_
    cases hf
    exact g_iret C G hr hlocks dX7_calm_9

noncomputable def f_X7_idle_L32  (x4 : Int32) (x5 : Int32) (st6 : GS) : Option ((Int32 × Int32 × GS) ⊕ (Int32 × GS)) := 
(if (gt st6 4 7) ≤ x5 then some (.inr (x4, st6)) else 
bI1 (f_X5_copy 42 4 st6) (fun st8 => 
bI1 (f_X5_dropRule 42 x5 st8) (fun st9 => 
bI1 (f_X3_renew 41 st9) (fun st10 => 
bI1 (f_X3_isOrderedLike 41 3 st10) (fun r11 => 
(if r11 = 0 then lt_ (x5 + 1) (fun x13 => 
some (.inl (x4, x13, st10))) else 
gd x5 4 (lt_ (x4 ||| (ishl 1 (gt st10 10 (x5.toNatClampNeg)))) (fun x15 => 
lt_ (x5 + 1) (fun x16 => 
some (.inl (x15, x16, st10)))))))))))
noncomputable def f_X7_idle (st : GS) : Option (Int32 × GS) := 
bI1 (f_X7_hasNoPage st) (fun r1 => 
(if r1 = 0 then (if (gt st 4 7) = 1 then some ((0, st)) else 
bI2 (lpx (uc3 f_X7_idle_L32) (0, 0, st)) (fun x17 st18 => 
some ((x17, st18)))) else 
some (((-103), st))))
set_option maxRecDepth 100000 in
set_option maxHeartbeats 4000000 in
theorem c_X7_idle (l : Launch) (D : va_G) (cy : ClassId) (h : Nat → Nat)  (st : GS) (r : Int32) (stF : GS) (hf : f_X7_idle st = some (r, stF)) : gMi l XSh D cy h yX7_idle cX7_idle 4 (some .int) 16 st [.ref (h 0)] r stF := by
  unfold f_X7_idle at hf
  refine gMi_of (by decide) (Nat.le_of_ble_eq_true rfl) ?_
  intro p e s m args below meth c A ls C hr hlocks G hl
  have C : gC p s m args c cX7_idle 4 "LaneOrder" XSh D cy h A := C
  have hl : lv_has ls 4 [(0, .ref (h 0))] := hl
  have hx := C.1
  have hb := C.2.1
  have hown := C.2.2.2.1
  have htb := C.2.2.2.2.1
  refine lv_aload_n hx hb dX7_idle_0 rfl (lv_at hl 0 rfl) ?_
  obtain ⟨r1, hc1_1, hf⟩ := bI1_some hf
  refine g_callVi C G (As := []) (rest := []) (c_X7_hasNoPage l D cy h st r1 hc1_1) cl7 rfl (C7 ok7_0) v_X7_182 (Nat.le_of_ble_eq_true rfl) (Nat.le_of_ble_eq_true rfl) rfl hl.1 rfl (Nat.le_of_ble_eq_true rfl) dX7_idle_1 ⟨Nat.zero_le _, Nat.zero_le _⟩ (fun H locs G => ?_)
  refine lv_if_eq (tgt := 10) hx hb dX7_idle_4 (by decide) (fun c2 => ?_) (fun c2 => ?_)
  · have hf := ifP c2 hf
    refine lv_aload_n hx hb dX7_idle_10 rfl (lv_at hl 0 rfl) ?_
    refine g_getr (k := 3) C G cl7 (C7 ok7_0) (j := 1) (by decide) (F7_1 ok7_0) k1_232 dX7_idle_11 ?_
    refine g_getrN (k := 4) C G cl3 (C3 (O7_1 ok7_0)) (j := 0) (by decide) (F3_0 (O7_1 ok7_0)) k1_152 dX7_idle_14 ?_
    refine lv_astore_n (lv' := [(1, .ref (h 4)), (0, .ref (h 0))]) hx hb dX7_idle_17 rfl hl (by decide) rfl (fun ls hl => ?_)
    refine lv_aload_n hx hb dX7_idle_18 rfl (lv_at hl 0 rfl) ?_
    refine g_getiN C G cl5 (C5 (O3_0 (O7_1 ok7_0))) (j := 7) (by decide) (F5_7 (O3_0 (O7_1 ok7_0))) k1_75 dX7_idle_19 ?_
    refine lv_iconst (v := 1) hx hb dX7_idle_22 (by decide) ?_
    refine lv_icmp_ne (tgt := 28) hx hb dX7_idle_23 (by decide) (fun c3 => ?_) (fun c3 => ?_)
    · have hf := ifN c3 hf
      refine lv_iconst (v := 0) hx hb dX7_idle_28 (by decide) ?_
      refine lv_istore_n (lv' := [(2, .int 0), (1, .ref (h 4)), (0, .ref (h 0))]) hx hb dX7_idle_29 rfl hl (by decide) rfl (fun ls hl => ?_)
      refine lv_iconst (v := 0) hx hb dX7_idle_30 (by decide) ?_
      refine lv_istore_n (lv' := [(3, .int 0), (2, .int 0), (1, .ref (h 4)), (0, .ref (h 0))]) hx hb dX7_idle_31 rfl hl (by decide) rfl (fun ls hl => ?_)
      obtain ⟨x17, st18, hn, hf⟩ := bI2_some hf
      obtain ⟨n, hn⟩ := lpx_some hn
      have K100 : ∀ (H : Heap) (locs : List Loc) (ls : Array Slot), gG XSh D cy h A s st18 H locs → lv_has ls 4 [(2, .int x17)] → W p l e (gR 16) s m args below meth c H locs 0 0 (MQ below (gQi XSh D cy h A r stF) args s 0 0 A) (F0 m 100 ls []) := by
        intro H locs ls G hl
        refine lv_iload_n hx hb dX7_idle_100 rfl (lv_at hl 0 rfl) ?_
        cases hf
        exact g_iret C G hr hlocks dX7_idle_101
      have L32 : ∀ (n : Nat) (x4 : Int32) (x5 : Int32) (st6 : GS) (H : Heap) (locs : List Loc) (ls : Array Slot), gG XSh D cy h A s st6 H locs → lv_has ls 4 [(0, .ref (h 0)), (1, .ref (h 4)), (2, .int x4), (3, .int x5)] → lp (uc3 f_X7_idle_L32) n (x4, x5, st6) = some (x17, st18) → W p l e (gR 16) s m args below meth c H locs 0 0 (MQ below (gQi XSh D cy h A r stF) args s 0 0 A) (F0 m 32 ls []) := by
        intro n
        induction n with
        | zero =>
          intro x4 x5 st6 H locs ls G hl hn
          cases hn
        | succ n ih =>
          intro x4 x5 st6 H locs ls G hl hn
          obtain ⟨q, hf, hq1, hq2⟩ := lp_q hn
          have hf : f_X7_idle_L32 x4 x5 st6 = some q := hf
          unfold f_X7_idle_L32 at hf
          refine lv_iload_n hx hb dX7_idle_32 rfl (lv_at hl 3 rfl) ?_
          refine lv_aload_n hx hb dX7_idle_33 rfl (lv_at hl 1 rfl) ?_
          refine g_getiN C G cl5 (C5 (O3_0 (O7_1 ok7_0))) (j := 7) (by decide) (F5_7 (O3_0 (O7_1 ok7_0))) k1_75 dX7_idle_34 ?_
          refine lv_icmp_ge (tgt := 100) hx hb dX7_idle_37 (by decide) (fun c7 => ?_) (fun c7 => ?_)
          · have hf := ifP c7 hf
            cases hf
            have hz9 := hq2 _ rfl
            cases hz9
            exact K100 _ _ _ G (lv_sub hl [2] rfl)
          · have hf := ifN c7 hf
            refine lv_aload_n hx hb dX7_idle_40 rfl (lv_at hl 0 rfl) ?_
            refine g_getr (k := 41) C G cl7 (C7 ok7_0) (j := 7) (by decide) (F7_7 ok7_0) k1_238 dX7_idle_41 ?_
            refine g_getrN (k := 42) C G cl3 (C3 (O7_7 ok7_0)) (j := 0) (by decide) (F3_0 (O7_7 ok7_0)) k1_152 dX7_idle_44 ?_
            refine lv_aload_n hx hb dX7_idle_47 rfl (lv_at hl 1 rfl) ?_
            obtain ⟨st8, hc48_8, hf⟩ := bI1_some hf
            refine g_callVv C G (As := [.ref (h 4)]) (rest := []) (c_X5_copy l D cy h 42 (O3_0 (O7_7 ok7_0)) 4 (O3_0 (O7_1 ok7_0)) st6 st8 hc48_8) cl5 rfl (C5 (O3_0 (O7_7 ok7_0))) v_X7_224 (Nat.le_of_ble_eq_true rfl) (Nat.le_of_ble_eq_true rfl) rfl hl.1 rfl (Nat.le_of_ble_eq_true rfl) dX7_idle_48 ⟨Nat.zero_le _, Nat.zero_le _⟩ (fun H locs G => ?_)
            refine lv_aload_n hx hb dX7_idle_51 rfl (lv_at hl 0 rfl) ?_
            refine g_getr (k := 41) C G cl7 (C7 ok7_0) (j := 7) (by decide) (F7_7 ok7_0) k1_238 dX7_idle_52 ?_
            refine g_getrN (k := 42) C G cl3 (C3 (O7_7 ok7_0)) (j := 0) (by decide) (F3_0 (O7_7 ok7_0)) k1_152 dX7_idle_55 ?_
            refine lv_iload_n hx hb dX7_idle_58 rfl (lv_at hl 3 rfl) ?_
            obtain ⟨st9, hc59_9, hf⟩ := bI1_some hf
            refine g_callVv C G (As := [.int x5]) (rest := []) (c_X5_dropRule l D cy h 42 (O3_0 (O7_7 ok7_0)) x5 st8 st9 hc59_9) cl5 rfl (C5 (O3_0 (O7_7 ok7_0))) v_X7_234 (Nat.le_of_ble_eq_true rfl) (Nat.le_of_ble_eq_true rfl) rfl hl.1 rfl (Nat.le_of_ble_eq_true rfl) dX7_idle_59 ⟨Nat.zero_le _, Nat.zero_le _⟩ (fun H locs G => ?_)
            refine lv_aload_n hx hb dX7_idle_62 rfl (lv_at hl 0 rfl) ?_
            refine g_getr (k := 41) C G cl7 (C7 ok7_0) (j := 7) (by decide) (F7_7 ok7_0) k1_238 dX7_idle_63 ?_
            obtain ⟨st10, hc66_10, hf⟩ := bI1_some hf
            refine g_callVv C G (As := []) (rest := []) (c_X3_renew l D cy h 41 (O7_7 ok7_0) st9 st10 hc66_10) cl3 rfl (C3 (O7_7 ok7_0)) v_X7_76 (Nat.le_of_ble_eq_true rfl) (Nat.le_of_ble_eq_true rfl) rfl hl.1 rfl (Nat.le_of_ble_eq_true rfl) dX7_idle_66 ⟨Nat.zero_le _, Nat.zero_le _⟩ (fun H locs G => ?_)
            refine lv_aload_n hx hb dX7_idle_69 rfl (lv_at hl 0 rfl) ?_
            refine g_getr (k := 41) C G cl7 (C7 ok7_0) (j := 7) (by decide) (F7_7 ok7_0) k1_238 dX7_idle_70 ?_
            refine lv_aload_n hx hb dX7_idle_73 rfl (lv_at hl 0 rfl) ?_
            refine g_getr (k := 3) C G cl7 (C7 ok7_0) (j := 1) (by decide) (F7_1 ok7_0) k1_232 dX7_idle_74 ?_
            obtain ⟨r11, hc77_11, hf⟩ := bI1_some hf
            refine g_callVi C G (As := [.ref (h 3)]) (rest := []) (c_X3_isOrderedLike l D cy h 41 (O7_7 ok7_0) 3 (O7_1 ok7_0) st10 r11 hc77_11) cl3 rfl (C3 (O7_7 ok7_0)) v_X7_230 (Nat.le_of_ble_eq_true rfl) (Nat.le_of_ble_eq_true rfl) rfl hl.1 rfl (Nat.le_of_ble_eq_true rfl) dX7_idle_77 ⟨Nat.zero_le _, Nat.zero_le _⟩ (fun H locs G => ?_)
            refine lv_if_eq (tgt := 94) hx hb dX7_idle_80 (by decide) (fun c12 => ?_) (fun c12 => ?_)
            · have hf := ifP c12 hf
              obtain ⟨x13, ex13⟩ : ∃ z : Int32, z = (x5 + 1) := ⟨_, rfl⟩
              have hf := lt_some ex13 hf
              refine lv_iinc (v := x13) (lv' := [(3, .int x13), (0, .ref (h 0)), (1, .ref (h 4)), (2, .int x4)]) hx hb dX7_idle_94 hl (k := 3) rfl (by rw [ex13]; rfl) (by decide) rfl (fun ls hl => ?_)
              refine lv_goto (tgt := 32) hx hb dX7_idle_97 (by decide) ?_
              cases hf
              exact ih _ _ _ _ _ _ G (lv_sub hl [1, 2, 3, 0] rfl) (hq1 _ rfl)
            · have hf := ifN c12 hf
              refine lv_iload_n hx hb dX7_idle_83 rfl (lv_at hl 2 rfl) ?_
              refine lv_iconst (v := 1) hx hb dX7_idle_84 (by decide) ?_
              refine lv_aload_n hx hb dX7_idle_85 rfl (lv_at hl 1 rfl) ?_
              refine g_getrN (k := 10) C G cl5 (C5 (O3_0 (O7_1 ok7_0))) (j := 6) (by decide) (F5_6 (O3_0 (O7_1 ok7_0))) k1_73 dX7_idle_86 ?_
              refine lv_iload_n hx hb dX7_idle_89 rfl (lv_at hl 3 rfl) ?_
              obtain ⟨hi90_13, hf⟩ := gd_some hf
              refine g_iald C G (A5_6 (O3_0 (O7_1 ok7_0))) (j := x5.toNatClampNeg) rfl hi90_13 dX7_idle_90 ?_
              refine g_ishl C dX7_idle_91 ?_
              refine lv_ior hx hb dX7_idle_92 ?_
              refine lv_topi (fun x15 ex15 => ?_)
              have hf := lt_some ex15 hf
              refine lv_istore_n (lv' := [(2, .int x15), (0, .ref (h 0)), (1, .ref (h 4)), (3, .int x5)]) hx hb dX7_idle_93 rfl hl (by decide) rfl (fun ls hl => ?_)
              obtain ⟨x16, ex16⟩ : ∃ z : Int32, z = (x5 + 1) := ⟨_, rfl⟩
              have hf := lt_some ex16 hf
              refine lv_iinc (v := x16) (lv' := [(3, .int x16), (2, .int x15), (0, .ref (h 0)), (1, .ref (h 4))]) hx hb dX7_idle_94 hl (k := 3) rfl (by rw [ex16]; rfl) (by decide) rfl (fun ls hl => ?_)
              refine lv_goto (tgt := 32) hx hb dX7_idle_97 (by decide) ?_
              cases hf
              exact ih _ _ _ _ _ _ G (lv_sub hl [2, 3, 1, 0] rfl) (hq1 _ rfl)
      exact L32 n _ _ _ _ _ _ G (lv_sub hl [3, 2, 1, 0] rfl) hn
    · have hf := ifP c3 hf
      refine lv_iconst (v := 0) hx hb dX7_idle_26 (by decide) ?_
      cases hf
      exact g_iret C G hr hlocks dX7_idle_27
  · have hf := ifN c2 hf
    refine lv_bipush (v := (-103)) hx hb dX7_idle_7 (by decide) ?_
    cases hf
    exact g_iret C G hr hlocks dX7_idle_9

noncomputable def f_X7_free_L32  (x4 : Int32) (x5 : Int32) (x6 : Int32) (st7 : GS) : Option ((Int32 × Int32 × Int32 × GS) ⊕ (Int32 × GS)) := 
(if (gt st7 4 5) ≤ x6 then some (.inr (x4, st7)) else 
bI1 (f_X5_copyWithout 42 4 x6 st7) (fun st9 => 
bI1 (f_X3_renew 41 st9) (fun st10 => 
(if (gt st10 54 5) ≤ x5 then lt_ (x6 + 1) (fun x12 => 
some (.inl (x4, x5, x12, st10))) else 
lt_ (gt st10 54 5) (fun x13 => 
lt_ (x6 + 1) (fun x14 => 
some (.inl (x6, x13, x14, st10))))))))
noncomputable def f_X7_free (st : GS) : Option (Int32 × GS) := 
bI1 (f_X7_hasNoPage st) (fun r1 => 
(if r1 = 0 then (if (gt st 4 5) = 1 then some (((-1), st)) else 
bI2 (lpx (uc4 f_X7_free_L32) ((-1), (-1), 0, st)) (fun x15 st16 => 
some ((x15, st16)))) else 
some (((-103), st))))
set_option maxRecDepth 100000 in
set_option maxHeartbeats 4000000 in
theorem c_X7_free (l : Launch) (D : va_G) (cy : ClassId) (h : Nat → Nat)  (st : GS) (r : Int32) (stF : GS) (hf : f_X7_free st = some (r, stF)) : gMi l XSh D cy h yX7_free cX7_free 4 (some .int) 16 st [.ref (h 0)] r stF := by
  unfold f_X7_free at hf
  refine gMi_of (by decide) (Nat.le_of_ble_eq_true rfl) ?_
  intro p e s m args below meth c A ls C hr hlocks G hl
  have C : gC p s m args c cX7_free 4 "LaneOrder" XSh D cy h A := C
  have hl : lv_has ls 4 [(0, .ref (h 0))] := hl
  have hx := C.1
  have hb := C.2.1
  have hown := C.2.2.2.1
  have htb := C.2.2.2.2.1
  refine lv_aload_n hx hb dX7_free_0 rfl (lv_at hl 0 rfl) ?_
  obtain ⟨r1, hc1_1, hf⟩ := bI1_some hf
  refine g_callVi C G (As := []) (rest := []) (c_X7_hasNoPage l D cy h st r1 hc1_1) cl7 rfl (C7 ok7_0) v_X7_182 (Nat.le_of_ble_eq_true rfl) (Nat.le_of_ble_eq_true rfl) rfl hl.1 rfl (Nat.le_of_ble_eq_true rfl) dX7_free_1 ⟨Nat.zero_le _, Nat.zero_le _⟩ (fun H locs G => ?_)
  refine lv_if_eq (tgt := 10) hx hb dX7_free_4 (by decide) (fun c2 => ?_) (fun c2 => ?_)
  · have hf := ifP c2 hf
    refine lv_aload_n hx hb dX7_free_10 rfl (lv_at hl 0 rfl) ?_
    refine g_getr (k := 3) C G cl7 (C7 ok7_0) (j := 1) (by decide) (F7_1 ok7_0) k1_232 dX7_free_11 ?_
    refine g_getrN (k := 4) C G cl3 (C3 (O7_1 ok7_0)) (j := 0) (by decide) (F3_0 (O7_1 ok7_0)) k1_152 dX7_free_14 ?_
    refine g_getiN C G cl5 (C5 (O3_0 (O7_1 ok7_0))) (j := 5) (by decide) (F5_5 (O3_0 (O7_1 ok7_0))) k1_71 dX7_free_17 ?_
    refine lv_iconst (v := 1) hx hb dX7_free_20 (by decide) ?_
    refine lv_icmp_ne (tgt := 26) hx hb dX7_free_21 (by decide) (fun c3 => ?_) (fun c3 => ?_)
    · have hf := ifN c3 hf
      refine lv_iconst (v := (-1)) hx hb dX7_free_26 (by decide) ?_
      refine lv_istore_n (lv' := [(1, .int (-1)), (0, .ref (h 0))]) hx hb dX7_free_27 rfl hl (by decide) rfl (fun ls hl => ?_)
      refine lv_iconst (v := (-1)) hx hb dX7_free_28 (by decide) ?_
      refine lv_istore_n (lv' := [(2, .int (-1)), (1, .int (-1)), (0, .ref (h 0))]) hx hb dX7_free_29 rfl hl (by decide) rfl (fun ls hl => ?_)
      refine lv_iconst (v := 0) hx hb dX7_free_30 (by decide) ?_
      refine lv_istore_n (lv' := [(3, .int 0), (2, .int (-1)), (1, .int (-1)), (0, .ref (h 0))]) hx hb dX7_free_31 rfl hl (by decide) rfl (fun ls hl => ?_)
      obtain ⟨x15, st16, hn, hf⟩ := bI2_some hf
      obtain ⟨n, hn⟩ := lpx_some hn
      have K104 : ∀ (H : Heap) (locs : List Loc) (ls : Array Slot), gG XSh D cy h A s st16 H locs → lv_has ls 4 [(1, .int x15)] → W p l e (gR 16) s m args below meth c H locs 0 0 (MQ below (gQi XSh D cy h A r stF) args s 0 0 A) (F0 m 104 ls []) := by
        intro H locs ls G hl
        refine lv_iload_n hx hb dX7_free_104 rfl (lv_at hl 0 rfl) ?_
        cases hf
        exact g_iret C G hr hlocks dX7_free_105
      have L32 : ∀ (n : Nat) (x4 : Int32) (x5 : Int32) (x6 : Int32) (st7 : GS) (H : Heap) (locs : List Loc) (ls : Array Slot), gG XSh D cy h A s st7 H locs → lv_has ls 4 [(0, .ref (h 0)), (1, .int x4), (2, .int x5), (3, .int x6)] → lp (uc4 f_X7_free_L32) n (x4, x5, x6, st7) = some (x15, st16) → W p l e (gR 16) s m args below meth c H locs 0 0 (MQ below (gQi XSh D cy h A r stF) args s 0 0 A) (F0 m 32 ls []) := by
        intro n
        induction n with
        | zero =>
          intro x4 x5 x6 st7 H locs ls G hl hn
          cases hn
        | succ n ih =>
          intro x4 x5 x6 st7 H locs ls G hl hn
          obtain ⟨q, hf, hq1, hq2⟩ := lp_q hn
          have hf : f_X7_free_L32 x4 x5 x6 st7 = some q := hf
          unfold f_X7_free_L32 at hf
          refine lv_iload_n hx hb dX7_free_32 rfl (lv_at hl 3 rfl) ?_
          refine lv_aload_n hx hb dX7_free_33 rfl (lv_at hl 0 rfl) ?_
          refine g_getr (k := 3) C G cl7 (C7 ok7_0) (j := 1) (by decide) (F7_1 ok7_0) k1_232 dX7_free_34 ?_
          refine g_getrN (k := 4) C G cl3 (C3 (O7_1 ok7_0)) (j := 0) (by decide) (F3_0 (O7_1 ok7_0)) k1_152 dX7_free_37 ?_
          refine g_getiN C G cl5 (C5 (O3_0 (O7_1 ok7_0))) (j := 5) (by decide) (F5_5 (O3_0 (O7_1 ok7_0))) k1_71 dX7_free_40 ?_
          refine lv_icmp_ge (tgt := 104) hx hb dX7_free_43 (by decide) (fun c8 => ?_) (fun c8 => ?_)
          · have hf := ifP c8 hf
            cases hf
            have hz9 := hq2 _ rfl
            cases hz9
            exact K104 _ _ _ G (lv_sub hl [1] rfl)
          · have hf := ifN c8 hf
            refine lv_aload_n hx hb dX7_free_46 rfl (lv_at hl 0 rfl) ?_
            refine g_getr (k := 41) C G cl7 (C7 ok7_0) (j := 7) (by decide) (F7_7 ok7_0) k1_238 dX7_free_47 ?_
            refine g_getrN (k := 42) C G cl3 (C3 (O7_7 ok7_0)) (j := 0) (by decide) (F3_0 (O7_7 ok7_0)) k1_152 dX7_free_50 ?_
            refine lv_aload_n hx hb dX7_free_53 rfl (lv_at hl 0 rfl) ?_
            refine g_getr (k := 3) C G cl7 (C7 ok7_0) (j := 1) (by decide) (F7_1 ok7_0) k1_232 dX7_free_54 ?_
            refine g_getrN (k := 4) C G cl3 (C3 (O7_1 ok7_0)) (j := 0) (by decide) (F3_0 (O7_1 ok7_0)) k1_152 dX7_free_57 ?_
            refine lv_iload_n hx hb dX7_free_60 rfl (lv_at hl 3 rfl) ?_
            obtain ⟨st9, hc61_9, hf⟩ := bI1_some hf
            refine g_callVv C G (As := [.ref (h 4), .int x6]) (rest := []) (c_X5_copyWithout l D cy h 42 (O3_0 (O7_7 ok7_0)) 4 (O3_0 (O7_1 ok7_0)) x6 st7 st9 hc61_9) cl5 rfl (C5 (O3_0 (O7_7 ok7_0))) v_X7_217 (Nat.le_of_ble_eq_true rfl) (Nat.le_of_ble_eq_true rfl) rfl hl.1 rfl (Nat.le_of_ble_eq_true rfl) dX7_free_61 ⟨Nat.zero_le _, Nat.zero_le _⟩ (fun H locs G => ?_)
            refine lv_aload_n hx hb dX7_free_64 rfl (lv_at hl 0 rfl) ?_
            refine g_getr (k := 41) C G cl7 (C7 ok7_0) (j := 7) (by decide) (F7_7 ok7_0) k1_238 dX7_free_65 ?_
            obtain ⟨st10, hc68_10, hf⟩ := bI1_some hf
            refine g_callVv C G (As := []) (rest := []) (c_X3_renew l D cy h 41 (O7_7 ok7_0) st9 st10 hc68_10) cl3 rfl (C3 (O7_7 ok7_0)) v_X7_76 (Nat.le_of_ble_eq_true rfl) (Nat.le_of_ble_eq_true rfl) rfl hl.1 rfl (Nat.le_of_ble_eq_true rfl) dX7_free_68 ⟨Nat.zero_le _, Nat.zero_le _⟩ (fun H locs G => ?_)
            refine lv_aload_n hx hb dX7_free_71 rfl (lv_at hl 0 rfl) ?_
            refine g_getr (k := 41) C G cl7 (C7 ok7_0) (j := 7) (by decide) (F7_7 ok7_0) k1_238 dX7_free_72 ?_
            refine g_getrN (k := 54) C G cl3 (C3 (O7_7 ok7_0)) (j := 8) (by decide) (F3_8 (O7_7 ok7_0)) k1_167 dX7_free_75 ?_
            refine g_getiN C G cl0 (C0 (O3_8 (O7_7 ok7_0))) (j := 5) (by decide) (F0_5 (O3_8 (O7_7 ok7_0))) k1_110 dX7_free_78 ?_
            refine lv_iload_n hx hb dX7_free_81 rfl (lv_at hl 2 rfl) ?_
            refine lv_icmp_le (tgt := 98) hx hb dX7_free_82 (by decide) (fun c11 => ?_) (fun c11 => ?_)
            · have hf := ifP c11 hf
              obtain ⟨x12, ex12⟩ : ∃ z : Int32, z = (x6 + 1) := ⟨_, rfl⟩
              have hf := lt_some ex12 hf
              refine lv_iinc (v := x12) (lv' := [(3, .int x12), (0, .ref (h 0)), (1, .int x4), (2, .int x5)]) hx hb dX7_free_98 hl (k := 3) rfl (by rw [ex12]; rfl) (by decide) rfl (fun ls hl => ?_)
              refine lv_goto (tgt := 32) hx hb dX7_free_101 (by decide) ?_
              cases hf
              exact ih _ _ _ _ _ _ _ G (lv_sub hl [1, 2, 3, 0] rfl) (hq1 _ rfl)
            · have hf := ifN c11 hf
              refine lv_aload_n hx hb dX7_free_85 rfl (lv_at hl 0 rfl) ?_
              refine g_getr (k := 41) C G cl7 (C7 ok7_0) (j := 7) (by decide) (F7_7 ok7_0) k1_238 dX7_free_86 ?_
              refine g_getrN (k := 54) C G cl3 (C3 (O7_7 ok7_0)) (j := 8) (by decide) (F3_8 (O7_7 ok7_0)) k1_167 dX7_free_89 ?_
              refine g_getiN C G cl0 (C0 (O3_8 (O7_7 ok7_0))) (j := 5) (by decide) (F0_5 (O3_8 (O7_7 ok7_0))) k1_110 dX7_free_92 ?_
              refine lv_topi (fun x13 ex13 => ?_)
              have hf := lt_some ex13 hf
              refine lv_istore_n (lv' := [(2, .int x13), (0, .ref (h 0)), (1, .int x4), (3, .int x6)]) hx hb dX7_free_95 rfl hl (by decide) rfl (fun ls hl => ?_)
              refine lv_iload_n hx hb dX7_free_96 rfl (lv_at hl 3 rfl) ?_
              refine lv_istore_n (lv' := [(1, .int x6), (2, .int x13), (0, .ref (h 0)), (3, .int x6)]) hx hb dX7_free_97 rfl hl (by decide) rfl (fun ls hl => ?_)
              obtain ⟨x14, ex14⟩ : ∃ z : Int32, z = (x6 + 1) := ⟨_, rfl⟩
              have hf := lt_some ex14 hf
              refine lv_iinc (v := x14) (lv' := [(3, .int x14), (1, .int x6), (2, .int x13), (0, .ref (h 0))]) hx hb dX7_free_98 hl (k := 3) rfl (by rw [ex14]; rfl) (by decide) rfl (fun ls hl => ?_)
              refine lv_goto (tgt := 32) hx hb dX7_free_101 (by decide) ?_
              cases hf
              exact ih _ _ _ _ _ _ _ G (lv_sub hl [3, 1, 2, 0] rfl) (hq1 _ rfl)
      exact L32 n _ _ _ _ _ _ _ G (lv_sub hl [3, 2, 1, 0] rfl) hn
    · have hf := ifP c3 hf
      refine lv_iconst (v := (-1)) hx hb dX7_free_24 (by decide) ?_
      cases hf
      exact g_iret C G hr hlocks dX7_free_25
  · have hf := ifN c2 hf
    refine lv_bipush (v := (-103)) hx hb dX7_free_7 (by decide) ?_
    cases hf
    exact g_iret C G hr hlocks dX7_free_9

noncomputable def f_X7_see (a1 : Int32) (a2 : Int32) (a3 : Int32) (st : GS) : Option (Int32 × GS) := 
bI1 (f_X5_has 4 a1 st) (fun r1 => 
(if r1 = 0 then some (((-101), st)) else 
(if a2 < 0 then some (((-102), st)) else 
(if a2 < 4 then (if (gt st 28 2) < 6 then bI1 (f_X4_add 28 a1 a2 a3 st) (fun st6 => 
some (((gt st6 28 2), st6))) else 
some (((-104), st))) else 
some (((-102), st))))))
set_option maxRecDepth 100000 in
set_option maxHeartbeats 4000000 in
theorem c_X7_see (l : Launch) (D : va_G) (cy : ClassId) (h : Nat → Nat) (a1 : Int32) (a2 : Int32) (a3 : Int32) (st : GS) (r : Int32) (stF : GS) (hf : f_X7_see a1 a2 a3 st = some (r, stF)) : gMi l XSh D cy h yX7_see cX7_see 4 (some .int) 3 st [.ref (h 0), .int a1, .int a2, .int a3] r stF := by
  unfold f_X7_see at hf
  refine gMi_of (by decide) (Nat.le_of_ble_eq_true rfl) ?_
  intro p e s m args below meth c A ls C hr hlocks G hl
  have C : gC p s m args c cX7_see 4 "LaneOrder" XSh D cy h A := C
  have hl : lv_has ls 4 [(0, .ref (h 0)), (1, .int a1), (2, .int a2), (3, .int a3)] := hl
  have hx := C.1
  have hb := C.2.1
  have hown := C.2.2.2.1
  have htb := C.2.2.2.2.1
  refine lv_aload_n hx hb dX7_see_0 rfl (lv_at hl 0 rfl) ?_
  refine g_getr (k := 3) C G cl7 (C7 ok7_0) (j := 1) (by decide) (F7_1 ok7_0) k1_232 dX7_see_1 ?_
  refine g_getrN (k := 4) C G cl3 (C3 (O7_1 ok7_0)) (j := 0) (by decide) (F3_0 (O7_1 ok7_0)) k1_152 dX7_see_4 ?_
  refine lv_iload_n hx hb dX7_see_7 rfl (lv_at hl 1 rfl) ?_
  obtain ⟨r1, hc8_1, hf⟩ := bI1_some hf
  refine g_callVi C G (As := [.int a1]) (rest := []) (c_X5_has l D cy h 4 (O3_0 (O7_1 ok7_0)) a1 st r1 hc8_1) cl5 rfl (C5 (O3_0 (O7_1 ok7_0))) v_X7_90 (Nat.le_of_ble_eq_true rfl) (Nat.le_of_ble_eq_true rfl) rfl hl.1 rfl (Nat.le_of_ble_eq_true rfl) dX7_see_8 ⟨Nat.zero_le _, Nat.zero_le _⟩ (fun H locs G => ?_)
  refine lv_if_ne (tgt := 17) hx hb dX7_see_11 (by decide) (fun c2 => ?_) (fun c2 => ?_)
  · have hf := ifN c2 hf
    refine lv_iload_n hx hb dX7_see_17 rfl (lv_at hl 2 rfl) ?_
    refine lv_if_lt (tgt := 26) hx hb dX7_see_18 (by decide) (fun c3 => ?_) (fun c3 => ?_)
    · have hf := ifP c3 hf
      refine lv_bipush (v := (-102)) hx hb dX7_see_26 (by decide) ?_
      cases hf
      exact g_iret C G hr hlocks dX7_see_28
    · have hf := ifN c3 hf
      refine lv_iload_n hx hb dX7_see_21 rfl (lv_at hl 2 rfl) ?_
      refine lv_iconst (v := 4) hx hb dX7_see_22 (by decide) ?_
      refine lv_icmp_lt (tgt := 29) hx hb dX7_see_23 (by decide) (fun c4 => ?_) (fun c4 => ?_)
      · have hf := ifP c4 hf
        refine lv_aload_n hx hb dX7_see_29 rfl (lv_at hl 0 rfl) ?_
        refine g_getr (k := 28) C G cl7 (C7 ok7_0) (j := 2) (by decide) (F7_2 ok7_0) k1_233 dX7_see_30 ?_
        refine g_getiN C G cl4 (C4 (O7_2 ok7_0)) (j := 2) (by decide) (F4_2 (O7_2 ok7_0)) k1_210 dX7_see_33 ?_
        refine lv_bipush (v := 6) hx hb dX7_see_36 (by decide) ?_
        refine lv_icmp_lt (tgt := 44) hx hb dX7_see_38 (by decide) (fun c5 => ?_) (fun c5 => ?_)
        · have hf := ifP c5 hf
          refine lv_aload_n hx hb dX7_see_44 rfl (lv_at hl 0 rfl) ?_
          refine g_getr (k := 28) C G cl7 (C7 ok7_0) (j := 2) (by decide) (F7_2 ok7_0) k1_233 dX7_see_45 ?_
          refine lv_iload_n hx hb dX7_see_48 rfl (lv_at hl 1 rfl) ?_
          refine lv_iload_n hx hb dX7_see_49 rfl (lv_at hl 2 rfl) ?_
          refine lv_iload_n hx hb dX7_see_50 rfl (lv_at hl 3 rfl) ?_
          obtain ⟨st6, hc51_6, hf⟩ := bI1_some hf
          refine g_callVv C G (As := [.int a1, .int a2, .int a3]) (rest := []) (c_X4_add l D cy h 28 (O7_2 ok7_0) a1 a2 a3 st st6 hc51_6) cl4 rfl (C4 (O7_2 ok7_0)) v_X7_241 (Nat.le_of_ble_eq_true rfl) (Nat.le_of_ble_eq_true rfl) rfl hl.1 rfl (Nat.le_of_ble_eq_true rfl) dX7_see_51 ⟨Nat.zero_le _, Nat.zero_le _⟩ (fun H locs G => ?_)
          refine lv_aload_n hx hb dX7_see_54 rfl (lv_at hl 0 rfl) ?_
          refine g_getr (k := 28) C G cl7 (C7 ok7_0) (j := 2) (by decide) (F7_2 ok7_0) k1_233 dX7_see_55 ?_
          refine g_getiN C G cl4 (C4 (O7_2 ok7_0)) (j := 2) (by decide) (F4_2 (O7_2 ok7_0)) k1_210 dX7_see_58 ?_
          cases hf
          exact g_iret C G hr hlocks dX7_see_61
        · have hf := ifN c5 hf
          refine lv_bipush (v := (-104)) hx hb dX7_see_41 (by decide) ?_
          cases hf
          exact g_iret C G hr hlocks dX7_see_43
      · have hf := ifN c4 hf
        refine lv_bipush (v := (-102)) hx hb dX7_see_26 (by decide) ?_
        cases hf
        exact g_iret C G hr hlocks dX7_see_28
  · have hf := ifP c2 hf
    refine lv_bipush (v := (-101)) hx hb dX7_see_14 (by decide) ?_
    cases hf
    exact g_iret C G hr hlocks dX7_see_16

noncomputable def f_X7_forget (st : GS) : Option (Int32 × GS) := 
lt_ (gt st 28 2) (fun x1 => 
bI1 (f_X4_clear 28 st) (fun st2 => 
some ((x1, st2))))
set_option maxRecDepth 100000 in
set_option maxHeartbeats 4000000 in
theorem c_X7_forget (l : Launch) (D : va_G) (cy : ClassId) (h : Nat → Nat)  (st : GS) (r : Int32) (stF : GS) (hf : f_X7_forget st = some (r, stF)) : gMi l XSh D cy h yX7_forget cX7_forget 2 (some .int) 2 st [.ref (h 0)] r stF := by
  unfold f_X7_forget at hf
  refine gMi_of (by decide) (Nat.le_of_ble_eq_true rfl) ?_
  intro p e s m args below meth c A ls C hr hlocks G hl
  have C : gC p s m args c cX7_forget 2 "LaneOrder" XSh D cy h A := C
  have hl : lv_has ls 2 [(0, .ref (h 0))] := hl
  have hx := C.1
  have hb := C.2.1
  have hown := C.2.2.2.1
  have htb := C.2.2.2.2.1
  refine lv_aload_n hx hb dX7_forget_0 rfl (lv_at hl 0 rfl) ?_
  refine g_getr (k := 28) C G cl7 (C7 ok7_0) (j := 2) (by decide) (F7_2 ok7_0) k1_233 dX7_forget_1 ?_
  refine g_getiN C G cl4 (C4 (O7_2 ok7_0)) (j := 2) (by decide) (F4_2 (O7_2 ok7_0)) k1_210 dX7_forget_4 ?_
  refine lv_topi (fun x1 ex1 => ?_)
  have hf := lt_some ex1 hf
  refine lv_istore_n (lv' := [(1, .int x1), (0, .ref (h 0))]) hx hb dX7_forget_7 rfl hl (by decide) rfl (fun ls hl => ?_)
  refine lv_aload_n hx hb dX7_forget_8 rfl (lv_at hl 1 rfl) ?_
  refine g_getr (k := 28) C G cl7 (C7 ok7_0) (j := 2) (by decide) (F7_2 ok7_0) k1_233 dX7_forget_9 ?_
  obtain ⟨st2, hc12_2, hf⟩ := bI1_some hf
  refine g_callVv C G (As := []) (rest := []) (c_X4_clear l D cy h 28 (O7_2 ok7_0) st st2 hc12_2) cl4 rfl (C4 (O7_2 ok7_0)) v_X7_79 (Nat.le_of_ble_eq_true rfl) (Nat.le_of_ble_eq_true rfl) rfl hl.1 rfl (Nat.le_of_ble_eq_true rfl) dX7_forget_12 ⟨Nat.zero_le _, Nat.zero_le _⟩ (fun H locs G => ?_)
  refine lv_iload_n hx hb dX7_forget_15 rfl (lv_at hl 0 rfl) ?_
  cases hf
  exact g_iret C G hr hlocks dX7_forget_16

noncomputable def f_X7_drawn_L44 (a1 : Int32) (x7 : Int32) (x8 : Int32) (x9 : Int32) (st10 : GS) : Option ((Int32 × Int32 × Int32 × GS) ⊕ (Int32 × Int32 × GS)) := 
(if a1 ≤ x9 then some (.inr (x7, x8, st10)) else 
bI1 (f_X1_drawTo 42 st10) (fun st12 => 
bI1 (f_X3_renew 41 st12) (fun st13 => 
lt_ (x7 + (gt st13 54 5)) (fun x14 => 
bI1 (f_X3_isByNumber 41 st13) (fun r15 => 
(if r15 = 0 then lt_ (x9 + 1) (fun x17 => 
some (.inl (x14, x8, x17, st13))) else 
lt_ (x8 + 1) (fun x18 => 
lt_ (x9 + 1) (fun x19 => 
some (.inl (x14, x18, x19, st13))))))))))
noncomputable def f_X7_drawn (a1 : Int32) (a2 : Int32) (a3 : Int32) (st : GS) : Option (Int32 × GS) := 
(if a1 < 1 then some (((-102), st)) else 
(if 20 < a1 then some (((-102), st)) else 
(if a2 < 0 then some (((-102), st)) else 
(if a3 < 0 then some (((-102), st)) else 
(if a3 ≤ 2 then lt_ (sv st 66 0 a2) (fun st6 => 
bI3 (lpx (uc4 (f_X7_drawn_L44 a1)) (0, 0, 0, st6)) (fun x20 x21 st22 => 
(if a3 = 0 then some ((x20, st22)) else 
(if a3 = 1 then some ((x21, st22)) else 
some (((gt st22 66 0), st22)))))) else 
some (((-102), st)))))))
set_option maxRecDepth 100000 in
set_option maxHeartbeats 4000000 in
theorem c_X7_drawn (l : Launch) (D : va_G) (cy : ClassId) (h : Nat → Nat) (a1 : Int32) (a2 : Int32) (a3 : Int32) (st : GS) (r : Int32) (stF : GS) (hf : f_X7_drawn a1 a2 a3 st = some (r, stF)) : gMi l XSh D cy h yX7_drawn cX7_drawn 7 (some .int) 16 st [.ref (h 0), .int a1, .int a2, .int a3] r stF := by
  unfold f_X7_drawn at hf
  refine gMi_of (by decide) (Nat.le_of_ble_eq_true rfl) ?_
  intro p e s m args below meth c A ls C hr hlocks G hl
  have C : gC p s m args c cX7_drawn 7 "LaneOrder" XSh D cy h A := C
  have hl : lv_has ls 7 [(0, .ref (h 0)), (1, .int a1), (2, .int a2), (3, .int a3)] := hl
  have hx := C.1
  have hb := C.2.1
  have hown := C.2.2.2.1
  have htb := C.2.2.2.2.1
  refine lv_iload_n hx hb dX7_drawn_0 rfl (lv_at hl 1 rfl) ?_
  refine lv_iconst (v := 1) hx hb dX7_drawn_1 (by decide) ?_
  refine lv_icmp_lt (tgt := 24) hx hb dX7_drawn_2 (by decide) (fun c1 => ?_) (fun c1 => ?_)
  · have hf := ifP c1 hf
    refine lv_bipush (v := (-102)) hx hb dX7_drawn_24 (by decide) ?_
    cases hf
    exact g_iret C G hr hlocks dX7_drawn_26
  · have hf := ifN c1 hf
    refine lv_iload_n hx hb dX7_drawn_5 rfl (lv_at hl 1 rfl) ?_
    refine lv_bipush (v := 20) hx hb dX7_drawn_6 (by decide) ?_
    refine lv_icmp_gt (tgt := 24) hx hb dX7_drawn_8 (by decide) (fun c2 => ?_) (fun c2 => ?_)
    · have hf := ifP c2 hf
      refine lv_bipush (v := (-102)) hx hb dX7_drawn_24 (by decide) ?_
      cases hf
      exact g_iret C G hr hlocks dX7_drawn_26
    · have hf := ifN c2 hf
      refine lv_iload_n hx hb dX7_drawn_11 rfl (lv_at hl 2 rfl) ?_
      refine lv_if_lt (tgt := 24) hx hb dX7_drawn_12 (by decide) (fun c3 => ?_) (fun c3 => ?_)
      · have hf := ifP c3 hf
        refine lv_bipush (v := (-102)) hx hb dX7_drawn_24 (by decide) ?_
        cases hf
        exact g_iret C G hr hlocks dX7_drawn_26
      · have hf := ifN c3 hf
        refine lv_iload_n hx hb dX7_drawn_15 rfl (lv_at hl 3 rfl) ?_
        refine lv_if_lt (tgt := 24) hx hb dX7_drawn_16 (by decide) (fun c4 => ?_) (fun c4 => ?_)
        · have hf := ifP c4 hf
          refine lv_bipush (v := (-102)) hx hb dX7_drawn_24 (by decide) ?_
          cases hf
          exact g_iret C G hr hlocks dX7_drawn_26
        · have hf := ifN c4 hf
          refine lv_iload_n hx hb dX7_drawn_19 rfl (lv_at hl 3 rfl) ?_
          refine lv_iconst (v := 2) hx hb dX7_drawn_20 (by decide) ?_
          refine lv_icmp_le (tgt := 27) hx hb dX7_drawn_21 (by decide) (fun c5 => ?_) (fun c5 => ?_)
          · have hf := ifP c5 hf
            refine lv_aload_n hx hb dX7_drawn_27 rfl (lv_at hl 0 rfl) ?_
            refine g_getr (k := 66) C G cl7 (C7 ok7_0) (j := 8) (by decide) (F7_8 ok7_0) k1_239 dX7_drawn_28 ?_
            refine lv_iload_n hx hb dX7_drawn_31 rfl (lv_at hl 2 rfl) ?_
            refine g_putiN C G cl1 (C1 (O7_8 ok7_0)) (j := 0) (by decide) (F1_0 (O7_8 ok7_0)) k1_227 rfl rfl rfl dX7_drawn_32 (fun st6 est6 H locs G => ?_)
            have hf := lt_some est6 hf
            refine lv_iconst (v := 0) hx hb dX7_drawn_35 (by decide) ?_
            refine lv_istore (lv' := [(4, .int 0), (0, .ref (h 0)), (1, .int a1), (2, .int a2), (3, .int a3)]) hx hb dX7_drawn_36 hl (by decide) rfl (fun ls hl => ?_)
            refine lv_iconst (v := 0) hx hb dX7_drawn_38 (by decide) ?_
            refine lv_istore (lv' := [(5, .int 0), (4, .int 0), (0, .ref (h 0)), (1, .int a1), (2, .int a2), (3, .int a3)]) hx hb dX7_drawn_39 hl (by decide) rfl (fun ls hl => ?_)
            refine lv_iconst (v := 0) hx hb dX7_drawn_41 (by decide) ?_
            refine lv_istore (lv' := [(6, .int 0), (5, .int 0), (4, .int 0), (0, .ref (h 0)), (1, .int a1), (2, .int a2), (3, .int a3)]) hx hb dX7_drawn_42 hl (by decide) rfl (fun ls hl => ?_)
            obtain ⟨x20, x21, st22, hn, hf⟩ := bI3_some hf
            obtain ⟨n, hn⟩ := lpx_some hn
            have K105 : ∀ (H : Heap) (locs : List Loc) (ls : Array Slot), gG XSh D cy h A s st22 H locs → lv_has ls 7 [(0, .ref (h 0)), (3, .int a3), (4, .int x20), (5, .int x21)] → W p l e (gR 16) s m args below meth c H locs 0 0 (MQ below (gQi XSh D cy h A r stF) args s 0 0 A) (F0 m 105 ls []) := by
              intro H locs ls G hl
              refine lv_iload_n hx hb dX7_drawn_105 rfl (lv_at hl 1 rfl) ?_
              by_cases c23_0 : a3 = 0
              · have hf := ifP c23_0 hf
                refine lv_lookup (off := 26) (tgt := 132) hx hb dX7_drawn_106 (by decide) (by rw [c23_0] <;> rfl) (by decide) ?_
                refine lv_iload hx hb dX7_drawn_132 (lv_at hl 2 rfl) ?_
                cases hf
                exact g_iret C G hr hlocks dX7_drawn_134
              · have hf := ifN c23_0 hf
                by_cases c23_1 : a3 = 1
                · have hf := ifP c23_1 hf
                  refine lv_lookup (off := 29) (tgt := 135) hx hb dX7_drawn_106 (by decide) (by rw [c23_1] <;> rfl) (by decide) ?_
                  refine lv_iload hx hb dX7_drawn_135 (lv_at hl 3 rfl) ?_
                  cases hf
                  exact g_iret C G hr hlocks dX7_drawn_137
                · have hf := ifN c23_1 hf
                  refine lv_lookup (off := 32) (tgt := 138) hx hb dX7_drawn_106 (by decide) ((lv_osw c23_0 rfl).trans ((lv_osw c23_1 rfl).trans rfl)) (by decide) ?_
                  refine lv_aload_n hx hb dX7_drawn_138 rfl (lv_at hl 0 rfl) ?_
                  refine g_getr (k := 66) C G cl7 (C7 ok7_0) (j := 8) (by decide) (F7_8 ok7_0) k1_239 dX7_drawn_139 ?_
                  refine g_getiN C G cl1 (C1 (O7_8 ok7_0)) (j := 0) (by decide) (F1_0 (O7_8 ok7_0)) k1_227 dX7_drawn_142 ?_
                  cases hf
                  exact g_iret C G hr hlocks dX7_drawn_145
            have L44 : ∀ (n : Nat) (x7 : Int32) (x8 : Int32) (x9 : Int32) (st10 : GS) (H : Heap) (locs : List Loc) (ls : Array Slot), gG XSh D cy h A s st10 H locs → lv_has ls 7 [(0, .ref (h 0)), (1, .int a1), (3, .int a3), (4, .int x7), (5, .int x8), (6, .int x9)] → lp (uc4 (f_X7_drawn_L44 a1)) n (x7, x8, x9, st10) = some (x20, x21, st22) → W p l e (gR 16) s m args below meth c H locs 0 0 (MQ below (gQi XSh D cy h A r stF) args s 0 0 A) (F0 m 44 ls []) := by
              intro n
              induction n with
              | zero =>
                intro x7 x8 x9 st10 H locs ls G hl hn
                cases hn
              | succ n ih =>
                intro x7 x8 x9 st10 H locs ls G hl hn
                obtain ⟨q, hf, hq1, hq2⟩ := lp_q hn
                have hf : f_X7_drawn_L44 a1 x7 x8 x9 st10 = some q := hf
                unfold f_X7_drawn_L44 at hf
                refine lv_iload hx hb dX7_drawn_44 (lv_at hl 5 rfl) ?_
                refine lv_iload_n hx hb dX7_drawn_46 rfl (lv_at hl 1 rfl) ?_
                refine lv_icmp_ge (tgt := 105) hx hb dX7_drawn_47 (by decide) (fun c11 => ?_) (fun c11 => ?_)
                · have hf := ifP c11 hf
                  cases hf
                  have hz9 := hq2 _ rfl
                  cases hz9
                  exact K105 _ _ _ G (lv_sub hl [0, 2, 3, 4] rfl)
                · have hf := ifN c11 hf
                  refine lv_aload_n hx hb dX7_drawn_50 rfl (lv_at hl 0 rfl) ?_
                  refine g_getr (k := 66) C G cl7 (C7 ok7_0) (j := 8) (by decide) (F7_8 ok7_0) k1_239 dX7_drawn_51 ?_
                  refine lv_aload_n hx hb dX7_drawn_54 rfl (lv_at hl 0 rfl) ?_
                  refine g_getr (k := 41) C G cl7 (C7 ok7_0) (j := 7) (by decide) (F7_7 ok7_0) k1_238 dX7_drawn_55 ?_
                  refine g_getrN (k := 42) C G cl3 (C3 (O7_7 ok7_0)) (j := 0) (by decide) (F3_0 (O7_7 ok7_0)) k1_152 dX7_drawn_58 ?_
                  obtain ⟨st12, hc61_12, hf⟩ := bI1_some hf
                  refine g_callVv C G (As := [.ref (h 42)]) (rest := []) (c_X1_drawTo l D cy h 42 (O3_0 (O7_7 ok7_0)) st10 st12 hc61_12) cl1 rfl (C1 (O7_8 ok7_0)) v_X7_247 (Nat.le_of_ble_eq_true rfl) (Nat.le_of_ble_eq_true rfl) rfl hl.1 rfl (Nat.le_of_ble_eq_true rfl) dX7_drawn_61 ⟨Nat.zero_le _, Nat.zero_le _⟩ (fun H locs G => ?_)
                  refine lv_aload_n hx hb dX7_drawn_64 rfl (lv_at hl 0 rfl) ?_
                  refine g_getr (k := 41) C G cl7 (C7 ok7_0) (j := 7) (by decide) (F7_7 ok7_0) k1_238 dX7_drawn_65 ?_
                  obtain ⟨st13, hc68_13, hf⟩ := bI1_some hf
                  refine g_callVv C G (As := []) (rest := []) (c_X3_renew l D cy h 41 (O7_7 ok7_0) st12 st13 hc68_13) cl3 rfl (C3 (O7_7 ok7_0)) v_X7_76 (Nat.le_of_ble_eq_true rfl) (Nat.le_of_ble_eq_true rfl) rfl hl.1 rfl (Nat.le_of_ble_eq_true rfl) dX7_drawn_68 ⟨Nat.zero_le _, Nat.zero_le _⟩ (fun H locs G => ?_)
                  refine lv_iload hx hb dX7_drawn_71 (lv_at hl 3 rfl) ?_
                  refine lv_aload_n hx hb dX7_drawn_73 rfl (lv_at hl 0 rfl) ?_
                  refine g_getr (k := 41) C G cl7 (C7 ok7_0) (j := 7) (by decide) (F7_7 ok7_0) k1_238 dX7_drawn_74 ?_
                  refine g_getrN (k := 54) C G cl3 (C3 (O7_7 ok7_0)) (j := 8) (by decide) (F3_8 (O7_7 ok7_0)) k1_167 dX7_drawn_77 ?_
                  refine g_getiN C G cl0 (C0 (O3_8 (O7_7 ok7_0))) (j := 5) (by decide) (F0_5 (O3_8 (O7_7 ok7_0))) k1_110 dX7_drawn_80 ?_
                  refine lv_iadd hx hb dX7_drawn_83 ?_
                  refine lv_topi (fun x14 ex14 => ?_)
                  have hf := lt_some ex14 hf
                  refine lv_istore (lv' := [(4, .int x14), (0, .ref (h 0)), (1, .int a1), (3, .int a3), (5, .int x8), (6, .int x9)]) hx hb dX7_drawn_84 hl (by decide) rfl (fun ls hl => ?_)
                  refine lv_aload_n hx hb dX7_drawn_86 rfl (lv_at hl 1 rfl) ?_
                  refine g_getr (k := 41) C G cl7 (C7 ok7_0) (j := 7) (by decide) (F7_7 ok7_0) k1_238 dX7_drawn_87 ?_
                  obtain ⟨r15, hc90_15, hf⟩ := bI1_some hf
                  refine g_callVi C G (As := []) (rest := []) (c_X3_isByNumber l D cy h 41 (O7_7 ok7_0) st13 r15 hc90_15) cl3 rfl (C3 (O7_7 ok7_0)) v_X7_250 (Nat.le_of_ble_eq_true rfl) (Nat.le_of_ble_eq_true rfl) rfl hl.1 rfl (Nat.le_of_ble_eq_true rfl) dX7_drawn_90 ⟨Nat.zero_le _, Nat.zero_le _⟩ (fun H locs G => ?_)
                  refine lv_if_eq (tgt := 99) hx hb dX7_drawn_93 (by decide) (fun c16 => ?_) (fun c16 => ?_)
                  · have hf := ifP c16 hf
                    obtain ⟨x17, ex17⟩ : ∃ z : Int32, z = (x9 + 1) := ⟨_, rfl⟩
                    have hf := lt_some ex17 hf
                    refine lv_iinc (v := x17) (lv' := [(6, .int x17), (4, .int x14), (0, .ref (h 0)), (1, .int a1), (3, .int a3), (5, .int x8)]) hx hb dX7_drawn_99 hl (k := 5) rfl (by rw [ex17]; rfl) (by decide) rfl (fun ls hl => ?_)
                    refine lv_goto (tgt := 44) hx hb dX7_drawn_102 (by decide) ?_
                    cases hf
                    exact ih _ _ _ _ _ _ _ G (lv_sub hl [2, 3, 4, 1, 5, 0] rfl) (hq1 _ rfl)
                  · have hf := ifN c16 hf
                    obtain ⟨x18, ex18⟩ : ∃ z : Int32, z = (x8 + 1) := ⟨_, rfl⟩
                    have hf := lt_some ex18 hf
                    refine lv_iinc (v := x18) (lv' := [(5, .int x18), (4, .int x14), (0, .ref (h 0)), (1, .int a1), (3, .int a3), (6, .int x9)]) hx hb dX7_drawn_96 hl (k := 4) rfl (by rw [ex18]; rfl) (by decide) rfl (fun ls hl => ?_)
                    obtain ⟨x19, ex19⟩ : ∃ z : Int32, z = (x9 + 1) := ⟨_, rfl⟩
                    have hf := lt_some ex19 hf
                    refine lv_iinc (v := x19) (lv' := [(6, .int x19), (5, .int x18), (4, .int x14), (0, .ref (h 0)), (1, .int a1), (3, .int a3)]) hx hb dX7_drawn_99 hl (k := 5) rfl (by rw [ex19]; rfl) (by decide) rfl (fun ls hl => ?_)
                    refine lv_goto (tgt := 44) hx hb dX7_drawn_102 (by decide) ?_
                    cases hf
                    exact ih _ _ _ _ _ _ _ G (lv_sub hl [3, 4, 5, 2, 1, 0] rfl) (hq1 _ rfl)
            exact L44 n _ _ _ _ _ _ _ G (lv_sub hl [3, 4, 6, 2, 1, 0] rfl) hn
          · have hf := ifN c5 hf
            refine lv_bipush (v := (-102)) hx hb dX7_drawn_24 (by decide) ?_
            cases hf
            exact g_iret C G hr hlocks dX7_drawn_26

noncomputable def f_X7_image (st : GS) : Option (Int32 × GS) := 
bI1 (f_X7_hasNoPage st) (fun r1 => 
(if r1 = 0 then bI1 (f_X5_copy 31 4 st) (fun st3 => 
bI1 (f_X4_copy 38 28 st3) (fun st4 => 
lt_ (sv st4 0 5 1) (fun st5 => 
some (((gt st5 31 5), st5))))) else 
some (((-103), st))))
set_option maxRecDepth 100000 in
set_option maxHeartbeats 4000000 in
theorem c_X7_image (l : Launch) (D : va_G) (cy : ClassId) (h : Nat → Nat)  (st : GS) (r : Int32) (stF : GS) (hf : f_X7_image st = some (r, stF)) : gMi l XSh D cy h yX7_image cX7_image 1 (some .int) 2 st [.ref (h 0)] r stF := by
  unfold f_X7_image at hf
  refine gMi_of (by decide) (Nat.le_of_ble_eq_true rfl) ?_
  intro p e s m args below meth c A ls C hr hlocks G hl
  have C : gC p s m args c cX7_image 1 "LaneOrder" XSh D cy h A := C
  have hl : lv_has ls 1 [(0, .ref (h 0))] := hl
  have hx := C.1
  have hb := C.2.1
  have hown := C.2.2.2.1
  have htb := C.2.2.2.2.1
  refine lv_aload_n hx hb dX7_image_0 rfl (lv_at hl 0 rfl) ?_
  obtain ⟨r1, hc1_1, hf⟩ := bI1_some hf
  refine g_callVi C G (As := []) (rest := []) (c_X7_hasNoPage l D cy h st r1 hc1_1) cl7 rfl (C7 ok7_0) v_X7_182 (Nat.le_of_ble_eq_true rfl) (Nat.le_of_ble_eq_true rfl) rfl hl.1 rfl (Nat.le_of_ble_eq_true rfl) dX7_image_1 ⟨Nat.zero_le _, Nat.zero_le _⟩ (fun H locs G => ?_)
  refine lv_if_eq (tgt := 10) hx hb dX7_image_4 (by decide) (fun c2 => ?_) (fun c2 => ?_)
  · have hf := ifP c2 hf
    refine lv_aload_n hx hb dX7_image_10 rfl (lv_at hl 0 rfl) ?_
    refine g_getr (k := 31) C G cl7 (C7 ok7_0) (j := 3) (by decide) (F7_3 ok7_0) k1_234 dX7_image_11 ?_
    refine lv_aload_n hx hb dX7_image_14 rfl (lv_at hl 0 rfl) ?_
    refine g_getr (k := 3) C G cl7 (C7 ok7_0) (j := 1) (by decide) (F7_1 ok7_0) k1_232 dX7_image_15 ?_
    refine g_getrN (k := 4) C G cl3 (C3 (O7_1 ok7_0)) (j := 0) (by decide) (F3_0 (O7_1 ok7_0)) k1_152 dX7_image_18 ?_
    obtain ⟨st3, hc21_3, hf⟩ := bI1_some hf
    refine g_callVv C G (As := [.ref (h 4)]) (rest := []) (c_X5_copy l D cy h 31 (O7_3 ok7_0) 4 (O3_0 (O7_1 ok7_0)) st st3 hc21_3) cl5 rfl (C5 (O7_3 ok7_0)) v_X7_224 (Nat.le_of_ble_eq_true rfl) (Nat.le_of_ble_eq_true rfl) rfl hl.1 rfl (Nat.le_of_ble_eq_true rfl) dX7_image_21 ⟨Nat.zero_le _, Nat.zero_le _⟩ (fun H locs G => ?_)
    refine lv_aload_n hx hb dX7_image_24 rfl (lv_at hl 0 rfl) ?_
    refine g_getr (k := 38) C G cl7 (C7 ok7_0) (j := 4) (by decide) (F7_4 ok7_0) k1_235 dX7_image_25 ?_
    refine lv_aload_n hx hb dX7_image_28 rfl (lv_at hl 0 rfl) ?_
    refine g_getr (k := 28) C G cl7 (C7 ok7_0) (j := 2) (by decide) (F7_2 ok7_0) k1_233 dX7_image_29 ?_
    obtain ⟨st4, hc32_4, hf⟩ := bI1_some hf
    refine g_callVv C G (As := [.ref (h 28)]) (rest := []) (c_X4_copy l D cy h 38 (O7_4 ok7_0) 28 (O7_2 ok7_0) st3 st4 hc32_4) cl4 rfl (C4 (O7_4 ok7_0)) v_X7_253 (Nat.le_of_ble_eq_true rfl) (Nat.le_of_ble_eq_true rfl) rfl hl.1 rfl (Nat.le_of_ble_eq_true rfl) dX7_image_32 ⟨Nat.zero_le _, Nat.zero_le _⟩ (fun H locs G => ?_)
    refine lv_aload_n hx hb dX7_image_35 rfl (lv_at hl 0 rfl) ?_
    refine lv_iconst (v := 1) hx hb dX7_image_36 (by decide) ?_
    refine g_puti C G cl7 (C7 ok7_0) (j := 5) (by decide) (F7_5 ok7_0) k1_236 rfl rfl rfl dX7_image_37 (fun st5 est5 H locs G => ?_)
    have hf := lt_some est5 hf
    refine lv_aload_n hx hb dX7_image_40 rfl (lv_at hl 0 rfl) ?_
    refine g_getr (k := 31) C G cl7 (C7 ok7_0) (j := 3) (by decide) (F7_3 ok7_0) k1_234 dX7_image_41 ?_
    refine g_getiN C G cl5 (C5 (O7_3 ok7_0)) (j := 5) (by decide) (F5_5 (O7_3 ok7_0)) k1_71 dX7_image_44 ?_
    cases hf
    exact g_iret C G hr hlocks dX7_image_47
  · have hf := ifN c2 hf
    refine lv_bipush (v := (-103)) hx hb dX7_image_7 (by decide) ?_
    cases hf
    exact g_iret C G hr hlocks dX7_image_9

noncomputable def f_X7_restore (st : GS) : Option (Int32 × GS) := 
(if (gt st 0 5) = 0 then some (((-103), st)) else 
bI1 (f_X5_copy 4 31 st) (fun st2 => 
bI1 (f_X3_renew 3 st2) (fun st3 => 
bI1 (f_X4_copy 28 38 st3) (fun st4 => 
some (((gt st4 4 5), st4))))))
set_option maxRecDepth 100000 in
set_option maxHeartbeats 4000000 in
theorem c_X7_restore (l : Launch) (D : va_G) (cy : ClassId) (h : Nat → Nat)  (st : GS) (r : Int32) (stF : GS) (hf : f_X7_restore st = some (r, stF)) : gMi l XSh D cy h yX7_restore cX7_restore 1 (some .int) 16 st [.ref (h 0)] r stF := by
  unfold f_X7_restore at hf
  refine gMi_of (by decide) (Nat.le_of_ble_eq_true rfl) ?_
  intro p e s m args below meth c A ls C hr hlocks G hl
  have C : gC p s m args c cX7_restore 1 "LaneOrder" XSh D cy h A := C
  have hl : lv_has ls 1 [(0, .ref (h 0))] := hl
  have hx := C.1
  have hb := C.2.1
  have hown := C.2.2.2.1
  have htb := C.2.2.2.2.1
  refine lv_aload_n hx hb dX7_restore_0 rfl (lv_at hl 0 rfl) ?_
  refine g_geti C G cl7 (C7 ok7_0) (j := 5) (by decide) (F7_5 ok7_0) k1_236 dX7_restore_1 ?_
  refine lv_if_ne (tgt := 10) hx hb dX7_restore_4 (by decide) (fun c1 => ?_) (fun c1 => ?_)
  · have hf := ifN c1 hf
    refine lv_aload_n hx hb dX7_restore_10 rfl (lv_at hl 0 rfl) ?_
    refine g_getr (k := 3) C G cl7 (C7 ok7_0) (j := 1) (by decide) (F7_1 ok7_0) k1_232 dX7_restore_11 ?_
    refine g_getrN (k := 4) C G cl3 (C3 (O7_1 ok7_0)) (j := 0) (by decide) (F3_0 (O7_1 ok7_0)) k1_152 dX7_restore_14 ?_
    refine lv_aload_n hx hb dX7_restore_17 rfl (lv_at hl 0 rfl) ?_
    refine g_getr (k := 31) C G cl7 (C7 ok7_0) (j := 3) (by decide) (F7_3 ok7_0) k1_234 dX7_restore_18 ?_
    obtain ⟨st2, hc21_2, hf⟩ := bI1_some hf
    refine g_callVv C G (As := [.ref (h 31)]) (rest := []) (c_X5_copy l D cy h 4 (O3_0 (O7_1 ok7_0)) 31 (O7_3 ok7_0) st st2 hc21_2) cl5 rfl (C5 (O3_0 (O7_1 ok7_0))) v_X7_224 (Nat.le_of_ble_eq_true rfl) (Nat.le_of_ble_eq_true rfl) rfl hl.1 rfl (Nat.le_of_ble_eq_true rfl) dX7_restore_21 ⟨Nat.zero_le _, Nat.zero_le _⟩ (fun H locs G => ?_)
    refine lv_aload_n hx hb dX7_restore_24 rfl (lv_at hl 0 rfl) ?_
    refine g_getr (k := 3) C G cl7 (C7 ok7_0) (j := 1) (by decide) (F7_1 ok7_0) k1_232 dX7_restore_25 ?_
    obtain ⟨st3, hc28_3, hf⟩ := bI1_some hf
    refine g_callVv C G (As := []) (rest := []) (c_X3_renew l D cy h 3 (O7_1 ok7_0) st2 st3 hc28_3) cl3 rfl (C3 (O7_1 ok7_0)) v_X7_76 (Nat.le_of_ble_eq_true rfl) (Nat.le_of_ble_eq_true rfl) rfl hl.1 rfl (Nat.le_of_ble_eq_true rfl) dX7_restore_28 ⟨Nat.zero_le _, Nat.zero_le _⟩ (fun H locs G => ?_)
    refine lv_aload_n hx hb dX7_restore_31 rfl (lv_at hl 0 rfl) ?_
    refine g_getr (k := 28) C G cl7 (C7 ok7_0) (j := 2) (by decide) (F7_2 ok7_0) k1_233 dX7_restore_32 ?_
    refine lv_aload_n hx hb dX7_restore_35 rfl (lv_at hl 0 rfl) ?_
    refine g_getr (k := 38) C G cl7 (C7 ok7_0) (j := 4) (by decide) (F7_4 ok7_0) k1_235 dX7_restore_36 ?_
    obtain ⟨st4, hc39_4, hf⟩ := bI1_some hf
    refine g_callVv C G (As := [.ref (h 38)]) (rest := []) (c_X4_copy l D cy h 28 (O7_2 ok7_0) 38 (O7_4 ok7_0) st3 st4 hc39_4) cl4 rfl (C4 (O7_2 ok7_0)) v_X7_253 (Nat.le_of_ble_eq_true rfl) (Nat.le_of_ble_eq_true rfl) rfl hl.1 rfl (Nat.le_of_ble_eq_true rfl) dX7_restore_39 ⟨Nat.zero_le _, Nat.zero_le _⟩ (fun H locs G => ?_)
    refine lv_aload_n hx hb dX7_restore_42 rfl (lv_at hl 0 rfl) ?_
    refine g_getr (k := 3) C G cl7 (C7 ok7_0) (j := 1) (by decide) (F7_1 ok7_0) k1_232 dX7_restore_43 ?_
    refine g_getrN (k := 4) C G cl3 (C3 (O7_1 ok7_0)) (j := 0) (by decide) (F3_0 (O7_1 ok7_0)) k1_152 dX7_restore_46 ?_
    refine g_getiN C G cl5 (C5 (O3_0 (O7_1 ok7_0))) (j := 5) (by decide) (F5_5 (O3_0 (O7_1 ok7_0))) k1_71 dX7_restore_49 ?_
    cases hf
    exact g_iret C G hr hlocks dX7_restore_52
  · have hf := ifP c1 hf
    refine lv_bipush (v := (-103)) hx hb dX7_restore_7 (by decide) ?_
    cases hf
    exact g_iret C G hr hlocks dX7_restore_9

noncomputable def f_X7_count (a1 : Int32) (st : GS) : Option (Int32) := 
(if a1 = 0 then some ((gt st 4 5)) else 
(if a1 = 1 then some ((gt st 16 5)) else 
(if a1 = 2 then some ((gt st 3 7)) else 
(if a1 = 3 then some ((gt st 4 7)) else 
(if a1 = 4 then some (((gt st 4 5) - (gt st 3 11))) else 
(if a1 = 5 then some ((gt st 28 2)) else 
(if a1 = 6 then some ((gt st 1 1)) else 
(if a1 = 7 then some ((gt st 0 6)) else 
some ((-102))))))))))
set_option maxRecDepth 100000 in
set_option maxHeartbeats 4000000 in
theorem c_X7_count (l : Launch) (D : va_G) (cy : ClassId) (h : Nat → Nat) (a1 : Int32) (st : GS) (r : Int32) (hf : f_X7_count a1 st = some r) : gMi l XSh D cy h yX7_count cX7_count 2 (some .int) 1 st [.ref (h 0), .int a1] r st := by
  unfold f_X7_count at hf
  refine gMi_of (by decide) (Nat.le_of_ble_eq_true rfl) ?_
  intro p e s m args below meth c A ls C hr hlocks G hl
  have C : gC p s m args c cX7_count 2 "LaneOrder" XSh D cy h A := C
  have hl : lv_has ls 2 [(0, .ref (h 0)), (1, .int a1)] := hl
  have hx := C.1
  have hb := C.2.1
  have hown := C.2.2.2.1
  have htb := C.2.2.2.2.1
  refine lv_iload_n hx hb dX7_count_0 rfl (lv_at hl 1 rfl) ?_
  by_cases c1_0 : a1 = 0
  · have hf := ifP c1_0 hf
    refine lv_tableIn (tgt := 48) hx hb dX7_count_1 (by rw [c1_0]; decide) (by rw [c1_0]; decide) (by rw [c1_0]; rfl) (by decide) ?_
    refine lv_aload_n hx hb dX7_count_48 rfl (lv_at hl 0 rfl) ?_
    refine g_getr (k := 3) C G cl7 (C7 ok7_0) (j := 1) (by decide) (F7_1 ok7_0) k1_232 dX7_count_49 ?_
    refine g_getrN (k := 4) C G cl3 (C3 (O7_1 ok7_0)) (j := 0) (by decide) (F3_0 (O7_1 ok7_0)) k1_152 dX7_count_52 ?_
    refine g_getiN C G cl5 (C5 (O3_0 (O7_1 ok7_0))) (j := 5) (by decide) (F5_5 (O3_0 (O7_1 ok7_0))) k1_71 dX7_count_55 ?_
    cases hf
    exact g_iret C G hr hlocks dX7_count_58
  · have hf := ifN c1_0 hf
    by_cases c1_1 : a1 = 1
    · have hf := ifP c1_1 hf
      refine lv_tableIn (tgt := 59) hx hb dX7_count_1 (by rw [c1_1]; decide) (by rw [c1_1]; decide) (by rw [c1_1]; rfl) (by decide) ?_
      refine lv_aload_n hx hb dX7_count_59 rfl (lv_at hl 0 rfl) ?_
      refine g_getr (k := 3) C G cl7 (C7 ok7_0) (j := 1) (by decide) (F7_1 ok7_0) k1_232 dX7_count_60 ?_
      refine g_getrN (k := 16) C G cl3 (C3 (O7_1 ok7_0)) (j := 8) (by decide) (F3_8 (O7_1 ok7_0)) k1_167 dX7_count_63 ?_
      refine g_getiN C G cl0 (C0 (O3_8 (O7_1 ok7_0))) (j := 5) (by decide) (F0_5 (O3_8 (O7_1 ok7_0))) k1_110 dX7_count_66 ?_
      cases hf
      exact g_iret C G hr hlocks dX7_count_69
    · have hf := ifN c1_1 hf
      by_cases c1_2 : a1 = 2
      · have hf := ifP c1_2 hf
        refine lv_tableIn (tgt := 70) hx hb dX7_count_1 (by rw [c1_2]; decide) (by rw [c1_2]; decide) (by rw [c1_2]; rfl) (by decide) ?_
        refine lv_aload_n hx hb dX7_count_70 rfl (lv_at hl 0 rfl) ?_
        refine g_getr (k := 3) C G cl7 (C7 ok7_0) (j := 1) (by decide) (F7_1 ok7_0) k1_232 dX7_count_71 ?_
        refine g_getiN C G cl3 (C3 (O7_1 ok7_0)) (j := 7) (by decide) (F3_7 (O7_1 ok7_0)) k1_165 dX7_count_74 ?_
        cases hf
        exact g_iret C G hr hlocks dX7_count_77
      · have hf := ifN c1_2 hf
        by_cases c1_3 : a1 = 3
        · have hf := ifP c1_3 hf
          refine lv_tableIn (tgt := 78) hx hb dX7_count_1 (by rw [c1_3]; decide) (by rw [c1_3]; decide) (by rw [c1_3]; rfl) (by decide) ?_
          refine lv_aload_n hx hb dX7_count_78 rfl (lv_at hl 0 rfl) ?_
          refine g_getr (k := 3) C G cl7 (C7 ok7_0) (j := 1) (by decide) (F7_1 ok7_0) k1_232 dX7_count_79 ?_
          refine g_getrN (k := 4) C G cl3 (C3 (O7_1 ok7_0)) (j := 0) (by decide) (F3_0 (O7_1 ok7_0)) k1_152 dX7_count_82 ?_
          refine g_getiN C G cl5 (C5 (O3_0 (O7_1 ok7_0))) (j := 7) (by decide) (F5_7 (O3_0 (O7_1 ok7_0))) k1_75 dX7_count_85 ?_
          cases hf
          exact g_iret C G hr hlocks dX7_count_88
        · have hf := ifN c1_3 hf
          by_cases c1_4 : a1 = 4
          · have hf := ifP c1_4 hf
            refine lv_tableIn (tgt := 89) hx hb dX7_count_1 (by rw [c1_4]; decide) (by rw [c1_4]; decide) (by rw [c1_4]; rfl) (by decide) ?_
            refine lv_aload_n hx hb dX7_count_89 rfl (lv_at hl 0 rfl) ?_
            refine g_getr (k := 3) C G cl7 (C7 ok7_0) (j := 1) (by decide) (F7_1 ok7_0) k1_232 dX7_count_90 ?_
            refine g_getrN (k := 4) C G cl3 (C3 (O7_1 ok7_0)) (j := 0) (by decide) (F3_0 (O7_1 ok7_0)) k1_152 dX7_count_93 ?_
            refine g_getiN C G cl5 (C5 (O3_0 (O7_1 ok7_0))) (j := 5) (by decide) (F5_5 (O3_0 (O7_1 ok7_0))) k1_71 dX7_count_96 ?_
            refine lv_aload_n hx hb dX7_count_99 rfl (lv_at hl 0 rfl) ?_
            refine g_getr (k := 3) C G cl7 (C7 ok7_0) (j := 1) (by decide) (F7_1 ok7_0) k1_232 dX7_count_100 ?_
            refine g_getiN C G cl3 (C3 (O7_1 ok7_0)) (j := 11) (by decide) (F3_11 (O7_1 ok7_0)) k1_172 dX7_count_103 ?_
            refine lv_isub hx hb dX7_count_106 ?_
            cases hf
            exact g_iret C G hr hlocks dX7_count_107
          · have hf := ifN c1_4 hf
            by_cases c1_5 : a1 = 5
            · have hf := ifP c1_5 hf
              refine lv_tableIn (tgt := 108) hx hb dX7_count_1 (by rw [c1_5]; decide) (by rw [c1_5]; decide) (by rw [c1_5]; rfl) (by decide) ?_
              refine lv_aload_n hx hb dX7_count_108 rfl (lv_at hl 0 rfl) ?_
              refine g_getr (k := 28) C G cl7 (C7 ok7_0) (j := 2) (by decide) (F7_2 ok7_0) k1_233 dX7_count_109 ?_
              refine g_getiN C G cl4 (C4 (O7_2 ok7_0)) (j := 2) (by decide) (F4_2 (O7_2 ok7_0)) k1_210 dX7_count_112 ?_
              cases hf
              exact g_iret C G hr hlocks dX7_count_115
            · have hf := ifN c1_5 hf
              by_cases c1_6 : a1 = 6
              · have hf := ifP c1_6 hf
                refine lv_tableIn (tgt := 116) hx hb dX7_count_1 (by rw [c1_6]; decide) (by rw [c1_6]; decide) (by rw [c1_6]; rfl) (by decide) ?_
                refine lv_aload_n hx hb dX7_count_116 rfl (lv_at hl 0 rfl) ?_
                refine g_getr (k := 1) C G cl7 (C7 ok7_0) (j := 0) (by decide) (F7_0 ok7_0) k1_231 dX7_count_117 ?_
                refine g_getiN C G cl6 (C6 (O7_0 ok7_0)) (j := 1) (by decide) (F6_1 (O7_0 ok7_0)) k1_35 dX7_count_120 ?_
                cases hf
                exact g_iret C G hr hlocks dX7_count_123
              · have hf := ifN c1_6 hf
                by_cases c1_7 : a1 = 7
                · have hf := ifP c1_7 hf
                  refine lv_tableIn (tgt := 124) hx hb dX7_count_1 (by rw [c1_7]; decide) (by rw [c1_7]; decide) (by rw [c1_7]; rfl) (by decide) ?_
                  refine lv_aload_n hx hb dX7_count_124 rfl (lv_at hl 0 rfl) ?_
                  refine g_geti C G cl7 (C7 ok7_0) (j := 6) (by decide) (F7_6 ok7_0) k1_237 dX7_count_125 ?_
                  cases hf
                  exact g_iret C G hr hlocks dX7_count_128
                · have hf := ifN c1_7 hf
                  refine lv_tableOut (tgt := 129) hx hb dX7_count_1 (tab_7 c1_0 c1_1 c1_2 c1_3 c1_4 c1_5 c1_6 c1_7) (by decide) ?_
                  refine lv_bipush (v := (-102)) hx hb dX7_count_129 (by decide) ?_
                  cases hf
                  exact g_iret C G hr hlocks dX7_count_131

noncomputable def f_X7_digest_L23 (st : GS) (x2 : Int32) (x4 : Int64) (x5 : Int32) : Option ((Int64 × Int32) ⊕ (Int64)) := 
(if 9 < x5 then some (.inr (x4)) else 
bI1 (f_X7_box x2 x5 st) (fun r7 => 
lt_ ((31 * x4) + (Int32.toInt64 r7)) (fun x8 => 
lt_ (x5 + 1) (fun x9 => 
some (.inl (x8, x9))))))
noncomputable def f_X7_digest_L6 (st : GS) (x1 : Int64) (x2 : Int32) : Option ((Int64 × Int32) ⊕ (Int64)) := 
(if (gt st 4 5) ≤ x2 then some (.inr (x1)) else 
bI1 (lpx (uc2 (f_X7_digest_L23 st x2)) (x1, 0)) (fun x10 => 
lt_ (x2 + 1) (fun x11 => 
some (.inl (x10, x11)))))
noncomputable def f_X7_digest_L59 (st : GS) (x13 : Int64) (x14 : Int32) : Option ((Int64 × Int32) ⊕ (Int64)) := 
(if (gt st 3 2) ≤ x14 then some (.inr (x13)) else 
bI1 (f_X7_order x14 st) (fun r16 => 
lt_ ((31 * x13) + (Int32.toInt64 r16)) (fun x17 => 
lt_ (x14 + 1) (fun x18 => 
some (.inl (x17, x18))))))
noncomputable def f_X7_digest_L108 (st : GS) (x21 : Int32) (x23 : Int64) (x24 : Int32) : Option ((Int64 × Int32) ⊕ (Int64)) := 
(if 4 < x24 then some (.inr (x23)) else 
bI1 (f_X7_cut x21 x24 st) (fun r26 => 
lt_ ((31 * x23) + (Int32.toInt64 r26)) (fun x27 => 
lt_ (x24 + 1) (fun x28 => 
some (.inl (x27, x28))))))
noncomputable def f_X7_digest_L91 (st : GS) (x20 : Int64) (x21 : Int32) : Option ((Int64 × Int32) ⊕ (Int64)) := 
(if (gt st 16 5) ≤ x21 then some (.inr (x20)) else 
bI1 (lpx (uc2 (f_X7_digest_L108 st x21)) (x20, 0)) (fun x29 => 
lt_ (x21 + 1) (fun x30 => 
some (.inl (x29, x30)))))
noncomputable def f_X7_digest_L174 (st35 : GS) (x42 : Int64) (x43 : Int32) : Option ((Int64 × Int32) ⊕ (Int64)) := 
(if (gt st35 1 1) ≤ x43 then some (.inr (x42)) else 
gd x43 54 (lt_ ((31 * x42) + (Int32.toInt64 (gt st35 2 (x43.toNatClampNeg)))) (fun x46 => 
lt_ (x43 + 1) (fun x47 => 
some (.inl (x46, x47))))))
noncomputable def f_X7_digest_L210 (st35 : GS) (x49 : Int64) (x50 : Int32) : Option ((Int64 × Int32) ⊕ (Int64)) := 
(if 7 < x50 then some (.inr (x49)) else 
bI1 (f_X7_count x50 st35) (fun r52 => 
lt_ ((31 * x49) + (Int32.toInt64 r52)) (fun x53 => 
lt_ (x50 + 1) (fun x54 => 
some (.inl (x53, x54))))))
noncomputable def f_X7_digest (st : GS) : Option (Int64 × GS) := 
bI1 (lpx (uc2 (f_X7_digest_L6 st)) (1429, 0)) (fun x12 => 
bI1 (lpx (uc2 (f_X7_digest_L59 st)) (x12, 0)) (fun x19 => 
bI1 (lpx (uc2 (f_X7_digest_L91 st)) (x19, 0)) (fun x31 => 
bI1 (f_X7_hasNoPage st) (fun r32 => 
bI2 ((if r32 = 0 then bI2 (f_X7_idle st) (fun r36 st37 => 
lt_ ((31 * x31) + (Int32.toInt64 r36)) (fun x38 => 
bI2 (f_X7_free st37) (fun r39 st40 => 
lt_ ((31 * x38) + (Int32.toInt64 r39)) (fun x41 => 
some (x41, st40))))) else 
some (x31, st))) (fun (x34 : Int64) (st35 : GS) => 
bI1 (lpx (uc2 (f_X7_digest_L174 st35)) (x34, 0)) (fun x48 => 
bI1 (lpx (uc2 (f_X7_digest_L210 st35)) (x48, 0)) (fun x55 => 
some ((x55, st35)))))))))
set_option maxRecDepth 100000 in
set_option maxHeartbeats 4000000 in
theorem c_X7_digest (l : Launch) (D : va_G) (cy : ClassId) (h : Nat → Nat)  (st : GS) (r : Int64) (stF : GS) (hf : f_X7_digest st = some (r, stF)) : gMl l XSh D cy h yX7_digest cX7_digest 5 (some .long) 17 st [.ref (h 0)] r stF := by
  unfold f_X7_digest at hf
  refine gMl_of (by decide) (Nat.le_of_ble_eq_true rfl) ?_
  intro p e s m args below meth c A ls C hr hlocks G hl
  have C : gC p s m args c cX7_digest 5 "LaneOrder" XSh D cy h A := C
  have hl : lv_has ls 5 [(0, .ref (h 0))] := hl
  have hx := C.1
  have hb := C.2.1
  have hown := C.2.2.2.1
  have htb := C.2.2.2.2.1
  refine lv_ldc2 hx hb (v := 1429) hown (htb _ k4_10) dX7_digest_0 ?_
  refine lv_lstore_n (lv' := [(1, .long 1429), (0, .ref (h 0))]) hx hb dX7_digest_3 rfl hl (by decide) rfl (fun ls hl => ?_)
  refine lv_iconst (v := 0) hx hb dX7_digest_4 (by decide) ?_
  refine lv_istore_n (lv' := [(3, .int 0), (1, .long 1429), (0, .ref (h 0))]) hx hb dX7_digest_5 rfl hl (by decide) rfl (fun ls hl => ?_)
  obtain ⟨x12, hn, hf⟩ := bI1_some hf
  obtain ⟨n, hn⟩ := lpx_some hn
  have K57 : ∀ (H : Heap) (locs : List Loc) (ls : Array Slot), gG XSh D cy h A s st H locs → lv_has ls 5 [(0, .ref (h 0)), (1, .long x12)] → W p l e (gR 17) s m args below meth c H locs 0 0 (MQ below (gQl XSh D cy h A r stF) args s 0 0 A) (F0 m 57 ls []) := by
    intro H locs ls G hl
    refine lv_iconst (v := 0) hx hb dX7_digest_57 (by decide) ?_
    refine lv_istore_n (lv' := [(3, .int 0), (0, .ref (h 0)), (1, .long x12)]) hx hb dX7_digest_58 rfl hl (by decide) rfl (fun ls hl => ?_)
    obtain ⟨x19, hn, hf⟩ := bI1_some hf
    obtain ⟨n, hn⟩ := lpx_some hn
    have K89 : ∀ (H : Heap) (locs : List Loc) (ls : Array Slot), gG XSh D cy h A s st H locs → lv_has ls 5 [(0, .ref (h 0)), (1, .long x19)] → W p l e (gR 17) s m args below meth c H locs 0 0 (MQ below (gQl XSh D cy h A r stF) args s 0 0 A) (F0 m 89 ls []) := by
      intro H locs ls G hl
      refine lv_iconst (v := 0) hx hb dX7_digest_89 (by decide) ?_
      refine lv_istore_n (lv' := [(3, .int 0), (0, .ref (h 0)), (1, .long x19)]) hx hb dX7_digest_90 rfl hl (by decide) rfl (fun ls hl => ?_)
      obtain ⟨x31, hn, hf⟩ := bI1_some hf
      obtain ⟨n, hn⟩ := lpx_some hn
      have K141 : ∀ (H : Heap) (locs : List Loc) (ls : Array Slot), gG XSh D cy h A s st H locs → lv_has ls 5 [(0, .ref (h 0)), (1, .long x31)] → W p l e (gR 17) s m args below meth c H locs 0 0 (MQ below (gQl XSh D cy h A r stF) args s 0 0 A) (F0 m 141 ls []) := by
        intro H locs ls G hl
        refine lv_aload_n hx hb dX7_digest_141 rfl (lv_at hl 0 rfl) ?_
        obtain ⟨r32, hc142_32, hf⟩ := bI1_some hf
        refine g_callVi C G (As := []) (rest := []) (c_X7_hasNoPage l D cy h st r32 hc142_32) cl7 rfl (C7 ok7_0) v_X7_182 (Nat.le_of_ble_eq_true rfl) (Nat.le_of_ble_eq_true rfl) rfl hl.1 rfl (Nat.le_of_ble_eq_true rfl) dX7_digest_142 ⟨Nat.zero_le _, Nat.zero_le _⟩ (fun H locs G => ?_)
        obtain ⟨x34, st35, hj172, hf⟩ := bI2_some hf
        have K172 : ∀ (H : Heap) (locs : List Loc) (ls : Array Slot) , gG XSh D cy h A s st35 H locs → lv_has ls 5 [(0, .ref (h 0)), (1, .long x34)] → W p l e (gR 17) s m args below meth c H locs 0 0 (MQ below (gQl XSh D cy h A r stF) args s 0 0 A) (F0 m 172 ls []) := by
          intro H locs ls G hl
          refine lv_iconst (v := 0) hx hb dX7_digest_172 (by decide) ?_
          refine lv_istore_n (lv' := [(3, .int 0), (0, .ref (h 0)), (1, .long x34)]) hx hb dX7_digest_173 rfl hl (by decide) rfl (fun ls hl => ?_)
          obtain ⟨x48, hn, hf⟩ := bI1_some hf
          obtain ⟨n, hn⟩ := lpx_some hn
          have K208 : ∀ (H : Heap) (locs : List Loc) (ls : Array Slot), gG XSh D cy h A s st35 H locs → lv_has ls 5 [(0, .ref (h 0)), (1, .long x48)] → W p l e (gR 17) s m args below meth c H locs 0 0 (MQ below (gQl XSh D cy h A r stF) args s 0 0 A) (F0 m 208 ls []) := by
            intro H locs ls G hl
            refine lv_iconst (v := 0) hx hb dX7_digest_208 (by decide) ?_
            refine lv_istore_n (lv' := [(3, .int 0), (0, .ref (h 0)), (1, .long x48)]) hx hb dX7_digest_209 rfl hl (by decide) rfl (fun ls hl => ?_)
            obtain ⟨x55, hn, hf⟩ := bI1_some hf
            obtain ⟨n, hn⟩ := lpx_some hn
            have K235 : ∀ (H : Heap) (locs : List Loc) (ls : Array Slot), gG XSh D cy h A s st35 H locs → lv_has ls 5 [(1, .long x55)] → W p l e (gR 17) s m args below meth c H locs 0 0 (MQ below (gQl XSh D cy h A r stF) args s 0 0 A) (F0 m 235 ls []) := by
              intro H locs ls G hl
              refine lv_lload_n hx hb dX7_digest_235 rfl (lv_at hl 0 rfl) ?_
              cases hf
              exact g_lret C G hr hlocks dX7_digest_236
            have L210 : ∀ (n : Nat) (x49 : Int64) (x50 : Int32) (H : Heap) (locs : List Loc) (ls : Array Slot), gG XSh D cy h A s st35 H locs → lv_has ls 5 [(0, .ref (h 0)), (1, .long x49), (3, .int x50)] → lp (uc2 (f_X7_digest_L210 st35)) n (x49, x50) = some (x55) → W p l e (gR 17) s m args below meth c H locs 0 0 (MQ below (gQl XSh D cy h A r stF) args s 0 0 A) (F0 m 210 ls []) := by
              intro n
              induction n with
              | zero =>
                intro x49 x50 H locs ls G hl hn
                cases hn
              | succ n ih =>
                intro x49 x50 H locs ls G hl hn
                obtain ⟨q, hf, hq1, hq2⟩ := lp_q hn
                have hf : f_X7_digest_L210 st35 x49 x50 = some q := hf
                unfold f_X7_digest_L210 at hf
                refine lv_iload_n hx hb dX7_digest_210 rfl (lv_at hl 2 rfl) ?_
                refine lv_bipush (v := 7) hx hb dX7_digest_211 (by decide) ?_
                refine lv_icmp_gt (tgt := 235) hx hb dX7_digest_213 (by decide) (fun c51 => ?_) (fun c51 => ?_)
                · have hf := ifP c51 hf
                  cases hf
                  have hz9 := hq2 _ rfl
                  cases hz9
                  exact K235 _ _ _ G (lv_sub hl [1] rfl)
                · have hf := ifN c51 hf
                  refine lv_ldc2 hx hb (v := 31) hown (htb _ k4_11) dX7_digest_216 ?_
                  refine lv_lload_n hx hb dX7_digest_219 rfl (lv_at hl 1 rfl) ?_
                  refine lv_lmul hx hb dX7_digest_220 ?_
                  refine lv_aload_n hx hb dX7_digest_221 rfl (lv_at hl 0 rfl) ?_
                  refine lv_iload_n hx hb dX7_digest_222 rfl (lv_at hl 2 rfl) ?_
                  obtain ⟨r52, hc223_52, hf⟩ := bI1_some hf
                  refine g_callVi C G (As := [.int x50]) (rest := [.long (31 * x49)]) (c_X7_count l D cy h x50 st35 r52 hc223_52) cl7 rfl (C7 ok7_0) v_X7_280 (Nat.le_of_ble_eq_true rfl) (Nat.le_of_ble_eq_true rfl) rfl hl.1 rfl (Nat.le_of_ble_eq_true rfl) dX7_digest_223 ⟨Nat.zero_le _, Nat.zero_le _⟩ (fun H locs G => ?_)
                  refine lv_i2l hx hb dX7_digest_226 rfl ?_
                  refine lv_ladd hx hb dX7_digest_227 ?_
                  refine lv_topl (fun x53 ex53 => ?_)
                  have hf := lt_some ex53 hf
                  refine lv_lstore_n (lv' := [(1, .long x53), (0, .ref (h 0)), (3, .int x50)]) hx hb dX7_digest_228 rfl hl (by decide) rfl (fun ls hl => ?_)
                  obtain ⟨x54, ex54⟩ : ∃ z : Int32, z = (x50 + 1) := ⟨_, rfl⟩
                  have hf := lt_some ex54 hf
                  refine lv_iinc (v := x54) (lv' := [(3, .int x54), (1, .long x53), (0, .ref (h 0))]) hx hb dX7_digest_229 hl (k := 2) rfl (by rw [ex54]; rfl) (by decide) rfl (fun ls hl => ?_)
                  refine lv_goto (tgt := 210) hx hb dX7_digest_232 (by decide) ?_
                  cases hf
                  exact ih _ _ _ _ _ G (lv_sub hl [2, 1, 0] rfl) (hq1 _ rfl)
            exact L210 n _ _ _ _ _ G (lv_sub hl [1, 2, 0] rfl) hn
          have L174 : ∀ (n : Nat) (x42 : Int64) (x43 : Int32) (H : Heap) (locs : List Loc) (ls : Array Slot), gG XSh D cy h A s st35 H locs → lv_has ls 5 [(0, .ref (h 0)), (1, .long x42), (3, .int x43)] → lp (uc2 (f_X7_digest_L174 st35)) n (x42, x43) = some (x48) → W p l e (gR 17) s m args below meth c H locs 0 0 (MQ below (gQl XSh D cy h A r stF) args s 0 0 A) (F0 m 174 ls []) := by
            intro n
            induction n with
            | zero =>
              intro x42 x43 H locs ls G hl hn
              cases hn
            | succ n ih =>
              intro x42 x43 H locs ls G hl hn
              obtain ⟨q, hf, hq1, hq2⟩ := lp_q hn
              have hf : f_X7_digest_L174 st35 x42 x43 = some q := hf
              unfold f_X7_digest_L174 at hf
              refine lv_iload_n hx hb dX7_digest_174 rfl (lv_at hl 2 rfl) ?_
              refine lv_aload_n hx hb dX7_digest_175 rfl (lv_at hl 0 rfl) ?_
              refine g_getr (k := 1) C G cl7 (C7 ok7_0) (j := 0) (by decide) (F7_0 ok7_0) k1_231 dX7_digest_176 ?_
              refine g_getiN C G cl6 (C6 (O7_0 ok7_0)) (j := 1) (by decide) (F6_1 (O7_0 ok7_0)) k1_35 dX7_digest_179 ?_
              refine lv_icmp_ge (tgt := 208) hx hb dX7_digest_182 (by decide) (fun c44 => ?_) (fun c44 => ?_)
              · have hf := ifP c44 hf
                cases hf
                have hz9 := hq2 _ rfl
                cases hz9
                exact K208 _ _ _ G (lv_sub hl [0, 1] rfl)
              · have hf := ifN c44 hf
                refine lv_ldc2 hx hb (v := 31) hown (htb _ k4_11) dX7_digest_185 ?_
                refine lv_lload_n hx hb dX7_digest_188 rfl (lv_at hl 1 rfl) ?_
                refine lv_lmul hx hb dX7_digest_189 ?_
                refine lv_aload_n hx hb dX7_digest_190 rfl (lv_at hl 0 rfl) ?_
                refine g_getr (k := 1) C G cl7 (C7 ok7_0) (j := 0) (by decide) (F7_0 ok7_0) k1_231 dX7_digest_191 ?_
                refine g_getrN (k := 2) C G cl6 (C6 (O7_0 ok7_0)) (j := 0) (by decide) (F6_0 (O7_0 ok7_0)) k1_33 dX7_digest_194 ?_
                refine lv_iload_n hx hb dX7_digest_197 rfl (lv_at hl 2 rfl) ?_
                obtain ⟨hi198_44, hf⟩ := gd_some hf
                refine g_iald C G (A6_0 (O7_0 ok7_0)) (j := x43.toNatClampNeg) rfl hi198_44 dX7_digest_198 ?_
                refine lv_i2l hx hb dX7_digest_199 rfl ?_
                refine lv_ladd hx hb dX7_digest_200 ?_
                refine lv_topl (fun x46 ex46 => ?_)
                have hf := lt_some ex46 hf
                refine lv_lstore_n (lv' := [(1, .long x46), (0, .ref (h 0)), (3, .int x43)]) hx hb dX7_digest_201 rfl hl (by decide) rfl (fun ls hl => ?_)
                obtain ⟨x47, ex47⟩ : ∃ z : Int32, z = (x43 + 1) := ⟨_, rfl⟩
                have hf := lt_some ex47 hf
                refine lv_iinc (v := x47) (lv' := [(3, .int x47), (1, .long x46), (0, .ref (h 0))]) hx hb dX7_digest_202 hl (k := 2) rfl (by rw [ex47]; rfl) (by decide) rfl (fun ls hl => ?_)
                refine lv_goto (tgt := 174) hx hb dX7_digest_205 (by decide) ?_
                cases hf
                exact ih _ _ _ _ _ G (lv_sub hl [2, 1, 0] rfl) (hq1 _ rfl)
          exact L174 n _ _ _ _ _ G (lv_sub hl [1, 2, 0] rfl) hn
        clear hf
        refine lv_if_ne (tgt := 172) hx hb dX7_digest_145 (by decide) (fun c33 => ?_) (fun c33 => ?_)
        · have hf := ifN c33 hj172
          cases hf
          exact K172 _ _ _ G hl
        · have hf := ifP c33 hj172
          refine lv_ldc2 hx hb (v := 31) hown (htb _ k4_11) dX7_digest_148 ?_
          refine lv_lload_n hx hb dX7_digest_151 rfl (lv_at hl 1 rfl) ?_
          refine lv_lmul hx hb dX7_digest_152 ?_
          refine lv_aload_n hx hb dX7_digest_153 rfl (lv_at hl 0 rfl) ?_
          obtain ⟨r36, st37, hc154_37, hf⟩ := bI2_some hf
          refine g_callVi C G (As := []) (rest := [.long (31 * x31)]) (c_X7_idle l D cy h st r36 st37 hc154_37) cl7 rfl (C7 ok7_0) v_X7_271 (Nat.le_of_ble_eq_true rfl) (Nat.le_of_ble_eq_true rfl) rfl hl.1 rfl (Nat.le_of_ble_eq_true rfl) dX7_digest_154 ⟨Nat.zero_le _, Nat.zero_le _⟩ (fun H locs G => ?_)
          refine lv_i2l hx hb dX7_digest_157 rfl ?_
          refine lv_ladd hx hb dX7_digest_158 ?_
          refine lv_topl (fun x38 ex38 => ?_)
          have hf := lt_some ex38 hf
          refine lv_lstore_n (lv' := [(1, .long x38), (0, .ref (h 0))]) hx hb dX7_digest_159 rfl hl (by decide) rfl (fun ls hl => ?_)
          refine lv_ldc2 hx hb (v := 31) hown (htb _ k4_11) dX7_digest_160 ?_
          refine lv_lload_n hx hb dX7_digest_163 rfl (lv_at hl 0 rfl) ?_
          refine lv_lmul hx hb dX7_digest_164 ?_
          refine lv_aload_n hx hb dX7_digest_165 rfl (lv_at hl 1 rfl) ?_
          obtain ⟨r39, st40, hc166_40, hf⟩ := bI2_some hf
          refine g_callVi C G (As := []) (rest := [.long (31 * x38)]) (c_X7_free l D cy h st37 r39 st40 hc166_40) cl7 rfl (C7 ok7_0) v_X7_274 (Nat.le_of_ble_eq_true rfl) (Nat.le_of_ble_eq_true rfl) rfl hl.1 rfl (Nat.le_of_ble_eq_true rfl) dX7_digest_166 ⟨Nat.zero_le _, Nat.zero_le _⟩ (fun H locs G => ?_)
          refine lv_i2l hx hb dX7_digest_169 rfl ?_
          refine lv_ladd hx hb dX7_digest_170 ?_
          refine lv_topl (fun x41 ex41 => ?_)
          have hf := lt_some ex41 hf
          refine lv_lstore_n (lv' := [(1, .long x41), (0, .ref (h 0))]) hx hb dX7_digest_171 rfl hl (by decide) rfl (fun ls hl => ?_)
          cases hf
          exact K172 _ _ _ G (lv_sub hl [1, 0] rfl)
      have L91 : ∀ (n : Nat) (x20 : Int64) (x21 : Int32) (H : Heap) (locs : List Loc) (ls : Array Slot), gG XSh D cy h A s st H locs → lv_has ls 5 [(0, .ref (h 0)), (1, .long x20), (3, .int x21)] → lp (uc2 (f_X7_digest_L91 st)) n (x20, x21) = some (x31) → W p l e (gR 17) s m args below meth c H locs 0 0 (MQ below (gQl XSh D cy h A r stF) args s 0 0 A) (F0 m 91 ls []) := by
        intro n
        induction n with
        | zero =>
          intro x20 x21 H locs ls G hl hn
          cases hn
        | succ n ih =>
          intro x20 x21 H locs ls G hl hn
          obtain ⟨q, hf, hq1, hq2⟩ := lp_q hn
          have hf : f_X7_digest_L91 st x20 x21 = some q := hf
          unfold f_X7_digest_L91 at hf
          refine lv_iload_n hx hb dX7_digest_91 rfl (lv_at hl 2 rfl) ?_
          refine lv_aload_n hx hb dX7_digest_92 rfl (lv_at hl 0 rfl) ?_
          refine g_getr (k := 3) C G cl7 (C7 ok7_0) (j := 1) (by decide) (F7_1 ok7_0) k1_232 dX7_digest_93 ?_
          refine g_getrN (k := 16) C G cl3 (C3 (O7_1 ok7_0)) (j := 8) (by decide) (F3_8 (O7_1 ok7_0)) k1_167 dX7_digest_96 ?_
          refine g_getiN C G cl0 (C0 (O3_8 (O7_1 ok7_0))) (j := 5) (by decide) (F0_5 (O3_8 (O7_1 ok7_0))) k1_110 dX7_digest_99 ?_
          refine lv_icmp_ge (tgt := 141) hx hb dX7_digest_102 (by decide) (fun c22 => ?_) (fun c22 => ?_)
          · have hf := ifP c22 hf
            cases hf
            have hz9 := hq2 _ rfl
            cases hz9
            exact K141 _ _ _ G (lv_sub hl [0, 1] rfl)
          · have hf := ifN c22 hf
            refine lv_iconst (v := 0) hx hb dX7_digest_105 (by decide) ?_
            refine lv_istore (lv' := [(4, .int 0), (0, .ref (h 0)), (1, .long x20), (3, .int x21)]) hx hb dX7_digest_106 hl (by decide) rfl (fun ls hl => ?_)
            obtain ⟨x29, hn, hf⟩ := bI1_some hf
            obtain ⟨n, hn⟩ := lpx_some hn
            have K135 : ∀ (H : Heap) (locs : List Loc) (ls : Array Slot), gG XSh D cy h A s st H locs → lv_has ls 5 [(0, .ref (h 0)), (1, .long x29), (3, .int x21)] → W p l e (gR 17) s m args below meth c H locs 0 0 (MQ below (gQl XSh D cy h A r stF) args s 0 0 A) (F0 m 135 ls []) := by
              intro H locs ls G hl
              obtain ⟨x30, ex30⟩ : ∃ z : Int32, z = (x21 + 1) := ⟨_, rfl⟩
              have hf := lt_some ex30 hf
              refine lv_iinc (v := x30) (lv' := [(3, .int x30), (0, .ref (h 0)), (1, .long x29)]) hx hb dX7_digest_135 hl (k := 2) rfl (by rw [ex30]; rfl) (by decide) rfl (fun ls hl => ?_)
              refine lv_goto (tgt := 91) hx hb dX7_digest_138 (by decide) ?_
              cases hf
              exact ih _ _ _ _ _ G (lv_sub hl [1, 2, 0] rfl) (hq1 _ rfl)
            have L108 : ∀ (n : Nat) (x23 : Int64) (x24 : Int32) (H : Heap) (locs : List Loc) (ls : Array Slot), gG XSh D cy h A s st H locs → lv_has ls 5 [(0, .ref (h 0)), (1, .long x23), (3, .int x21), (4, .int x24)] → lp (uc2 (f_X7_digest_L108 st x21)) n (x23, x24) = some (x29) → W p l e (gR 17) s m args below meth c H locs 0 0 (MQ below (gQl XSh D cy h A r stF) args s 0 0 A) (F0 m 108 ls []) := by
              intro n
              induction n with
              | zero =>
                intro x23 x24 H locs ls G hl hn
                cases hn
              | succ n ih =>
                intro x23 x24 H locs ls G hl hn
                obtain ⟨q, hf, hq1, hq2⟩ := lp_q hn
                have hf : f_X7_digest_L108 st x21 x23 x24 = some q := hf
                unfold f_X7_digest_L108 at hf
                refine lv_iload hx hb dX7_digest_108 (lv_at hl 3 rfl) ?_
                refine lv_iconst (v := 4) hx hb dX7_digest_110 (by decide) ?_
                refine lv_icmp_gt (tgt := 135) hx hb dX7_digest_111 (by decide) (fun c25 => ?_) (fun c25 => ?_)
                · have hf := ifP c25 hf
                  cases hf
                  have hz9 := hq2 _ rfl
                  cases hz9
                  exact K135 _ _ _ G (lv_sub hl [0, 1, 2] rfl)
                · have hf := ifN c25 hf
                  refine lv_ldc2 hx hb (v := 31) hown (htb _ k4_11) dX7_digest_114 ?_
                  refine lv_lload_n hx hb dX7_digest_117 rfl (lv_at hl 1 rfl) ?_
                  refine lv_lmul hx hb dX7_digest_118 ?_
                  refine lv_aload_n hx hb dX7_digest_119 rfl (lv_at hl 0 rfl) ?_
                  refine lv_iload_n hx hb dX7_digest_120 rfl (lv_at hl 2 rfl) ?_
                  refine lv_iload hx hb dX7_digest_121 (lv_at hl 3 rfl) ?_
                  obtain ⟨r26, hc123_26, hf⟩ := bI1_some hf
                  refine g_callVi C G (As := [.int x21, .int x24]) (rest := [.long (31 * x23)]) (c_X7_cut l D cy h x21 x24 st r26 hc123_26) cl7 rfl (C7 ok7_0) v_X7_268 (Nat.le_of_ble_eq_true rfl) (Nat.le_of_ble_eq_true rfl) rfl hl.1 rfl (Nat.le_of_ble_eq_true rfl) dX7_digest_123 ⟨Nat.zero_le _, Nat.zero_le _⟩ (fun H locs G => ?_)
                  refine lv_i2l hx hb dX7_digest_126 rfl ?_
                  refine lv_ladd hx hb dX7_digest_127 ?_
                  refine lv_topl (fun x27 ex27 => ?_)
                  have hf := lt_some ex27 hf
                  refine lv_lstore_n (lv' := [(1, .long x27), (0, .ref (h 0)), (3, .int x21), (4, .int x24)]) hx hb dX7_digest_128 rfl hl (by decide) rfl (fun ls hl => ?_)
                  obtain ⟨x28, ex28⟩ : ∃ z : Int32, z = (x24 + 1) := ⟨_, rfl⟩
                  have hf := lt_some ex28 hf
                  refine lv_iinc (v := x28) (lv' := [(4, .int x28), (1, .long x27), (0, .ref (h 0)), (3, .int x21)]) hx hb dX7_digest_129 hl (k := 3) rfl (by rw [ex28]; rfl) (by decide) rfl (fun ls hl => ?_)
                  refine lv_goto (tgt := 108) hx hb dX7_digest_132 (by decide) ?_
                  cases hf
                  exact ih _ _ _ _ _ G (lv_sub hl [2, 1, 3, 0] rfl) (hq1 _ rfl)
            exact L108 n _ _ _ _ _ G (lv_sub hl [1, 2, 3, 0] rfl) hn
      exact L91 n _ _ _ _ _ G (lv_sub hl [1, 2, 0] rfl) hn
    have L59 : ∀ (n : Nat) (x13 : Int64) (x14 : Int32) (H : Heap) (locs : List Loc) (ls : Array Slot), gG XSh D cy h A s st H locs → lv_has ls 5 [(0, .ref (h 0)), (1, .long x13), (3, .int x14)] → lp (uc2 (f_X7_digest_L59 st)) n (x13, x14) = some (x19) → W p l e (gR 17) s m args below meth c H locs 0 0 (MQ below (gQl XSh D cy h A r stF) args s 0 0 A) (F0 m 59 ls []) := by
      intro n
      induction n with
      | zero =>
        intro x13 x14 H locs ls G hl hn
        cases hn
      | succ n ih =>
        intro x13 x14 H locs ls G hl hn
        obtain ⟨q, hf, hq1, hq2⟩ := lp_q hn
        have hf : f_X7_digest_L59 st x13 x14 = some q := hf
        unfold f_X7_digest_L59 at hf
        refine lv_iload_n hx hb dX7_digest_59 rfl (lv_at hl 2 rfl) ?_
        refine lv_aload_n hx hb dX7_digest_60 rfl (lv_at hl 0 rfl) ?_
        refine g_getr (k := 3) C G cl7 (C7 ok7_0) (j := 1) (by decide) (F7_1 ok7_0) k1_232 dX7_digest_61 ?_
        refine g_getiN C G cl3 (C3 (O7_1 ok7_0)) (j := 2) (by decide) (F3_2 (O7_1 ok7_0)) k1_156 dX7_digest_64 ?_
        refine lv_icmp_ge (tgt := 89) hx hb dX7_digest_67 (by decide) (fun c15 => ?_) (fun c15 => ?_)
        · have hf := ifP c15 hf
          cases hf
          have hz9 := hq2 _ rfl
          cases hz9
          exact K89 _ _ _ G (lv_sub hl [0, 1] rfl)
        · have hf := ifN c15 hf
          refine lv_ldc2 hx hb (v := 31) hown (htb _ k4_11) dX7_digest_70 ?_
          refine lv_lload_n hx hb dX7_digest_73 rfl (lv_at hl 1 rfl) ?_
          refine lv_lmul hx hb dX7_digest_74 ?_
          refine lv_aload_n hx hb dX7_digest_75 rfl (lv_at hl 0 rfl) ?_
          refine lv_iload_n hx hb dX7_digest_76 rfl (lv_at hl 2 rfl) ?_
          obtain ⟨r16, hc77_16, hf⟩ := bI1_some hf
          refine g_callVi C G (As := [.int x14]) (rest := [.long (31 * x13)]) (c_X7_order l D cy h x14 st r16 hc77_16) cl7 rfl (C7 ok7_0) v_X7_266 (Nat.le_of_ble_eq_true rfl) (Nat.le_of_ble_eq_true rfl) rfl hl.1 rfl (Nat.le_of_ble_eq_true rfl) dX7_digest_77 ⟨Nat.zero_le _, Nat.zero_le _⟩ (fun H locs G => ?_)
          refine lv_i2l hx hb dX7_digest_80 rfl ?_
          refine lv_ladd hx hb dX7_digest_81 ?_
          refine lv_topl (fun x17 ex17 => ?_)
          have hf := lt_some ex17 hf
          refine lv_lstore_n (lv' := [(1, .long x17), (0, .ref (h 0)), (3, .int x14)]) hx hb dX7_digest_82 rfl hl (by decide) rfl (fun ls hl => ?_)
          obtain ⟨x18, ex18⟩ : ∃ z : Int32, z = (x14 + 1) := ⟨_, rfl⟩
          have hf := lt_some ex18 hf
          refine lv_iinc (v := x18) (lv' := [(3, .int x18), (1, .long x17), (0, .ref (h 0))]) hx hb dX7_digest_83 hl (k := 2) rfl (by rw [ex18]; rfl) (by decide) rfl (fun ls hl => ?_)
          refine lv_goto (tgt := 59) hx hb dX7_digest_86 (by decide) ?_
          cases hf
          exact ih _ _ _ _ _ G (lv_sub hl [2, 1, 0] rfl) (hq1 _ rfl)
    exact L59 n _ _ _ _ _ G (lv_sub hl [1, 2, 0] rfl) hn
  have L6 : ∀ (n : Nat) (x1 : Int64) (x2 : Int32) (H : Heap) (locs : List Loc) (ls : Array Slot), gG XSh D cy h A s st H locs → lv_has ls 5 [(0, .ref (h 0)), (1, .long x1), (3, .int x2)] → lp (uc2 (f_X7_digest_L6 st)) n (x1, x2) = some (x12) → W p l e (gR 17) s m args below meth c H locs 0 0 (MQ below (gQl XSh D cy h A r stF) args s 0 0 A) (F0 m 6 ls []) := by
    intro n
    induction n with
    | zero =>
      intro x1 x2 H locs ls G hl hn
      cases hn
    | succ n ih =>
      intro x1 x2 H locs ls G hl hn
      obtain ⟨q, hf, hq1, hq2⟩ := lp_q hn
      have hf : f_X7_digest_L6 st x1 x2 = some q := hf
      unfold f_X7_digest_L6 at hf
      refine lv_iload_n hx hb dX7_digest_6 rfl (lv_at hl 2 rfl) ?_
      refine lv_aload_n hx hb dX7_digest_7 rfl (lv_at hl 0 rfl) ?_
      refine g_getr (k := 3) C G cl7 (C7 ok7_0) (j := 1) (by decide) (F7_1 ok7_0) k1_232 dX7_digest_8 ?_
      refine g_getrN (k := 4) C G cl3 (C3 (O7_1 ok7_0)) (j := 0) (by decide) (F3_0 (O7_1 ok7_0)) k1_152 dX7_digest_11 ?_
      refine g_getiN C G cl5 (C5 (O3_0 (O7_1 ok7_0))) (j := 5) (by decide) (F5_5 (O3_0 (O7_1 ok7_0))) k1_71 dX7_digest_14 ?_
      refine lv_icmp_ge (tgt := 57) hx hb dX7_digest_17 (by decide) (fun c3 => ?_) (fun c3 => ?_)
      · have hf := ifP c3 hf
        cases hf
        have hz9 := hq2 _ rfl
        cases hz9
        exact K57 _ _ _ G (lv_sub hl [0, 1] rfl)
      · have hf := ifN c3 hf
        refine lv_iconst (v := 0) hx hb dX7_digest_20 (by decide) ?_
        refine lv_istore (lv' := [(4, .int 0), (0, .ref (h 0)), (1, .long x1), (3, .int x2)]) hx hb dX7_digest_21 hl (by decide) rfl (fun ls hl => ?_)
        obtain ⟨x10, hn, hf⟩ := bI1_some hf
        obtain ⟨n, hn⟩ := lpx_some hn
        have K51 : ∀ (H : Heap) (locs : List Loc) (ls : Array Slot), gG XSh D cy h A s st H locs → lv_has ls 5 [(0, .ref (h 0)), (1, .long x10), (3, .int x2)] → W p l e (gR 17) s m args below meth c H locs 0 0 (MQ below (gQl XSh D cy h A r stF) args s 0 0 A) (F0 m 51 ls []) := by
          intro H locs ls G hl
          obtain ⟨x11, ex11⟩ : ∃ z : Int32, z = (x2 + 1) := ⟨_, rfl⟩
          have hf := lt_some ex11 hf
          refine lv_iinc (v := x11) (lv' := [(3, .int x11), (0, .ref (h 0)), (1, .long x10)]) hx hb dX7_digest_51 hl (k := 2) rfl (by rw [ex11]; rfl) (by decide) rfl (fun ls hl => ?_)
          refine lv_goto (tgt := 6) hx hb dX7_digest_54 (by decide) ?_
          cases hf
          exact ih _ _ _ _ _ G (lv_sub hl [1, 2, 0] rfl) (hq1 _ rfl)
        have L23 : ∀ (n : Nat) (x4 : Int64) (x5 : Int32) (H : Heap) (locs : List Loc) (ls : Array Slot), gG XSh D cy h A s st H locs → lv_has ls 5 [(0, .ref (h 0)), (1, .long x4), (3, .int x2), (4, .int x5)] → lp (uc2 (f_X7_digest_L23 st x2)) n (x4, x5) = some (x10) → W p l e (gR 17) s m args below meth c H locs 0 0 (MQ below (gQl XSh D cy h A r stF) args s 0 0 A) (F0 m 23 ls []) := by
          intro n
          induction n with
          | zero =>
            intro x4 x5 H locs ls G hl hn
            cases hn
          | succ n ih =>
            intro x4 x5 H locs ls G hl hn
            obtain ⟨q, hf, hq1, hq2⟩ := lp_q hn
            have hf : f_X7_digest_L23 st x2 x4 x5 = some q := hf
            unfold f_X7_digest_L23 at hf
            refine lv_iload hx hb dX7_digest_23 (lv_at hl 3 rfl) ?_
            refine lv_bipush (v := 9) hx hb dX7_digest_25 (by decide) ?_
            refine lv_icmp_gt (tgt := 51) hx hb dX7_digest_27 (by decide) (fun c6 => ?_) (fun c6 => ?_)
            · have hf := ifP c6 hf
              cases hf
              have hz9 := hq2 _ rfl
              cases hz9
              exact K51 _ _ _ G (lv_sub hl [0, 1, 2] rfl)
            · have hf := ifN c6 hf
              refine lv_ldc2 hx hb (v := 31) hown (htb _ k4_11) dX7_digest_30 ?_
              refine lv_lload_n hx hb dX7_digest_33 rfl (lv_at hl 1 rfl) ?_
              refine lv_lmul hx hb dX7_digest_34 ?_
              refine lv_aload_n hx hb dX7_digest_35 rfl (lv_at hl 0 rfl) ?_
              refine lv_iload_n hx hb dX7_digest_36 rfl (lv_at hl 2 rfl) ?_
              refine lv_iload hx hb dX7_digest_37 (lv_at hl 3 rfl) ?_
              obtain ⟨r7, hc39_7, hf⟩ := bI1_some hf
              refine g_callVi C G (As := [.int x2, .int x5]) (rest := [.long (31 * x4)]) (c_X7_box l D cy h x2 x5 st r7 hc39_7) cl7 rfl (C7 ok7_0) v_X7_263 (Nat.le_of_ble_eq_true rfl) (Nat.le_of_ble_eq_true rfl) rfl hl.1 rfl (Nat.le_of_ble_eq_true rfl) dX7_digest_39 ⟨Nat.zero_le _, Nat.zero_le _⟩ (fun H locs G => ?_)
              refine lv_i2l hx hb dX7_digest_42 rfl ?_
              refine lv_ladd hx hb dX7_digest_43 ?_
              refine lv_topl (fun x8 ex8 => ?_)
              have hf := lt_some ex8 hf
              refine lv_lstore_n (lv' := [(1, .long x8), (0, .ref (h 0)), (3, .int x2), (4, .int x5)]) hx hb dX7_digest_44 rfl hl (by decide) rfl (fun ls hl => ?_)
              obtain ⟨x9, ex9⟩ : ∃ z : Int32, z = (x5 + 1) := ⟨_, rfl⟩
              have hf := lt_some ex9 hf
              refine lv_iinc (v := x9) (lv' := [(4, .int x9), (1, .long x8), (0, .ref (h 0)), (3, .int x2)]) hx hb dX7_digest_45 hl (k := 3) rfl (by rw [ex9]; rfl) (by decide) rfl (fun ls hl => ?_)
              refine lv_goto (tgt := 23) hx hb dX7_digest_48 (by decide) ?_
              cases hf
              exact ih _ _ _ _ _ G (lv_sub hl [2, 1, 3, 0] rfl) (hq1 _ rfl)
        exact L23 n _ _ _ _ _ G (lv_sub hl [1, 2, 3, 0] rfl) hn
  exact L6 n _ _ _ _ _ G (lv_sub hl [2, 1, 0] rfl) hn
