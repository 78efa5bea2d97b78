set_option maxRecDepth 100000 in
set_option maxHeartbeats 4000000 in
theorem i_X3 (l : Launch) (D : va_G) (cy : ClassId) (q0 : Nat) : nM l Sh3 D cy yX3_init cX3_init 2 24 195 q0 (.inr (3, [.null, .null, .int 0, .null, .null, .null, .null, .int 0, .null, .null, .null, .int 0, .null])) z0 := by
  refine n_start (by decide) rfl ?_
  intro p e s m args below meth c A ls C hr hlocks G hl
  have C : nC p s m args meth c cX3_init 1 "LaneOrder$Reading" D cy A := C
  have hx := C.1
  have hb := C.2.1
  refine lv_aload_n hx hb dX3_init_0 rfl (lv_at hl 0 rfl) ?_
  refine n_obj C hl.1 kob_3 kobi kobc dX3_init_1 (by decide) (by decide) ?_
  refine lv_aload_n hx hb dX3_init_4 rfl (lv_at hl 0 rfl) ?_
  refine n_new C G cl5 (fs := [.null, .null, .null, .null, .null, .int 0, .null, .int 0]) kcl_1_48 kin_5 ini_LaneOrder_Sheet (fun j hj => by revert hj; revert j; decide) (by decide) (by decide) dX3_init_5 (fun q1 H G => ?_)
  refine lv_dup hx hb dX3_init_8 rfl ?_
  have G : nG D A s ((((q0, .inr (3, [.null, .null, .int 0, .null, .null, .null, .null, .int 0, .null, .null, .null, .int 0, .null])) :: [])) ++ [(q1, .inr (5, [.null, .null, .null, .null, .null, .int 0, .null, .int 0]))]) H _ := G
  refine n_init C G (i_X5 l D cy q1) kmn_1_50 kc_X5_init ki_X5_init ini_LaneOrder_Sheet rfl kd_X5_init (by decide) (by decide) hl.1 (Nat.le_of_ble_eq_true rfl) dX3_init_9 ⟨by decide, by decide⟩ (fun u1 H locs hu1 G => ?_)
  have G : nG D A s ((q0, .inr (3, [.null, .null, .int 0, .null, .null, .null, .null, .int 0, .null, .null, .null, .int 0, .null])) :: (gW Sh5 cy u1 z0)) H _ := G
  rw [← hu1]
  refine n_putF C G (v := .ref (u1 0)) cl3 (j := 0) (by decide) k1_151 rfl rfl rfl rfl (Nat.le_of_ble_eq_true rfl) dX3_init_12 (fun H locs G => ?_)
  have G : nG D A s ((q0, .inr (3, [.ref (u1 0), .null, .int 0, .null, .null, .null, .null, .int 0, .null, .null, .null, .int 0, .null])) :: (gW Sh5 cy u1 z0)) H _ := G
  refine lv_aload_n hx hb dX3_init_15 rfl (lv_at hl 0 rfl) ?_
  refine lv_bipush (v := 8) hx hb dX3_init_16 (by decide) ?_
  refine n_newa C G (N := 8) arrI (by decide) (by decide) (by decide) (by decide) (by decide) dX3_init_18 (fun q2 H G => ?_)
  have G : nG D A s ((q0, .inr (3, [.ref (u1 0), .null, .int 0, .null, .null, .null, .null, .int 0, .null, .null, .null, .int 0, .null])) :: ((gW Sh5 cy u1 z0) ++ [(q2, .inl (cy, 8, .inl (fun _ => 0)))])) H _ := G
  refine n_putF C G (v := .ref q2) cl3 (j := 1) (by decide) k1_153 rfl rfl rfl rfl (Nat.le_of_ble_eq_true rfl) dX3_init_20 (fun H locs G => ?_)
  have G : nG D A s ((q0, .inr (3, [.ref (u1 0), .ref q2, .int 0, .null, .null, .null, .null, .int 0, .null, .null, .null, .int 0, .null])) :: ((gW Sh5 cy u1 z0) ++ [(q2, .inl (cy, 8, .inl (fun _ => 0)))])) H _ := G
  refine lv_aload_n hx hb dX3_init_23 rfl (lv_at hl 0 rfl) ?_
  refine lv_bipush (v := 8) hx hb dX3_init_24 (by decide) ?_
  refine n_newa C G (N := 8) arrI (by decide) (by decide) (by decide) (by decide) (by decide) dX3_init_26 (fun q3 H G => ?_)
  have G : nG D A s ((q0, .inr (3, [.ref (u1 0), .ref q2, .int 0, .null, .null, .null, .null, .int 0, .null, .null, .null, .int 0, .null])) :: (((gW Sh5 cy u1 z0) ++ [(q2, .inl (cy, 8, .inl (fun _ => 0)))]) ++ [(q3, .inl (cy, 8, .inl (fun _ => 0)))])) H _ := G
  refine n_putF C G (v := .ref q3) cl3 (j := 3) (by decide) k1_157 rfl rfl rfl rfl (Nat.le_of_ble_eq_true rfl) dX3_init_28 (fun H locs G => ?_)
  have G : nG D A s ((q0, .inr (3, [.ref (u1 0), .ref q2, .int 0, .ref q3, .null, .null, .null, .int 0, .null, .null, .null, .int 0, .null])) :: (((gW Sh5 cy u1 z0) ++ [(q2, .inl (cy, 8, .inl (fun _ => 0)))]) ++ [(q3, .inl (cy, 8, .inl (fun _ => 0)))])) H _ := G
  refine lv_aload_n hx hb dX3_init_31 rfl (lv_at hl 0 rfl) ?_
  refine lv_bipush (v := 8) hx hb dX3_init_32 (by decide) ?_
  refine n_newa C G (N := 8) arrI (by decide) (by decide) (by decide) (by decide) (by decide) dX3_init_34 (fun q4 H G => ?_)
  have G : nG D A s ((q0, .inr (3, [.ref (u1 0), .ref q2, .int 0, .ref q3, .null, .null, .null, .int 0, .null, .null, .null, .int 0, .null])) :: ((((gW Sh5 cy u1 z0) ++ [(q2, .inl (cy, 8, .inl (fun _ => 0)))]) ++ [(q3, .inl (cy, 8, .inl (fun _ => 0)))]) ++ [(q4, .inl (cy, 8, .inl (fun _ => 0)))])) H _ := G
  refine n_putF C G (v := .ref q4) cl3 (j := 4) (by decide) k1_159 rfl rfl rfl rfl (Nat.le_of_ble_eq_true rfl) dX3_init_36 (fun H locs G => ?_)
  have G : nG D A s ((q0, .inr (3, [.ref (u1 0), .ref q2, .int 0, .ref q3, .ref q4, .null, .null, .int 0, .null, .null, .null, .int 0, .null])) :: ((((gW Sh5 cy u1 z0) ++ [(q2, .inl (cy, 8, .inl (fun _ => 0)))]) ++ [(q3, .inl (cy, 8, .inl (fun _ => 0)))]) ++ [(q4, .inl (cy, 8, .inl (fun _ => 0)))])) H _ := G
  refine lv_aload_n hx hb dX3_init_39 rfl (lv_at hl 0 rfl) ?_
  refine lv_bipush (v := 8) hx hb dX3_init_40 (by decide) ?_
  refine n_newa C G (N := 8) arrI (by decide) (by decide) (by decide) (by decide) (by decide) dX3_init_42 (fun q5 H G => ?_)
  have G : nG D A s ((q0, .inr (3, [.ref (u1 0), .ref q2, .int 0, .ref q3, .ref q4, .null, .null, .int 0, .null, .null, .null, .int 0, .null])) :: (((((gW Sh5 cy u1 z0) ++ [(q2, .inl (cy, 8, .inl (fun _ => 0)))]) ++ [(q3, .inl (cy, 8, .inl (fun _ => 0)))]) ++ [(q4, .inl (cy, 8, .inl (fun _ => 0)))]) ++ [(q5, .inl (cy, 8, .inl (fun _ => 0)))])) H _ := G
  refine n_putF C G (v := .ref q5) cl3 (j := 5) (by decide) k1_161 rfl rfl rfl rfl (Nat.le_of_ble_eq_true rfl) dX3_init_44 (fun H locs G => ?_)
  have G : nG D A s ((q0, .inr (3, [.ref (u1 0), .ref q2, .int 0, .ref q3, .ref q4, .ref q5, .null, .int 0, .null, .null, .null, .int 0, .null])) :: (((((gW Sh5 cy u1 z0) ++ [(q2, .inl (cy, 8, .inl (fun _ => 0)))]) ++ [(q3, .inl (cy, 8, .inl (fun _ => 0)))]) ++ [(q4, .inl (cy, 8, .inl (fun _ => 0)))]) ++ [(q5, .inl (cy, 8, .inl (fun _ => 0)))])) H _ := G
  refine lv_aload_n hx hb dX3_init_47 rfl (lv_at hl 0 rfl) ?_
  refine lv_bipush (v := 8) hx hb dX3_init_48 (by decide) ?_
  refine n_newa C G (N := 8) arrI (by decide) (by decide) (by decide) (by decide) (by decide) dX3_init_50 (fun q6 H G => ?_)
  have G : nG D A s ((q0, .inr (3, [.ref (u1 0), .ref q2, .int 0, .ref q3, .ref q4, .ref q5, .null, .int 0, .null, .null, .null, .int 0, .null])) :: ((((((gW Sh5 cy u1 z0) ++ [(q2, .inl (cy, 8, .inl (fun _ => 0)))]) ++ [(q3, .inl (cy, 8, .inl (fun _ => 0)))]) ++ [(q4, .inl (cy, 8, .inl (fun _ => 0)))]) ++ [(q5, .inl (cy, 8, .inl (fun _ => 0)))]) ++ [(q6, .inl (cy, 8, .inl (fun _ => 0)))])) H _ := G
  refine n_putF C G (v := .ref q6) cl3 (j := 6) (by decide) k1_163 rfl rfl rfl rfl (Nat.le_of_ble_eq_true rfl) dX3_init_52 (fun H locs G => ?_)
  have G : nG D A s ((q0, .inr (3, [.ref (u1 0), .ref q2, .int 0, .ref q3, .ref q4, .ref q5, .ref q6, .int 0, .null, .null, .null, .int 0, .null])) :: ((((((gW Sh5 cy u1 z0) ++ [(q2, .inl (cy, 8, .inl (fun _ => 0)))]) ++ [(q3, .inl (cy, 8, .inl (fun _ => 0)))]) ++ [(q4, .inl (cy, 8, .inl (fun _ => 0)))]) ++ [(q5, .inl (cy, 8, .inl (fun _ => 0)))]) ++ [(q6, .inl (cy, 8, .inl (fun _ => 0)))])) H _ := G
  refine lv_aload_n hx hb dX3_init_55 rfl (lv_at hl 0 rfl) ?_
  refine n_new C G cl0 (fs := [.null, .null, .null, .null, .null, .int 0]) kcl_1_93 kin_0 ini_LaneOrder_Cuts (fun j hj => by revert hj; revert j; decide) (by decide) (by decide) dX3_init_56 (fun q7 H G => ?_)
  refine lv_dup hx hb dX3_init_59 rfl ?_
  have G : nG D A s ((((q0, .inr (3, [.ref (u1 0), .ref q2, .int 0, .ref q3, .ref q4, .ref q5, .ref q6, .int 0, .null, .null, .null, .int 0, .null])) :: ((((((gW Sh5 cy u1 z0) ++ [(q2, .inl (cy, 8, .inl (fun _ => 0)))]) ++ [(q3, .inl (cy, 8, .inl (fun _ => 0)))]) ++ [(q4, .inl (cy, 8, .inl (fun _ => 0)))]) ++ [(q5, .inl (cy, 8, .inl (fun _ => 0)))]) ++ [(q6, .inl (cy, 8, .inl (fun _ => 0)))]))) ++ [(q7, .inr (0, [.null, .null, .null, .null, .null, .int 0]))]) H _ := G
  refine n_init C G (i_X0 l D cy q7) kmn_1_95 kc_X0_init ki_X0_init ini_LaneOrder_Cuts rfl kd_X0_init (by decide) (by decide) hl.1 (Nat.le_of_ble_eq_true rfl) dX3_init_60 ⟨by decide, by decide⟩ (fun u7 H locs hu7 G => ?_)
  have G : nG D A s ((q0, .inr (3, [.ref (u1 0), .ref q2, .int 0, .ref q3, .ref q4, .ref q5, .ref q6, .int 0, .null, .null, .null, .int 0, .null])) :: (((((((gW Sh5 cy u1 z0) ++ [(q2, .inl (cy, 8, .inl (fun _ => 0)))]) ++ [(q3, .inl (cy, 8, .inl (fun _ => 0)))]) ++ [(q4, .inl (cy, 8, .inl (fun _ => 0)))]) ++ [(q5, .inl (cy, 8, .inl (fun _ => 0)))]) ++ [(q6, .inl (cy, 8, .inl (fun _ => 0)))]) ++ gW Sh0 cy u7 z0)) H _ := G
  rw [← hu7]
  refine n_putF C G (v := .ref (u7 0)) cl3 (j := 8) (by decide) k1_166 rfl rfl rfl rfl (Nat.le_of_ble_eq_true rfl) dX3_init_63 (fun H locs G => ?_)
  have G : nG D A s ((q0, .inr (3, [.ref (u1 0), .ref q2, .int 0, .ref q3, .ref q4, .ref q5, .ref q6, .int 0, .ref (u7 0), .null, .null, .int 0, .null])) :: (((((((gW Sh5 cy u1 z0) ++ [(q2, .inl (cy, 8, .inl (fun _ => 0)))]) ++ [(q3, .inl (cy, 8, .inl (fun _ => 0)))]) ++ [(q4, .inl (cy, 8, .inl (fun _ => 0)))]) ++ [(q5, .inl (cy, 8, .inl (fun _ => 0)))]) ++ [(q6, .inl (cy, 8, .inl (fun _ => 0)))]) ++ gW Sh0 cy u7 z0)) H _ := G
  refine lv_aload_n hx hb dX3_init_66 rfl (lv_at hl 0 rfl) ?_
  refine n_new C G cl2 (fs := [.null, .null, .null, .int 0]) kcl_1_124 kin_2 ini_LaneOrder_Lanes (fun j hj => by revert hj; revert j; decide) (by decide) (by decide) dX3_init_67 (fun q8 H G => ?_)
  refine lv_dup hx hb dX3_init_70 rfl ?_
  have G : nG D A s ((((q0, .inr (3, [.ref (u1 0), .ref q2, .int 0, .ref q3, .ref q4, .ref q5, .ref q6, .int 0, .ref (u7 0), .null, .null, .int 0, .null])) :: (((((((gW Sh5 cy u1 z0) ++ [(q2, .inl (cy, 8, .inl (fun _ => 0)))]) ++ [(q3, .inl (cy, 8, .inl (fun _ => 0)))]) ++ [(q4, .inl (cy, 8, .inl (fun _ => 0)))]) ++ [(q5, .inl (cy, 8, .inl (fun _ => 0)))]) ++ [(q6, .inl (cy, 8, .inl (fun _ => 0)))]) ++ gW Sh0 cy u7 z0))) ++ [(q8, .inr (2, [.null, .null, .null, .int 0]))]) H _ := G
  refine n_init C G (i_X2 l D cy q8) kmn_1_126 kc_X2_init ki_X2_init ini_LaneOrder_Lanes rfl kd_X2_init (by decide) (by decide) hl.1 (Nat.le_of_ble_eq_true rfl) dX3_init_71 ⟨by decide, by decide⟩ (fun u8 H locs hu8 G => ?_)
  have G : nG D A s ((q0, .inr (3, [.ref (u1 0), .ref q2, .int 0, .ref q3, .ref q4, .ref q5, .ref q6, .int 0, .ref (u7 0), .null, .null, .int 0, .null])) :: ((((((((gW Sh5 cy u1 z0) ++ [(q2, .inl (cy, 8, .inl (fun _ => 0)))]) ++ [(q3, .inl (cy, 8, .inl (fun _ => 0)))]) ++ [(q4, .inl (cy, 8, .inl (fun _ => 0)))]) ++ [(q5, .inl (cy, 8, .inl (fun _ => 0)))]) ++ [(q6, .inl (cy, 8, .inl (fun _ => 0)))]) ++ gW Sh0 cy u7 z0) ++ gW Sh2 cy u8 z0)) H _ := G
  rw [← hu8]
  refine n_putF C G (v := .ref (u8 0)) cl3 (j := 9) (by decide) k1_168 rfl rfl rfl rfl (Nat.le_of_ble_eq_true rfl) dX3_init_74 (fun H locs G => ?_)
  have G : nG D A s ((q0, .inr (3, [.ref (u1 0), .ref q2, .int 0, .ref q3, .ref q4, .ref q5, .ref q6, .int 0, .ref (u7 0), .ref (u8 0), .null, .int 0, .null])) :: ((((((((gW Sh5 cy u1 z0) ++ [(q2, .inl (cy, 8, .inl (fun _ => 0)))]) ++ [(q3, .inl (cy, 8, .inl (fun _ => 0)))]) ++ [(q4, .inl (cy, 8, .inl (fun _ => 0)))]) ++ [(q5, .inl (cy, 8, .inl (fun _ => 0)))]) ++ [(q6, .inl (cy, 8, .inl (fun _ => 0)))]) ++ gW Sh0 cy u7 z0) ++ gW Sh2 cy u8 z0)) H _ := G
  refine lv_aload_n hx hb dX3_init_77 rfl (lv_at hl 0 rfl) ?_
  refine lv_bipush (v := 8) hx hb dX3_init_78 (by decide) ?_
  refine n_newa C G (N := 8) arrI (by decide) (by decide) (by decide) (by decide) (by decide) dX3_init_80 (fun q9 H G => ?_)
  have G : nG D A s ((q0, .inr (3, [.ref (u1 0), .ref q2, .int 0, .ref q3, .ref q4, .ref q5, .ref q6, .int 0, .ref (u7 0), .ref (u8 0), .null, .int 0, .null])) :: (((((((((gW Sh5 cy u1 z0) ++ [(q2, .inl (cy, 8, .inl (fun _ => 0)))]) ++ [(q3, .inl (cy, 8, .inl (fun _ => 0)))]) ++ [(q4, .inl (cy, 8, .inl (fun _ => 0)))]) ++ [(q5, .inl (cy, 8, .inl (fun _ => 0)))]) ++ [(q6, .inl (cy, 8, .inl (fun _ => 0)))]) ++ gW Sh0 cy u7 z0) ++ gW Sh2 cy u8 z0) ++ [(q9, .inl (cy, 8, .inl (fun _ => 0)))])) H _ := G
  refine n_putF C G (v := .ref q9) cl3 (j := 10) (by decide) k1_170 rfl rfl rfl rfl (Nat.le_of_ble_eq_true rfl) dX3_init_82 (fun H locs G => ?_)
  have G : nG D A s ((q0, .inr (3, [.ref (u1 0), .ref q2, .int 0, .ref q3, .ref q4, .ref q5, .ref q6, .int 0, .ref (u7 0), .ref (u8 0), .ref q9, .int 0, .null])) :: (((((((((gW Sh5 cy u1 z0) ++ [(q2, .inl (cy, 8, .inl (fun _ => 0)))]) ++ [(q3, .inl (cy, 8, .inl (fun _ => 0)))]) ++ [(q4, .inl (cy, 8, .inl (fun _ => 0)))]) ++ [(q5, .inl (cy, 8, .inl (fun _ => 0)))]) ++ [(q6, .inl (cy, 8, .inl (fun _ => 0)))]) ++ gW Sh0 cy u7 z0) ++ gW Sh2 cy u8 z0) ++ [(q9, .inl (cy, 8, .inl (fun _ => 0)))])) H _ := G
  refine lv_aload_n hx hb dX3_init_85 rfl (lv_at hl 0 rfl) ?_
  refine lv_bipush (v := 8) hx hb dX3_init_86 (by decide) ?_
  refine n_newa C G (N := 8) arrI (by decide) (by decide) (by decide) (by decide) (by decide) dX3_init_88 (fun q10 H G => ?_)
  have G : nG D A s ((q0, .inr (3, [.ref (u1 0), .ref q2, .int 0, .ref q3, .ref q4, .ref q5, .ref q6, .int 0, .ref (u7 0), .ref (u8 0), .ref q9, .int 0, .null])) :: ((((((((((gW Sh5 cy u1 z0) ++ [(q2, .inl (cy, 8, .inl (fun _ => 0)))]) ++ [(q3, .inl (cy, 8, .inl (fun _ => 0)))]) ++ [(q4, .inl (cy, 8, .inl (fun _ => 0)))]) ++ [(q5, .inl (cy, 8, .inl (fun _ => 0)))]) ++ [(q6, .inl (cy, 8, .inl (fun _ => 0)))]) ++ gW Sh0 cy u7 z0) ++ gW Sh2 cy u8 z0) ++ [(q9, .inl (cy, 8, .inl (fun _ => 0)))]) ++ [(q10, .inl (cy, 8, .inl (fun _ => 0)))])) H _ := G
  refine n_putF C G (v := .ref q10) cl3 (j := 12) (by decide) k1_173 rfl rfl rfl rfl (Nat.le_of_ble_eq_true rfl) dX3_init_90 (fun H locs G => ?_)
  have G : nG D A s ((q0, .inr (3, [.ref (u1 0), .ref q2, .int 0, .ref q3, .ref q4, .ref q5, .ref q6, .int 0, .ref (u7 0), .ref (u8 0), .ref q9, .int 0, .ref q10])) :: ((((((((((gW Sh5 cy u1 z0) ++ [(q2, .inl (cy, 8, .inl (fun _ => 0)))]) ++ [(q3, .inl (cy, 8, .inl (fun _ => 0)))]) ++ [(q4, .inl (cy, 8, .inl (fun _ => 0)))]) ++ [(q5, .inl (cy, 8, .inl (fun _ => 0)))]) ++ [(q6, .inl (cy, 8, .inl (fun _ => 0)))]) ++ gW Sh0 cy u7 z0) ++ gW Sh2 cy u8 z0) ++ [(q9, .inl (cy, 8, .inl (fun _ => 0)))]) ++ [(q10, .inl (cy, 8, .inl (fun _ => 0)))])) H _ := G
  refine n_ret C G (fun k => ([q0, (u1 0), (u1 1), (u1 2), (u1 3), (u1 4), (u1 5), (u1 6), q2, q3, q4, q5, q6, (u7 0), (u7 1), (u7 2), (u7 3), (u7 4), (u7 5), (u8 0), (u8 1), (u8 2), (u8 3), q9, q10] : List Nat).getD k 0) rfl (gW_ext rfl (fun k hk => ?_)) hr hlocks (by decide) (by decide) dX3_init_93
  match k, hk with
  | 0, _ => rfl
  | 1, _ => rfl
  | 2, _ => rfl
  | 3, _ => rfl
  | 4, _ => rfl
  | 5, _ => rfl
  | 6, _ => rfl
  | 7, _ => rfl
  | 8, _ => rfl
  | 9, _ => rfl
  | 10, _ => rfl
  | 11, _ => rfl
  | 12, _ => rfl
  | 13, _ => rfl
  | 14, _ => rfl
  | 15, _ => rfl
  | 16, _ => rfl
  | 17, _ => rfl
  | 18, _ => rfl
  | 19, _ => rfl
  | 20, _ => rfl
  | 21, _ => rfl
  | 22, _ => rfl
  | 23, _ => rfl
  | 24, _ => rfl
  | k + 25, hk => exact absurd hk (Nat.not_lt.mpr (Nat.le_add_left _ _))
