set_option maxRecDepth 100000 in
set_option maxHeartbeats 4000000 in
theorem i_X7 (l : Launch) (D : va_G) (cy : ClassId) (q0 : Nat) : nM l XSh D cy yX7_init cX7_init 3 66 555 q0 (.inr (7, [.null, .null, .null, .null, .null, .int 0, .int 0, .null, .null])) z0 := by
  refine n_start (by decide) rfl ?_
  intro p e s m args below meth c A ls C hr hlocks G hl
  have C : nC p s m args meth c cX7_init 1 "LaneOrder" D cy A := C
  have hx := C.1
  have hb := C.2.1
  refine lv_aload_n hx hb dX7_init_0 rfl (lv_at hl 0 rfl) ?_
  refine n_obj C hl.1 kob_7 kobi kobc dX7_init_1 (by decide) (by decide) ?_
  refine lv_aload_n hx hb dX7_init_4 rfl (lv_at hl 0 rfl) ?_
  refine n_new C G cl6 (fs := [.null, .int 0]) kcl_1_26 kin_6 ini_LaneOrder_Text (fun j hj => by revert hj; revert j; decide) (by decide) (by decide) dX7_init_5 (fun q1 H G => ?_)
  refine lv_dup hx hb dX7_init_8 rfl ?_
  have G : nG D A s ((((q0, .inr (7, [.null, .null, .null, .null, .null, .int 0, .int 0, .null, .null])) :: [])) ++ [(q1, .inr (6, [.null, .int 0]))]) H _ := G
  refine n_init C G (i_X6 l D cy q1) kmn_1_28 kc_X6_init ki_X6_init ini_LaneOrder_Text rfl kd_X6_init (by decide) (by decide) hl.1 (Nat.le_of_ble_eq_true rfl) dX7_init_9 ⟨by decide, by decide⟩ (fun u1 H locs hu1 G => ?_)
  have G : nG D A s ((q0, .inr (7, [.null, .null, .null, .null, .null, .int 0, .int 0, .null, .null])) :: (gW Sh6 cy u1 z0)) H _ := G
  rw [← hu1]
  refine n_putF C G (v := .ref (u1 0)) cl7 (j := 0) (by decide) k1_231 rfl rfl rfl rfl (Nat.le_of_ble_eq_true rfl) dX7_init_12 (fun H locs G => ?_)
  have G : nG D A s ((q0, .inr (7, [.ref (u1 0), .null, .null, .null, .null, .int 0, .int 0, .null, .null])) :: (gW Sh6 cy u1 z0)) H _ := G
  refine lv_aload_n hx hb dX7_init_15 rfl (lv_at hl 0 rfl) ?_
  refine n_new C G cl3 (fs := [.null, .null, .int 0, .null, .null, .null, .null, .int 0, .null, .null, .null, .int 0, .null]) kcl_1_42 kin_3 ini_LaneOrder_Reading (fun j hj => by revert hj; revert j; decide) (by decide) (by decide) dX7_init_16 (fun q2 H G => ?_)
  refine lv_dup hx hb dX7_init_19 rfl ?_
  have G : nG D A s ((((q0, .inr (7, [.ref (u1 0), .null, .null, .null, .null, .int 0, .int 0, .null, .null])) :: (gW Sh6 cy u1 z0))) ++ [(q2, .inr (3, [.null, .null, .int 0, .null, .null, .null, .null, .int 0, .null, .null, .null, .int 0, .null]))]) H _ := G
  refine n_init C G (i_X3 l D cy q2) kmn_1_44 kc_X3_init ki_X3_init ini_LaneOrder_Reading rfl kd_X3_init (by decide) (by decide) hl.1 (Nat.le_of_ble_eq_true rfl) dX7_init_20 ⟨by decide, by decide⟩ (fun u2 H locs hu2 G => ?_)
  have G : nG D A s ((q0, .inr (7, [.ref (u1 0), .null, .null, .null, .null, .int 0, .int 0, .null, .null])) :: ((gW Sh6 cy u1 z0) ++ gW Sh3 cy u2 z0)) H _ := G
  rw [← hu2]
  refine n_putF C G (v := .ref (u2 0)) cl7 (j := 1) (by decide) k1_232 rfl rfl rfl rfl (Nat.le_of_ble_eq_true rfl) dX7_init_23 (fun H locs G => ?_)
  have G : nG D A s ((q0, .inr (7, [.ref (u1 0), .ref (u2 0), .null, .null, .null, .int 0, .int 0, .null, .null])) :: ((gW Sh6 cy u1 z0) ++ gW Sh3 cy u2 z0)) H _ := G
  refine lv_aload_n hx hb dX7_init_26 rfl (lv_at hl 0 rfl) ?_
  refine n_new C G cl4 (fs := [.null, .null, .int 0]) kcl_1_201 kin_4 ini_LaneOrder_Seen (fun j hj => by revert hj; revert j; decide) (by decide) (by decide) dX7_init_27 (fun q3 H G => ?_)
  refine lv_dup hx hb dX7_init_30 rfl ?_
  have G : nG D A s ((((q0, .inr (7, [.ref (u1 0), .ref (u2 0), .null, .null, .null, .int 0, .int 0, .null, .null])) :: ((gW Sh6 cy u1 z0) ++ gW Sh3 cy u2 z0))) ++ [(q3, .inr (4, [.null, .null, .int 0]))]) H _ := G
  refine n_init C G (i_X4 l D cy q3) kmn_1_203 kc_X4_init ki_X4_init ini_LaneOrder_Seen rfl kd_X4_init (by decide) (by decide) hl.1 (Nat.le_of_ble_eq_true rfl) dX7_init_31 ⟨by decide, by decide⟩ (fun u3 H locs hu3 G => ?_)
  have G : nG D A s ((q0, .inr (7, [.ref (u1 0), .ref (u2 0), .null, .null, .null, .int 0, .int 0, .null, .null])) :: (((gW Sh6 cy u1 z0) ++ gW Sh3 cy u2 z0) ++ gW Sh4 cy u3 z0)) H _ := G
  rw [← hu3]
  refine n_putF C G (v := .ref (u3 0)) cl7 (j := 2) (by decide) k1_233 rfl rfl rfl rfl (Nat.le_of_ble_eq_true rfl) dX7_init_34 (fun H locs G => ?_)
  have G : nG D A s ((q0, .inr (7, [.ref (u1 0), .ref (u2 0), .ref (u3 0), .null, .null, .int 0, .int 0, .null, .null])) :: (((gW Sh6 cy u1 z0) ++ gW Sh3 cy u2 z0) ++ gW Sh4 cy u3 z0)) H _ := G
  refine lv_aload_n hx hb dX7_init_37 rfl (lv_at hl 0 rfl) ?_
  refine n_new C G cl5 (fs := [.null, .null, .null, .null, .null, .int 0, .null, .int 0]) kcl_1_218 kin_5 ini_LaneOrder_Sheet (fun j hj => by revert hj; revert j; decide) (by decide) (by decide) dX7_init_38 (fun q4 H G => ?_)
  refine lv_dup hx hb dX7_init_41 rfl ?_
  have G : nG D A s ((((q0, .inr (7, [.ref (u1 0), .ref (u2 0), .ref (u3 0), .null, .null, .int 0, .int 0, .null, .null])) :: (((gW Sh6 cy u1 z0) ++ gW Sh3 cy u2 z0) ++ gW Sh4 cy u3 z0))) ++ [(q4, .inr (5, [.null, .null, .null, .null, .null, .int 0, .null, .int 0]))]) H _ := G
  refine n_init C G (i_X5 l D cy q4) kmn_1_219 kc_X5_init ki_X5_init ini_LaneOrder_Sheet rfl kd_X5_init (by decide) (by decide) hl.1 (Nat.le_of_ble_eq_true rfl) dX7_init_42 ⟨by decide, by decide⟩ (fun u4 H locs hu4 G => ?_)
  have G : nG D A s ((q0, .inr (7, [.ref (u1 0), .ref (u2 0), .ref (u3 0), .null, .null, .int 0, .int 0, .null, .null])) :: ((((gW Sh6 cy u1 z0) ++ gW Sh3 cy u2 z0) ++ gW Sh4 cy u3 z0) ++ gW Sh5 cy u4 z0)) H _ := G
  rw [← hu4]
  refine n_putF C G (v := .ref (u4 0)) cl7 (j := 3) (by decide) k1_234 rfl rfl rfl rfl (Nat.le_of_ble_eq_true rfl) dX7_init_45 (fun H locs G => ?_)
  have G : nG D A s ((q0, .inr (7, [.ref (u1 0), .ref (u2 0), .ref (u3 0), .ref (u4 0), .null, .int 0, .int 0, .null, .null])) :: ((((gW Sh6 cy u1 z0) ++ gW Sh3 cy u2 z0) ++ gW Sh4 cy u3 z0) ++ gW Sh5 cy u4 z0)) H _ := G
  refine lv_aload_n hx hb dX7_init_48 rfl (lv_at hl 0 rfl) ?_
  refine n_new C G cl4 (fs := [.null, .null, .int 0]) kcl_1_201 kin_4 ini_LaneOrder_Seen (fun j hj => by revert hj; revert j; decide) (by decide) (by decide) dX7_init_49 (fun q5 H G => ?_)
  refine lv_dup hx hb dX7_init_52 rfl ?_
  have G : nG D A s ((((q0, .inr (7, [.ref (u1 0), .ref (u2 0), .ref (u3 0), .ref (u4 0), .null, .int 0, .int 0, .null, .null])) :: ((((gW Sh6 cy u1 z0) ++ gW Sh3 cy u2 z0) ++ gW Sh4 cy u3 z0) ++ gW Sh5 cy u4 z0))) ++ [(q5, .inr (4, [.null, .null, .int 0]))]) H _ := G
  refine n_init C G (i_X4 l D cy q5) kmn_1_203 kc_X4_init ki_X4_init ini_LaneOrder_Seen rfl kd_X4_init (by decide) (by decide) hl.1 (Nat.le_of_ble_eq_true rfl) dX7_init_53 ⟨by decide, by decide⟩ (fun u5 H locs hu5 G => ?_)
  have G : nG D A s ((q0, .inr (7, [.ref (u1 0), .ref (u2 0), .ref (u3 0), .ref (u4 0), .null, .int 0, .int 0, .null, .null])) :: (((((gW Sh6 cy u1 z0) ++ gW Sh3 cy u2 z0) ++ gW Sh4 cy u3 z0) ++ gW Sh5 cy u4 z0) ++ gW Sh4 cy u5 z0)) H _ := G
  rw [← hu5]
  refine n_putF C G (v := .ref (u5 0)) cl7 (j := 4) (by decide) k1_235 rfl rfl rfl rfl (Nat.le_of_ble_eq_true rfl) dX7_init_56 (fun H locs G => ?_)
  have G : nG D A s ((q0, .inr (7, [.ref (u1 0), .ref (u2 0), .ref (u3 0), .ref (u4 0), .ref (u5 0), .int 0, .int 0, .null, .null])) :: (((((gW Sh6 cy u1 z0) ++ gW Sh3 cy u2 z0) ++ gW Sh4 cy u3 z0) ++ gW Sh5 cy u4 z0) ++ gW Sh4 cy u5 z0)) H _ := G
  refine lv_aload_n hx hb dX7_init_59 rfl (lv_at hl 0 rfl) ?_
  refine n_new C G cl3 (fs := [.null, .null, .int 0, .null, .null, .null, .null, .int 0, .null, .null, .null, .int 0, .null]) kcl_1_42 kin_3 ini_LaneOrder_Reading (fun j hj => by revert hj; revert j; decide) (by decide) (by decide) dX7_init_60 (fun q6 H G => ?_)
  refine lv_dup hx hb dX7_init_63 rfl ?_
  have G : nG D A s ((((q0, .inr (7, [.ref (u1 0), .ref (u2 0), .ref (u3 0), .ref (u4 0), .ref (u5 0), .int 0, .int 0, .null, .null])) :: (((((gW Sh6 cy u1 z0) ++ gW Sh3 cy u2 z0) ++ gW Sh4 cy u3 z0) ++ gW Sh5 cy u4 z0) ++ gW Sh4 cy u5 z0))) ++ [(q6, .inr (3, [.null, .null, .int 0, .null, .null, .null, .null, .int 0, .null, .null, .null, .int 0, .null]))]) H _ := G
  refine n_init C G (i_X3 l D cy q6) kmn_1_44 kc_X3_init ki_X3_init ini_LaneOrder_Reading rfl kd_X3_init (by decide) (by decide) hl.1 (Nat.le_of_ble_eq_true rfl) dX7_init_64 ⟨by decide, by decide⟩ (fun u6 H locs hu6 G => ?_)
  have G : nG D A s ((q0, .inr (7, [.ref (u1 0), .ref (u2 0), .ref (u3 0), .ref (u4 0), .ref (u5 0), .int 0, .int 0, .null, .null])) :: ((((((gW Sh6 cy u1 z0) ++ gW Sh3 cy u2 z0) ++ gW Sh4 cy u3 z0) ++ gW Sh5 cy u4 z0) ++ gW Sh4 cy u5 z0) ++ gW Sh3 cy u6 z0)) H _ := G
  rw [← hu6]
  refine n_putF C G (v := .ref (u6 0)) cl7 (j := 7) (by decide) k1_238 rfl rfl rfl rfl (Nat.le_of_ble_eq_true rfl) dX7_init_67 (fun H locs G => ?_)
  have G : nG D A s ((q0, .inr (7, [.ref (u1 0), .ref (u2 0), .ref (u3 0), .ref (u4 0), .ref (u5 0), .int 0, .int 0, .ref (u6 0), .null])) :: ((((((gW Sh6 cy u1 z0) ++ gW Sh3 cy u2 z0) ++ gW Sh4 cy u3 z0) ++ gW Sh5 cy u4 z0) ++ gW Sh4 cy u5 z0) ++ gW Sh3 cy u6 z0)) H _ := G
  refine lv_aload_n hx hb dX7_init_70 rfl (lv_at hl 0 rfl) ?_
  refine n_new C G cl1 (fs := [.int 0]) kcl_1_220 kin_1 ini_LaneOrder_Draws (fun j hj => by revert hj; revert j; decide) (by decide) (by decide) dX7_init_71 (fun q7 H G => ?_)
  refine lv_dup hx hb dX7_init_74 rfl ?_
  have G : nG D A s ((((q0, .inr (7, [.ref (u1 0), .ref (u2 0), .ref (u3 0), .ref (u4 0), .ref (u5 0), .int 0, .int 0, .ref (u6 0), .null])) :: ((((((gW Sh6 cy u1 z0) ++ gW Sh3 cy u2 z0) ++ gW Sh4 cy u3 z0) ++ gW Sh5 cy u4 z0) ++ gW Sh4 cy u5 z0) ++ gW Sh3 cy u6 z0))) ++ [(q7, .inr (1, [.int 0]))]) H _ := G
  refine n_init C G (i_X1 l D cy q7) kmn_1_222 kc_X1_init ki_X1_init ini_LaneOrder_Draws rfl kd_X1_init (by decide) (by decide) hl.1 (Nat.le_of_ble_eq_true rfl) dX7_init_75 ⟨by decide, by decide⟩ (fun u7 H locs hu7 G => ?_)
  have G : nG D A s ((q0, .inr (7, [.ref (u1 0), .ref (u2 0), .ref (u3 0), .ref (u4 0), .ref (u5 0), .int 0, .int 0, .ref (u6 0), .null])) :: (((((((gW Sh6 cy u1 z0) ++ gW Sh3 cy u2 z0) ++ gW Sh4 cy u3 z0) ++ gW Sh5 cy u4 z0) ++ gW Sh4 cy u5 z0) ++ gW Sh3 cy u6 z0) ++ gW Sh1 cy u7 z0)) H _ := G
  rw [← hu7]
  refine n_putF C G (v := .ref (u7 0)) cl7 (j := 8) (by decide) k1_239 rfl rfl rfl rfl (Nat.le_of_ble_eq_true rfl) dX7_init_78 (fun H locs G => ?_)
  have G : nG D A s ((q0, .inr (7, [.ref (u1 0), .ref (u2 0), .ref (u3 0), .ref (u4 0), .ref (u5 0), .int 0, .int 0, .ref (u6 0), .ref (u7 0)])) :: (((((((gW Sh6 cy u1 z0) ++ gW Sh3 cy u2 z0) ++ gW Sh4 cy u3 z0) ++ gW Sh5 cy u4 z0) ++ gW Sh4 cy u5 z0) ++ gW Sh3 cy u6 z0) ++ gW Sh1 cy u7 z0)) H _ := G
  refine n_ret C G (fun k => ([q0, (u1 0), (u1 1), (u2 0), (u2 1), (u2 2), (u2 3), (u2 4), (u2 5), (u2 6), (u2 7), (u2 8), (u2 9), (u2 10), (u2 11), (u2 12), (u2 13), (u2 14), (u2 15), (u2 16), (u2 17), (u2 18), (u2 19), (u2 20), (u2 21), (u2 22), (u2 23), (u2 24), (u3 0), (u3 1), (u3 2), (u4 0), (u4 1), (u4 2), (u4 3), (u4 4), (u4 5), (u4 6), (u5 0), (u5 1), (u5 2), (u6 0), (u6 1), (u6 2), (u6 3), (u6 4), (u6 5), (u6 6), (u6 7), (u6 8), (u6 9), (u6 10), (u6 11), (u6 12), (u6 13), (u6 14), (u6 15), (u6 16), (u6 17), (u6 18), (u6 19), (u6 20), (u6 21), (u6 22), (u6 23), (u6 24), (u7 0)] : List Nat).getD k 0) rfl (gW_ext rfl (fun k hk => ?_)) hr hlocks (by decide) (by decide) dX7_init_81
  match k, hk with
  | 0, _ => rfl
  | 1, _ => rfl
  | 2, _ => rfl
  | 3, _ => rfl
  | 4, _ => rfl
  | 5, _ => rfl
  | 6, _ => rfl
  | 7, _ => rfl
  | 8, _ => rfl
  | 9, _ => rfl
  | 10, _ => rfl
  | 11, _ => rfl
  | 12, _ => rfl
  | 13, _ => rfl
  | 14, _ => rfl
  | 15, _ => rfl
  | 16, _ => rfl
  | 17, _ => rfl
  | 18, _ => rfl
  | 19, _ => rfl
  | 20, _ => rfl
  | 21, _ => rfl
  | 22, _ => rfl
  | 23, _ => rfl
  | 24, _ => rfl
  | 25, _ => rfl
  | 26, _ => rfl
  | 27, _ => rfl
  | 28, _ => rfl
  | 29, _ => rfl
  | 30, _ => rfl
  | 31, _ => rfl
  | 32, _ => rfl
  | 33, _ => rfl
  | 34, _ => rfl
  | 35, _ => rfl
  | 36, _ => rfl
  | 37, _ => rfl
  | 38, _ => rfl
  | 39, _ => rfl
  | 40, _ => rfl
  | 41, _ => rfl
  | 42, _ => rfl
  | 43, _ => rfl
  | 44, _ => rfl
  | 45, _ => rfl
  | 46, _ => rfl
  | 47, _ => rfl
  | 48, _ => rfl
  | 49, _ => rfl
  | 50, _ => rfl
  | 51, _ => rfl
  | 52, _ => rfl
  | 53, _ => rfl
  | 54, _ => rfl
  | 55, _ => rfl
  | 56, _ => rfl
  | 57, _ => rfl
  | 58, _ => rfl
  | 59, _ => rfl
  | 60, _ => rfl
  | 61, _ => rfl
  | 62, _ => rfl
  | 63, _ => rfl
  | 64, _ => rfl
  | 65, _ => rfl
  | 66, _ => rfl
  | k + 67, hk => exact absurd hk (Nat.not_lt.mpr (Nat.le_add_left _ _))
