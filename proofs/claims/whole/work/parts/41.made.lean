def Sh0 : Shape := (6, fun k => ([0, 9, 9, 9, 9, 9] : List Nat).getD k 0, fun k => ([0, 7, 7, 7, 7, 7] : List Nat).getD k 0, fun k j => (([[3, 4, 5, 6, 7, 0], [], [], [], [], []] : List (List Nat)).getD k []).getD j 0)
def Sh1 : Shape := (1, fun k => ([1] : List Nat).getD k 0, fun k => ([0] : List Nat).getD k 0, fun k j => (([[0]] : List (List Nat)).getD k []).getD j 0)
def Sh2 : Shape := (4, fun k => ([2, 9, 9, 9] : List Nat).getD k 0, fun k => ([0, 14, 14, 14] : List Nat).getD k 0, fun k j => (([[3, 4, 5, 0], [], [], []] : List (List Nat)).getD k []).getD j 0)
def Sh3 : Shape := (25, fun k => ([3, 5, 9, 9, 9, 9, 9, 9, 9, 9, 9, 9, 9, 0, 9, 9, 9, 9, 9, 2, 9, 9, 9, 9, 9] : List Nat).getD k 0, fun k => ([0, 0, 8, 8, 8, 8, 8, 4, 8, 8, 8, 8, 8, 0, 7, 7, 7, 7, 7, 0, 14, 14, 14, 8, 8] : List Nat).getD k 0, fun k j => (([[3, 10, 0, 11, 12, 13, 14, 0, 15, 21, 25, 0, 26], [4, 5, 6, 7, 8, 0, 9, 0], [], [], [], [], [], [], [], [], [], [], [], [16, 17, 18, 19, 20, 0], [], [], [], [], [], [22, 23, 24, 0], [], [], [], [], []] : List (List Nat)).getD k []).getD j 0)
def Sh4 : Shape := (3, fun k => ([4, 9, 9] : List Nat).getD k 0, fun k => ([0, 6, 6] : List Nat).getD k 0, fun k j => (([[3, 4, 0], [], []] : List (List Nat)).getD k []).getD j 0)
def Sh5 : Shape := (7, fun k => ([5, 9, 9, 9, 9, 9, 9] : List Nat).getD k 0, fun k => ([0, 8, 8, 8, 8, 8, 4] : List Nat).getD k 0, fun k j => (([[3, 4, 5, 6, 7, 0, 8, 0], [], [], [], [], [], []] : List (List Nat)).getD k []).getD j 0)
def Sh6 : Shape := (2, fun k => ([6, 9] : List Nat).getD k 0, fun k => ([0, 54] : List Nat).getD k 0, fun k j => (([[3, 0], []] : List (List Nat)).getD k []).getD j 0)
theorem arrI : Cond.arrayClass .int ∈ tb := tb1 41 (by decide +kernel) rfl
theorem kcl_1_18 : (Cond.classLink "LaneOrderLaw" (7 : Nat) "LaneOrder") ∈ tb := tb1 18 (by decide +kernel) rfl
theorem kcl_1_26 : (Cond.classLink "LaneOrder" (9 : Nat) "LaneOrder$Text") ∈ tb := tb1 26 (by decide +kernel) rfl
theorem kmn_1_28 : (Cond.methodLinkNest "LaneOrder" (11 : Nat) ({ cls := "LaneOrder$Text", name := "<init>", desc := "()V" } : Jvm.MethodName) "LaneOrder") ∈ nw := nw1 28 (by decide +kernel) rfl
theorem kcl_1_42 : (Cond.classLink "LaneOrder" (16 : Nat) "LaneOrder$Reading") ∈ tb := tb1 42 (by decide +kernel) rfl
theorem kmn_1_44 : (Cond.methodLinkNest "LaneOrder" (18 : Nat) ({ cls := "LaneOrder$Reading", name := "<init>", desc := "()V" } : Jvm.MethodName) "LaneOrder") ∈ nw := nw1 44 (by decide +kernel) rfl
theorem kcl_1_48 : (Cond.classLink "LaneOrder$Reading" (9 : Nat) "LaneOrder$Sheet") ∈ tb := tb1 48 (by decide +kernel) rfl
theorem kmn_1_50 : (Cond.methodLinkNest "LaneOrder$Reading" (11 : Nat) ({ cls := "LaneOrder$Sheet", name := "<init>", desc := "()V" } : Jvm.MethodName) "LaneOrder") ∈ nw := nw1 50 (by decide +kernel) rfl
theorem kcl_1_93 : (Cond.classLink "LaneOrder$Reading" (34 : Nat) "LaneOrder$Cuts") ∈ tb := tb1 93 (by decide +kernel) rfl
theorem kmn_1_95 : (Cond.methodLinkNest "LaneOrder$Reading" (36 : Nat) ({ cls := "LaneOrder$Cuts", name := "<init>", desc := "()V" } : Jvm.MethodName) "LaneOrder") ∈ nw := nw1 95 (by decide +kernel) rfl
theorem kcl_1_124 : (Cond.classLink "LaneOrder$Reading" (41 : Nat) "LaneOrder$Lanes") ∈ tb := tb1 124 (by decide +kernel) rfl
theorem kmn_1_126 : (Cond.methodLinkNest "LaneOrder$Reading" (43 : Nat) ({ cls := "LaneOrder$Lanes", name := "<init>", desc := "()V" } : Jvm.MethodName) "LaneOrder") ∈ nw := nw1 126 (by decide +kernel) rfl
theorem kcl_1_201 : (Cond.classLink "LaneOrder" (23 : Nat) "LaneOrder$Seen") ∈ tb := tb1 201 (by decide +kernel) rfl
theorem kmn_1_203 : (Cond.methodLinkNest "LaneOrder" (25 : Nat) ({ cls := "LaneOrder$Seen", name := "<init>", desc := "()V" } : Jvm.MethodName) "LaneOrder") ∈ nw := nw1 203 (by decide +kernel) rfl
theorem kcl_1_218 : (Cond.classLink "LaneOrder" (30 : Nat) "LaneOrder$Sheet") ∈ tb := tb1 218 (by decide +kernel) rfl
theorem kmn_1_219 : (Cond.methodLinkNest "LaneOrder" (32 : Nat) ({ cls := "LaneOrder$Sheet", name := "<init>", desc := "()V" } : Jvm.MethodName) "LaneOrder") ∈ nw := nw1 219 (by decide +kernel) rfl
theorem kcl_1_220 : (Cond.classLink "LaneOrder" (43 : Nat) "LaneOrder$Draws") ∈ tb := tb1 220 (by decide +kernel) rfl
theorem kmn_1_222 : (Cond.methodLinkNest "LaneOrder" (45 : Nat) ({ cls := "LaneOrder$Draws", name := "<init>", desc := "()V" } : Jvm.MethodName) "LaneOrder") ∈ nw := nw1 222 (by decide +kernel) rfl
theorem kcl_4_18 : (Cond.classLink "LaneOrderLaw" (10 : Nat) "LaneOrderModel") ∈ tb := tb4 18 (by decide +kernel) rfl
theorem kin_0 : Cond.instantiable "LaneOrder$Cuts" 6 ∈ tb := tb1 94 (by decide +kernel) rfl
theorem kob_0 : Cond.methodLink "LaneOrder$Cuts" 3 Lib.objectInit ∈ tb := tb1 98 (by decide +kernel) rfl
theorem kin_1 : Cond.instantiable "LaneOrder$Draws" 1 ∈ tb := tb1 221 (by decide +kernel) rfl
theorem kob_1 : Cond.methodLink "LaneOrder$Draws" 3 Lib.objectInit ∈ tb := tb1 225 (by decide +kernel) rfl
theorem kin_2 : Cond.instantiable "LaneOrder$Lanes" 4 ∈ tb := tb1 125 (by decide +kernel) rfl
theorem kob_2 : Cond.methodLink "LaneOrder$Lanes" 3 Lib.objectInit ∈ tb := tb1 129 (by decide +kernel) rfl
theorem kin_3 : Cond.instantiable "LaneOrder$Reading" 13 ∈ tb := tb1 43 (by decide +kernel) rfl
theorem kob_3 : Cond.methodLink "LaneOrder$Reading" 3 Lib.objectInit ∈ tb := tb1 47 (by decide +kernel) rfl
theorem kin_4 : Cond.instantiable "LaneOrder$Seen" 3 ∈ tb := tb1 202 (by decide +kernel) rfl
theorem kob_4 : Cond.methodLink "LaneOrder$Seen" 3 Lib.objectInit ∈ tb := tb1 206 (by decide +kernel) rfl
theorem kin_5 : Cond.instantiable "LaneOrder$Sheet" 8 ∈ tb := tb1 49 (by decide +kernel) rfl
theorem kob_5 : Cond.methodLink "LaneOrder$Sheet" 3 Lib.objectInit ∈ tb := tb1 53 (by decide +kernel) rfl
theorem kin_6 : Cond.instantiable "LaneOrder$Text" 2 ∈ tb := tb1 27 (by decide +kernel) rfl
theorem kob_6 : Cond.methodLink "LaneOrder$Text" 3 Lib.objectInit ∈ tb := tb1 31 (by decide +kernel) rfl
theorem kin_7 : Cond.instantiable "LaneOrder" 9 ∈ tb := tb1 19 (by decide +kernel) rfl
theorem kob_7 : Cond.methodLink "LaneOrder" 3 Lib.objectInit ∈ tb := tb1 23 (by decide +kernel) rfl
theorem kin_8 : Cond.instantiable "LaneOrderModel" 40 ∈ tb := tb4 19 (by decide +kernel) rfl
theorem kob_8 : Cond.methodLink "LaneOrderModel" 1 Lib.objectInit ∈ tb := tb4 23 (by decide +kernel) rfl
theorem kobi : Cond.instanceMethod Lib.objectInit ∈ tb := tb1 24 (by decide +kernel) rfl
theorem kobc : Cond.code Lib.objectInit ⟨#[0xb1]⟩ 1 none ∈ tb := tb1 25 (by decide +kernel) rfl
theorem gW_ext {S : Shape} {cy : ClassId} {u : Nat → Nat} {st : GS} {ws : va_W} (hl : ws.length = S.1) (h : ∀ k, k < S.1 → ws[k]? = some (u k, gE S cy u st k)) : ws = gW S cy u st := by
  apply List.ext_getElem?
  intro k
  by_cases hk : k < S.1
  · rw [gW_at hk, h k hk]
  · rw [List.getElem?_eq_none (by omega), List.getElem?_eq_none (by simp [gW]; omega)]
set_option maxRecDepth 100000 in
set_option maxHeartbeats 4000000 in
theorem i_X0 (l : Launch) (D : va_G) (cy : ClassId) (q0 : Nat) : nM l Sh0 D cy yX0_init cX0_init 1 5 35 q0 (.inr (0, [.null, .null, .null, .null, .null, .int 0])) z0 := by
  refine n_start (by decide) rfl ?_
  intro p e s m args below meth c A ls C hr hlocks G hl
  have C : nC p s m args meth c cX0_init 1 "LaneOrder$Cuts" D cy A := C
  have hx := C.1
  have hb := C.2.1
  refine lv_aload_n hx hb dX0_init_0 rfl (lv_at hl 0 rfl) ?_
  refine n_obj C hl.1 kob_0 kobi kobc dX0_init_1 (by decide) (by decide) ?_
  refine lv_aload_n hx hb dX0_init_4 rfl (lv_at hl 0 rfl) ?_
  refine lv_bipush (v := 7) hx hb dX0_init_5 (by decide) ?_
  refine n_newa C G (N := 7) arrI (by decide) (by decide) (by decide) (by decide) (by decide) dX0_init_7 (fun q1 H G => ?_)
  have G : nG D A s ((q0, .inr (0, [.null, .null, .null, .null, .null, .int 0])) :: [(q1, .inl (cy, 7, .inl (fun _ => 0)))]) H _ := G
  refine n_putF C G (v := .ref q1) cl0 (j := 0) (by decide) k1_99 rfl rfl rfl rfl (Nat.le_of_ble_eq_true rfl) dX0_init_9 (fun H locs G => ?_)
  have G : nG D A s ((q0, .inr (0, [.ref q1, .null, .null, .null, .null, .int 0])) :: [(q1, .inl (cy, 7, .inl (fun _ => 0)))]) H _ := G
  refine lv_aload_n hx hb dX0_init_12 rfl (lv_at hl 0 rfl) ?_
  refine lv_bipush (v := 7) hx hb dX0_init_13 (by decide) ?_
  refine n_newa C G (N := 7) arrI (by decide) (by decide) (by decide) (by decide) (by decide) dX0_init_15 (fun q2 H G => ?_)
  have G : nG D A s ((q0, .inr (0, [.ref q1, .null, .null, .null, .null, .int 0])) :: ([(q1, .inl (cy, 7, .inl (fun _ => 0)))] ++ [(q2, .inl (cy, 7, .inl (fun _ => 0)))])) H _ := G
  refine n_putF C G (v := .ref q2) cl0 (j := 1) (by decide) k1_101 rfl rfl rfl rfl (Nat.le_of_ble_eq_true rfl) dX0_init_17 (fun H locs G => ?_)
  have G : nG D A s ((q0, .inr (0, [.ref q1, .ref q2, .null, .null, .null, .int 0])) :: ([(q1, .inl (cy, 7, .inl (fun _ => 0)))] ++ [(q2, .inl (cy, 7, .inl (fun _ => 0)))])) H _ := G
  refine lv_aload_n hx hb dX0_init_20 rfl (lv_at hl 0 rfl) ?_
  refine lv_bipush (v := 7) hx hb dX0_init_21 (by decide) ?_
  refine n_newa C G (N := 7) arrI (by decide) (by decide) (by decide) (by decide) (by decide) dX0_init_23 (fun q3 H G => ?_)
  have G : nG D A s ((q0, .inr (0, [.ref q1, .ref q2, .null, .null, .null, .int 0])) :: (([(q1, .inl (cy, 7, .inl (fun _ => 0)))] ++ [(q2, .inl (cy, 7, .inl (fun _ => 0)))]) ++ [(q3, .inl (cy, 7, .inl (fun _ => 0)))])) H _ := G
  refine n_putF C G (v := .ref q3) cl0 (j := 2) (by decide) k1_103 rfl rfl rfl rfl (Nat.le_of_ble_eq_true rfl) dX0_init_25 (fun H locs G => ?_)
  have G : nG D A s ((q0, .inr (0, [.ref q1, .ref q2, .ref q3, .null, .null, .int 0])) :: (([(q1, .inl (cy, 7, .inl (fun _ => 0)))] ++ [(q2, .inl (cy, 7, .inl (fun _ => 0)))]) ++ [(q3, .inl (cy, 7, .inl (fun _ => 0)))])) H _ := G
  refine lv_aload_n hx hb dX0_init_28 rfl (lv_at hl 0 rfl) ?_
  refine lv_bipush (v := 7) hx hb dX0_init_29 (by decide) ?_
  refine n_newa C G (N := 7) arrI (by decide) (by decide) (by decide) (by decide) (by decide) dX0_init_31 (fun q4 H G => ?_)
  have G : nG D A s ((q0, .inr (0, [.ref q1, .ref q2, .ref q3, .null, .null, .int 0])) :: ((([(q1, .inl (cy, 7, .inl (fun _ => 0)))] ++ [(q2, .inl (cy, 7, .inl (fun _ => 0)))]) ++ [(q3, .inl (cy, 7, .inl (fun _ => 0)))]) ++ [(q4, .inl (cy, 7, .inl (fun _ => 0)))])) H _ := G
  refine n_putF C G (v := .ref q4) cl0 (j := 3) (by decide) k1_105 rfl rfl rfl rfl (Nat.le_of_ble_eq_true rfl) dX0_init_33 (fun H locs G => ?_)
  have G : nG D A s ((q0, .inr (0, [.ref q1, .ref q2, .ref q3, .ref q4, .null, .int 0])) :: ((([(q1, .inl (cy, 7, .inl (fun _ => 0)))] ++ [(q2, .inl (cy, 7, .inl (fun _ => 0)))]) ++ [(q3, .inl (cy, 7, .inl (fun _ => 0)))]) ++ [(q4, .inl (cy, 7, .inl (fun _ => 0)))])) H _ := G
  refine lv_aload_n hx hb dX0_init_36 rfl (lv_at hl 0 rfl) ?_
  refine lv_bipush (v := 7) hx hb dX0_init_37 (by decide) ?_
  refine n_newa C G (N := 7) arrI (by decide) (by decide) (by decide) (by decide) (by decide) dX0_init_39 (fun q5 H G => ?_)
  have G : nG D A s ((q0, .inr (0, [.ref q1, .ref q2, .ref q3, .ref q4, .null, .int 0])) :: (((([(q1, .inl (cy, 7, .inl (fun _ => 0)))] ++ [(q2, .inl (cy, 7, .inl (fun _ => 0)))]) ++ [(q3, .inl (cy, 7, .inl (fun _ => 0)))]) ++ [(q4, .inl (cy, 7, .inl (fun _ => 0)))]) ++ [(q5, .inl (cy, 7, .inl (fun _ => 0)))])) H _ := G
  refine n_putF C G (v := .ref q5) cl0 (j := 4) (by decide) k1_107 rfl rfl rfl rfl (Nat.le_of_ble_eq_true rfl) dX0_init_41 (fun H locs G => ?_)
  have G : nG D A s ((q0, .inr (0, [.ref q1, .ref q2, .ref q3, .ref q4, .ref q5, .int 0])) :: (((([(q1, .inl (cy, 7, .inl (fun _ => 0)))] ++ [(q2, .inl (cy, 7, .inl (fun _ => 0)))]) ++ [(q3, .inl (cy, 7, .inl (fun _ => 0)))]) ++ [(q4, .inl (cy, 7, .inl (fun _ => 0)))]) ++ [(q5, .inl (cy, 7, .inl (fun _ => 0)))])) H _ := G
  refine n_ret C G (fun k => ([q0, q1, q2, q3, q4, q5] : List Nat).getD k 0) rfl (gW_ext rfl (fun k hk => ?_)) hr hlocks (by decide) (by decide) dX0_init_44
  match k, hk with
  | 0, _ => rfl
  | 1, _ => rfl
  | 2, _ => rfl
  | 3, _ => rfl
  | 4, _ => rfl
  | 5, _ => rfl
  | k + 6, hk => exact absurd hk (Nat.not_lt.mpr (Nat.le_add_left _ _))

set_option maxRecDepth 100000 in
set_option maxHeartbeats 4000000 in
theorem i_X1 (l : Launch) (D : va_G) (cy : ClassId) (q0 : Nat) : nM l Sh1 D cy yX1_init cX1_init 1 0 0 q0 (.inr (1, [.int 0])) z0 := by
  refine n_start (by decide) rfl ?_
  intro p e s m args below meth c A ls C hr hlocks G hl
  have C : nC p s m args meth c cX1_init 1 "LaneOrder$Draws" D cy A := C
  have hx := C.1
  have hb := C.2.1
  refine lv_aload_n hx hb dX1_init_0 rfl (lv_at hl 0 rfl) ?_
  refine n_obj C hl.1 kob_1 kobi kobc dX1_init_1 (by decide) (by decide) ?_
  refine n_ret C G (fun k => ([q0] : List Nat).getD k 0) rfl (gW_ext rfl (fun k hk => ?_)) hr hlocks (by decide) (by decide) dX1_init_4
  match k, hk with
  | 0, _ => rfl
  | k + 1, hk => exact absurd hk (Nat.not_lt.mpr (Nat.le_add_left _ _))

set_option maxRecDepth 100000 in
set_option maxHeartbeats 4000000 in
theorem i_X2 (l : Launch) (D : va_G) (cy : ClassId) (q0 : Nat) : nM l Sh2 D cy yX2_init cX2_init 1 3 42 q0 (.inr (2, [.null, .null, .null, .int 0])) z0 := by
  refine n_start (by decide) rfl ?_
  intro p e s m args below meth c A ls C hr hlocks G hl
  have C : nC p s m args meth c cX2_init 1 "LaneOrder$Lanes" D cy A := C
  have hx := C.1
  have hb := C.2.1
  refine lv_aload_n hx hb dX2_init_0 rfl (lv_at hl 0 rfl) ?_
  refine n_obj C hl.1 kob_2 kobi kobc dX2_init_1 (by decide) (by decide) ?_
  refine lv_aload_n hx hb dX2_init_4 rfl (lv_at hl 0 rfl) ?_
  refine lv_bipush (v := 14) hx hb dX2_init_5 (by decide) ?_
  refine n_newa C G (N := 14) arrI (by decide) (by decide) (by decide) (by decide) (by decide) dX2_init_7 (fun q1 H G => ?_)
  have G : nG D A s ((q0, .inr (2, [.null, .null, .null, .int 0])) :: [(q1, .inl (cy, 14, .inl (fun _ => 0)))]) H _ := G
  refine n_putF C G (v := .ref q1) cl2 (j := 0) (by decide) k1_130 rfl rfl rfl rfl (Nat.le_of_ble_eq_true rfl) dX2_init_9 (fun H locs G => ?_)
  have G : nG D A s ((q0, .inr (2, [.ref q1, .null, .null, .int 0])) :: [(q1, .inl (cy, 14, .inl (fun _ => 0)))]) H _ := G
  refine lv_aload_n hx hb dX2_init_12 rfl (lv_at hl 0 rfl) ?_
  refine lv_bipush (v := 14) hx hb dX2_init_13 (by decide) ?_
  refine n_newa C G (N := 14) arrI (by decide) (by decide) (by decide) (by decide) (by decide) dX2_init_15 (fun q2 H G => ?_)
  have G : nG D A s ((q0, .inr (2, [.ref q1, .null, .null, .int 0])) :: ([(q1, .inl (cy, 14, .inl (fun _ => 0)))] ++ [(q2, .inl (cy, 14, .inl (fun _ => 0)))])) H _ := G
  refine n_putF C G (v := .ref q2) cl2 (j := 1) (by decide) k1_133 rfl rfl rfl rfl (Nat.le_of_ble_eq_true rfl) dX2_init_17 (fun H locs G => ?_)
  have G : nG D A s ((q0, .inr (2, [.ref q1, .ref q2, .null, .int 0])) :: ([(q1, .inl (cy, 14, .inl (fun _ => 0)))] ++ [(q2, .inl (cy, 14, .inl (fun _ => 0)))])) H _ := G
  refine lv_aload_n hx hb dX2_init_20 rfl (lv_at hl 0 rfl) ?_
  refine lv_bipush (v := 14) hx hb dX2_init_21 (by decide) ?_
  refine n_newa C G (N := 14) arrI (by decide) (by decide) (by decide) (by decide) (by decide) dX2_init_23 (fun q3 H G => ?_)
  have G : nG D A s ((q0, .inr (2, [.ref q1, .ref q2, .null, .int 0])) :: (([(q1, .inl (cy, 14, .inl (fun _ => 0)))] ++ [(q2, .inl (cy, 14, .inl (fun _ => 0)))]) ++ [(q3, .inl (cy, 14, .inl (fun _ => 0)))])) H _ := G
  refine n_putF C G (v := .ref q3) cl2 (j := 2) (by decide) k1_136 rfl rfl rfl rfl (Nat.le_of_ble_eq_true rfl) dX2_init_25 (fun H locs G => ?_)
  have G : nG D A s ((q0, .inr (2, [.ref q1, .ref q2, .ref q3, .int 0])) :: (([(q1, .inl (cy, 14, .inl (fun _ => 0)))] ++ [(q2, .inl (cy, 14, .inl (fun _ => 0)))]) ++ [(q3, .inl (cy, 14, .inl (fun _ => 0)))])) H _ := G
  refine n_ret C G (fun k => ([q0, q1, q2, q3] : List Nat).getD k 0) rfl (gW_ext rfl (fun k hk => ?_)) hr hlocks (by decide) (by decide) dX2_init_28
  match k, hk with
  | 0, _ => rfl
  | 1, _ => rfl
  | 2, _ => rfl
  | 3, _ => rfl
  | k + 4, hk => exact absurd hk (Nat.not_lt.mpr (Nat.le_add_left _ _))

set_option maxRecDepth 100000 in
set_option maxHeartbeats 4000000 in
theorem i_X4 (l : Launch) (D : va_G) (cy : ClassId) (q0 : Nat) : nM l Sh4 D cy yX4_init cX4_init 1 2 12 q0 (.inr (4, [.null, .null, .int 0])) z0 := by
  refine n_start (by decide) rfl ?_
  intro p e s m args below meth c A ls C hr hlocks G hl
  have C : nC p s m args meth c cX4_init 1 "LaneOrder$Seen" D cy A := C
  have hx := C.1
  have hb := C.2.1
  refine lv_aload_n hx hb dX4_init_0 rfl (lv_at hl 0 rfl) ?_
  refine n_obj C hl.1 kob_4 kobi kobc dX4_init_1 (by decide) (by decide) ?_
  refine lv_aload_n hx hb dX4_init_4 rfl (lv_at hl 0 rfl) ?_
  refine lv_bipush (v := 6) hx hb dX4_init_5 (by decide) ?_
  refine n_newa C G (N := 6) arrI (by decide) (by decide) (by decide) (by decide) (by decide) dX4_init_7 (fun q1 H G => ?_)
  have G : nG D A s ((q0, .inr (4, [.null, .null, .int 0])) :: [(q1, .inl (cy, 6, .inl (fun _ => 0)))]) H _ := G
  refine n_putF C G (v := .ref q1) cl4 (j := 0) (by decide) k1_207 rfl rfl rfl rfl (Nat.le_of_ble_eq_true rfl) dX4_init_9 (fun H locs G => ?_)
  have G : nG D A s ((q0, .inr (4, [.ref q1, .null, .int 0])) :: [(q1, .inl (cy, 6, .inl (fun _ => 0)))]) H _ := G
  refine lv_aload_n hx hb dX4_init_12 rfl (lv_at hl 0 rfl) ?_
  refine lv_bipush (v := 6) hx hb dX4_init_13 (by decide) ?_
  refine n_newa C G (N := 6) arrI (by decide) (by decide) (by decide) (by decide) (by decide) dX4_init_15 (fun q2 H G => ?_)
  have G : nG D A s ((q0, .inr (4, [.ref q1, .null, .int 0])) :: ([(q1, .inl (cy, 6, .inl (fun _ => 0)))] ++ [(q2, .inl (cy, 6, .inl (fun _ => 0)))])) H _ := G
  refine n_putF C G (v := .ref q2) cl4 (j := 1) (by decide) k1_208 rfl rfl rfl rfl (Nat.le_of_ble_eq_true rfl) dX4_init_17 (fun H locs G => ?_)
  have G : nG D A s ((q0, .inr (4, [.ref q1, .ref q2, .int 0])) :: ([(q1, .inl (cy, 6, .inl (fun _ => 0)))] ++ [(q2, .inl (cy, 6, .inl (fun _ => 0)))])) H _ := G
  refine n_ret C G (fun k => ([q0, q1, q2] : List Nat).getD k 0) rfl (gW_ext rfl (fun k hk => ?_)) hr hlocks (by decide) (by decide) dX4_init_20
  match k, hk with
  | 0, _ => rfl
  | 1, _ => rfl
  | 2, _ => rfl
  | k + 3, hk => exact absurd hk (Nat.not_lt.mpr (Nat.le_add_left _ _))

set_option maxRecDepth 100000 in
set_option maxHeartbeats 4000000 in
theorem i_X5 (l : Launch) (D : va_G) (cy : ClassId) (q0 : Nat) : nM l Sh5 D cy yX5_init cX5_init 1 6 44 q0 (.inr (5, [.null, .null, .null, .null, .null, .int 0, .null, .int 0])) z0 := by
  refine n_start (by decide) rfl ?_
  intro p e s m args below meth c A ls C hr hlocks G hl
  have C : nC p s m args meth c cX5_init 1 "LaneOrder$Sheet" D cy A := C
  have hx := C.1
  have hb := C.2.1
  refine lv_aload_n hx hb dX5_init_0 rfl (lv_at hl 0 rfl) ?_
  refine n_obj C hl.1 kob_5 kobi kobc dX5_init_1 (by decide) (by decide) ?_
  refine lv_aload_n hx hb dX5_init_4 rfl (lv_at hl 0 rfl) ?_
  refine lv_bipush (v := 8) hx hb dX5_init_5 (by decide) ?_
  refine n_newa C G (N := 8) arrI (by decide) (by decide) (by decide) (by decide) (by decide) dX5_init_7 (fun q1 H G => ?_)
  have G : nG D A s ((q0, .inr (5, [.null, .null, .null, .null, .null, .int 0, .null, .int 0])) :: [(q1, .inl (cy, 8, .inl (fun _ => 0)))]) H _ := G
  refine n_putF C G (v := .ref q1) cl5 (j := 0) (by decide) k1_54 rfl rfl rfl rfl (Nat.le_of_ble_eq_true rfl) dX5_init_9 (fun H locs G => ?_)
  have G : nG D A s ((q0, .inr (5, [.ref q1, .null, .null, .null, .null, .int 0, .null, .int 0])) :: [(q1, .inl (cy, 8, .inl (fun _ => 0)))]) H _ := G
  refine lv_aload_n hx hb dX5_init_12 rfl (lv_at hl 0 rfl) ?_
  refine lv_bipush (v := 8) hx hb dX5_init_13 (by decide) ?_
  refine n_newa C G (N := 8) arrI (by decide) (by decide) (by decide) (by decide) (by decide) dX5_init_15 (fun q2 H G => ?_)
  have G : nG D A s ((q0, .inr (5, [.ref q1, .null, .null, .null, .null, .int 0, .null, .int 0])) :: ([(q1, .inl (cy, 8, .inl (fun _ => 0)))] ++ [(q2, .inl (cy, 8, .inl (fun _ => 0)))])) H _ := G
  refine n_putF C G (v := .ref q2) cl5 (j := 1) (by decide) k1_57 rfl rfl rfl rfl (Nat.le_of_ble_eq_true rfl) dX5_init_17 (fun H locs G => ?_)
  have G : nG D A s ((q0, .inr (5, [.ref q1, .ref q2, .null, .null, .null, .int 0, .null, .int 0])) :: ([(q1, .inl (cy, 8, .inl (fun _ => 0)))] ++ [(q2, .inl (cy, 8, .inl (fun _ => 0)))])) H _ := G
  refine lv_aload_n hx hb dX5_init_20 rfl (lv_at hl 0 rfl) ?_
  refine lv_bipush (v := 8) hx hb dX5_init_21 (by decide) ?_
  refine n_newa C G (N := 8) arrI (by decide) (by decide) (by decide) (by decide) (by decide) dX5_init_23 (fun q3 H G => ?_)
  have G : nG D A s ((q0, .inr (5, [.ref q1, .ref q2, .null, .null, .null, .int 0, .null, .int 0])) :: (([(q1, .inl (cy, 8, .inl (fun _ => 0)))] ++ [(q2, .inl (cy, 8, .inl (fun _ => 0)))]) ++ [(q3, .inl (cy, 8, .inl (fun _ => 0)))])) H _ := G
  refine n_putF C G (v := .ref q3) cl5 (j := 2) (by decide) k1_60 rfl rfl rfl rfl (Nat.le_of_ble_eq_true rfl) dX5_init_25 (fun H locs G => ?_)
  have G : nG D A s ((q0, .inr (5, [.ref q1, .ref q2, .ref q3, .null, .null, .int 0, .null, .int 0])) :: (([(q1, .inl (cy, 8, .inl (fun _ => 0)))] ++ [(q2, .inl (cy, 8, .inl (fun _ => 0)))]) ++ [(q3, .inl (cy, 8, .inl (fun _ => 0)))])) H _ := G
  refine lv_aload_n hx hb dX5_init_28 rfl (lv_at hl 0 rfl) ?_
  refine lv_bipush (v := 8) hx hb dX5_init_29 (by decide) ?_
  refine n_newa C G (N := 8) arrI (by decide) (by decide) (by decide) (by decide) (by decide) dX5_init_31 (fun q4 H G => ?_)
  have G : nG D A s ((q0, .inr (5, [.ref q1, .ref q2, .ref q3, .null, .null, .int 0, .null, .int 0])) :: ((([(q1, .inl (cy, 8, .inl (fun _ => 0)))] ++ [(q2, .inl (cy, 8, .inl (fun _ => 0)))]) ++ [(q3, .inl (cy, 8, .inl (fun _ => 0)))]) ++ [(q4, .inl (cy, 8, .inl (fun _ => 0)))])) H _ := G
  refine n_putF C G (v := .ref q4) cl5 (j := 3) (by decide) k1_63 rfl rfl rfl rfl (Nat.le_of_ble_eq_true rfl) dX5_init_33 (fun H locs G => ?_)
  have G : nG D A s ((q0, .inr (5, [.ref q1, .ref q2, .ref q3, .ref q4, .null, .int 0, .null, .int 0])) :: ((([(q1, .inl (cy, 8, .inl (fun _ => 0)))] ++ [(q2, .inl (cy, 8, .inl (fun _ => 0)))]) ++ [(q3, .inl (cy, 8, .inl (fun _ => 0)))]) ++ [(q4, .inl (cy, 8, .inl (fun _ => 0)))])) H _ := G
  refine lv_aload_n hx hb dX5_init_36 rfl (lv_at hl 0 rfl) ?_
  refine lv_bipush (v := 8) hx hb dX5_init_37 (by decide) ?_
  refine n_newa C G (N := 8) arrI (by decide) (by decide) (by decide) (by decide) (by decide) dX5_init_39 (fun q5 H G => ?_)
  have G : nG D A s ((q0, .inr (5, [.ref q1, .ref q2, .ref q3, .ref q4, .null, .int 0, .null, .int 0])) :: (((([(q1, .inl (cy, 8, .inl (fun _ => 0)))] ++ [(q2, .inl (cy, 8, .inl (fun _ => 0)))]) ++ [(q3, .inl (cy, 8, .inl (fun _ => 0)))]) ++ [(q4, .inl (cy, 8, .inl (fun _ => 0)))]) ++ [(q5, .inl (cy, 8, .inl (fun _ => 0)))])) H _ := G
  refine n_putF C G (v := .ref q5) cl5 (j := 4) (by decide) k1_66 rfl rfl rfl rfl (Nat.le_of_ble_eq_true rfl) dX5_init_41 (fun H locs G => ?_)
  have G : nG D A s ((q0, .inr (5, [.ref q1, .ref q2, .ref q3, .ref q4, .ref q5, .int 0, .null, .int 0])) :: (((([(q1, .inl (cy, 8, .inl (fun _ => 0)))] ++ [(q2, .inl (cy, 8, .inl (fun _ => 0)))]) ++ [(q3, .inl (cy, 8, .inl (fun _ => 0)))]) ++ [(q4, .inl (cy, 8, .inl (fun _ => 0)))]) ++ [(q5, .inl (cy, 8, .inl (fun _ => 0)))])) H _ := G
  refine lv_aload_n hx hb dX5_init_44 rfl (lv_at hl 0 rfl) ?_
  refine lv_iconst (v := 4) hx hb dX5_init_45 (by decide) ?_
  refine n_newa C G (N := 4) arrI (by decide) (by decide) (by decide) (by decide) (by decide) dX5_init_46 (fun q6 H G => ?_)
  have G : nG D A s ((q0, .inr (5, [.ref q1, .ref q2, .ref q3, .ref q4, .ref q5, .int 0, .null, .int 0])) :: ((((([(q1, .inl (cy, 8, .inl (fun _ => 0)))] ++ [(q2, .inl (cy, 8, .inl (fun _ => 0)))]) ++ [(q3, .inl (cy, 8, .inl (fun _ => 0)))]) ++ [(q4, .inl (cy, 8, .inl (fun _ => 0)))]) ++ [(q5, .inl (cy, 8, .inl (fun _ => 0)))]) ++ [(q6, .inl (cy, 4, .inl (fun _ => 0)))])) H _ := G
  refine n_putF C G (v := .ref q6) cl5 (j := 6) (by decide) k1_72 rfl rfl rfl rfl (Nat.le_of_ble_eq_true rfl) dX5_init_48 (fun H locs G => ?_)
  have G : nG D A s ((q0, .inr (5, [.ref q1, .ref q2, .ref q3, .ref q4, .ref q5, .int 0, .ref q6, .int 0])) :: ((((([(q1, .inl (cy, 8, .inl (fun _ => 0)))] ++ [(q2, .inl (cy, 8, .inl (fun _ => 0)))]) ++ [(q3, .inl (cy, 8, .inl (fun _ => 0)))]) ++ [(q4, .inl (cy, 8, .inl (fun _ => 0)))]) ++ [(q5, .inl (cy, 8, .inl (fun _ => 0)))]) ++ [(q6, .inl (cy, 4, .inl (fun _ => 0)))])) H _ := G
  refine n_ret C G (fun k => ([q0, q1, q2, q3, q4, q5, q6] : List Nat).getD k 0) rfl (gW_ext rfl (fun k hk => ?_)) hr hlocks (by decide) (by decide) dX5_init_51
  match k, hk with
  | 0, _ => rfl
  | 1, _ => rfl
  | 2, _ => rfl
  | 3, _ => rfl
  | 4, _ => rfl
  | 5, _ => rfl
  | 6, _ => rfl
  | k + 7, hk => exact absurd hk (Nat.not_lt.mpr (Nat.le_add_left _ _))

set_option maxRecDepth 100000 in
set_option maxHeartbeats 4000000 in
theorem i_X6 (l : Launch) (D : va_G) (cy : ClassId) (q0 : Nat) : nM l Sh6 D cy yX6_init cX6_init 1 1 54 q0 (.inr (6, [.null, .int 0])) z0 := by
  refine n_start (by decide) rfl ?_
  intro p e s m args below meth c A ls C hr hlocks G hl
  have C : nC p s m args meth c cX6_init 1 "LaneOrder$Text" D cy A := C
  have hx := C.1
  have hb := C.2.1
  refine lv_aload_n hx hb dX6_init_0 rfl (lv_at hl 0 rfl) ?_
  refine n_obj C hl.1 kob_6 kobi kobc dX6_init_1 (by decide) (by decide) ?_
  refine lv_aload_n hx hb dX6_init_4 rfl (lv_at hl 0 rfl) ?_
  refine lv_bipush (v := 54) hx hb dX6_init_5 (by decide) ?_
  refine n_newa C G (N := 54) arrI (by decide) (by decide) (by decide) (by decide) (by decide) dX6_init_7 (fun q1 H G => ?_)
  have G : nG D A s ((q0, .inr (6, [.null, .int 0])) :: [(q1, .inl (cy, 54, .inl (fun _ => 0)))]) H _ := G
  refine n_putF C G (v := .ref q1) cl6 (j := 0) (by decide) k1_32 rfl rfl rfl rfl (Nat.le_of_ble_eq_true rfl) dX6_init_9 (fun H locs G => ?_)
  have G : nG D A s ((q0, .inr (6, [.ref q1, .int 0])) :: [(q1, .inl (cy, 54, .inl (fun _ => 0)))]) H _ := G
  refine n_ret C G (fun k => ([q0, q1] : List Nat).getD k 0) rfl (gW_ext rfl (fun k hk => ?_)) hr hlocks (by decide) (by decide) dX6_init_12
  match k, hk with
  | 0, _ => rfl
  | 1, _ => rfl
  | k + 2, hk => exact absurd hk (Nat.not_lt.mpr (Nat.le_add_left _ _))
