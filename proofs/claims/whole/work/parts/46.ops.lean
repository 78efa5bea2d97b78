def op_letter (Rel : Nat → GS → GS → Prop) : Prop := ∀ (c : Nat) (X M : GS) (a1 : Int32), c < 512 → Rel c X M → ∃ (r : Int32) (X1 : GS) (M1 : GS), f_X7_letter a1 X = some (r, X1) ∧ f_X8_letter a1 M = some (r, M1) ∧ Rel (c + 1) X1 M1
def op_blank (Rel : Nat → GS → GS → Prop) : Prop := ∀ (c : Nat) (X M : GS), c < 512 → Rel c X M → ∃ (r : Int32) (X1 : GS) (M1 : GS), f_X7_blank X = some (r, X1) ∧ f_X8_blank M = some (r, M1) ∧ Rel (c + 1) X1 M1
def op_fault (Rel : Nat → GS → GS → Prop) : Prop := ∀ (c : Nat) (X M : GS), c < 512 → Rel c X M → ∃ (r : Int32) (M1 : GS), f_X7_fault X = some r ∧ f_X8_fault M = some (r, M1) ∧ Rel (c + 1) X M1
def op_page (Rel : Nat → GS → GS → Prop) : Prop := ∀ (c : Nat) (X M : GS), c < 512 → Rel c X M → ∃ (r : Int32) (X1 : GS) (M1 : GS), f_X7_page X = some (r, X1) ∧ f_X8_page M = some (r, M1) ∧ Rel (c + 1) X1 M1
def op_box (Rel : Nat → GS → GS → Prop) : Prop := ∀ (c : Nat) (X M : GS) (a1 a2 : Int32), c < 512 → Rel c X M → ∃ (r : Int32) (M1 : GS), f_X7_box a1 a2 X = some r ∧ f_X8_box a1 a2 M = some (r, M1) ∧ Rel (c + 1) X M1
def op_as (Rel : Nat → GS → GS → Prop) : Prop := ∀ (c : Nat) (X M : GS) (a1 a2 : Int32), c < 512 → Rel c X M → ∃ (r : Int32), f_X7_as a1 a2 X = some r ∧ f_X8_as a1 a2 M = some r ∧ Rel (c + 1) X M
def op_order (Rel : Nat → GS → GS → Prop) : Prop := ∀ (c : Nat) (X M : GS) (a1 : Int32), c < 512 → Rel c X M → ∃ (r : Int32) (M1 : GS), f_X7_order a1 X = some r ∧ f_X8_order a1 M = some (r, M1) ∧ Rel (c + 1) X M1
def op_cut (Rel : Nat → GS → GS → Prop) : Prop := ∀ (c : Nat) (X M : GS) (a1 a2 : Int32), c < 512 → Rel c X M → ∃ (r : Int32) (M1 : GS), f_X7_cut a1 a2 X = some r ∧ f_X8_cut a1 a2 M = some (r, M1) ∧ Rel (c + 1) X M1
def op_lane (Rel : Nat → GS → GS → Prop) : Prop := ∀ (c : Nat) (X M : GS) (a1 a2 : Int32), c < 512 → Rel c X M → ∃ (r : Int32) (X1 : GS) (M1 : GS), f_X7_lane a1 a2 X = some (r, X1) ∧ f_X8_lane a1 a2 M = some (r, M1) ∧ Rel (c + 1) X1 M1
def op_why (Rel : Nat → GS → GS → Prop) : Prop := ∀ (c : Nat) (X M : GS) (a1 a2 : Int32), c < 512 → Rel c X M → ∃ (r : Int32) (M1 : GS), f_X7_why a1 a2 X = some r ∧ f_X8_why a1 a2 M = some (r, M1) ∧ Rel (c + 1) X M1
def op_put (Rel : Nat → GS → GS → Prop) : Prop := ∀ (c : Nat) (X M : GS) (a1 a2 : Int32), c < 512 → Rel c X M → ∃ (r : Int32) (X1 : GS) (M1 : GS), f_X7_put a1 a2 X = some (r, X1) ∧ f_X8_put a1 a2 M = some (r, M1) ∧ Rel (c + 1) X1 M1
def op_take (Rel : Nat → GS → GS → Prop) : Prop := ∀ (c : Nat) (X M : GS) (a1 : Int32), c < 512 → Rel c X M → ∃ (r : Int32) (X1 : GS) (M1 : GS), f_X7_take a1 X = some (r, X1) ∧ f_X8_take a1 M = some (r, M1) ∧ Rel (c + 1) X1 M1
def op_move (Rel : Nat → GS → GS → Prop) : Prop := ∀ (c : Nat) (X M : GS) (a1 a2 a3 : Int32), c < 512 → Rel c X M → ∃ (r : Int32) (X1 : GS) (M1 : GS), f_X7_move a1 a2 a3 X = some (r, X1) ∧ f_X8_move a1 a2 a3 M = some (r, M1) ∧ Rel (c + 1) X1 M1
def op_change (Rel : Nat → GS → GS → Prop) : Prop := ∀ (c : Nat) (X M : GS) (a1 a2 : Int32), c < 512 → Rel c X M → ∃ (r : Int32) (X1 : GS) (M1 : GS), f_X7_change a1 a2 X = some (r, X1) ∧ f_X8_change a1 a2 M = some (r, M1) ∧ Rel (c + 1) X1 M1
def op_rules (Rel : Nat → GS → GS → Prop) : Prop := ∀ (c : Nat) (X M : GS) (a1 : Int32), c < 512 → Rel c X M → ∃ (r : Int32) (X1 : GS) (M1 : GS), f_X7_rules a1 X = some (r, X1) ∧ f_X8_rules a1 M = some (r, M1) ∧ Rel (c + 1) X1 M1
def op_scale (Rel : Nat → GS → GS → Prop) : Prop := ∀ (c : Nat) (X M : GS) (a1 : Int32), c < 512 → Rel c X M → ∃ (r : Int32) (X1 : GS) (M1 : GS), f_X7_scale a1 X = some (r, X1) ∧ f_X8_scale a1 M = some (r, M1) ∧ Rel (c + 1) X1 M1
def op_without (Rel : Nat → GS → GS → Prop) : Prop := ∀ (c : Nat) (X M : GS) (a1 : Int32), c < 512 → Rel c X M → ∃ (r : Int32) (X1 : GS) (M1 : GS), f_X7_without a1 X = some (r, X1) ∧ f_X8_without a1 M = some (r, M1) ∧ Rel (c + 1) X1 M1
def op_calm (Rel : Nat → GS → GS → Prop) : Prop := ∀ (c : Nat) (X M : GS), c < 512 → Rel c X M → ∃ (r : Int32) (X1 : GS) (M1 : GS), f_X7_calm X = some (r, X1) ∧ f_X8_calm M = some (r, M1) ∧ Rel (c + 1) X1 M1
def op_idle (Rel : Nat → GS → GS → Prop) : Prop := ∀ (c : Nat) (X M : GS), c < 512 → Rel c X M → ∃ (r : Int32) (X1 : GS) (M1 : GS), f_X7_idle X = some (r, X1) ∧ f_X8_idle M = some (r, M1) ∧ Rel (c + 1) X1 M1
def op_free (Rel : Nat → GS → GS → Prop) : Prop := ∀ (c : Nat) (X M : GS), c < 512 → Rel c X M → ∃ (r : Int32) (X1 : GS) (M1 : GS), f_X7_free X = some (r, X1) ∧ f_X8_free M = some (r, M1) ∧ Rel (c + 1) X1 M1
def op_see (Rel : Nat → GS → GS → Prop) : Prop := ∀ (c : Nat) (X M : GS) (a1 a2 a3 : Int32), c < 512 → (a3 = 0 ∨ a3 = 1) → Rel c X M → ∃ (r : Int32) (X1 : GS) (M1 : GS), f_X7_see a1 a2 a3 X = some (r, X1) ∧ f_X8_see a1 a2 a3 M = some (r, M1) ∧ Rel (c + 1) X1 M1
def op_forget (Rel : Nat → GS → GS → Prop) : Prop := ∀ (c : Nat) (X M : GS), c < 512 → Rel c X M → ∃ (r : Int32) (X1 : GS) (M1 : GS), f_X7_forget X = some (r, X1) ∧ f_X8_forget M = some (r, M1) ∧ Rel (c + 1) X1 M1
def op_drawn (Rel : Nat → GS → GS → Prop) : Prop := ∀ (c : Nat) (X M : GS) (a1 a2 a3 : Int32), c < 512 → Rel c X M → ∃ (r : Int32) (X1 : GS) (M1 : GS), f_X7_drawn a1 a2 a3 X = some (r, X1) ∧ f_X8_drawn a1 a2 a3 M = some (r, M1) ∧ Rel (c + 1) X1 M1
def op_image (Rel : Nat → GS → GS → Prop) : Prop := ∀ (c : Nat) (X M : GS), c < 512 → Rel c X M → ∃ (r : Int32) (X1 : GS) (M1 : GS), f_X7_image X = some (r, X1) ∧ f_X8_image M = some (r, M1) ∧ Rel (c + 1) X1 M1
def op_restore (Rel : Nat → GS → GS → Prop) : Prop := ∀ (c : Nat) (X M : GS), c < 512 → Rel c X M → ∃ (r : Int32) (X1 : GS) (M1 : GS), f_X7_restore X = some (r, X1) ∧ f_X8_restore M = some (r, M1) ∧ Rel (c + 1) X1 M1
def op_count (Rel : Nat → GS → GS → Prop) : Prop := ∀ (c : Nat) (X M : GS) (a1 : Int32), c < 512 → Rel c X M → ∃ (r : Int32) (M1 : GS), f_X7_count a1 X = some r ∧ f_X8_count a1 M = some (r, M1) ∧ Rel (c + 1) X M1
def op_digest (Rel : Nat → GS → GS → Prop) : Prop := ∀ (c : Nat) (X M : GS), c < 512 → Rel c X M → ∃ (r : Int64) (X1 : GS) (M1 : GS), f_X7_digest X = some (r, X1) ∧ f_X8_digest M = some (r, M1) ∧ Rel (c + 1) X1 M1
def opsOK (Rel : Nat → GS → GS → Prop) : Prop := op_letter Rel ∧ op_blank Rel ∧ op_fault Rel ∧ op_page Rel ∧ op_box Rel ∧ op_as Rel ∧ op_order Rel ∧ op_cut Rel ∧ op_lane Rel ∧ op_why Rel ∧ op_put Rel ∧ op_take Rel ∧ op_move Rel ∧ op_change Rel ∧ op_rules Rel ∧ op_scale Rel ∧ op_without Rel ∧ op_calm Rel ∧ op_idle Rel ∧ op_free Rel ∧ op_see Rel ∧ op_forget Rel ∧ op_drawn Rel ∧ op_image Rel ∧ op_restore Rel ∧ op_count Rel ∧ op_digest Rel
set_option maxRecDepth 100000 in
set_option maxHeartbeats 4000000 in
theorem lw_letter {p : Program} {l : Launch} {e : Env} {s : State} {m : MethodId} {below : List Frame} {meth : Method} {c : Code} {H : Heap} {locs : List Loc} {cells slots : Nat} {Q : State → Prop} {b L j : Nat} {xs : Nat → Int32} {ls : Array Slot} {D : va_G} {cy : ClassId} {hx hm : Nat → Nat} {X M : GS} {Rel : Nat → GS → GS → Prop} (E : op_letter Rel) (C : lC p s m meth c b L xs D cy hx hm) (hL : L ≤ 2048) (hj : 4 * j + 4 ≤ L) (R : Rel j X M) (G : lG D cy hx hm s X M H locs) (hl : lv_has ls 4 [(0, .ref b), (1, .ref (hx 0)), (2, .ref (hm 0)), (3, .int (nI (4 * j)))]) (hf : cells ≤ 600000 ∧ slots ≤ 7302250)
    (K : ∀ (X M : GS) (H : Heap) (locs : List Loc) (ls : Array Slot), Rel (j + 1) X M → lG D cy hx hm s X M H locs → lv_has ls 4 [(0, .ref b), (1, .ref (hx 0)), (2, .ref (hm 0)), (3, .int (nI (4 * j)))] → W p l e room_1 s m #[Value.ref b] below meth c H locs cells slots Q (F0 m 824 ls [])) : W p l e room_1 s m #[Value.ref b] below meth c H locs cells slots Q (F0 m 156 ls []) := by
  obtain ⟨hx9, hb9, -⟩ := id C
  obtain ⟨r, X1, M1, hX1, hM1, R1⟩ := E j X M (xs (4 * j + 1)) (by omega) R
  refine lv_aload_n hx9 hb9 dL_law_156 rfl (lv_at hl 1 rfl) ?_
  refine lv_aload_n hx9 hb9 dL_law_157 rfl (lv_at hl 0 rfl) ?_
  refine lv_iload_n hx9 hb9 dL_law_158 rfl (lv_at hl 3 rfl) ?_
  refine lv_iconst (v := 1) hx9 hb9 dL_law_159 (by decide) ?_
  refine lv_iadd hx9 hb9 dL_law_160 ?_
  refine l_sld C G (j := 4 * j + 1) (nI_add _ 1) (by omega) hL dL_law_161 ?_
  refine l_X_i C G (As := [.int (xs (4 * j + 1))]) (rest := []) (c_X7_letter l D cy hx (xs (4 * j + 1)) X r X1 hX1) rfl v_L_13 (Nat.le_of_ble_eq_true rfl) (Nat.le_of_ble_eq_true rfl) rfl hl.1 rfl (Nat.le_of_ble_eq_true rfl) dL_law_162 hf (fun H locs G => ?_)
  refine lv_aload_n hx9 hb9 dL_law_165 rfl (lv_at hl 2 rfl) ?_
  refine lv_aload_n hx9 hb9 dL_law_166 rfl (lv_at hl 0 rfl) ?_
  refine lv_iload_n hx9 hb9 dL_law_167 rfl (lv_at hl 3 rfl) ?_
  refine lv_iconst (v := 1) hx9 hb9 dL_law_168 (by decide) ?_
  refine lv_iadd hx9 hb9 dL_law_169 ?_
  refine l_sld C G (j := 4 * j + 1) (nI_add _ 1) (by omega) hL dL_law_170 ?_
  refine l_M_i C G (As := [.int (xs (4 * j + 1))]) (rest := [.int r]) (c_X8_letter l D cy hm (xs (4 * j + 1)) M r M1 hM1) rfl v_L_17 (Nat.le_of_ble_eq_true rfl) (Nat.le_of_ble_eq_true rfl) rfl hl.1 rfl (Nat.le_of_ble_eq_true rfl) dL_law_171 hf (fun H locs G => ?_)
  refine lv_icmp_eq (tgt := 824) hx9 hb9 dL_law_174 (by decide) (fun c9 => ?_) (fun c9 => ?_)
  · exact K _ _ _ _ _ R1 G hl
  · exact absurd rfl c9
set_option maxRecDepth 100000 in
set_option maxHeartbeats 4000000 in
theorem lw_blank {p : Program} {l : Launch} {e : Env} {s : State} {m : MethodId} {below : List Frame} {meth : Method} {c : Code} {H : Heap} {locs : List Loc} {cells slots : Nat} {Q : State → Prop} {b L j : Nat} {xs : Nat → Int32} {ls : Array Slot} {D : va_G} {cy : ClassId} {hx hm : Nat → Nat} {X M : GS} {Rel : Nat → GS → GS → Prop} (E : op_blank Rel) (C : lC p s m meth c b L xs D cy hx hm) (hL : L ≤ 2048) (hj : 4 * j + 4 ≤ L) (R : Rel j X M) (G : lG D cy hx hm s X M H locs) (hl : lv_has ls 4 [(0, .ref b), (1, .ref (hx 0)), (2, .ref (hm 0)), (3, .int (nI (4 * j)))]) (hf : cells ≤ 600000 ∧ slots ≤ 7302250)
    (K : ∀ (X M : GS) (H : Heap) (locs : List Loc) (ls : Array Slot), Rel (j + 1) X M → lG D cy hx hm s X M H locs → lv_has ls 4 [(0, .ref b), (1, .ref (hx 0)), (2, .ref (hm 0)), (3, .int (nI (4 * j)))] → W p l e room_1 s m #[Value.ref b] below meth c H locs cells slots Q (F0 m 824 ls [])) : W p l e room_1 s m #[Value.ref b] below meth c H locs cells slots Q (F0 m 179 ls []) := by
  obtain ⟨hx9, hb9, -⟩ := id C
  obtain ⟨r, X1, M1, hX1, hM1, R1⟩ := E j X M (by omega) R
  refine lv_aload_n hx9 hb9 dL_law_179 rfl (lv_at hl 1 rfl) ?_
  refine l_X_i C G (As := []) (rest := []) (c_X7_blank l D cy hx  X r X1 hX1) rfl v_L_18 (Nat.le_of_ble_eq_true rfl) (Nat.le_of_ble_eq_true rfl) rfl hl.1 rfl (Nat.le_of_ble_eq_true rfl) dL_law_180 hf (fun H locs G => ?_)
  refine lv_aload_n hx9 hb9 dL_law_183 rfl (lv_at hl 2 rfl) ?_
  refine l_M_i C G (As := []) (rest := [.int r]) (c_X8_blank l D cy hm  M r M1 hM1) rfl v_L_22 (Nat.le_of_ble_eq_true rfl) (Nat.le_of_ble_eq_true rfl) rfl hl.1 rfl (Nat.le_of_ble_eq_true rfl) dL_law_184 hf (fun H locs G => ?_)
  refine lv_icmp_eq (tgt := 824) hx9 hb9 dL_law_187 (by decide) (fun c9 => ?_) (fun c9 => ?_)
  · exact K _ _ _ _ _ R1 G hl
  · exact absurd rfl c9
set_option maxRecDepth 100000 in
set_option maxHeartbeats 4000000 in
theorem lw_fault {p : Program} {l : Launch} {e : Env} {s : State} {m : MethodId} {below : List Frame} {meth : Method} {c : Code} {H : Heap} {locs : List Loc} {cells slots : Nat} {Q : State → Prop} {b L j : Nat} {xs : Nat → Int32} {ls : Array Slot} {D : va_G} {cy : ClassId} {hx hm : Nat → Nat} {X M : GS} {Rel : Nat → GS → GS → Prop} (E : op_fault Rel) (C : lC p s m meth c b L xs D cy hx hm) (hL : L ≤ 2048) (hj : 4 * j + 4 ≤ L) (R : Rel j X M) (G : lG D cy hx hm s X M H locs) (hl : lv_has ls 4 [(0, .ref b), (1, .ref (hx 0)), (2, .ref (hm 0)), (3, .int (nI (4 * j)))]) (hf : cells ≤ 600000 ∧ slots ≤ 7302250)
    (K : ∀ (X M : GS) (H : Heap) (locs : List Loc) (ls : Array Slot), Rel (j + 1) X M → lG D cy hx hm s X M H locs → lv_has ls 4 [(0, .ref b), (1, .ref (hx 0)), (2, .ref (hm 0)), (3, .int (nI (4 * j)))] → W p l e room_1 s m #[Value.ref b] below meth c H locs cells slots Q (F0 m 824 ls [])) : W p l e room_1 s m #[Value.ref b] below meth c H locs cells slots Q (F0 m 192 ls []) := by
  obtain ⟨hx9, hb9, -⟩ := id C
  obtain ⟨r, M1, hX1, hM1, R1⟩ := E j X M (by omega) R
  refine lv_aload_n hx9 hb9 dL_law_192 rfl (lv_at hl 1 rfl) ?_
  refine l_X_i C G (As := []) (rest := []) (c_X7_fault l D cy hx  X r  hX1) rfl v_L_23 (Nat.le_of_ble_eq_true rfl) (Nat.le_of_ble_eq_true rfl) rfl hl.1 rfl (Nat.le_of_ble_eq_true rfl) dL_law_193 hf (fun H locs G => ?_)
  refine lv_aload_n hx9 hb9 dL_law_196 rfl (lv_at hl 2 rfl) ?_
  refine l_M_i C G (As := []) (rest := [.int r]) (c_X8_fault l D cy hm  M r M1 hM1) rfl v_L_26 (Nat.le_of_ble_eq_true rfl) (Nat.le_of_ble_eq_true rfl) rfl hl.1 rfl (Nat.le_of_ble_eq_true rfl) dL_law_197 hf (fun H locs G => ?_)
  refine lv_icmp_eq (tgt := 824) hx9 hb9 dL_law_200 (by decide) (fun c9 => ?_) (fun c9 => ?_)
  · exact K _ _ _ _ _ R1 G hl
  · exact absurd rfl c9
set_option maxRecDepth 100000 in
set_option maxHeartbeats 4000000 in
theorem lw_page {p : Program} {l : Launch} {e : Env} {s : State} {m : MethodId} {below : List Frame} {meth : Method} {c : Code} {H : Heap} {locs : List Loc} {cells slots : Nat} {Q : State → Prop} {b L j : Nat} {xs : Nat → Int32} {ls : Array Slot} {D : va_G} {cy : ClassId} {hx hm : Nat → Nat} {X M : GS} {Rel : Nat → GS → GS → Prop} (E : op_page Rel) (C : lC p s m meth c b L xs D cy hx hm) (hL : L ≤ 2048) (hj : 4 * j + 4 ≤ L) (R : Rel j X M) (G : lG D cy hx hm s X M H locs) (hl : lv_has ls 4 [(0, .ref b), (1, .ref (hx 0)), (2, .ref (hm 0)), (3, .int (nI (4 * j)))]) (hf : cells ≤ 600000 ∧ slots ≤ 7302250)
    (K : ∀ (X M : GS) (H : Heap) (locs : List Loc) (ls : Array Slot), Rel (j + 1) X M → lG D cy hx hm s X M H locs → lv_has ls 4 [(0, .ref b), (1, .ref (hx 0)), (2, .ref (hm 0)), (3, .int (nI (4 * j)))] → W p l e room_1 s m #[Value.ref b] below meth c H locs cells slots Q (F0 m 824 ls [])) : W p l e room_1 s m #[Value.ref b] below meth c H locs cells slots Q (F0 m 205 ls []) := by
  obtain ⟨hx9, hb9, -⟩ := id C
  obtain ⟨r, X1, M1, hX1, hM1, R1⟩ := E j X M (by omega) R
  refine lv_aload_n hx9 hb9 dL_law_205 rfl (lv_at hl 1 rfl) ?_
  refine l_X_i C G (As := []) (rest := []) (c_X7_page l D cy hx  X r X1 hX1) rfl v_L_27 (Nat.le_of_ble_eq_true rfl) (Nat.le_of_ble_eq_true rfl) rfl hl.1 rfl (Nat.le_of_ble_eq_true rfl) dL_law_206 hf (fun H locs G => ?_)
  refine lv_aload_n hx9 hb9 dL_law_209 rfl (lv_at hl 2 rfl) ?_
  refine l_M_i C G (As := []) (rest := [.int r]) (c_X8_page l D cy hm  M r M1 hM1) rfl v_L_30 (Nat.le_of_ble_eq_true rfl) (Nat.le_of_ble_eq_true rfl) rfl hl.1 rfl (Nat.le_of_ble_eq_true rfl) dL_law_210 hf (fun H locs G => ?_)
  refine lv_icmp_eq (tgt := 824) hx9 hb9 dL_law_213 (by decide) (fun c9 => ?_) (fun c9 => ?_)
  · exact K _ _ _ _ _ R1 G hl
  · exact absurd rfl c9
set_option maxRecDepth 100000 in
set_option maxHeartbeats 4000000 in
theorem lw_box {p : Program} {l : Launch} {e : Env} {s : State} {m : MethodId} {below : List Frame} {meth : Method} {c : Code} {H : Heap} {locs : List Loc} {cells slots : Nat} {Q : State → Prop} {b L j : Nat} {xs : Nat → Int32} {ls : Array Slot} {D : va_G} {cy : ClassId} {hx hm : Nat → Nat} {X M : GS} {Rel : Nat → GS → GS → Prop} (E : op_box Rel) (C : lC p s m meth c b L xs D cy hx hm) (hL : L ≤ 2048) (hj : 4 * j + 4 ≤ L) (R : Rel j X M) (G : lG D cy hx hm s X M H locs) (hl : lv_has ls 4 [(0, .ref b), (1, .ref (hx 0)), (2, .ref (hm 0)), (3, .int (nI (4 * j)))]) (hf : cells ≤ 600000 ∧ slots ≤ 7302250)
    (K : ∀ (X M : GS) (H : Heap) (locs : List Loc) (ls : Array Slot), Rel (j + 1) X M → lG D cy hx hm s X M H locs → lv_has ls 4 [(0, .ref b), (1, .ref (hx 0)), (2, .ref (hm 0)), (3, .int (nI (4 * j)))] → W p l e room_1 s m #[Value.ref b] below meth c H locs cells slots Q (F0 m 824 ls [])) : W p l e room_1 s m #[Value.ref b] below meth c H locs cells slots Q (F0 m 218 ls []) := by
  obtain ⟨hx9, hb9, -⟩ := id C
  obtain ⟨r, M1, hX1, hM1, R1⟩ := E j X M (xs (4 * j + 1)) (xs (4 * j + 2)) (by omega) R
  refine lv_aload_n hx9 hb9 dL_law_218 rfl (lv_at hl 1 rfl) ?_
  refine lv_aload_n hx9 hb9 dL_law_219 rfl (lv_at hl 0 rfl) ?_
  refine lv_iload_n hx9 hb9 dL_law_220 rfl (lv_at hl 3 rfl) ?_
  refine lv_iconst (v := 1) hx9 hb9 dL_law_221 (by decide) ?_
  refine lv_iadd hx9 hb9 dL_law_222 ?_
  refine l_sld C G (j := 4 * j + 1) (nI_add _ 1) (by omega) hL dL_law_223 ?_
  refine lv_aload_n hx9 hb9 dL_law_224 rfl (lv_at hl 0 rfl) ?_
  refine lv_iload_n hx9 hb9 dL_law_225 rfl (lv_at hl 3 rfl) ?_
  refine lv_iconst (v := 2) hx9 hb9 dL_law_226 (by decide) ?_
  refine lv_iadd hx9 hb9 dL_law_227 ?_
  refine l_sld C G (j := 4 * j + 2) (nI_add _ 2) (by omega) hL dL_law_228 ?_
  refine l_X_i C G (As := [.int (xs (4 * j + 1)), .int (xs (4 * j + 2))]) (rest := []) (c_X7_box l D cy hx (xs (4 * j + 1)) (xs (4 * j + 2)) X r  hX1) rfl v_L_31 (Nat.le_of_ble_eq_true rfl) (Nat.le_of_ble_eq_true rfl) rfl hl.1 rfl (Nat.le_of_ble_eq_true rfl) dL_law_229 hf (fun H locs G => ?_)
  refine lv_aload_n hx9 hb9 dL_law_232 rfl (lv_at hl 2 rfl) ?_
  refine lv_aload_n hx9 hb9 dL_law_233 rfl (lv_at hl 0 rfl) ?_
  refine lv_iload_n hx9 hb9 dL_law_234 rfl (lv_at hl 3 rfl) ?_
  refine lv_iconst (v := 1) hx9 hb9 dL_law_235 (by decide) ?_
  refine lv_iadd hx9 hb9 dL_law_236 ?_
  refine l_sld C G (j := 4 * j + 1) (nI_add _ 1) (by omega) hL dL_law_237 ?_
  refine lv_aload_n hx9 hb9 dL_law_238 rfl (lv_at hl 0 rfl) ?_
  refine lv_iload_n hx9 hb9 dL_law_239 rfl (lv_at hl 3 rfl) ?_
  refine lv_iconst (v := 2) hx9 hb9 dL_law_240 (by decide) ?_
  refine lv_iadd hx9 hb9 dL_law_241 ?_
  refine l_sld C G (j := 4 * j + 2) (nI_add _ 2) (by omega) hL dL_law_242 ?_
  refine l_M_i C G (As := [.int (xs (4 * j + 1)), .int (xs (4 * j + 2))]) (rest := [.int r]) (c_X8_box l D cy hm (xs (4 * j + 1)) (xs (4 * j + 2)) M r M1 hM1) rfl v_L_35 (Nat.le_of_ble_eq_true rfl) (Nat.le_of_ble_eq_true rfl) rfl hl.1 rfl (Nat.le_of_ble_eq_true rfl) dL_law_243 hf (fun H locs G => ?_)
  refine lv_icmp_eq (tgt := 824) hx9 hb9 dL_law_246 (by decide) (fun c9 => ?_) (fun c9 => ?_)
  · exact K _ _ _ _ _ R1 G hl
  · exact absurd rfl c9
set_option maxRecDepth 100000 in
set_option maxHeartbeats 4000000 in
theorem lw_as {p : Program} {l : Launch} {e : Env} {s : State} {m : MethodId} {below : List Frame} {meth : Method} {c : Code} {H : Heap} {locs : List Loc} {cells slots : Nat} {Q : State → Prop} {b L j : Nat} {xs : Nat → Int32} {ls : Array Slot} {D : va_G} {cy : ClassId} {hx hm : Nat → Nat} {X M : GS} {Rel : Nat → GS → GS → Prop} (E : op_as Rel) (C : lC p s m meth c b L xs D cy hx hm) (hL : L ≤ 2048) (hj : 4 * j + 4 ≤ L) (R : Rel j X M) (G : lG D cy hx hm s X M H locs) (hl : lv_has ls 4 [(0, .ref b), (1, .ref (hx 0)), (2, .ref (hm 0)), (3, .int (nI (4 * j)))]) (hf : cells ≤ 600000 ∧ slots ≤ 7302250)
    (K : ∀ (X M : GS) (H : Heap) (locs : List Loc) (ls : Array Slot), Rel (j + 1) X M → lG D cy hx hm s X M H locs → lv_has ls 4 [(0, .ref b), (1, .ref (hx 0)), (2, .ref (hm 0)), (3, .int (nI (4 * j)))] → W p l e room_1 s m #[Value.ref b] below meth c H locs cells slots Q (F0 m 824 ls [])) : W p l e room_1 s m #[Value.ref b] below meth c H locs cells slots Q (F0 m 251 ls []) := by
  obtain ⟨hx9, hb9, -⟩ := id C
  obtain ⟨r, hX1, hM1, R1⟩ := E j X M (xs (4 * j + 1)) (xs (4 * j + 2)) (by omega) R
  refine lv_aload_n hx9 hb9 dL_law_251 rfl (lv_at hl 1 rfl) ?_
  refine lv_aload_n hx9 hb9 dL_law_252 rfl (lv_at hl 0 rfl) ?_
  refine lv_iload_n hx9 hb9 dL_law_253 rfl (lv_at hl 3 rfl) ?_
  refine lv_iconst (v := 1) hx9 hb9 dL_law_254 (by decide) ?_
  refine lv_iadd hx9 hb9 dL_law_255 ?_
  refine l_sld C G (j := 4 * j + 1) (nI_add _ 1) (by omega) hL dL_law_256 ?_
  refine lv_aload_n hx9 hb9 dL_law_257 rfl (lv_at hl 0 rfl) ?_
  refine lv_iload_n hx9 hb9 dL_law_258 rfl (lv_at hl 3 rfl) ?_
  refine lv_iconst (v := 2) hx9 hb9 dL_law_259 (by decide) ?_
  refine lv_iadd hx9 hb9 dL_law_260 ?_
  refine l_sld C G (j := 4 * j + 2) (nI_add _ 2) (by omega) hL dL_law_261 ?_
  refine l_X_i C G (As := [.int (xs (4 * j + 1)), .int (xs (4 * j + 2))]) (rest := []) (c_X7_as l D cy hx (xs (4 * j + 1)) (xs (4 * j + 2)) X r  hX1) rfl v_L_36 (Nat.le_of_ble_eq_true rfl) (Nat.le_of_ble_eq_true rfl) rfl hl.1 rfl (Nat.le_of_ble_eq_true rfl) dL_law_262 hf (fun H locs G => ?_)
  refine lv_aload_n hx9 hb9 dL_law_265 rfl (lv_at hl 2 rfl) ?_
  refine lv_aload_n hx9 hb9 dL_law_266 rfl (lv_at hl 0 rfl) ?_
  refine lv_iload_n hx9 hb9 dL_law_267 rfl (lv_at hl 3 rfl) ?_
  refine lv_iconst (v := 1) hx9 hb9 dL_law_268 (by decide) ?_
  refine lv_iadd hx9 hb9 dL_law_269 ?_
  refine l_sld C G (j := 4 * j + 1) (nI_add _ 1) (by omega) hL dL_law_270 ?_
  refine lv_aload_n hx9 hb9 dL_law_271 rfl (lv_at hl 0 rfl) ?_
  refine lv_iload_n hx9 hb9 dL_law_272 rfl (lv_at hl 3 rfl) ?_
  refine lv_iconst (v := 2) hx9 hb9 dL_law_273 (by decide) ?_
  refine lv_iadd hx9 hb9 dL_law_274 ?_
  refine l_sld C G (j := 4 * j + 2) (nI_add _ 2) (by omega) hL dL_law_275 ?_
  refine l_M_i C G (As := [.int (xs (4 * j + 1)), .int (xs (4 * j + 2))]) (rest := [.int r]) (c_X8_as l D cy hm (xs (4 * j + 1)) (xs (4 * j + 2)) M r  hM1) rfl v_L_39 (Nat.le_of_ble_eq_true rfl) (Nat.le_of_ble_eq_true rfl) rfl hl.1 rfl (Nat.le_of_ble_eq_true rfl) dL_law_276 hf (fun H locs G => ?_)
  refine lv_icmp_eq (tgt := 824) hx9 hb9 dL_law_279 (by decide) (fun c9 => ?_) (fun c9 => ?_)
  · exact K _ _ _ _ _ R1 G hl
  · exact absurd rfl c9
set_option maxRecDepth 100000 in
set_option maxHeartbeats 4000000 in
theorem lw_order {p : Program} {l : Launch} {e : Env} {s : State} {m : MethodId} {below : List Frame} {meth : Method} {c : Code} {H : Heap} {locs : List Loc} {cells slots : Nat} {Q : State → Prop} {b L j : Nat} {xs : Nat → Int32} {ls : Array Slot} {D : va_G} {cy : ClassId} {hx hm : Nat → Nat} {X M : GS} {Rel : Nat → GS → GS → Prop} (E : op_order Rel) (C : lC p s m meth c b L xs D cy hx hm) (hL : L ≤ 2048) (hj : 4 * j + 4 ≤ L) (R : Rel j X M) (G : lG D cy hx hm s X M H locs) (hl : lv_has ls 4 [(0, .ref b), (1, .ref (hx 0)), (2, .ref (hm 0)), (3, .int (nI (4 * j)))]) (hf : cells ≤ 600000 ∧ slots ≤ 7302250)
    (K : ∀ (X M : GS) (H : Heap) (locs : List Loc) (ls : Array Slot), Rel (j + 1) X M → lG D cy hx hm s X M H locs → lv_has ls 4 [(0, .ref b), (1, .ref (hx 0)), (2, .ref (hm 0)), (3, .int (nI (4 * j)))] → W p l e room_1 s m #[Value.ref b] below meth c H locs cells slots Q (F0 m 824 ls [])) : W p l e room_1 s m #[Value.ref b] below meth c H locs cells slots Q (F0 m 284 ls []) := by
  obtain ⟨hx9, hb9, -⟩ := id C
  obtain ⟨r, M1, hX1, hM1, R1⟩ := E j X M (xs (4 * j + 1)) (by omega) R
  refine lv_aload_n hx9 hb9 dL_law_284 rfl (lv_at hl 1 rfl) ?_
  refine lv_aload_n hx9 hb9 dL_law_285 rfl (lv_at hl 0 rfl) ?_
  refine lv_iload_n hx9 hb9 dL_law_286 rfl (lv_at hl 3 rfl) ?_
  refine lv_iconst (v := 1) hx9 hb9 dL_law_287 (by decide) ?_
  refine lv_iadd hx9 hb9 dL_law_288 ?_
  refine l_sld C G (j := 4 * j + 1) (nI_add _ 1) (by omega) hL dL_law_289 ?_
  refine l_X_i C G (As := [.int (xs (4 * j + 1))]) (rest := []) (c_X7_order l D cy hx (xs (4 * j + 1)) X r  hX1) rfl v_L_40 (Nat.le_of_ble_eq_true rfl) (Nat.le_of_ble_eq_true rfl) rfl hl.1 rfl (Nat.le_of_ble_eq_true rfl) dL_law_290 hf (fun H locs G => ?_)
  refine lv_aload_n hx9 hb9 dL_law_293 rfl (lv_at hl 2 rfl) ?_
  refine lv_aload_n hx9 hb9 dL_law_294 rfl (lv_at hl 0 rfl) ?_
  refine lv_iload_n hx9 hb9 dL_law_295 rfl (lv_at hl 3 rfl) ?_
  refine lv_iconst (v := 1) hx9 hb9 dL_law_296 (by decide) ?_
  refine lv_iadd hx9 hb9 dL_law_297 ?_
  refine l_sld C G (j := 4 * j + 1) (nI_add _ 1) (by omega) hL dL_law_298 ?_
  refine l_M_i C G (As := [.int (xs (4 * j + 1))]) (rest := [.int r]) (c_X8_order l D cy hm (xs (4 * j + 1)) M r M1 hM1) rfl v_L_43 (Nat.le_of_ble_eq_true rfl) (Nat.le_of_ble_eq_true rfl) rfl hl.1 rfl (Nat.le_of_ble_eq_true rfl) dL_law_299 hf (fun H locs G => ?_)
  refine lv_icmp_eq (tgt := 824) hx9 hb9 dL_law_302 (by decide) (fun c9 => ?_) (fun c9 => ?_)
  · exact K _ _ _ _ _ R1 G hl
  · exact absurd rfl c9
set_option maxRecDepth 100000 in
set_option maxHeartbeats 4000000 in
theorem lw_cut {p : Program} {l : Launch} {e : Env} {s : State} {m : MethodId} {below : List Frame} {meth : Method} {c : Code} {H : Heap} {locs : List Loc} {cells slots : Nat} {Q : State → Prop} {b L j : Nat} {xs : Nat → Int32} {ls : Array Slot} {D : va_G} {cy : ClassId} {hx hm : Nat → Nat} {X M : GS} {Rel : Nat → GS → GS → Prop} (E : op_cut Rel) (C : lC p s m meth c b L xs D cy hx hm) (hL : L ≤ 2048) (hj : 4 * j + 4 ≤ L) (R : Rel j X M) (G : lG D cy hx hm s X M H locs) (hl : lv_has ls 4 [(0, .ref b), (1, .ref (hx 0)), (2, .ref (hm 0)), (3, .int (nI (4 * j)))]) (hf : cells ≤ 600000 ∧ slots ≤ 7302250)
    (K : ∀ (X M : GS) (H : Heap) (locs : List Loc) (ls : Array Slot), Rel (j + 1) X M → lG D cy hx hm s X M H locs → lv_has ls 4 [(0, .ref b), (1, .ref (hx 0)), (2, .ref (hm 0)), (3, .int (nI (4 * j)))] → W p l e room_1 s m #[Value.ref b] below meth c H locs cells slots Q (F0 m 824 ls [])) : W p l e room_1 s m #[Value.ref b] below meth c H locs cells slots Q (F0 m 307 ls []) := by
  obtain ⟨hx9, hb9, -⟩ := id C
  obtain ⟨r, M1, hX1, hM1, R1⟩ := E j X M (xs (4 * j + 1)) (xs (4 * j + 2)) (by omega) R
  refine lv_aload_n hx9 hb9 dL_law_307 rfl (lv_at hl 1 rfl) ?_
  refine lv_aload_n hx9 hb9 dL_law_308 rfl (lv_at hl 0 rfl) ?_
  refine lv_iload_n hx9 hb9 dL_law_309 rfl (lv_at hl 3 rfl) ?_
  refine lv_iconst (v := 1) hx9 hb9 dL_law_310 (by decide) ?_
  refine lv_iadd hx9 hb9 dL_law_311 ?_
  refine l_sld C G (j := 4 * j + 1) (nI_add _ 1) (by omega) hL dL_law_312 ?_
  refine lv_aload_n hx9 hb9 dL_law_313 rfl (lv_at hl 0 rfl) ?_
  refine lv_iload_n hx9 hb9 dL_law_314 rfl (lv_at hl 3 rfl) ?_
  refine lv_iconst (v := 2) hx9 hb9 dL_law_315 (by decide) ?_
  refine lv_iadd hx9 hb9 dL_law_316 ?_
  refine l_sld C G (j := 4 * j + 2) (nI_add _ 2) (by omega) hL dL_law_317 ?_
  refine l_X_i C G (As := [.int (xs (4 * j + 1)), .int (xs (4 * j + 2))]) (rest := []) (c_X7_cut l D cy hx (xs (4 * j + 1)) (xs (4 * j + 2)) X r  hX1) rfl v_L_44 (Nat.le_of_ble_eq_true rfl) (Nat.le_of_ble_eq_true rfl) rfl hl.1 rfl (Nat.le_of_ble_eq_true rfl) dL_law_318 hf (fun H locs G => ?_)
  refine lv_aload_n hx9 hb9 dL_law_321 rfl (lv_at hl 2 rfl) ?_
  refine lv_aload_n hx9 hb9 dL_law_322 rfl (lv_at hl 0 rfl) ?_
  refine lv_iload_n hx9 hb9 dL_law_323 rfl (lv_at hl 3 rfl) ?_
  refine lv_iconst (v := 1) hx9 hb9 dL_law_324 (by decide) ?_
  refine lv_iadd hx9 hb9 dL_law_325 ?_
  refine l_sld C G (j := 4 * j + 1) (nI_add _ 1) (by omega) hL dL_law_326 ?_
  refine lv_aload_n hx9 hb9 dL_law_327 rfl (lv_at hl 0 rfl) ?_
  refine lv_iload_n hx9 hb9 dL_law_328 rfl (lv_at hl 3 rfl) ?_
  refine lv_iconst (v := 2) hx9 hb9 dL_law_329 (by decide) ?_
  refine lv_iadd hx9 hb9 dL_law_330 ?_
  refine l_sld C G (j := 4 * j + 2) (nI_add _ 2) (by omega) hL dL_law_331 ?_
  refine l_M_i C G (As := [.int (xs (4 * j + 1)), .int (xs (4 * j + 2))]) (rest := [.int r]) (c_X8_cut l D cy hm (xs (4 * j + 1)) (xs (4 * j + 2)) M r M1 hM1) rfl v_L_47 (Nat.le_of_ble_eq_true rfl) (Nat.le_of_ble_eq_true rfl) rfl hl.1 rfl (Nat.le_of_ble_eq_true rfl) dL_law_332 hf (fun H locs G => ?_)
  refine lv_icmp_eq (tgt := 824) hx9 hb9 dL_law_335 (by decide) (fun c9 => ?_) (fun c9 => ?_)
  · exact K _ _ _ _ _ R1 G hl
  · exact absurd rfl c9
set_option maxRecDepth 100000 in
set_option maxHeartbeats 4000000 in
theorem lw_lane {p : Program} {l : Launch} {e : Env} {s : State} {m : MethodId} {below : List Frame} {meth : Method} {c : Code} {H : Heap} {locs : List Loc} {cells slots : Nat} {Q : State → Prop} {b L j : Nat} {xs : Nat → Int32} {ls : Array Slot} {D : va_G} {cy : ClassId} {hx hm : Nat → Nat} {X M : GS} {Rel : Nat → GS → GS → Prop} (E : op_lane Rel) (C : lC p s m meth c b L xs D cy hx hm) (hL : L ≤ 2048) (hj : 4 * j + 4 ≤ L) (R : Rel j X M) (G : lG D cy hx hm s X M H locs) (hl : lv_has ls 4 [(0, .ref b), (1, .ref (hx 0)), (2, .ref (hm 0)), (3, .int (nI (4 * j)))]) (hf : cells ≤ 600000 ∧ slots ≤ 7302250)
    (K : ∀ (X M : GS) (H : Heap) (locs : List Loc) (ls : Array Slot), Rel (j + 1) X M → lG D cy hx hm s X M H locs → lv_has ls 4 [(0, .ref b), (1, .ref (hx 0)), (2, .ref (hm 0)), (3, .int (nI (4 * j)))] → W p l e room_1 s m #[Value.ref b] below meth c H locs cells slots Q (F0 m 824 ls [])) : W p l e room_1 s m #[Value.ref b] below meth c H locs cells slots Q (F0 m 340 ls []) := by
  obtain ⟨hx9, hb9, -⟩ := id C
  obtain ⟨r, X1, M1, hX1, hM1, R1⟩ := E j X M (xs (4 * j + 1)) (xs (4 * j + 2)) (by omega) R
  refine lv_aload_n hx9 hb9 dL_law_340 rfl (lv_at hl 1 rfl) ?_
  refine lv_aload_n hx9 hb9 dL_law_341 rfl (lv_at hl 0 rfl) ?_
  refine lv_iload_n hx9 hb9 dL_law_342 rfl (lv_at hl 3 rfl) ?_
  refine lv_iconst (v := 1) hx9 hb9 dL_law_343 (by decide) ?_
  refine lv_iadd hx9 hb9 dL_law_344 ?_
  refine l_sld C G (j := 4 * j + 1) (nI_add _ 1) (by omega) hL dL_law_345 ?_
  refine lv_aload_n hx9 hb9 dL_law_346 rfl (lv_at hl 0 rfl) ?_
  refine lv_iload_n hx9 hb9 dL_law_347 rfl (lv_at hl 3 rfl) ?_
  refine lv_iconst (v := 2) hx9 hb9 dL_law_348 (by decide) ?_
  refine lv_iadd hx9 hb9 dL_law_349 ?_
  refine l_sld C G (j := 4 * j + 2) (nI_add _ 2) (by omega) hL dL_law_350 ?_
  refine l_X_i C G (As := [.int (xs (4 * j + 1)), .int (xs (4 * j + 2))]) (rest := []) (c_X7_lane l D cy hx (xs (4 * j + 1)) (xs (4 * j + 2)) X r X1 hX1) rfl v_L_48 (Nat.le_of_ble_eq_true rfl) (Nat.le_of_ble_eq_true rfl) rfl hl.1 rfl (Nat.le_of_ble_eq_true rfl) dL_law_351 hf (fun H locs G => ?_)
  refine lv_aload_n hx9 hb9 dL_law_354 rfl (lv_at hl 2 rfl) ?_
  refine lv_aload_n hx9 hb9 dL_law_355 rfl (lv_at hl 0 rfl) ?_
  refine lv_iload_n hx9 hb9 dL_law_356 rfl (lv_at hl 3 rfl) ?_
  refine lv_iconst (v := 1) hx9 hb9 dL_law_357 (by decide) ?_
  refine lv_iadd hx9 hb9 dL_law_358 ?_
  refine l_sld C G (j := 4 * j + 1) (nI_add _ 1) (by omega) hL dL_law_359 ?_
  refine lv_aload_n hx9 hb9 dL_law_360 rfl (lv_at hl 0 rfl) ?_
  refine lv_iload_n hx9 hb9 dL_law_361 rfl (lv_at hl 3 rfl) ?_
  refine lv_iconst (v := 2) hx9 hb9 dL_law_362 (by decide) ?_
  refine lv_iadd hx9 hb9 dL_law_363 ?_
  refine l_sld C G (j := 4 * j + 2) (nI_add _ 2) (by omega) hL dL_law_364 ?_
  refine l_M_i C G (As := [.int (xs (4 * j + 1)), .int (xs (4 * j + 2))]) (rest := [.int r]) (c_X8_lane l D cy hm (xs (4 * j + 1)) (xs (4 * j + 2)) M r M1 hM1) rfl v_L_51 (Nat.le_of_ble_eq_true rfl) (Nat.le_of_ble_eq_true rfl) rfl hl.1 rfl (Nat.le_of_ble_eq_true rfl) dL_law_365 hf (fun H locs G => ?_)
  refine lv_icmp_eq (tgt := 824) hx9 hb9 dL_law_368 (by decide) (fun c9 => ?_) (fun c9 => ?_)
  · exact K _ _ _ _ _ R1 G hl
  · exact absurd rfl c9
set_option maxRecDepth 100000 in
set_option maxHeartbeats 4000000 in
theorem lw_why {p : Program} {l : Launch} {e : Env} {s : State} {m : MethodId} {below : List Frame} {meth : Method} {c : Code} {H : Heap} {locs : List Loc} {cells slots : Nat} {Q : State → Prop} {b L j : Nat} {xs : Nat → Int32} {ls : Array Slot} {D : va_G} {cy : ClassId} {hx hm : Nat → Nat} {X M : GS} {Rel : Nat → GS → GS → Prop} (E : op_why Rel) (C : lC p s m meth c b L xs D cy hx hm) (hL : L ≤ 2048) (hj : 4 * j + 4 ≤ L) (R : Rel j X M) (G : lG D cy hx hm s X M H locs) (hl : lv_has ls 4 [(0, .ref b), (1, .ref (hx 0)), (2, .ref (hm 0)), (3, .int (nI (4 * j)))]) (hf : cells ≤ 600000 ∧ slots ≤ 7302250)
    (K : ∀ (X M : GS) (H : Heap) (locs : List Loc) (ls : Array Slot), Rel (j + 1) X M → lG D cy hx hm s X M H locs → lv_has ls 4 [(0, .ref b), (1, .ref (hx 0)), (2, .ref (hm 0)), (3, .int (nI (4 * j)))] → W p l e room_1 s m #[Value.ref b] below meth c H locs cells slots Q (F0 m 824 ls [])) : W p l e room_1 s m #[Value.ref b] below meth c H locs cells slots Q (F0 m 373 ls []) := by
  obtain ⟨hx9, hb9, -⟩ := id C
  obtain ⟨r, M1, hX1, hM1, R1⟩ := E j X M (xs (4 * j + 1)) (xs (4 * j + 2)) (by omega) R
  refine lv_aload_n hx9 hb9 dL_law_373 rfl (lv_at hl 1 rfl) ?_
  refine lv_aload_n hx9 hb9 dL_law_374 rfl (lv_at hl 0 rfl) ?_
  refine lv_iload_n hx9 hb9 dL_law_375 rfl (lv_at hl 3 rfl) ?_
  refine lv_iconst (v := 1) hx9 hb9 dL_law_376 (by decide) ?_
  refine lv_iadd hx9 hb9 dL_law_377 ?_
  refine l_sld C G (j := 4 * j + 1) (nI_add _ 1) (by omega) hL dL_law_378 ?_
  refine lv_aload_n hx9 hb9 dL_law_379 rfl (lv_at hl 0 rfl) ?_
  refine lv_iload_n hx9 hb9 dL_law_380 rfl (lv_at hl 3 rfl) ?_
  refine lv_iconst (v := 2) hx9 hb9 dL_law_381 (by decide) ?_
  refine lv_iadd hx9 hb9 dL_law_382 ?_
  refine l_sld C G (j := 4 * j + 2) (nI_add _ 2) (by omega) hL dL_law_383 ?_
  refine l_X_i C G (As := [.int (xs (4 * j + 1)), .int (xs (4 * j + 2))]) (rest := []) (c_X7_why l D cy hx (xs (4 * j + 1)) (xs (4 * j + 2)) X r  hX1) rfl v_L_52 (Nat.le_of_ble_eq_true rfl) (Nat.le_of_ble_eq_true rfl) rfl hl.1 rfl (Nat.le_of_ble_eq_true rfl) dL_law_384 hf (fun H locs G => ?_)
  refine lv_aload_n hx9 hb9 dL_law_387 rfl (lv_at hl 2 rfl) ?_
  refine lv_aload_n hx9 hb9 dL_law_388 rfl (lv_at hl 0 rfl) ?_
  refine lv_iload_n hx9 hb9 dL_law_389 rfl (lv_at hl 3 rfl) ?_
  refine lv_iconst (v := 1) hx9 hb9 dL_law_390 (by decide) ?_
  refine lv_iadd hx9 hb9 dL_law_391 ?_
  refine l_sld C G (j := 4 * j + 1) (nI_add _ 1) (by omega) hL dL_law_392 ?_
  refine lv_aload_n hx9 hb9 dL_law_393 rfl (lv_at hl 0 rfl) ?_
  refine lv_iload_n hx9 hb9 dL_law_394 rfl (lv_at hl 3 rfl) ?_
  refine lv_iconst (v := 2) hx9 hb9 dL_law_395 (by decide) ?_
  refine lv_iadd hx9 hb9 dL_law_396 ?_
  refine l_sld C G (j := 4 * j + 2) (nI_add _ 2) (by omega) hL dL_law_397 ?_
  refine l_M_i C G (As := [.int (xs (4 * j + 1)), .int (xs (4 * j + 2))]) (rest := [.int r]) (c_X8_why l D cy hm (xs (4 * j + 1)) (xs (4 * j + 2)) M r M1 hM1) rfl v_L_55 (Nat.le_of_ble_eq_true rfl) (Nat.le_of_ble_eq_true rfl) rfl hl.1 rfl (Nat.le_of_ble_eq_true rfl) dL_law_398 hf (fun H locs G => ?_)
  refine lv_icmp_eq (tgt := 824) hx9 hb9 dL_law_401 (by decide) (fun c9 => ?_) (fun c9 => ?_)
  · exact K _ _ _ _ _ R1 G hl
  · exact absurd rfl c9
set_option maxRecDepth 100000 in
set_option maxHeartbeats 4000000 in
theorem lw_put {p : Program} {l : Launch} {e : Env} {s : State} {m : MethodId} {below : List Frame} {meth : Method} {c : Code} {H : Heap} {locs : List Loc} {cells slots : Nat} {Q : State → Prop} {b L j : Nat} {xs : Nat → Int32} {ls : Array Slot} {D : va_G} {cy : ClassId} {hx hm : Nat → Nat} {X M : GS} {Rel : Nat → GS → GS → Prop} (E : op_put Rel) (C : lC p s m meth c b L xs D cy hx hm) (hL : L ≤ 2048) (hj : 4 * j + 4 ≤ L) (R : Rel j X M) (G : lG D cy hx hm s X M H locs) (hl : lv_has ls 4 [(0, .ref b), (1, .ref (hx 0)), (2, .ref (hm 0)), (3, .int (nI (4 * j)))]) (hf : cells ≤ 600000 ∧ slots ≤ 7302250)
    (K : ∀ (X M : GS) (H : Heap) (locs : List Loc) (ls : Array Slot), Rel (j + 1) X M → lG D cy hx hm s X M H locs → lv_has ls 4 [(0, .ref b), (1, .ref (hx 0)), (2, .ref (hm 0)), (3, .int (nI (4 * j)))] → W p l e room_1 s m #[Value.ref b] below meth c H locs cells slots Q (F0 m 824 ls [])) : W p l e room_1 s m #[Value.ref b] below meth c H locs cells slots Q (F0 m 406 ls []) := by
  obtain ⟨hx9, hb9, -⟩ := id C
  obtain ⟨r, X1, M1, hX1, hM1, R1⟩ := E j X M (xs (4 * j + 1)) (xs (4 * j + 2)) (by omega) R
  refine lv_aload_n hx9 hb9 dL_law_406 rfl (lv_at hl 1 rfl) ?_
  refine lv_aload_n hx9 hb9 dL_law_407 rfl (lv_at hl 0 rfl) ?_
  refine lv_iload_n hx9 hb9 dL_law_408 rfl (lv_at hl 3 rfl) ?_
  refine lv_iconst (v := 1) hx9 hb9 dL_law_409 (by decide) ?_
  refine lv_iadd hx9 hb9 dL_law_410 ?_
  refine l_sld C G (j := 4 * j + 1) (nI_add _ 1) (by omega) hL dL_law_411 ?_
  refine lv_aload_n hx9 hb9 dL_law_412 rfl (lv_at hl 0 rfl) ?_
  refine lv_iload_n hx9 hb9 dL_law_413 rfl (lv_at hl 3 rfl) ?_
  refine lv_iconst (v := 2) hx9 hb9 dL_law_414 (by decide) ?_
  refine lv_iadd hx9 hb9 dL_law_415 ?_
  refine l_sld C G (j := 4 * j + 2) (nI_add _ 2) (by omega) hL dL_law_416 ?_
  refine l_X_i C G (As := [.int (xs (4 * j + 1)), .int (xs (4 * j + 2))]) (rest := []) (c_X7_put l D cy hx (xs (4 * j + 1)) (xs (4 * j + 2)) X r X1 hX1) rfl v_L_56 (Nat.le_of_ble_eq_true rfl) (Nat.le_of_ble_eq_true rfl) rfl hl.1 rfl (Nat.le_of_ble_eq_true rfl) dL_law_417 hf (fun H locs G => ?_)
  refine lv_aload_n hx9 hb9 dL_law_420 rfl (lv_at hl 2 rfl) ?_
  refine lv_aload_n hx9 hb9 dL_law_421 rfl (lv_at hl 0 rfl) ?_
  refine lv_iload_n hx9 hb9 dL_law_422 rfl (lv_at hl 3 rfl) ?_
  refine lv_iconst (v := 1) hx9 hb9 dL_law_423 (by decide) ?_
  refine lv_iadd hx9 hb9 dL_law_424 ?_
  refine l_sld C G (j := 4 * j + 1) (nI_add _ 1) (by omega) hL dL_law_425 ?_
  refine lv_aload_n hx9 hb9 dL_law_426 rfl (lv_at hl 0 rfl) ?_
  refine lv_iload_n hx9 hb9 dL_law_427 rfl (lv_at hl 3 rfl) ?_
  refine lv_iconst (v := 2) hx9 hb9 dL_law_428 (by decide) ?_
  refine lv_iadd hx9 hb9 dL_law_429 ?_
  refine l_sld C G (j := 4 * j + 2) (nI_add _ 2) (by omega) hL dL_law_430 ?_
  refine l_M_i C G (As := [.int (xs (4 * j + 1)), .int (xs (4 * j + 2))]) (rest := [.int r]) (c_X8_put l D cy hm (xs (4 * j + 1)) (xs (4 * j + 2)) M r M1 hM1) rfl v_L_59 (Nat.le_of_ble_eq_true rfl) (Nat.le_of_ble_eq_true rfl) rfl hl.1 rfl (Nat.le_of_ble_eq_true rfl) dL_law_431 hf (fun H locs G => ?_)
  refine lv_icmp_eq (tgt := 824) hx9 hb9 dL_law_434 (by decide) (fun c9 => ?_) (fun c9 => ?_)
  · exact K _ _ _ _ _ R1 G hl
  · exact absurd rfl c9
set_option maxRecDepth 100000 in
set_option maxHeartbeats 4000000 in
theorem lw_take {p : Program} {l : Launch} {e : Env} {s : State} {m : MethodId} {below : List Frame} {meth : Method} {c : Code} {H : Heap} {locs : List Loc} {cells slots : Nat} {Q : State → Prop} {b L j : Nat} {xs : Nat → Int32} {ls : Array Slot} {D : va_G} {cy : ClassId} {hx hm : Nat → Nat} {X M : GS} {Rel : Nat → GS → GS → Prop} (E : op_take Rel) (C : lC p s m meth c b L xs D cy hx hm) (hL : L ≤ 2048) (hj : 4 * j + 4 ≤ L) (R : Rel j X M) (G : lG D cy hx hm s X M H locs) (hl : lv_has ls 4 [(0, .ref b), (1, .ref (hx 0)), (2, .ref (hm 0)), (3, .int (nI (4 * j)))]) (hf : cells ≤ 600000 ∧ slots ≤ 7302250)
    (K : ∀ (X M : GS) (H : Heap) (locs : List Loc) (ls : Array Slot), Rel (j + 1) X M → lG D cy hx hm s X M H locs → lv_has ls 4 [(0, .ref b), (1, .ref (hx 0)), (2, .ref (hm 0)), (3, .int (nI (4 * j)))] → W p l e room_1 s m #[Value.ref b] below meth c H locs cells slots Q (F0 m 824 ls [])) : W p l e room_1 s m #[Value.ref b] below meth c H locs cells slots Q (F0 m 439 ls []) := by
  obtain ⟨hx9, hb9, -⟩ := id C
  obtain ⟨r, X1, M1, hX1, hM1, R1⟩ := E j X M (xs (4 * j + 1)) (by omega) R
  refine lv_aload_n hx9 hb9 dL_law_439 rfl (lv_at hl 1 rfl) ?_
  refine lv_aload_n hx9 hb9 dL_law_440 rfl (lv_at hl 0 rfl) ?_
  refine lv_iload_n hx9 hb9 dL_law_441 rfl (lv_at hl 3 rfl) ?_
  refine lv_iconst (v := 1) hx9 hb9 dL_law_442 (by decide) ?_
  refine lv_iadd hx9 hb9 dL_law_443 ?_
  refine l_sld C G (j := 4 * j + 1) (nI_add _ 1) (by omega) hL dL_law_444 ?_
  refine l_X_i C G (As := [.int (xs (4 * j + 1))]) (rest := []) (c_X7_take l D cy hx (xs (4 * j + 1)) X r X1 hX1) rfl v_L_60 (Nat.le_of_ble_eq_true rfl) (Nat.le_of_ble_eq_true rfl) rfl hl.1 rfl (Nat.le_of_ble_eq_true rfl) dL_law_445 hf (fun H locs G => ?_)
  refine lv_aload_n hx9 hb9 dL_law_448 rfl (lv_at hl 2 rfl) ?_
  refine lv_aload_n hx9 hb9 dL_law_449 rfl (lv_at hl 0 rfl) ?_
  refine lv_iload_n hx9 hb9 dL_law_450 rfl (lv_at hl 3 rfl) ?_
  refine lv_iconst (v := 1) hx9 hb9 dL_law_451 (by decide) ?_
  refine lv_iadd hx9 hb9 dL_law_452 ?_
  refine l_sld C G (j := 4 * j + 1) (nI_add _ 1) (by omega) hL dL_law_453 ?_
  refine l_M_i C G (As := [.int (xs (4 * j + 1))]) (rest := [.int r]) (c_X8_take l D cy hm (xs (4 * j + 1)) M r M1 hM1) rfl v_L_63 (Nat.le_of_ble_eq_true rfl) (Nat.le_of_ble_eq_true rfl) rfl hl.1 rfl (Nat.le_of_ble_eq_true rfl) dL_law_454 hf (fun H locs G => ?_)
  refine lv_icmp_eq (tgt := 824) hx9 hb9 dL_law_457 (by decide) (fun c9 => ?_) (fun c9 => ?_)
  · exact K _ _ _ _ _ R1 G hl
  · exact absurd rfl c9
set_option maxRecDepth 100000 in
set_option maxHeartbeats 4000000 in
theorem lw_move {p : Program} {l : Launch} {e : Env} {s : State} {m : MethodId} {below : List Frame} {meth : Method} {c : Code} {H : Heap} {locs : List Loc} {cells slots : Nat} {Q : State → Prop} {b L j : Nat} {xs : Nat → Int32} {ls : Array Slot} {D : va_G} {cy : ClassId} {hx hm : Nat → Nat} {X M : GS} {Rel : Nat → GS → GS → Prop} (E : op_move Rel) (C : lC p s m meth c b L xs D cy hx hm) (hL : L ≤ 2048) (hj : 4 * j + 4 ≤ L) (R : Rel j X M) (G : lG D cy hx hm s X M H locs) (hl : lv_has ls 4 [(0, .ref b), (1, .ref (hx 0)), (2, .ref (hm 0)), (3, .int (nI (4 * j)))]) (hf : cells ≤ 600000 ∧ slots ≤ 7302250)
    (K : ∀ (X M : GS) (H : Heap) (locs : List Loc) (ls : Array Slot), Rel (j + 1) X M → lG D cy hx hm s X M H locs → lv_has ls 4 [(0, .ref b), (1, .ref (hx 0)), (2, .ref (hm 0)), (3, .int (nI (4 * j)))] → W p l e room_1 s m #[Value.ref b] below meth c H locs cells slots Q (F0 m 824 ls [])) : W p l e room_1 s m #[Value.ref b] below meth c H locs cells slots Q (F0 m 462 ls []) := by
  obtain ⟨hx9, hb9, -⟩ := id C
  obtain ⟨r, X1, M1, hX1, hM1, R1⟩ := E j X M (xs (4 * j + 1)) (xs (4 * j + 2)) (xs (4 * j + 3)) (by omega) R
  refine lv_aload_n hx9 hb9 dL_law_462 rfl (lv_at hl 1 rfl) ?_
  refine lv_aload_n hx9 hb9 dL_law_463 rfl (lv_at hl 0 rfl) ?_
  refine lv_iload_n hx9 hb9 dL_law_464 rfl (lv_at hl 3 rfl) ?_
  refine lv_iconst (v := 1) hx9 hb9 dL_law_465 (by decide) ?_
  refine lv_iadd hx9 hb9 dL_law_466 ?_
  refine l_sld C G (j := 4 * j + 1) (nI_add _ 1) (by omega) hL dL_law_467 ?_
  refine lv_aload_n hx9 hb9 dL_law_468 rfl (lv_at hl 0 rfl) ?_
  refine lv_iload_n hx9 hb9 dL_law_469 rfl (lv_at hl 3 rfl) ?_
  refine lv_iconst (v := 2) hx9 hb9 dL_law_470 (by decide) ?_
  refine lv_iadd hx9 hb9 dL_law_471 ?_
  refine l_sld C G (j := 4 * j + 2) (nI_add _ 2) (by omega) hL dL_law_472 ?_
  refine lv_aload_n hx9 hb9 dL_law_473 rfl (lv_at hl 0 rfl) ?_
  refine lv_iload_n hx9 hb9 dL_law_474 rfl (lv_at hl 3 rfl) ?_
  refine lv_iconst (v := 3) hx9 hb9 dL_law_475 (by decide) ?_
  refine lv_iadd hx9 hb9 dL_law_476 ?_
  refine l_sld C G (j := 4 * j + 3) (nI_add _ 3) (by omega) hL dL_law_477 ?_
  refine l_X_i C G (As := [.int (xs (4 * j + 1)), .int (xs (4 * j + 2)), .int (xs (4 * j + 3))]) (rest := []) (c_X7_move l D cy hx (xs (4 * j + 1)) (xs (4 * j + 2)) (xs (4 * j + 3)) X r X1 hX1) rfl v_L_64 (Nat.le_of_ble_eq_true rfl) (Nat.le_of_ble_eq_true rfl) rfl hl.1 rfl (Nat.le_of_ble_eq_true rfl) dL_law_478 hf (fun H locs G => ?_)
  refine lv_aload_n hx9 hb9 dL_law_481 rfl (lv_at hl 2 rfl) ?_
  refine lv_aload_n hx9 hb9 dL_law_482 rfl (lv_at hl 0 rfl) ?_
  refine lv_iload_n hx9 hb9 dL_law_483 rfl (lv_at hl 3 rfl) ?_
  refine lv_iconst (v := 1) hx9 hb9 dL_law_484 (by decide) ?_
  refine lv_iadd hx9 hb9 dL_law_485 ?_
  refine l_sld C G (j := 4 * j + 1) (nI_add _ 1) (by omega) hL dL_law_486 ?_
  refine lv_aload_n hx9 hb9 dL_law_487 rfl (lv_at hl 0 rfl) ?_
  refine lv_iload_n hx9 hb9 dL_law_488 rfl (lv_at hl 3 rfl) ?_
  refine lv_iconst (v := 2) hx9 hb9 dL_law_489 (by decide) ?_
  refine lv_iadd hx9 hb9 dL_law_490 ?_
  refine l_sld C G (j := 4 * j + 2) (nI_add _ 2) (by omega) hL dL_law_491 ?_
  refine lv_aload_n hx9 hb9 dL_law_492 rfl (lv_at hl 0 rfl) ?_
  refine lv_iload_n hx9 hb9 dL_law_493 rfl (lv_at hl 3 rfl) ?_
  refine lv_iconst (v := 3) hx9 hb9 dL_law_494 (by decide) ?_
  refine lv_iadd hx9 hb9 dL_law_495 ?_
  refine l_sld C G (j := 4 * j + 3) (nI_add _ 3) (by omega) hL dL_law_496 ?_
  refine l_M_i C G (As := [.int (xs (4 * j + 1)), .int (xs (4 * j + 2)), .int (xs (4 * j + 3))]) (rest := [.int r]) (c_X8_move l D cy hm (xs (4 * j + 1)) (xs (4 * j + 2)) (xs (4 * j + 3)) M r M1 hM1) rfl v_L_68 (Nat.le_of_ble_eq_true rfl) (Nat.le_of_ble_eq_true rfl) rfl hl.1 rfl (Nat.le_of_ble_eq_true rfl) dL_law_497 hf (fun H locs G => ?_)
  refine lv_icmp_eq (tgt := 824) hx9 hb9 dL_law_500 (by decide) (fun c9 => ?_) (fun c9 => ?_)
  · exact K _ _ _ _ _ R1 G hl
  · exact absurd rfl c9
set_option maxRecDepth 100000 in
set_option maxHeartbeats 4000000 in
theorem lw_change {p : Program} {l : Launch} {e : Env} {s : State} {m : MethodId} {below : List Frame} {meth : Method} {c : Code} {H : Heap} {locs : List Loc} {cells slots : Nat} {Q : State → Prop} {b L j : Nat} {xs : Nat → Int32} {ls : Array Slot} {D : va_G} {cy : ClassId} {hx hm : Nat → Nat} {X M : GS} {Rel : Nat → GS → GS → Prop} (E : op_change Rel) (C : lC p s m meth c b L xs D cy hx hm) (hL : L ≤ 2048) (hj : 4 * j + 4 ≤ L) (R : Rel j X M) (G : lG D cy hx hm s X M H locs) (hl : lv_has ls 4 [(0, .ref b), (1, .ref (hx 0)), (2, .ref (hm 0)), (3, .int (nI (4 * j)))]) (hf : cells ≤ 600000 ∧ slots ≤ 7302250)
    (K : ∀ (X M : GS) (H : Heap) (locs : List Loc) (ls : Array Slot), Rel (j + 1) X M → lG D cy hx hm s X M H locs → lv_has ls 4 [(0, .ref b), (1, .ref (hx 0)), (2, .ref (hm 0)), (3, .int (nI (4 * j)))] → W p l e room_1 s m #[Value.ref b] below meth c H locs cells slots Q (F0 m 824 ls [])) : W p l e room_1 s m #[Value.ref b] below meth c H locs cells slots Q (F0 m 505 ls []) := by
  obtain ⟨hx9, hb9, -⟩ := id C
  obtain ⟨r, X1, M1, hX1, hM1, R1⟩ := E j X M (xs (4 * j + 1)) (xs (4 * j + 2)) (by omega) R
  refine lv_aload_n hx9 hb9 dL_law_505 rfl (lv_at hl 1 rfl) ?_
  refine lv_aload_n hx9 hb9 dL_law_506 rfl (lv_at hl 0 rfl) ?_
  refine lv_iload_n hx9 hb9 dL_law_507 rfl (lv_at hl 3 rfl) ?_
  refine lv_iconst (v := 1) hx9 hb9 dL_law_508 (by decide) ?_
  refine lv_iadd hx9 hb9 dL_law_509 ?_
  refine l_sld C G (j := 4 * j + 1) (nI_add _ 1) (by omega) hL dL_law_510 ?_
  refine lv_aload_n hx9 hb9 dL_law_511 rfl (lv_at hl 0 rfl) ?_
  refine lv_iload_n hx9 hb9 dL_law_512 rfl (lv_at hl 3 rfl) ?_
  refine lv_iconst (v := 2) hx9 hb9 dL_law_513 (by decide) ?_
  refine lv_iadd hx9 hb9 dL_law_514 ?_
  refine l_sld C G (j := 4 * j + 2) (nI_add _ 2) (by omega) hL dL_law_515 ?_
  refine l_X_i C G (As := [.int (xs (4 * j + 1)), .int (xs (4 * j + 2))]) (rest := []) (c_X7_change l D cy hx (xs (4 * j + 1)) (xs (4 * j + 2)) X r X1 hX1) rfl v_L_69 (Nat.le_of_ble_eq_true rfl) (Nat.le_of_ble_eq_true rfl) rfl hl.1 rfl (Nat.le_of_ble_eq_true rfl) dL_law_516 hf (fun H locs G => ?_)
  refine lv_aload_n hx9 hb9 dL_law_519 rfl (lv_at hl 2 rfl) ?_
  refine lv_aload_n hx9 hb9 dL_law_520 rfl (lv_at hl 0 rfl) ?_
  refine lv_iload_n hx9 hb9 dL_law_521 rfl (lv_at hl 3 rfl) ?_
  refine lv_iconst (v := 1) hx9 hb9 dL_law_522 (by decide) ?_
  refine lv_iadd hx9 hb9 dL_law_523 ?_
  refine l_sld C G (j := 4 * j + 1) (nI_add _ 1) (by omega) hL dL_law_524 ?_
  refine lv_aload_n hx9 hb9 dL_law_525 rfl (lv_at hl 0 rfl) ?_
  refine lv_iload_n hx9 hb9 dL_law_526 rfl (lv_at hl 3 rfl) ?_
  refine lv_iconst (v := 2) hx9 hb9 dL_law_527 (by decide) ?_
  refine lv_iadd hx9 hb9 dL_law_528 ?_
  refine l_sld C G (j := 4 * j + 2) (nI_add _ 2) (by omega) hL dL_law_529 ?_
  refine l_M_i C G (As := [.int (xs (4 * j + 1)), .int (xs (4 * j + 2))]) (rest := [.int r]) (c_X8_change l D cy hm (xs (4 * j + 1)) (xs (4 * j + 2)) M r M1 hM1) rfl v_L_72 (Nat.le_of_ble_eq_true rfl) (Nat.le_of_ble_eq_true rfl) rfl hl.1 rfl (Nat.le_of_ble_eq_true rfl) dL_law_530 hf (fun H locs G => ?_)
  refine lv_icmp_eq (tgt := 824) hx9 hb9 dL_law_533 (by decide) (fun c9 => ?_) (fun c9 => ?_)
  · exact K _ _ _ _ _ R1 G hl
  · exact absurd rfl c9
set_option maxRecDepth 100000 in
set_option maxHeartbeats 4000000 in
theorem lw_rules {p : Program} {l : Launch} {e : Env} {s : State} {m : MethodId} {below : List Frame} {meth : Method} {c : Code} {H : Heap} {locs : List Loc} {cells slots : Nat} {Q : State → Prop} {b L j : Nat} {xs : Nat → Int32} {ls : Array Slot} {D : va_G} {cy : ClassId} {hx hm : Nat → Nat} {X M : GS} {Rel : Nat → GS → GS → Prop} (E : op_rules Rel) (C : lC p s m meth c b L xs D cy hx hm) (hL : L ≤ 2048) (hj : 4 * j + 4 ≤ L) (R : Rel j X M) (G : lG D cy hx hm s X M H locs) (hl : lv_has ls 4 [(0, .ref b), (1, .ref (hx 0)), (2, .ref (hm 0)), (3, .int (nI (4 * j)))]) (hf : cells ≤ 600000 ∧ slots ≤ 7302250)
    (K : ∀ (X M : GS) (H : Heap) (locs : List Loc) (ls : Array Slot), Rel (j + 1) X M → lG D cy hx hm s X M H locs → lv_has ls 4 [(0, .ref b), (1, .ref (hx 0)), (2, .ref (hm 0)), (3, .int (nI (4 * j)))] → W p l e room_1 s m #[Value.ref b] below meth c H locs cells slots Q (F0 m 824 ls [])) : W p l e room_1 s m #[Value.ref b] below meth c H locs cells slots Q (F0 m 538 ls []) := by
  obtain ⟨hx9, hb9, -⟩ := id C
  obtain ⟨r, X1, M1, hX1, hM1, R1⟩ := E j X M (xs (4 * j + 1)) (by omega) R
  refine lv_aload_n hx9 hb9 dL_law_538 rfl (lv_at hl 1 rfl) ?_
  refine lv_aload_n hx9 hb9 dL_law_539 rfl (lv_at hl 0 rfl) ?_
  refine lv_iload_n hx9 hb9 dL_law_540 rfl (lv_at hl 3 rfl) ?_
  refine lv_iconst (v := 1) hx9 hb9 dL_law_541 (by decide) ?_
  refine lv_iadd hx9 hb9 dL_law_542 ?_
  refine l_sld C G (j := 4 * j + 1) (nI_add _ 1) (by omega) hL dL_law_543 ?_
  refine l_X_i C G (As := [.int (xs (4 * j + 1))]) (rest := []) (c_X7_rules l D cy hx (xs (4 * j + 1)) X r X1 hX1) rfl v_L_73 (Nat.le_of_ble_eq_true rfl) (Nat.le_of_ble_eq_true rfl) rfl hl.1 rfl (Nat.le_of_ble_eq_true rfl) dL_law_544 hf (fun H locs G => ?_)
  refine lv_aload_n hx9 hb9 dL_law_547 rfl (lv_at hl 2 rfl) ?_
  refine lv_aload_n hx9 hb9 dL_law_548 rfl (lv_at hl 0 rfl) ?_
  refine lv_iload_n hx9 hb9 dL_law_549 rfl (lv_at hl 3 rfl) ?_
  refine lv_iconst (v := 1) hx9 hb9 dL_law_550 (by decide) ?_
  refine lv_iadd hx9 hb9 dL_law_551 ?_
  refine l_sld C G (j := 4 * j + 1) (nI_add _ 1) (by omega) hL dL_law_552 ?_
  refine l_M_i C G (As := [.int (xs (4 * j + 1))]) (rest := [.int r]) (c_X8_rules l D cy hm (xs (4 * j + 1)) M r M1 hM1) rfl v_L_76 (Nat.le_of_ble_eq_true rfl) (Nat.le_of_ble_eq_true rfl) rfl hl.1 rfl (Nat.le_of_ble_eq_true rfl) dL_law_553 hf (fun H locs G => ?_)
  refine lv_icmp_eq (tgt := 824) hx9 hb9 dL_law_556 (by decide) (fun c9 => ?_) (fun c9 => ?_)
  · exact K _ _ _ _ _ R1 G hl
  · exact absurd rfl c9
set_option maxRecDepth 100000 in
set_option maxHeartbeats 4000000 in
theorem lw_scale {p : Program} {l : Launch} {e : Env} {s : State} {m : MethodId} {below : List Frame} {meth : Method} {c : Code} {H : Heap} {locs : List Loc} {cells slots : Nat} {Q : State → Prop} {b L j : Nat} {xs : Nat → Int32} {ls : Array Slot} {D : va_G} {cy : ClassId} {hx hm : Nat → Nat} {X M : GS} {Rel : Nat → GS → GS → Prop} (E : op_scale Rel) (C : lC p s m meth c b L xs D cy hx hm) (hL : L ≤ 2048) (hj : 4 * j + 4 ≤ L) (R : Rel j X M) (G : lG D cy hx hm s X M H locs) (hl : lv_has ls 4 [(0, .ref b), (1, .ref (hx 0)), (2, .ref (hm 0)), (3, .int (nI (4 * j)))]) (hf : cells ≤ 600000 ∧ slots ≤ 7302250)
    (K : ∀ (X M : GS) (H : Heap) (locs : List Loc) (ls : Array Slot), Rel (j + 1) X M → lG D cy hx hm s X M H locs → lv_has ls 4 [(0, .ref b), (1, .ref (hx 0)), (2, .ref (hm 0)), (3, .int (nI (4 * j)))] → W p l e room_1 s m #[Value.ref b] below meth c H locs cells slots Q (F0 m 824 ls [])) : W p l e room_1 s m #[Value.ref b] below meth c H locs cells slots Q (F0 m 561 ls []) := by
  obtain ⟨hx9, hb9, -⟩ := id C
  obtain ⟨r, X1, M1, hX1, hM1, R1⟩ := E j X M (xs (4 * j + 1)) (by omega) R
  refine lv_aload_n hx9 hb9 dL_law_561 rfl (lv_at hl 1 rfl) ?_
  refine lv_aload_n hx9 hb9 dL_law_562 rfl (lv_at hl 0 rfl) ?_
  refine lv_iload_n hx9 hb9 dL_law_563 rfl (lv_at hl 3 rfl) ?_
  refine lv_iconst (v := 1) hx9 hb9 dL_law_564 (by decide) ?_
  refine lv_iadd hx9 hb9 dL_law_565 ?_
  refine l_sld C G (j := 4 * j + 1) (nI_add _ 1) (by omega) hL dL_law_566 ?_
  refine l_X_i C G (As := [.int (xs (4 * j + 1))]) (rest := []) (c_X7_scale l D cy hx (xs (4 * j + 1)) X r X1 hX1) rfl v_L_77 (Nat.le_of_ble_eq_true rfl) (Nat.le_of_ble_eq_true rfl) rfl hl.1 rfl (Nat.le_of_ble_eq_true rfl) dL_law_567 hf (fun H locs G => ?_)
  refine lv_aload_n hx9 hb9 dL_law_570 rfl (lv_at hl 2 rfl) ?_
  refine lv_aload_n hx9 hb9 dL_law_571 rfl (lv_at hl 0 rfl) ?_
  refine lv_iload_n hx9 hb9 dL_law_572 rfl (lv_at hl 3 rfl) ?_
  refine lv_iconst (v := 1) hx9 hb9 dL_law_573 (by decide) ?_
  refine lv_iadd hx9 hb9 dL_law_574 ?_
  refine l_sld C G (j := 4 * j + 1) (nI_add _ 1) (by omega) hL dL_law_575 ?_
  refine l_M_i C G (As := [.int (xs (4 * j + 1))]) (rest := [.int r]) (c_X8_scale l D cy hm (xs (4 * j + 1)) M r M1 hM1) rfl v_L_80 (Nat.le_of_ble_eq_true rfl) (Nat.le_of_ble_eq_true rfl) rfl hl.1 rfl (Nat.le_of_ble_eq_true rfl) dL_law_576 hf (fun H locs G => ?_)
  refine lv_icmp_eq (tgt := 824) hx9 hb9 dL_law_579 (by decide) (fun c9 => ?_) (fun c9 => ?_)
  · exact K _ _ _ _ _ R1 G hl
  · exact absurd rfl c9
set_option maxRecDepth 100000 in
set_option maxHeartbeats 4000000 in
theorem lw_without {p : Program} {l : Launch} {e : Env} {s : State} {m : MethodId} {below : List Frame} {meth : Method} {c : Code} {H : Heap} {locs : List Loc} {cells slots : Nat} {Q : State → Prop} {b L j : Nat} {xs : Nat → Int32} {ls : Array Slot} {D : va_G} {cy : ClassId} {hx hm : Nat → Nat} {X M : GS} {Rel : Nat → GS → GS → Prop} (E : op_without Rel) (C : lC p s m meth c b L xs D cy hx hm) (hL : L ≤ 2048) (hj : 4 * j + 4 ≤ L) (R : Rel j X M) (G : lG D cy hx hm s X M H locs) (hl : lv_has ls 4 [(0, .ref b), (1, .ref (hx 0)), (2, .ref (hm 0)), (3, .int (nI (4 * j)))]) (hf : cells ≤ 600000 ∧ slots ≤ 7302250)
    (K : ∀ (X M : GS) (H : Heap) (locs : List Loc) (ls : Array Slot), Rel (j + 1) X M → lG D cy hx hm s X M H locs → lv_has ls 4 [(0, .ref b), (1, .ref (hx 0)), (2, .ref (hm 0)), (3, .int (nI (4 * j)))] → W p l e room_1 s m #[Value.ref b] below meth c H locs cells slots Q (F0 m 824 ls [])) : W p l e room_1 s m #[Value.ref b] below meth c H locs cells slots Q (F0 m 584 ls []) := by
  obtain ⟨hx9, hb9, -⟩ := id C
  obtain ⟨r, X1, M1, hX1, hM1, R1⟩ := E j X M (xs (4 * j + 1)) (by omega) R
  refine lv_aload_n hx9 hb9 dL_law_584 rfl (lv_at hl 1 rfl) ?_
  refine lv_aload_n hx9 hb9 dL_law_585 rfl (lv_at hl 0 rfl) ?_
  refine lv_iload_n hx9 hb9 dL_law_586 rfl (lv_at hl 3 rfl) ?_
  refine lv_iconst (v := 1) hx9 hb9 dL_law_587 (by decide) ?_
  refine lv_iadd hx9 hb9 dL_law_588 ?_
  refine l_sld C G (j := 4 * j + 1) (nI_add _ 1) (by omega) hL dL_law_589 ?_
  refine l_X_i C G (As := [.int (xs (4 * j + 1))]) (rest := []) (c_X7_without l D cy hx (xs (4 * j + 1)) X r X1 hX1) rfl v_L_81 (Nat.le_of_ble_eq_true rfl) (Nat.le_of_ble_eq_true rfl) rfl hl.1 rfl (Nat.le_of_ble_eq_true rfl) dL_law_590 hf (fun H locs G => ?_)
  refine lv_aload_n hx9 hb9 dL_law_593 rfl (lv_at hl 2 rfl) ?_
  refine lv_aload_n hx9 hb9 dL_law_594 rfl (lv_at hl 0 rfl) ?_
  refine lv_iload_n hx9 hb9 dL_law_595 rfl (lv_at hl 3 rfl) ?_
  refine lv_iconst (v := 1) hx9 hb9 dL_law_596 (by decide) ?_
  refine lv_iadd hx9 hb9 dL_law_597 ?_
  refine l_sld C G (j := 4 * j + 1) (nI_add _ 1) (by omega) hL dL_law_598 ?_
  refine l_M_i C G (As := [.int (xs (4 * j + 1))]) (rest := [.int r]) (c_X8_without l D cy hm (xs (4 * j + 1)) M r M1 hM1) rfl v_L_84 (Nat.le_of_ble_eq_true rfl) (Nat.le_of_ble_eq_true rfl) rfl hl.1 rfl (Nat.le_of_ble_eq_true rfl) dL_law_599 hf (fun H locs G => ?_)
  refine lv_icmp_eq (tgt := 824) hx9 hb9 dL_law_602 (by decide) (fun c9 => ?_) (fun c9 => ?_)
  · exact K _ _ _ _ _ R1 G hl
  · exact absurd rfl c9
set_option maxRecDepth 100000 in
set_option maxHeartbeats 4000000 in
theorem lw_calm {p : Program} {l : Launch} {e : Env} {s : State} {m : MethodId} {below : List Frame} {meth : Method} {c : Code} {H : Heap} {locs : List Loc} {cells slots : Nat} {Q : State → Prop} {b L j : Nat} {xs : Nat → Int32} {ls : Array Slot} {D : va_G} {cy : ClassId} {hx hm : Nat → Nat} {X M : GS} {Rel : Nat → GS → GS → Prop} (E : op_calm Rel) (C : lC p s m meth c b L xs D cy hx hm) (hL : L ≤ 2048) (hj : 4 * j + 4 ≤ L) (R : Rel j X M) (G : lG D cy hx hm s X M H locs) (hl : lv_has ls 4 [(0, .ref b), (1, .ref (hx 0)), (2, .ref (hm 0)), (3, .int (nI (4 * j)))]) (hf : cells ≤ 600000 ∧ slots ≤ 7302250)
    (K : ∀ (X M : GS) (H : Heap) (locs : List Loc) (ls : Array Slot), Rel (j + 1) X M → lG D cy hx hm s X M H locs → lv_has ls 4 [(0, .ref b), (1, .ref (hx 0)), (2, .ref (hm 0)), (3, .int (nI (4 * j)))] → W p l e room_1 s m #[Value.ref b] below meth c H locs cells slots Q (F0 m 824 ls [])) : W p l e room_1 s m #[Value.ref b] below meth c H locs cells slots Q (F0 m 607 ls []) := by
  obtain ⟨hx9, hb9, -⟩ := id C
  obtain ⟨r, X1, M1, hX1, hM1, R1⟩ := E j X M (by omega) R
  refine lv_aload_n hx9 hb9 dL_law_607 rfl (lv_at hl 1 rfl) ?_
  refine l_X_i C G (As := []) (rest := []) (c_X7_calm l D cy hx  X r X1 hX1) rfl v_L_85 (Nat.le_of_ble_eq_true rfl) (Nat.le_of_ble_eq_true rfl) rfl hl.1 rfl (Nat.le_of_ble_eq_true rfl) dL_law_608 hf (fun H locs G => ?_)
  refine lv_aload_n hx9 hb9 dL_law_611 rfl (lv_at hl 2 rfl) ?_
  refine l_M_i C G (As := []) (rest := [.int r]) (c_X8_calm l D cy hm  M r M1 hM1) rfl v_L_88 (Nat.le_of_ble_eq_true rfl) (Nat.le_of_ble_eq_true rfl) rfl hl.1 rfl (Nat.le_of_ble_eq_true rfl) dL_law_612 hf (fun H locs G => ?_)
  refine lv_icmp_eq (tgt := 824) hx9 hb9 dL_law_615 (by decide) (fun c9 => ?_) (fun c9 => ?_)
  · exact K _ _ _ _ _ R1 G hl
  · exact absurd rfl c9
set_option maxRecDepth 100000 in
set_option maxHeartbeats 4000000 in
theorem lw_idle {p : Program} {l : Launch} {e : Env} {s : State} {m : MethodId} {below : List Frame} {meth : Method} {c : Code} {H : Heap} {locs : List Loc} {cells slots : Nat} {Q : State → Prop} {b L j : Nat} {xs : Nat → Int32} {ls : Array Slot} {D : va_G} {cy : ClassId} {hx hm : Nat → Nat} {X M : GS} {Rel : Nat → GS → GS → Prop} (E : op_idle Rel) (C : lC p s m meth c b L xs D cy hx hm) (hL : L ≤ 2048) (hj : 4 * j + 4 ≤ L) (R : Rel j X M) (G : lG D cy hx hm s X M H locs) (hl : lv_has ls 4 [(0, .ref b), (1, .ref (hx 0)), (2, .ref (hm 0)), (3, .int (nI (4 * j)))]) (hf : cells ≤ 600000 ∧ slots ≤ 7302250)
    (K : ∀ (X M : GS) (H : Heap) (locs : List Loc) (ls : Array Slot), Rel (j + 1) X M → lG D cy hx hm s X M H locs → lv_has ls 4 [(0, .ref b), (1, .ref (hx 0)), (2, .ref (hm 0)), (3, .int (nI (4 * j)))] → W p l e room_1 s m #[Value.ref b] below meth c H locs cells slots Q (F0 m 824 ls [])) : W p l e room_1 s m #[Value.ref b] below meth c H locs cells slots Q (F0 m 620 ls []) := by
  obtain ⟨hx9, hb9, -⟩ := id C
  obtain ⟨r, X1, M1, hX1, hM1, R1⟩ := E j X M (by omega) R
  refine lv_aload_n hx9 hb9 dL_law_620 rfl (lv_at hl 1 rfl) ?_
  refine l_X_i C G (As := []) (rest := []) (c_X7_idle l D cy hx  X r X1 hX1) rfl v_L_89 (Nat.le_of_ble_eq_true rfl) (Nat.le_of_ble_eq_true rfl) rfl hl.1 rfl (Nat.le_of_ble_eq_true rfl) dL_law_621 hf (fun H locs G => ?_)
  refine lv_aload_n hx9 hb9 dL_law_624 rfl (lv_at hl 2 rfl) ?_
  refine l_M_i C G (As := []) (rest := [.int r]) (c_X8_idle l D cy hm  M r M1 hM1) rfl v_L_92 (Nat.le_of_ble_eq_true rfl) (Nat.le_of_ble_eq_true rfl) rfl hl.1 rfl (Nat.le_of_ble_eq_true rfl) dL_law_625 hf (fun H locs G => ?_)
  refine lv_icmp_eq (tgt := 824) hx9 hb9 dL_law_628 (by decide) (fun c9 => ?_) (fun c9 => ?_)
  · exact K _ _ _ _ _ R1 G hl
  · exact absurd rfl c9
set_option maxRecDepth 100000 in
set_option maxHeartbeats 4000000 in
theorem lw_free {p : Program} {l : Launch} {e : Env} {s : State} {m : MethodId} {below : List Frame} {meth : Method} {c : Code} {H : Heap} {locs : List Loc} {cells slots : Nat} {Q : State → Prop} {b L j : Nat} {xs : Nat → Int32} {ls : Array Slot} {D : va_G} {cy : ClassId} {hx hm : Nat → Nat} {X M : GS} {Rel : Nat → GS → GS → Prop} (E : op_free Rel) (C : lC p s m meth c b L xs D cy hx hm) (hL : L ≤ 2048) (hj : 4 * j + 4 ≤ L) (R : Rel j X M) (G : lG D cy hx hm s X M H locs) (hl : lv_has ls 4 [(0, .ref b), (1, .ref (hx 0)), (2, .ref (hm 0)), (3, .int (nI (4 * j)))]) (hf : cells ≤ 600000 ∧ slots ≤ 7302250)
    (K : ∀ (X M : GS) (H : Heap) (locs : List Loc) (ls : Array Slot), Rel (j + 1) X M → lG D cy hx hm s X M H locs → lv_has ls 4 [(0, .ref b), (1, .ref (hx 0)), (2, .ref (hm 0)), (3, .int (nI (4 * j)))] → W p l e room_1 s m #[Value.ref b] below meth c H locs cells slots Q (F0 m 824 ls [])) : W p l e room_1 s m #[Value.ref b] below meth c H locs cells slots Q (F0 m 633 ls []) := by
  obtain ⟨hx9, hb9, -⟩ := id C
  obtain ⟨r, X1, M1, hX1, hM1, R1⟩ := E j X M (by omega) R
  refine lv_aload_n hx9 hb9 dL_law_633 rfl (lv_at hl 1 rfl) ?_
  refine l_X_i C G (As := []) (rest := []) (c_X7_free l D cy hx  X r X1 hX1) rfl v_L_93 (Nat.le_of_ble_eq_true rfl) (Nat.le_of_ble_eq_true rfl) rfl hl.1 rfl (Nat.le_of_ble_eq_true rfl) dL_law_634 hf (fun H locs G => ?_)
  refine lv_aload_n hx9 hb9 dL_law_637 rfl (lv_at hl 2 rfl) ?_
  refine l_M_i C G (As := []) (rest := [.int r]) (c_X8_free l D cy hm  M r M1 hM1) rfl v_L_96 (Nat.le_of_ble_eq_true rfl) (Nat.le_of_ble_eq_true rfl) rfl hl.1 rfl (Nat.le_of_ble_eq_true rfl) dL_law_638 hf (fun H locs G => ?_)
  refine lv_icmp_eq (tgt := 824) hx9 hb9 dL_law_641 (by decide) (fun c9 => ?_) (fun c9 => ?_)
  · exact K _ _ _ _ _ R1 G hl
  · exact absurd rfl c9
set_option maxRecDepth 100000 in
set_option maxHeartbeats 4000000 in
theorem lw_see {p : Program} {l : Launch} {e : Env} {s : State} {m : MethodId} {below : List Frame} {meth : Method} {c : Code} {H : Heap} {locs : List Loc} {cells slots : Nat} {Q : State → Prop} {b L j : Nat} {xs : Nat → Int32} {ls : Array Slot} {D : va_G} {cy : ClassId} {hx hm : Nat → Nat} {X M : GS} {Rel : Nat → GS → GS → Prop} (E : op_see Rel) (C : lC p s m meth c b L xs D cy hx hm) (hL : L ≤ 2048) (hj : 4 * j + 4 ≤ L) (R : Rel j X M) (G : lG D cy hx hm s X M H locs) (hl : lv_has ls 4 [(0, .ref b), (1, .ref (hx 0)), (2, .ref (hm 0)), (3, .int (nI (4 * j)))]) (hf : cells ≤ 600000 ∧ slots ≤ 7302250)
    (K : ∀ (X M : GS) (H : Heap) (locs : List Loc) (ls : Array Slot), Rel (j + 1) X M → lG D cy hx hm s X M H locs → lv_has ls 4 [(0, .ref b), (1, .ref (hx 0)), (2, .ref (hm 0)), (3, .int (nI (4 * j)))] → W p l e room_1 s m #[Value.ref b] below meth c H locs cells slots Q (F0 m 824 ls [])) : W p l e room_1 s m #[Value.ref b] below meth c H locs cells slots Q (F0 m 646 ls []) := by
  obtain ⟨hx9, hb9, -⟩ := id C
  refine lv_aload_n hx9 hb9 dL_law_646 rfl (lv_at hl 1 rfl) ?_
  refine lv_aload_n hx9 hb9 dL_law_647 rfl (lv_at hl 0 rfl) ?_
  refine lv_iload_n hx9 hb9 dL_law_648 rfl (lv_at hl 3 rfl) ?_
  refine lv_iconst (v := 1) hx9 hb9 dL_law_649 (by decide) ?_
  refine lv_iadd hx9 hb9 dL_law_650 ?_
  refine l_sld C G (j := 4 * j + 1) (nI_add _ 1) (by omega) hL dL_law_651 ?_
  refine lv_aload_n hx9 hb9 dL_law_652 rfl (lv_at hl 0 rfl) ?_
  refine lv_iload_n hx9 hb9 dL_law_653 rfl (lv_at hl 3 rfl) ?_
  refine lv_iconst (v := 2) hx9 hb9 dL_law_654 (by decide) ?_
  refine lv_iadd hx9 hb9 dL_law_655 ?_
  refine l_sld C G (j := 4 * j + 2) (nI_add _ 2) (by omega) hL dL_law_656 ?_
  refine lv_aload_n hx9 hb9 dL_law_657 rfl (lv_at hl 0 rfl) ?_
  refine lv_iload_n hx9 hb9 dL_law_658 rfl (lv_at hl 3 rfl) ?_
  refine lv_iconst (v := 3) hx9 hb9 dL_law_659 (by decide) ?_
  refine lv_iadd hx9 hb9 dL_law_660 ?_
  refine l_sld C G (j := 4 * j + 3) (nI_add _ 3) (by omega) hL dL_law_661 ?_
  refine lv_if_eq (tgt := 669) hx9 hb9 dL_law_662 (by decide) (fun c8 => ?_) (fun c8 => ?_)
  · obtain ⟨r, X1, M1, hX1, hM1, R1⟩ := E j X M (xs (4 * j + 1)) (xs (4 * j + 2)) 0 (by omega) (by decide) R
    refine lv_iconst (v := 0) hx9 hb9 dL_law_669 (by decide) ?_
    refine l_X_i C G (As := [.int (xs (4 * j + 1)), .int (xs (4 * j + 2)), .int 0]) (rest := []) (c_X7_see l D cy hx (xs (4 * j + 1)) (xs (4 * j + 2)) 0 X r X1 hX1) rfl v_L_97 (Nat.le_of_ble_eq_true rfl) (Nat.le_of_ble_eq_true rfl) rfl hl.1 rfl (Nat.le_of_ble_eq_true rfl) dL_law_670 hf (fun H locs G => ?_)
    refine lv_aload_n hx9 hb9 dL_law_673 rfl (lv_at hl 2 rfl) ?_
    refine lv_aload_n hx9 hb9 dL_law_674 rfl (lv_at hl 0 rfl) ?_
    refine lv_iload_n hx9 hb9 dL_law_675 rfl (lv_at hl 3 rfl) ?_
    refine lv_iconst (v := 1) hx9 hb9 dL_law_676 (by decide) ?_
    refine lv_iadd hx9 hb9 dL_law_677 ?_
    refine l_sld C G (j := 4 * j + 1) (nI_add _ 1) (by omega) hL dL_law_678 ?_
    refine lv_aload_n hx9 hb9 dL_law_679 rfl (lv_at hl 0 rfl) ?_
    refine lv_iload_n hx9 hb9 dL_law_680 rfl (lv_at hl 3 rfl) ?_
    refine lv_iconst (v := 2) hx9 hb9 dL_law_681 (by decide) ?_
    refine lv_iadd hx9 hb9 dL_law_682 ?_
    refine l_sld C G (j := 4 * j + 2) (nI_add _ 2) (by omega) hL dL_law_683 ?_
    refine lv_aload_n hx9 hb9 dL_law_684 rfl (lv_at hl 0 rfl) ?_
    refine lv_iload_n hx9 hb9 dL_law_685 rfl (lv_at hl 3 rfl) ?_
    refine lv_iconst (v := 3) hx9 hb9 dL_law_686 (by decide) ?_
    refine lv_iadd hx9 hb9 dL_law_687 ?_
    refine l_sld C G (j := 4 * j + 3) (nI_add _ 3) (by omega) hL dL_law_688 ?_
    refine lv_if_eq (tgt := 696) hx9 hb9 dL_law_689 (by decide) (fun c7 => ?_) (fun c7 => ?_)
    · refine lv_iconst (v := 0) hx9 hb9 dL_law_696 (by decide) ?_
      refine l_M_i C G (As := [.int (xs (4 * j + 1)), .int (xs (4 * j + 2)), .int 0]) (rest := [.int r]) (c_X8_see l D cy hm (xs (4 * j + 1)) (xs (4 * j + 2)) 0 M r M1 hM1) rfl v_L_101 (Nat.le_of_ble_eq_true rfl) (Nat.le_of_ble_eq_true rfl) rfl hl.1 rfl (Nat.le_of_ble_eq_true rfl) dL_law_697 hf (fun H locs G => ?_)
      refine lv_icmp_eq (tgt := 824) hx9 hb9 dL_law_700 (by decide) (fun c9 => ?_) (fun c9 => ?_)
      · exact K _ _ _ _ _ R1 G hl
      · exact absurd rfl c9
    · exact absurd c8 c7
  · obtain ⟨r, X1, M1, hX1, hM1, R1⟩ := E j X M (xs (4 * j + 1)) (xs (4 * j + 2)) 1 (by omega) (by decide) R
    refine lv_iconst (v := 1) hx9 hb9 dL_law_665 (by decide) ?_
    refine lv_goto (tgt := 670) hx9 hb9 dL_law_666 (by decide) ?_
    refine l_X_i C G (As := [.int (xs (4 * j + 1)), .int (xs (4 * j + 2)), .int 1]) (rest := []) (c_X7_see l D cy hx (xs (4 * j + 1)) (xs (4 * j + 2)) 1 X r X1 hX1) rfl v_L_97 (Nat.le_of_ble_eq_true rfl) (Nat.le_of_ble_eq_true rfl) rfl hl.1 rfl (Nat.le_of_ble_eq_true rfl) dL_law_670 hf (fun H locs G => ?_)
    refine lv_aload_n hx9 hb9 dL_law_673 rfl (lv_at hl 2 rfl) ?_
    refine lv_aload_n hx9 hb9 dL_law_674 rfl (lv_at hl 0 rfl) ?_
    refine lv_iload_n hx9 hb9 dL_law_675 rfl (lv_at hl 3 rfl) ?_
    refine lv_iconst (v := 1) hx9 hb9 dL_law_676 (by decide) ?_
    refine lv_iadd hx9 hb9 dL_law_677 ?_
    refine l_sld C G (j := 4 * j + 1) (nI_add _ 1) (by omega) hL dL_law_678 ?_
    refine lv_aload_n hx9 hb9 dL_law_679 rfl (lv_at hl 0 rfl) ?_
    refine lv_iload_n hx9 hb9 dL_law_680 rfl (lv_at hl 3 rfl) ?_
    refine lv_iconst (v := 2) hx9 hb9 dL_law_681 (by decide) ?_
    refine lv_iadd hx9 hb9 dL_law_682 ?_
    refine l_sld C G (j := 4 * j + 2) (nI_add _ 2) (by omega) hL dL_law_683 ?_
    refine lv_aload_n hx9 hb9 dL_law_684 rfl (lv_at hl 0 rfl) ?_
    refine lv_iload_n hx9 hb9 dL_law_685 rfl (lv_at hl 3 rfl) ?_
    refine lv_iconst (v := 3) hx9 hb9 dL_law_686 (by decide) ?_
    refine lv_iadd hx9 hb9 dL_law_687 ?_
    refine l_sld C G (j := 4 * j + 3) (nI_add _ 3) (by omega) hL dL_law_688 ?_
    refine lv_if_eq (tgt := 696) hx9 hb9 dL_law_689 (by decide) (fun c7 => ?_) (fun c7 => ?_)
    · exact absurd c7 c8
    · refine lv_iconst (v := 1) hx9 hb9 dL_law_692 (by decide) ?_
      refine lv_goto (tgt := 697) hx9 hb9 dL_law_693 (by decide) ?_
      refine l_M_i C G (As := [.int (xs (4 * j + 1)), .int (xs (4 * j + 2)), .int 1]) (rest := [.int r]) (c_X8_see l D cy hm (xs (4 * j + 1)) (xs (4 * j + 2)) 1 M r M1 hM1) rfl v_L_101 (Nat.le_of_ble_eq_true rfl) (Nat.le_of_ble_eq_true rfl) rfl hl.1 rfl (Nat.le_of_ble_eq_true rfl) dL_law_697 hf (fun H locs G => ?_)
      refine lv_icmp_eq (tgt := 824) hx9 hb9 dL_law_700 (by decide) (fun c9 => ?_) (fun c9 => ?_)
      · exact K _ _ _ _ _ R1 G hl
      · exact absurd rfl c9
set_option maxRecDepth 100000 in
set_option maxHeartbeats 4000000 in
theorem lw_forget {p : Program} {l : Launch} {e : Env} {s : State} {m : MethodId} {below : List Frame} {meth : Method} {c : Code} {H : Heap} {locs : List Loc} {cells slots : Nat} {Q : State → Prop} {b L j : Nat} {xs : Nat → Int32} {ls : Array Slot} {D : va_G} {cy : ClassId} {hx hm : Nat → Nat} {X M : GS} {Rel : Nat → GS → GS → Prop} (E : op_forget Rel) (C : lC p s m meth c b L xs D cy hx hm) (hL : L ≤ 2048) (hj : 4 * j + 4 ≤ L) (R : Rel j X M) (G : lG D cy hx hm s X M H locs) (hl : lv_has ls 4 [(0, .ref b), (1, .ref (hx 0)), (2, .ref (hm 0)), (3, .int (nI (4 * j)))]) (hf : cells ≤ 600000 ∧ slots ≤ 7302250)
    (K : ∀ (X M : GS) (H : Heap) (locs : List Loc) (ls : Array Slot), Rel (j + 1) X M → lG D cy hx hm s X M H locs → lv_has ls 4 [(0, .ref b), (1, .ref (hx 0)), (2, .ref (hm 0)), (3, .int (nI (4 * j)))] → W p l e room_1 s m #[Value.ref b] below meth c H locs cells slots Q (F0 m 824 ls [])) : W p l e room_1 s m #[Value.ref b] below meth c H locs cells slots Q (F0 m 705 ls []) := by
  obtain ⟨hx9, hb9, -⟩ := id C
  obtain ⟨r, X1, M1, hX1, hM1, R1⟩ := E j X M (by omega) R
  refine lv_aload_n hx9 hb9 dL_law_705 rfl (lv_at hl 1 rfl) ?_
  refine l_X_i C G (As := []) (rest := []) (c_X7_forget l D cy hx  X r X1 hX1) rfl v_L_102 (Nat.le_of_ble_eq_true rfl) (Nat.le_of_ble_eq_true rfl) rfl hl.1 rfl (Nat.le_of_ble_eq_true rfl) dL_law_706 hf (fun H locs G => ?_)
  refine lv_aload_n hx9 hb9 dL_law_709 rfl (lv_at hl 2 rfl) ?_
  refine l_M_i C G (As := []) (rest := [.int r]) (c_X8_forget l D cy hm  M r M1 hM1) rfl v_L_105 (Nat.le_of_ble_eq_true rfl) (Nat.le_of_ble_eq_true rfl) rfl hl.1 rfl (Nat.le_of_ble_eq_true rfl) dL_law_710 hf (fun H locs G => ?_)
  refine lv_icmp_eq (tgt := 824) hx9 hb9 dL_law_713 (by decide) (fun c9 => ?_) (fun c9 => ?_)
  · exact K _ _ _ _ _ R1 G hl
  · exact absurd rfl c9
set_option maxRecDepth 100000 in
set_option maxHeartbeats 4000000 in
theorem lw_drawn {p : Program} {l : Launch} {e : Env} {s : State} {m : MethodId} {below : List Frame} {meth : Method} {c : Code} {H : Heap} {locs : List Loc} {cells slots : Nat} {Q : State → Prop} {b L j : Nat} {xs : Nat → Int32} {ls : Array Slot} {D : va_G} {cy : ClassId} {hx hm : Nat → Nat} {X M : GS} {Rel : Nat → GS → GS → Prop} (E : op_drawn Rel) (C : lC p s m meth c b L xs D cy hx hm) (hL : L ≤ 2048) (hj : 4 * j + 4 ≤ L) (R : Rel j X M) (G : lG D cy hx hm s X M H locs) (hl : lv_has ls 4 [(0, .ref b), (1, .ref (hx 0)), (2, .ref (hm 0)), (3, .int (nI (4 * j)))]) (hf : cells ≤ 600000 ∧ slots ≤ 7302250)
    (K : ∀ (X M : GS) (H : Heap) (locs : List Loc) (ls : Array Slot), Rel (j + 1) X M → lG D cy hx hm s X M H locs → lv_has ls 4 [(0, .ref b), (1, .ref (hx 0)), (2, .ref (hm 0)), (3, .int (nI (4 * j)))] → W p l e room_1 s m #[Value.ref b] below meth c H locs cells slots Q (F0 m 824 ls [])) : W p l e room_1 s m #[Value.ref b] below meth c H locs cells slots Q (F0 m 718 ls []) := by
  obtain ⟨hx9, hb9, -⟩ := id C
  obtain ⟨r, X1, M1, hX1, hM1, R1⟩ := E j X M (xs (4 * j + 1)) (xs (4 * j + 2)) (xs (4 * j + 3)) (by omega) R
  refine lv_aload_n hx9 hb9 dL_law_718 rfl (lv_at hl 1 rfl) ?_
  refine lv_aload_n hx9 hb9 dL_law_719 rfl (lv_at hl 0 rfl) ?_
  refine lv_iload_n hx9 hb9 dL_law_720 rfl (lv_at hl 3 rfl) ?_
  refine lv_iconst (v := 1) hx9 hb9 dL_law_721 (by decide) ?_
  refine lv_iadd hx9 hb9 dL_law_722 ?_
  refine l_sld C G (j := 4 * j + 1) (nI_add _ 1) (by omega) hL dL_law_723 ?_
  refine lv_aload_n hx9 hb9 dL_law_724 rfl (lv_at hl 0 rfl) ?_
  refine lv_iload_n hx9 hb9 dL_law_725 rfl (lv_at hl 3 rfl) ?_
  refine lv_iconst (v := 2) hx9 hb9 dL_law_726 (by decide) ?_
  refine lv_iadd hx9 hb9 dL_law_727 ?_
  refine l_sld C G (j := 4 * j + 2) (nI_add _ 2) (by omega) hL dL_law_728 ?_
  refine lv_aload_n hx9 hb9 dL_law_729 rfl (lv_at hl 0 rfl) ?_
  refine lv_iload_n hx9 hb9 dL_law_730 rfl (lv_at hl 3 rfl) ?_
  refine lv_iconst (v := 3) hx9 hb9 dL_law_731 (by decide) ?_
  refine lv_iadd hx9 hb9 dL_law_732 ?_
  refine l_sld C G (j := 4 * j + 3) (nI_add _ 3) (by omega) hL dL_law_733 ?_
  refine l_X_i C G (As := [.int (xs (4 * j + 1)), .int (xs (4 * j + 2)), .int (xs (4 * j + 3))]) (rest := []) (c_X7_drawn l D cy hx (xs (4 * j + 1)) (xs (4 * j + 2)) (xs (4 * j + 3)) X r X1 hX1) rfl v_L_106 (Nat.le_of_ble_eq_true rfl) (Nat.le_of_ble_eq_true rfl) rfl hl.1 rfl (Nat.le_of_ble_eq_true rfl) dL_law_734 hf (fun H locs G => ?_)
  refine lv_aload_n hx9 hb9 dL_law_737 rfl (lv_at hl 2 rfl) ?_
  refine lv_aload_n hx9 hb9 dL_law_738 rfl (lv_at hl 0 rfl) ?_
  refine lv_iload_n hx9 hb9 dL_law_739 rfl (lv_at hl 3 rfl) ?_
  refine lv_iconst (v := 1) hx9 hb9 dL_law_740 (by decide) ?_
  refine lv_iadd hx9 hb9 dL_law_741 ?_
  refine l_sld C G (j := 4 * j + 1) (nI_add _ 1) (by omega) hL dL_law_742 ?_
  refine lv_aload_n hx9 hb9 dL_law_743 rfl (lv_at hl 0 rfl) ?_
  refine lv_iload_n hx9 hb9 dL_law_744 rfl (lv_at hl 3 rfl) ?_
  refine lv_iconst (v := 2) hx9 hb9 dL_law_745 (by decide) ?_
  refine lv_iadd hx9 hb9 dL_law_746 ?_
  refine l_sld C G (j := 4 * j + 2) (nI_add _ 2) (by omega) hL dL_law_747 ?_
  refine lv_aload_n hx9 hb9 dL_law_748 rfl (lv_at hl 0 rfl) ?_
  refine lv_iload_n hx9 hb9 dL_law_749 rfl (lv_at hl 3 rfl) ?_
  refine lv_iconst (v := 3) hx9 hb9 dL_law_750 (by decide) ?_
  refine lv_iadd hx9 hb9 dL_law_751 ?_
  refine l_sld C G (j := 4 * j + 3) (nI_add _ 3) (by omega) hL dL_law_752 ?_
  refine l_M_i C G (As := [.int (xs (4 * j + 1)), .int (xs (4 * j + 2)), .int (xs (4 * j + 3))]) (rest := [.int r]) (c_X8_drawn l D cy hm (xs (4 * j + 1)) (xs (4 * j + 2)) (xs (4 * j + 3)) M r M1 hM1) rfl v_L_109 (Nat.le_of_ble_eq_true rfl) (Nat.le_of_ble_eq_true rfl) rfl hl.1 rfl (Nat.le_of_ble_eq_true rfl) dL_law_753 hf (fun H locs G => ?_)
  refine lv_icmp_eq (tgt := 824) hx9 hb9 dL_law_756 (by decide) (fun c9 => ?_) (fun c9 => ?_)
  · exact K _ _ _ _ _ R1 G hl
  · exact absurd rfl c9
set_option maxRecDepth 100000 in
set_option maxHeartbeats 4000000 in
theorem lw_image {p : Program} {l : Launch} {e : Env} {s : State} {m : MethodId} {below : List Frame} {meth : Method} {c : Code} {H : Heap} {locs : List Loc} {cells slots : Nat} {Q : State → Prop} {b L j : Nat} {xs : Nat → Int32} {ls : Array Slot} {D : va_G} {cy : ClassId} {hx hm : Nat → Nat} {X M : GS} {Rel : Nat → GS → GS → Prop} (E : op_image Rel) (C : lC p s m meth c b L xs D cy hx hm) (hL : L ≤ 2048) (hj : 4 * j + 4 ≤ L) (R : Rel j X M) (G : lG D cy hx hm s X M H locs) (hl : lv_has ls 4 [(0, .ref b), (1, .ref (hx 0)), (2, .ref (hm 0)), (3, .int (nI (4 * j)))]) (hf : cells ≤ 600000 ∧ slots ≤ 7302250)
    (K : ∀ (X M : GS) (H : Heap) (locs : List Loc) (ls : Array Slot), Rel (j + 1) X M → lG D cy hx hm s X M H locs → lv_has ls 4 [(0, .ref b), (1, .ref (hx 0)), (2, .ref (hm 0)), (3, .int (nI (4 * j)))] → W p l e room_1 s m #[Value.ref b] below meth c H locs cells slots Q (F0 m 824 ls [])) : W p l e room_1 s m #[Value.ref b] below meth c H locs cells slots Q (F0 m 761 ls []) := by
  obtain ⟨hx9, hb9, -⟩ := id C
  obtain ⟨r, X1, M1, hX1, hM1, R1⟩ := E j X M (by omega) R
  refine lv_aload_n hx9 hb9 dL_law_761 rfl (lv_at hl 1 rfl) ?_
  refine l_X_i C G (As := []) (rest := []) (c_X7_image l D cy hx  X r X1 hX1) rfl v_L_110 (Nat.le_of_ble_eq_true rfl) (Nat.le_of_ble_eq_true rfl) rfl hl.1 rfl (Nat.le_of_ble_eq_true rfl) dL_law_762 hf (fun H locs G => ?_)
  refine lv_aload_n hx9 hb9 dL_law_765 rfl (lv_at hl 2 rfl) ?_
  refine l_M_i C G (As := []) (rest := [.int r]) (c_X8_image l D cy hm  M r M1 hM1) rfl v_L_113 (Nat.le_of_ble_eq_true rfl) (Nat.le_of_ble_eq_true rfl) rfl hl.1 rfl (Nat.le_of_ble_eq_true rfl) dL_law_766 hf (fun H locs G => ?_)
  refine lv_icmp_eq (tgt := 824) hx9 hb9 dL_law_769 (by decide) (fun c9 => ?_) (fun c9 => ?_)
  · exact K _ _ _ _ _ R1 G hl
  · exact absurd rfl c9
set_option maxRecDepth 100000 in
set_option maxHeartbeats 4000000 in
theorem lw_restore {p : Program} {l : Launch} {e : Env} {s : State} {m : MethodId} {below : List Frame} {meth : Method} {c : Code} {H : Heap} {locs : List Loc} {cells slots : Nat} {Q : State → Prop} {b L j : Nat} {xs : Nat → Int32} {ls : Array Slot} {D : va_G} {cy : ClassId} {hx hm : Nat → Nat} {X M : GS} {Rel : Nat → GS → GS → Prop} (E : op_restore Rel) (C : lC p s m meth c b L xs D cy hx hm) (hL : L ≤ 2048) (hj : 4 * j + 4 ≤ L) (R : Rel j X M) (G : lG D cy hx hm s X M H locs) (hl : lv_has ls 4 [(0, .ref b), (1, .ref (hx 0)), (2, .ref (hm 0)), (3, .int (nI (4 * j)))]) (hf : cells ≤ 600000 ∧ slots ≤ 7302250)
    (K : ∀ (X M : GS) (H : Heap) (locs : List Loc) (ls : Array Slot), Rel (j + 1) X M → lG D cy hx hm s X M H locs → lv_has ls 4 [(0, .ref b), (1, .ref (hx 0)), (2, .ref (hm 0)), (3, .int (nI (4 * j)))] → W p l e room_1 s m #[Value.ref b] below meth c H locs cells slots Q (F0 m 824 ls [])) : W p l e room_1 s m #[Value.ref b] below meth c H locs cells slots Q (F0 m 774 ls []) := by
  obtain ⟨hx9, hb9, -⟩ := id C
  obtain ⟨r, X1, M1, hX1, hM1, R1⟩ := E j X M (by omega) R
  refine lv_aload_n hx9 hb9 dL_law_774 rfl (lv_at hl 1 rfl) ?_
  refine l_X_i C G (As := []) (rest := []) (c_X7_restore l D cy hx  X r X1 hX1) rfl v_L_114 (Nat.le_of_ble_eq_true rfl) (Nat.le_of_ble_eq_true rfl) rfl hl.1 rfl (Nat.le_of_ble_eq_true rfl) dL_law_775 hf (fun H locs G => ?_)
  refine lv_aload_n hx9 hb9 dL_law_778 rfl (lv_at hl 2 rfl) ?_
  refine l_M_i C G (As := []) (rest := [.int r]) (c_X8_restore l D cy hm  M r M1 hM1) rfl v_L_117 (Nat.le_of_ble_eq_true rfl) (Nat.le_of_ble_eq_true rfl) rfl hl.1 rfl (Nat.le_of_ble_eq_true rfl) dL_law_779 hf (fun H locs G => ?_)
  refine lv_icmp_eq (tgt := 824) hx9 hb9 dL_law_782 (by decide) (fun c9 => ?_) (fun c9 => ?_)
  · exact K _ _ _ _ _ R1 G hl
  · exact absurd rfl c9
set_option maxRecDepth 100000 in
set_option maxHeartbeats 4000000 in
theorem lw_count {p : Program} {l : Launch} {e : Env} {s : State} {m : MethodId} {below : List Frame} {meth : Method} {c : Code} {H : Heap} {locs : List Loc} {cells slots : Nat} {Q : State → Prop} {b L j : Nat} {xs : Nat → Int32} {ls : Array Slot} {D : va_G} {cy : ClassId} {hx hm : Nat → Nat} {X M : GS} {Rel : Nat → GS → GS → Prop} (E : op_count Rel) (C : lC p s m meth c b L xs D cy hx hm) (hL : L ≤ 2048) (hj : 4 * j + 4 ≤ L) (R : Rel j X M) (G : lG D cy hx hm s X M H locs) (hl : lv_has ls 4 [(0, .ref b), (1, .ref (hx 0)), (2, .ref (hm 0)), (3, .int (nI (4 * j)))]) (hf : cells ≤ 600000 ∧ slots ≤ 7302250)
    (K : ∀ (X M : GS) (H : Heap) (locs : List Loc) (ls : Array Slot), Rel (j + 1) X M → lG D cy hx hm s X M H locs → lv_has ls 4 [(0, .ref b), (1, .ref (hx 0)), (2, .ref (hm 0)), (3, .int (nI (4 * j)))] → W p l e room_1 s m #[Value.ref b] below meth c H locs cells slots Q (F0 m 824 ls [])) : W p l e room_1 s m #[Value.ref b] below meth c H locs cells slots Q (F0 m 787 ls []) := by
  obtain ⟨hx9, hb9, -⟩ := id C
  obtain ⟨r, M1, hX1, hM1, R1⟩ := E j X M (xs (4 * j + 1)) (by omega) R
  refine lv_aload_n hx9 hb9 dL_law_787 rfl (lv_at hl 1 rfl) ?_
  refine lv_aload_n hx9 hb9 dL_law_788 rfl (lv_at hl 0 rfl) ?_
  refine lv_iload_n hx9 hb9 dL_law_789 rfl (lv_at hl 3 rfl) ?_
  refine lv_iconst (v := 1) hx9 hb9 dL_law_790 (by decide) ?_
  refine lv_iadd hx9 hb9 dL_law_791 ?_
  refine l_sld C G (j := 4 * j + 1) (nI_add _ 1) (by omega) hL dL_law_792 ?_
  refine l_X_i C G (As := [.int (xs (4 * j + 1))]) (rest := []) (c_X7_count l D cy hx (xs (4 * j + 1)) X r  hX1) rfl v_L_118 (Nat.le_of_ble_eq_true rfl) (Nat.le_of_ble_eq_true rfl) rfl hl.1 rfl (Nat.le_of_ble_eq_true rfl) dL_law_793 hf (fun H locs G => ?_)
  refine lv_aload_n hx9 hb9 dL_law_796 rfl (lv_at hl 2 rfl) ?_
  refine lv_aload_n hx9 hb9 dL_law_797 rfl (lv_at hl 0 rfl) ?_
  refine lv_iload_n hx9 hb9 dL_law_798 rfl (lv_at hl 3 rfl) ?_
  refine lv_iconst (v := 1) hx9 hb9 dL_law_799 (by decide) ?_
  refine lv_iadd hx9 hb9 dL_law_800 ?_
  refine l_sld C G (j := 4 * j + 1) (nI_add _ 1) (by omega) hL dL_law_801 ?_
  refine l_M_i C G (As := [.int (xs (4 * j + 1))]) (rest := [.int r]) (c_X8_count l D cy hm (xs (4 * j + 1)) M r M1 hM1) rfl v_L_121 (Nat.le_of_ble_eq_true rfl) (Nat.le_of_ble_eq_true rfl) rfl hl.1 rfl (Nat.le_of_ble_eq_true rfl) dL_law_802 hf (fun H locs G => ?_)
  refine lv_icmp_eq (tgt := 824) hx9 hb9 dL_law_805 (by decide) (fun c9 => ?_) (fun c9 => ?_)
  · exact K _ _ _ _ _ R1 G hl
  · exact absurd rfl c9
set_option maxRecDepth 100000 in
set_option maxHeartbeats 4000000 in
theorem lw_digest {p : Program} {l : Launch} {e : Env} {s : State} {m : MethodId} {below : List Frame} {meth : Method} {c : Code} {H : Heap} {locs : List Loc} {cells slots : Nat} {Q : State → Prop} {b L j : Nat} {xs : Nat → Int32} {ls : Array Slot} {D : va_G} {cy : ClassId} {hx hm : Nat → Nat} {X M : GS} {Rel : Nat → GS → GS → Prop} (E : op_digest Rel) (C : lC p s m meth c b L xs D cy hx hm) (hL : L ≤ 2048) (hj : 4 * j + 4 ≤ L) (R : Rel j X M) (G : lG D cy hx hm s X M H locs) (hl : lv_has ls 4 [(0, .ref b), (1, .ref (hx 0)), (2, .ref (hm 0)), (3, .int (nI (4 * j)))]) (hf : cells ≤ 600000 ∧ slots ≤ 7302250)
    (K : ∀ (X M : GS) (H : Heap) (locs : List Loc) (ls : Array Slot), Rel (j + 1) X M → lG D cy hx hm s X M H locs → lv_has ls 4 [(0, .ref b), (1, .ref (hx 0)), (2, .ref (hm 0)), (3, .int (nI (4 * j)))] → W p l e room_1 s m #[Value.ref b] below meth c H locs cells slots Q (F0 m 824 ls [])) : W p l e room_1 s m #[Value.ref b] below meth c H locs cells slots Q (F0 m 810 ls []) := by
  obtain ⟨hx9, hb9, -⟩ := id C
  obtain ⟨r, X1, M1, hX1, hM1, R1⟩ := E j X M (by omega) R
  refine lv_aload_n hx9 hb9 dL_law_810 rfl (lv_at hl 1 rfl) ?_
  refine l_X_l C G (As := []) (rest := []) (c_X7_digest l D cy hx  X r X1 hX1) rfl v_L_122 (Nat.le_of_ble_eq_true rfl) (Nat.le_of_ble_eq_true rfl) rfl hl.1 rfl (Nat.le_of_ble_eq_true rfl) dL_law_811 hf (fun H locs G => ?_)
  refine lv_aload_n hx9 hb9 dL_law_814 rfl (lv_at hl 2 rfl) ?_
  refine l_M_l C G (As := []) (rest := [.long r]) (c_X8_digest l D cy hm  M r M1 hM1) rfl v_L_126 (Nat.le_of_ble_eq_true rfl) (Nat.le_of_ble_eq_true rfl) rfl hl.1 rfl (Nat.le_of_ble_eq_true rfl) dL_law_815 hf (fun H locs G => ?_)
  refine W.lcmp hx9 hb9 dL_law_818 ?_
  refine lv_if_eq (tgt := 824) hx9 hb9 dL_law_819 (by decide) (fun c9 => ?_) (fun c9 => ?_)
  · exact K _ _ _ _ _ R1 G hl
  · exact absurd (by simp [lg_cmp]) c9
