theorem klx_init : Cond.methodLink "LaneOrderLaw" 9 yX7_init ∈ tb := tb1 20 (by decide +kernel) rfl
theorem klm_init : Cond.methodLink "LaneOrderLaw" 12 yX8_init ∈ tb := tb4 20 (by decide +kernel) rfl
theorem gW_h {S : Shape} {cy : ClassId} {h u : Nat → Nat} {st : GS} (hh : ∀ k, k < S.1 → h k = u k) (hr : ∀ k j f, S.2.2.2 k j = f + 2 → f < S.1) : gW S cy h st = gW S cy u st := by
  unfold gW
  apply List.map_congr_left
  intro k hk
  have hk' := List.mem_range.mp hk
  have e : ∀ j, gV h st (S.2.2.2 k j) k j = gV u st (S.2.2.2 k j) k j := by
    intro j
    match hf : S.2.2.2 k j with
    | 0 => rfl
    | 1 => rfl
    | f + 2 => show Value.ref (h f) = .ref (u f); rw [hh f (hr k j f hf)]
  have e2 : gE S cy h st k = gE S cy u st k := by
    unfold gE
    simp only [e]
  rw [hh k hk', e2]
theorem getD_lt {l : List Nat} {j B : Nat} (h : ∀ x ∈ l, x < B) (h0 : 0 < B) : l.getD j 0 < B := by
  rw [List.getD_eq_getElem?_getD]
  cases hx : l[j]? with
  | none => exact h0
  | some x => exact h x (List.mem_of_getElem? hx)
theorem getD_in {l : List (List Nat)} {k B : Nat} (h : ∀ r ∈ l, ∀ x ∈ r, x < B) : ∀ x ∈ l.getD k [], x < B := by
  rw [List.getD_eq_getElem?_getD]
  cases hx : l[k]? with
  | none => intro x hx; cases hx
  | some r => exact h r (List.mem_of_getElem? hx)
theorem XSh_ref : ∀ k j f, XSh.2.2.2 k j = f + 2 → f < XSh.1 := by
  intro k j f hf
  have h1 : (flX.getD k []).getD j 0 < 69 := getD_lt (getD_in (by decide)) (by decide)
  have h2 : (flX.getD k []).getD j 0 = f + 2 := hf
  show f < 67
  omega
theorem MSh_ref : ∀ k j f, MSh.2.2.2 k j = f + 2 → f < MSh.1 := by
  intro k j f hf
  have h1 : (flM.getD k []).getD j 0 < 23 := getD_lt (getD_in (by decide)) (by decide)
  have h2 : (flM.getD k []).getD j 0 = f + 2 := hf
  show f < 21
  omega
/-- a public constructor, on the last cell, from the law -/
theorem l_init {p : Program} {l : Launch} {e : Env} {s : State} {m : MethodId} {args : Array Value} {below : List Frame} {meth : Method} {c : Code} {H : Heap} {locs : List Loc} {cells slots : Nat} {Q : State → Prop} {cc bytes : ByteArray} {pc nL idx lev mc ms : Nat} {ls : Array Slot} {rest : List Value} {D : va_G} {A : Nat → Prop} {own : String} {cy : ClassId} {y : MethodName} {R : Room}
    (hx : p.tables.exec = Jvm.exec) (hb : c.code = cc) (hml : c.maxLocals = nL) (hown : s.vm.findClass own = some m.cls) (hts : ∀ w ∈ tb, w.before args s = true) (hK : va_K D vwCl [(cy, .int)] s) (hA : ∀ q, s.heap.size ≤ q → A q) (hN : ∀ w ∈ nw, va_Nw w s) {wr : va_W} {q : Nat} {e0 : va_E} (G : nG D A s (wr ++ [(q, e0)]) H locs) {S : Shape} {st : GS} (hM : nM l S D cy y bytes lev mc ms q e0 st) (hlink : Cond.methodLink own idx y ∈ tb) (hcode : Cond.code y bytes 1 none ∈ tb) (hinst : Cond.instanceMethod y ∈ tb) (hini : Cond.initialized y.cls ∈ tb) (hy : y.name = "<init>") (hd : y.cls ≠ "java/lang/invoke/MethodHandle" ∧ y.cls ≠ "java/lang/invoke/VarHandle" ∧ (parseMethodDescriptor y.desc).map (fun d => d.parameters.length) = some 0)
    (hF : 2 * lev + 1 ≤ R.frames) (hL : 8 + (1 + 11) + 64 * lev ≤ R.locals) (hsz : ls.size = nL) (hW : (rest.map fun v => v.category).sum ≤ 8) (hdg : decode cc pc = .ok (.invokespecial idx, 3)) (hf : cells + mc ≤ R.cells ∧ slots + ms ≤ R.slots)
    (kk : ∀ (u : Nat → Nat) H locs, u 0 = q → nG D A s (wr ++ gW S cy u st) H locs → W p l e R s m args below meth c H locs (cells + mc) (slots + ms) Q (F0 m (pc + 3) ls rest)) : W p l e R s m args below meth c H locs cells slots Q (F0 m pc ls (.ref q :: rest)) := by
  obtain ⟨hP, hD, hS⟩ := G
  have hat : (wr ++ [(q, e0)])[wr.length]? = some (q, e0) := by simp
  have hPc : va_P D vwCl [(q, e0)] H := fun k x hx => by
    have hk : k = 0 := by
      have := (List.getElem?_eq_some_iff.mp hx).1
      simp at this; exact this
    subst hk
    cases hx
    exact hP _ _ hat
  have hDc : va_D (fun _ => True) [(q, e0)] := ⟨fun i j x y hi hj _ => by
    have h1 := (List.getElem?_eq_some_iff.mp hi).1
    have h2 := (List.getElem?_eq_some_iff.mp hj).1
    simp at h1 h2
    omega, fun _ _ _ => trivial⟩
  have hFc := va_free (wc := [(q, e0)]) hD hS hA [wr.length] (by simp)
  have cw := cwI (R := R) (args := args) (bytes := bytes) (maxL := 1) (rm := nR lev mc ms) (Ts := tb) (ws := Cond.code y bytes 1 none :: tb) (ws' := tb) 0 hts (tb_good (fun _ h => h) (fun w hw => tb_code (ws := []) hcode hw)) rfl rfl rfl (hts _ hini) (hts _ hlink) (hts _ hinst) hy hd ⟨hF, hL⟩
  refine va_callv (va_runI (n := 0) (As := []) (rest := rest) ⟨hx, hb, hml, hown, hts⟩ (hM H.size) cw ⟨nPc_blind, fun U hU hW => ⟨rfl, by rw [hU], by rw [hU]; exact hPc, va_K.moved hW.alike hK, hDc, fun w hw => nw_warm (List.mem_filter.mp hw).2 hW (hN w hw)⟩⟩ rfl rfl hsz rfl (lv_room hW) hdg hf) hS (fun q _ h => hFc q h) hFc (fun u t H1 locs1 ht hvm hw hB hz1 hk1 hS => ?_)
  obtain ⟨hP1, hD1⟩ := hB
  rw [ht] at hP1
  obtain ⟨hP2, hD2⟩ := joinLast hP hD hk1 hFc hP1 hD1
  exact kk u H1 locs1 hw ⟨hP2, hD2, hS⟩
/-- what the Statement gives of the start -/
theorem start_N {s : State} {args : Array Value} (hts : ∀ w ∈ lw_tbl, w.before args s = true) (hgv : (Jvm.Cond.and given_1 narrow_1).before args s = true) : ∃ k v t1 t2 : Nat, ∀ h : Nat → Nat, h 1000 = k → h 1001 = v → h 1002 = t1 → h 1003 = t2 → gN h (fun q => s.heap.size ≤ q) s := by
  have hs := flat_of_before _ hgv
  have hA : ∀ a : Nat, a < s.heap.size → ¬ s.heap.size ≤ a := fun a h => Nat.not_le.mpr h
  have hin : ∀ w, w ∈ tables_1 → w.before args s = true := fun w hw => hts w (List.mem_append_right _ hw)
  obtain ⟨t1, e1, T1⟩ := va_Tof (args := args) (s := s) (tm := .static "LaneOrder" "STEPS_RIGHT" "[I") (ty := .int) (N := 4) (f := fun j => .int (stR j)) (A := fun q => s.heap.size ≤ q) (by decide) (hs _ (by decide +kernel)) (va_eqt (hs _ (by decide +kernel))) (fun j hj => by
    match j, hj with
    | 0, _ => exact va_eqt (hs _ (by decide +kernel))
    | 1, _ => exact va_eqt (hs _ (by decide +kernel))
    | 2, _ => exact va_eqt (hs _ (by decide +kernel))
    | 3, _ => exact va_eqt (hs _ (by decide +kernel))) hA
  obtain ⟨t2, e2, T2⟩ := va_Tof (args := args) (s := s) (tm := .static "LaneOrder" "STEPS_DOWN" "[I") (ty := .int) (N := 4) (f := fun j => .int (stD j)) (A := fun q => s.heap.size ≤ q) (by decide) (hs _ (by decide +kernel)) (va_eqt (hs _ (by decide +kernel))) (fun j hj => by
    match j, hj with
    | 0, _ => exact va_eqt (hs _ (by decide +kernel))
    | 1, _ => exact va_eqt (hs _ (by decide +kernel))
    | 2, _ => exact va_eqt (hs _ (by decide +kernel))
    | 3, _ => exact va_eqt (hs _ (by decide +kernel))) hA
  obtain ⟨adK, adV, hSt, heK⟩ := vk_Sof (args := args) (s := s) (N := 1) (tm := fun _ => .string "LaneOrder$Text" 60) (len := [5]) (byt := [[98, 116, 110, 102, 99]]) (A := fun q => s.heap.size ≤ q) (fun i hi => by
    match i, hi with
    | 0, _ => decide) (fun i _ => hs _ (by decide +kernel)) (fun i _ => hs _ (by decide +kernel)) (fun i _ => hs _ (by decide +kernel)) (fun i hi => by
    match i, hi with
    | 0, _ => exact hs _ (by decide +kernel)) (fun i hi j hj => by
    match i, hi with
    | 0, _ =>
      match j, hj with
      | 0, _ => exact hs _ (by decide +kernel)
      | 1, _ => exact hs _ (by decide +kernel)
      | 2, _ => exact hs _ (by decide +kernel)
      | 3, _ => exact hs _ (by decide +kernel)
      | 4, _ => exact hs _ (by decide +kernel)) (fun i j hi hj h => absurd (by omega) h) hA
  refine ⟨adK 0, adV 0, t1, t2, fun h h0 h1 h2 h3 => ?_⟩
  refine ⟨fun w hw => va_Nw.of (isNest_tab (List.mem_filter.mp hw).2) (hts w (List.mem_filter.mp hw).1), ⟨?_, ?_⟩, ⟨?_, ?_⟩, ⟨?_, ?_⟩, ?_⟩
  · rw [h2]; exact va_Zof (hin _ (by unfold tables_1; exact List.mem_append_right _ (List.mem_append_right _ (List.mem_append_left _ (List.mem_of_getElem? (i := 167) (by decide +kernel)))))) (hin _ (by unfold tables_1; exact List.mem_append_left _ (List.mem_of_getElem? (i := 1) (by decide +kernel)))) e1 hA
  · rw [h2]; exact T1
  · rw [h3]; exact va_Zof (hin _ (by unfold tables_1; exact List.mem_append_right _ (List.mem_append_right _ (List.mem_append_left _ (List.mem_of_getElem? (i := 170) (by decide +kernel)))))) (hin _ (by unfold tables_1; exact List.mem_append_left _ (List.mem_of_getElem? (i := 1) (by decide +kernel)))) e2 hA
  · rw [h3]; exact T2
  · rw [h0]
    have hR : vk_R "LaneOrder$Text" 60 "btnfc" (adK 0) s := by
      refine vk_R.same (u := s) rfl ⟨?_, ?_⟩
      · exact (hin (Cond.stringRef "LaneOrder$Text" 60 "btnfc") (by unfold tables_1; exact List.mem_append_right _ (List.mem_append_left _ (List.mem_of_getElem? (i := 50) (by decide +kernel)))))
      · exact heK 0 (by decide)
    exact hR
  · rw [h0, h1]
    refine ⟨fun i hi => ?_, fun i j hi hj _ => by omega⟩
    have hz : i = 0 := by omega
    subst hz
    exact hSt.1 0 (by decide)
  · exact va_Zof (hin _ (by unfold tables_1; exact List.mem_append_right _ (List.mem_append_left _ (List.mem_of_getElem? (i := 64) (by decide +kernel))))) (hin _ (by unfold tables_1; exact List.mem_append_left _ (List.mem_of_getElem? (i := 10) (by decide +kernel)))) (va_eqi (hs _ (by decide +kernel))) hA
theorem start_K {s : State} {args : Array Value} (hts : ∀ w ∈ tb, w.before args s = true) : ∃ (D : va_G) (cy : ClassId), va_K D vwCl [(cy, .int)] s := by
  obtain ⟨c0, i0, h0⟩ := u_known (C := RX0) (T := TX0) (N := 6) (n := 6) hts in0 (hts _ kin_0)
  obtain ⟨c1, i1, h1⟩ := u_known (C := RX1) (T := TX1) (N := 1) (n := 1) hts in1 (hts _ kin_1)
  obtain ⟨c2, i2, h2⟩ := u_known (C := RX2) (T := TX2) (N := 4) (n := 4) hts in2 (hts _ kin_2)
  obtain ⟨c3, i3, h3⟩ := u_known (C := RX3) (T := TX3) (N := 13) (n := 13) hts in3 (hts _ kin_3)
  obtain ⟨c4, i4, h4⟩ := u_known (C := RX4) (T := TX4) (N := 3) (n := 3) hts in4 (hts _ kin_4)
  obtain ⟨c5, i5, h5⟩ := u_known (C := RX5) (T := TX5) (N := 8) (n := 8) hts in5 (hts _ kin_5)
  obtain ⟨c6, i6, h6⟩ := u_known (C := RX6) (T := TX6) (N := 2) (n := 2) hts in6 (hts _ kin_6)
  obtain ⟨c7, i7, h7⟩ := u_known (C := RX7) (T := TX7) (N := 9) (n := 9) hts in7 (hts _ kin_7)
  obtain ⟨c8, i8, h8⟩ := u_known (C := RX8) (T := TX8) (N := 40) (n := 40) hts in8 (hts _ kin_8)
  obtain ⟨cy, kA, comp, g1, g2, g3⟩ := Cond.arrayClass_spec (hts _ arrI)
  refine ⟨(fun k => match k with | 0 => c0 | 1 => c1 | 2 => c2 | 3 => c3 | 4 => c4 | 5 => c5 | 6 => c6 | 7 => c7 | _ => c8, fun k => match k with | 0 => i0 | 1 => i1 | 2 => i2 | 3 => i3 | 4 => i4 | 5 => i5 | 6 => i6 | 7 => i7 | _ => i8), cy, fun k q hq => ?_, fun k q hq => ?_⟩
  · match k, hq with
    | 0, hq => cases hq; exact h0
    | 1, hq => cases hq; exact h1
    | 2, hq => cases hq; exact h2
    | 3, hq => cases hq; exact h3
    | 4, hq => cases hq; exact h4
    | 5, hq => cases hq; exact h5
    | 6, hq => cases hq; exact h6
    | 7, hq => cases hq; exact h7
    | 8, hq => cases hq; exact h8
    | k + 9, hq => simp [vwCl] at hq
  · match k, hq with
    | 0, hq => cases hq; exact ⟨fun n z => ⟨fun k h => (by cases h), kA, g2, comp, g3⟩, g1⟩
    | k + 1, hq => simp at hq
def hOver (u : Nat → Nat) (n k v t1 t2 : Nat) : Nat → Nat := fun i => if i < n then u i else if i = 1000 then k else if i = 1001 then v else if i = 1002 then t1 else t2
set_option maxRecDepth 100000 in
set_option maxHeartbeats 4000000 in
theorem whole_open {Rel : Nat → GS → GS → Prop} (E : opsOK Rel) (Edef : ∀ c X M, Rel c X M → Rel (c + 1) X M) (R0 : Rel 0 z0 (sv z0 0 31 (-1))) {p : Program} {e : Env} {s : State} {m : MethodId} {below : List Frame} {meth : Method} {c : Code} (l : Launch) {b L : Nat} {xs : Nat → Int32} (hL : L ≤ 2048) (C0 : lw_At p s m meth c b L xs) : W p l e room_1 s m #[Value.ref b] below meth c s.heap [] 0 0 (lw_Z below #[Value.ref b] s) (entryFrame m ([Value.ref b] : List Value).toArray 4) := by
  obtain ⟨hx, hb, hr, hml, hown, hts, hX, hbl, hlocks, hgv⟩ := id C0
  have htb := tb_all hts
  have hA : ∀ q : Nat, s.heap.size ≤ q → (fun q : Nat => s.heap.size ≤ q) q := fun _ h => h
  obtain ⟨D, cy, hK⟩ := start_K htb
  obtain ⟨k, v, t1, t2, hN⟩ := start_N hts hgv
  have hNw := (hN (hOver (fun _ => 0) 0 k v t1 t2) rfl rfl rfl rfl).1
  have hl := lv_entry ([.ref b]) (n := 4) (Nat.le_of_ble_eq_true rfl)
  rw [lg_entry_eq]
  generalize (lg_sl ([.ref b]) ++ List.replicate (4 - (lg_sl ([.ref b])).length) Slot.unset).toArray = ls at hl ⊢
  have hl : lv_has ls 4 [(0, .ref b)] := hl
  have G : nG D (fun q : Nat => s.heap.size ≤ q) s [] s.heap [] := ⟨fun k q h => by simp at h, ⟨fun i j p q h => by simp at h, fun k q h => by simp at h⟩, va_S.rf⟩
  obtain ⟨k1, k2, k3, k4, k5, k6⟩ := cl7
  refine va_new (ci := 7) (fs := [.null, .null, .null, .null, .null, .int 0, .int 0, .null, .null]) hx hb htb k4 tyX7 k5 hown (htb _ kcl_1_18) (htb _ kin_7) (htb _ ini_LaneOrder) hK G.1 G.2.1 G.2.2 hA k1 (fun j hj => by revert hj; revert j; decide) (by decide) (by decide) dL_law_0 (fun qx H hP hD hS => ?_)
  have G : nG D (fun q : Nat => s.heap.size ≤ q) s ([] ++ [(qx, .inr (7, [.null, .null, .null, .null, .null, .int 0, .int 0, .null, .null]))]) H [] := ⟨hP, hD, hS⟩
  refine lv_dup hx hb dL_law_3 rfl ?_
  refine l_init (R := room_1) hx hb hml hown htb hK hA hNw G (i_X7 l D cy qx) klx_init kc_X7_init ki_X7_init ini_LaneOrder rfl kd_X7_init (by decide) (by decide) hl.1 (Nat.le_of_ble_eq_true rfl) dL_law_4 ⟨by decide, by decide⟩ (fun u1 H locs hu1 G => ?_)
  rw [← hu1]
  refine lv_astore_n (lv' := [(1, .ref (u1 0)), (0, .ref b)]) hx hb dL_law_7 rfl hl (by decide) rfl (fun ls hl => ?_)
  obtain ⟨k1, k2, k3, k4, k5, k6⟩ := cl8
  refine va_new (ci := 8) (fs := [.null, .int 0, .int 0, .int 0, .int 0, .int 0, .int 0, .null, .null, .null, .int 0, .null, .int 0, .int 0, .int 0, .null, .int 0, .null, .int 0, .int 0, .null, .null, .null, .null, .null, .null, .int 0, .null, .int 0, .null, .null, .int 0, .int 0, .int 0, .int 0, .null, .null, .null, .null, .long 0]) hx hb htb k4 tyX8 k5 hown (htb _ kcl_4_18) (htb _ kin_8) (htb _ ini_LaneOrderModel) hK G.1 G.2.1 G.2.2 hA k1 (fun j hj => by revert hj; revert j; decide) (by decide) (by decide) dL_law_8 (fun qm H hP hD hS => ?_)
  have G : nG D (fun q : Nat => s.heap.size ≤ q) s (([] ++ gW XSh cy u1 z0) ++ [(qm, .inr (8, [.null, .int 0, .int 0, .int 0, .int 0, .int 0, .int 0, .null, .null, .null, .int 0, .null, .int 0, .int 0, .int 0, .null, .int 0, .null, .int 0, .int 0, .null, .null, .null, .null, .null, .null, .int 0, .null, .int 0, .null, .null, .int 0, .int 0, .int 0, .int 0, .null, .null, .null, .null, .long 0]))]) H locs := ⟨hP, hD, hS⟩
  refine lv_dup hx hb dL_law_11 rfl ?_
  refine l_init (R := room_1) hx hb hml hown htb hK hA hNw G (i_X8 l D cy qm) klm_init kc_X8_init ki_X8_init ini_LaneOrderModel rfl kd_X8_init (by decide) (by decide) hl.1 (Nat.le_of_ble_eq_true rfl) dL_law_12 ⟨by decide, by decide⟩ (fun u2 H locs hu2 G => ?_)
  rw [← hu2]
  refine lv_astore_n (lv' := [(2, .ref (u2 0)), (1, .ref (u1 0)), (0, .ref b)]) hx hb dL_law_15 rfl hl (by decide) rfl (fun ls hl => ?_)
  refine lv_iconst (v := 0) hx hb dL_law_16 (by decide) ?_
  refine lv_istore_n (lv' := [(3, .int 0), (2, .ref (u2 0)), (1, .ref (u1 0)), (0, .ref b)]) hx hb dL_law_17 rfl hl (by decide) rfl (fun ls hl => ?_)
  have ex : gW XSh cy (hOver u1 67 k v t1 t2) z0 = gW XSh cy u1 z0 := gW_h (fun i hi => if_pos hi) XSh_ref
  have em : gW MSh cy (hOver u2 21 k v t1 t2) (sv z0 0 31 (-1)) = gW MSh cy u2 (sv z0 0 31 (-1)) := gW_h (fun i hi => if_pos hi) MSh_ref
  have C : lC p s m meth c b L xs D cy (hOver u1 67 k v t1 t2) (hOver u2 21 k v t1 t2) := ⟨hx, hb, hml, hown, htb, hK, hX, hbl, hN _ rfl rfl rfl rfl, hN _ rfl rfl rfl rfl, hr, hlocks⟩
  have G2 : lG D cy (hOver u1 67 k v t1 t2) (hOver u2 21 k v t1 t2) s z0 (sv z0 0 31 (-1)) H locs := by
    obtain ⟨g1, g2, g3⟩ := G
    refine ⟨?_, ?_, g3⟩
    · rw [ex, em]; exact g1
    · rw [ex, em]; exact g2
  exact law_loop E Edef C hL ⟨by decide, by decide⟩ (L + 1) 0 z0 (sv z0 0 31 (-1)) H locs ls (by omega) (by omega) R0 G2 (lv_sub hl [3, 2, 1, 0] rfl)
