/-! THE CLAIM OUT OF ONE WALK OF THE LAW'S BODY. Your part is whole_start (and what it stands on); all else here is the same for every law, but numbers. -/
def R_law : String := "LaneOrderLaw"
def lw_P (b : Addr) (xs : List Int32) (args : Array Value) (s : State) : Prop := args = #[.ref b] ∧ s.IntsAt b xs ∧ xs.length ≤ 2048 ∧ (Jvm.Cond.and given_1 narrow_1).before args s = true
def lw_Q (_ : Array Value) (s : State) (o : Outcome) (t : State) : Prop := o = .returned (some (.int 1)) ∧ Framed s o t [] 600000 7302250
def lw_Z (below : List Frame) (a : Array Value) (s : State) : State → Prop := fun t => ∃ o, t.status = .running ∧ Ended t below o ∧ lw_Q a s o t
/-- the law's own end, with 1 on the stack, nothing written that was there before, its room as the claim has it -/
theorem lw_ret {p : Program} {l : Launch} {e : Env} {s : State} {m : MethodId} {below : List Frame} {meth : Method} {c : Code} {b : Nat} (hx : p.tables.exec = Jvm.exec) (hb : c.code = code) (hr : meth.sig.returnType = ret) (hlocks : meth.locks = false) {pc : Nat} {H : Heap} {ls : Array Slot} (hdg : decode code pc = .ok (.ireturn, 1)) : W p l e room_1 s m #[Value.ref b] below meth c H [] 600000 7302250 (lw_Z below #[Value.ref b] s) (F0 m pc ls [.int 1]) := by
  intro T hT X
  obtain ⟨fs, hret, hrun, hended, hW, hframe⟩ := X.leave (v := some (.int 1)) (hlocks := hlocks) (fun h => by rw [hr] at h; cases h)
  have hmeth' : T.vm.method? m = some meth := X.method'
  refine ⟨T.setFrames fs, ?_, .returned (some (.int 1)), hrun, hended, rfl, ⟨_, rfl⟩, hW, hframe⟩
  jvm_step X.here [X.here.top, hx, hb, hdg, hmeth', hr, ret, narrow_b1]
  (try refine ⟨rfl, ?_⟩); (try refine ⟨rfl, ?_⟩)
  first | (intro acts; rw [hret _ acts rfl rfl rfl]) | rw [hret _ _ rfl rfl rfl]
  exact Steps.refl _
/-- what holds at the law's entry: the machine, the code, the tables' words (any of lw_tbl by 'hts w (by decide +kernel)'), the script of L ints xs at the cell b, what the Statement gives of the start (any of its parts by flat_of_before) -/
def lw_At (p : Program) (s : State) (m : MethodId) (meth : Method) (c : Code) (b L : Nat) (xs : Nat → Int32) : Prop :=
  p.tables.exec = Jvm.exec ∧ c.code = code ∧ meth.sig.returnType = ret ∧ c.maxLocals = 4 ∧ s.vm.findClass R_law = some m.cls ∧ (∀ w ∈ lw_tbl, w.before #[Value.ref b] s = true) ∧ va_X b L xs s s.heap ∧ b < s.heap.size ∧ meth.locks = false ∧ (Jvm.Cond.and given_1 narrow_1).before #[Value.ref b] s = true
theorem tab_26 {x : Int32} (h : ∀ j, j ≤ 26 → ¬ x = nI j) : x.toInt < 0 ∨ 26 < x.toInt := tab_out 26 (by omega) h
set_option maxRecDepth 100000 in
set_option maxHeartbeats 4000000 in
theorem law_loop {p : Program} {l : Launch} {e : Env} {s : State} {m : MethodId} {below : List Frame} {meth : Method} {c : Code} {cells slots : Nat} {b L : Nat} {xs : Nat → Int32} {D : va_G} {cy : ClassId} {hx hm : Nat → Nat} {Rel : Nat → GS → GS → Prop} (E : opsOK Rel) (Edef : ∀ c X M, Rel c X M → Rel (c + 1) X M) (C : lC p s m meth c b L xs D cy hx hm) (hL : L ≤ 2048) (hf : cells ≤ 600000 ∧ slots ≤ 7302250) :
    ∀ (n j : Nat) (X M : GS) (H : Heap) (locs : List Loc) (ls : Array Slot), L + 1 ≤ 4 * j + n → 4 * j ≤ L → Rel j X M → lG D cy hx hm s X M H locs → lv_has ls 4 [(0, .ref b), (1, .ref (hx 0)), (2, .ref (hm 0)), (3, .int (nI (4 * j)))] → W p l e room_1 s m #[Value.ref b] below meth c H locs cells slots (lw_Z below #[Value.ref b] s) (F0 m 18 ls []) := by
  obtain ⟨hx9, hb9, -, -, -, -, -, -, -, -, hr9, hlk9⟩ := id C
  intro n
  induction n with
  | zero =>
    intro j X M H locs ls h1 h2
    exact absurd h1 (by omega)
  | succ n ih =>
    intro j X M H locs ls hn hj R G hl
    refine lv_iload_n hx9 hb9 dL_law_18 rfl (lv_at hl 3 rfl) ?_
    refine lv_aload_n hx9 hb9 dL_law_19 rfl (lv_at hl 0 rfl) ?_
    refine l_slen C G dL_law_20 ?_
    refine lv_iconst (v := 4) hx9 hb9 dL_law_21 (by decide) ?_
    refine lv_isub hx9 hb9 dL_law_22 ?_
    have hsub : (nI L - 4).toInt = (L : Int) - 4 := pk_sub_toInt (b := 4) (by omega) (by omega)
    refine lv_icmp_gt (tgt := 830) hx9 hb9 dL_law_23 (by decide) (fun c1 => ?_) (fun c1 => ?_)
    · refine lv_iconst (v := 1) hx9 hb9 dL_law_830 (by decide) ?_
      refine va_forget (fun q hq => G.2.2.2.2 q hq) ?_
      refine W.widen (k := 600000) (n := 7302250) hf.1 hf.2 ?_
      exact lw_ret hx9 hb9 hr9 hlk9 dL_law_831
    · have hj4 : 4 * j + 4 ≤ L := by
        rw [Int32.lt_iff_toInt_lt, hsub, nI_toInt (by omega)] at c1
        omega
      refine lv_aload_n hx9 hb9 dL_law_26 rfl (lv_at hl 0 rfl) ?_
      refine lv_iload_n hx9 hb9 dL_law_27 rfl (lv_at hl 3 rfl) ?_
      refine l_sld C G (j := 4 * j) rfl (by omega) hL dL_law_28 ?_
      refine lv_bipush (v := 31) hx9 hb9 dL_law_29 (by decide) ?_
      refine lv_iand hx9 hb9 dL_law_31 ?_
      have K : ∀ (X M : GS) (H : Heap) (locs : List Loc) (ls : Array Slot), Rel (j + 1) X M → lG D cy hx hm s X M H locs → lv_has ls 4 [(0, .ref b), (1, .ref (hx 0)), (2, .ref (hm 0)), (3, .int (nI (4 * j)))] → W p l e room_1 s m #[Value.ref b] below meth c H locs cells slots (lw_Z below #[Value.ref b] s) (F0 m 824 ls []) := by
        intro X M H locs ls R G hl
        obtain ⟨x5, ex5⟩ : ∃ z : Int32, z = nI (4 * (j + 1)) := ⟨_, rfl⟩
        refine lv_iinc (v := x5) (lv' := [(3, .int x5), (0, .ref b), (1, .ref (hx 0)), (2, .ref (hm 0))]) hx9 hb9 dL_law_824 hl (k := 3) rfl (by rw [ex5]; exact nI_add (4 * j) 4) (by decide) rfl (fun ls hl => ?_)
        refine lv_goto (tgt := 18) hx9 hb9 dL_law_827 (by decide) ?_
        subst ex5
        exact ih (j + 1) X M H locs ls (by omega) (by omega) R G (lv_sub hl [1, 2, 3, 0] rfl)
      by_cases c2_0 : xs (4 * j) &&& 31 = 0
      · refine lv_tableIn (tgt := 156) hx9 hb9 dL_law_32 (by rw [c2_0]; decide) (by rw [c2_0]; decide) (by rw [c2_0]; rfl) (by decide) ?_
        exact lw_letter (E.1) C hL hj4 R G hl hf K
      by_cases c2_1 : xs (4 * j) &&& 31 = 1
      · refine lv_tableIn (tgt := 179) hx9 hb9 dL_law_32 (by rw [c2_1]; decide) (by rw [c2_1]; decide) (by rw [c2_1]; rfl) (by decide) ?_
        exact lw_blank (E.2.1) C hL hj4 R G hl hf K
      by_cases c2_2 : xs (4 * j) &&& 31 = 2
      · refine lv_tableIn (tgt := 192) hx9 hb9 dL_law_32 (by rw [c2_2]; decide) (by rw [c2_2]; decide) (by rw [c2_2]; rfl) (by decide) ?_
        exact lw_fault (E.2.2.1) C hL hj4 R G hl hf K
      by_cases c2_3 : xs (4 * j) &&& 31 = 3
      · refine lv_tableIn (tgt := 205) hx9 hb9 dL_law_32 (by rw [c2_3]; decide) (by rw [c2_3]; decide) (by rw [c2_3]; rfl) (by decide) ?_
        exact lw_page (E.2.2.2.1) C hL hj4 R G hl hf K
      by_cases c2_4 : xs (4 * j) &&& 31 = 4
      · refine lv_tableIn (tgt := 218) hx9 hb9 dL_law_32 (by rw [c2_4]; decide) (by rw [c2_4]; decide) (by rw [c2_4]; rfl) (by decide) ?_
        exact lw_box (E.2.2.2.2.1) C hL hj4 R G hl hf K
      by_cases c2_5 : xs (4 * j) &&& 31 = 5
      · refine lv_tableIn (tgt := 251) hx9 hb9 dL_law_32 (by rw [c2_5]; decide) (by rw [c2_5]; decide) (by rw [c2_5]; rfl) (by decide) ?_
        exact lw_as (E.2.2.2.2.2.1) C hL hj4 R G hl hf K
      by_cases c2_6 : xs (4 * j) &&& 31 = 6
      · refine lv_tableIn (tgt := 284) hx9 hb9 dL_law_32 (by rw [c2_6]; decide) (by rw [c2_6]; decide) (by rw [c2_6]; rfl) (by decide) ?_
        exact lw_order (E.2.2.2.2.2.2.1) C hL hj4 R G hl hf K
      by_cases c2_7 : xs (4 * j) &&& 31 = 7
      · refine lv_tableIn (tgt := 307) hx9 hb9 dL_law_32 (by rw [c2_7]; decide) (by rw [c2_7]; decide) (by rw [c2_7]; rfl) (by decide) ?_
        exact lw_cut (E.2.2.2.2.2.2.2.1) C hL hj4 R G hl hf K
      by_cases c2_8 : xs (4 * j) &&& 31 = 8
      · refine lv_tableIn (tgt := 340) hx9 hb9 dL_law_32 (by rw [c2_8]; decide) (by rw [c2_8]; decide) (by rw [c2_8]; rfl) (by decide) ?_
        exact lw_lane (E.2.2.2.2.2.2.2.2.1) C hL hj4 R G hl hf K
      by_cases c2_9 : xs (4 * j) &&& 31 = 9
      · refine lv_tableIn (tgt := 373) hx9 hb9 dL_law_32 (by rw [c2_9]; decide) (by rw [c2_9]; decide) (by rw [c2_9]; rfl) (by decide) ?_
        exact lw_why (E.2.2.2.2.2.2.2.2.2.1) C hL hj4 R G hl hf K
      by_cases c2_10 : xs (4 * j) &&& 31 = 10
      · refine lv_tableIn (tgt := 406) hx9 hb9 dL_law_32 (by rw [c2_10]; decide) (by rw [c2_10]; decide) (by rw [c2_10]; rfl) (by decide) ?_
        exact lw_put (E.2.2.2.2.2.2.2.2.2.2.1) C hL hj4 R G hl hf K
      by_cases c2_11 : xs (4 * j) &&& 31 = 11
      · refine lv_tableIn (tgt := 439) hx9 hb9 dL_law_32 (by rw [c2_11]; decide) (by rw [c2_11]; decide) (by rw [c2_11]; rfl) (by decide) ?_
        exact lw_take (E.2.2.2.2.2.2.2.2.2.2.2.1) C hL hj4 R G hl hf K
      by_cases c2_12 : xs (4 * j) &&& 31 = 12
      · refine lv_tableIn (tgt := 462) hx9 hb9 dL_law_32 (by rw [c2_12]; decide) (by rw [c2_12]; decide) (by rw [c2_12]; rfl) (by decide) ?_
        exact lw_move (E.2.2.2.2.2.2.2.2.2.2.2.2.1) C hL hj4 R G hl hf K
      by_cases c2_13 : xs (4 * j) &&& 31 = 13
      · refine lv_tableIn (tgt := 505) hx9 hb9 dL_law_32 (by rw [c2_13]; decide) (by rw [c2_13]; decide) (by rw [c2_13]; rfl) (by decide) ?_
        exact lw_change (E.2.2.2.2.2.2.2.2.2.2.2.2.2.1) C hL hj4 R G hl hf K
      by_cases c2_14 : xs (4 * j) &&& 31 = 14
      · refine lv_tableIn (tgt := 538) hx9 hb9 dL_law_32 (by rw [c2_14]; decide) (by rw [c2_14]; decide) (by rw [c2_14]; rfl) (by decide) ?_
        exact lw_rules (E.2.2.2.2.2.2.2.2.2.2.2.2.2.2.1) C hL hj4 R G hl hf K
      by_cases c2_15 : xs (4 * j) &&& 31 = 15
      · refine lv_tableIn (tgt := 561) hx9 hb9 dL_law_32 (by rw [c2_15]; decide) (by rw [c2_15]; decide) (by rw [c2_15]; rfl) (by decide) ?_
        exact lw_scale (E.2.2.2.2.2.2.2.2.2.2.2.2.2.2.2.1) C hL hj4 R G hl hf K
      by_cases c2_16 : xs (4 * j) &&& 31 = 16
      · refine lv_tableIn (tgt := 584) hx9 hb9 dL_law_32 (by rw [c2_16]; decide) (by rw [c2_16]; decide) (by rw [c2_16]; rfl) (by decide) ?_
        exact lw_without (E.2.2.2.2.2.2.2.2.2.2.2.2.2.2.2.2.1) C hL hj4 R G hl hf K
      by_cases c2_17 : xs (4 * j) &&& 31 = 17
      · refine lv_tableIn (tgt := 607) hx9 hb9 dL_law_32 (by rw [c2_17]; decide) (by rw [c2_17]; decide) (by rw [c2_17]; rfl) (by decide) ?_
        exact lw_calm (E.2.2.2.2.2.2.2.2.2.2.2.2.2.2.2.2.2.1) C hL hj4 R G hl hf K
      by_cases c2_18 : xs (4 * j) &&& 31 = 18
      · refine lv_tableIn (tgt := 620) hx9 hb9 dL_law_32 (by rw [c2_18]; decide) (by rw [c2_18]; decide) (by rw [c2_18]; rfl) (by decide) ?_
        exact lw_idle (E.2.2.2.2.2.2.2.2.2.2.2.2.2.2.2.2.2.2.1) C hL hj4 R G hl hf K
      by_cases c2_19 : xs (4 * j) &&& 31 = 19
      · refine lv_tableIn (tgt := 633) hx9 hb9 dL_law_32 (by rw [c2_19]; decide) (by rw [c2_19]; decide) (by rw [c2_19]; rfl) (by decide) ?_
        exact lw_free (E.2.2.2.2.2.2.2.2.2.2.2.2.2.2.2.2.2.2.2.1) C hL hj4 R G hl hf K
      by_cases c2_20 : xs (4 * j) &&& 31 = 20
      · refine lv_tableIn (tgt := 646) hx9 hb9 dL_law_32 (by rw [c2_20]; decide) (by rw [c2_20]; decide) (by rw [c2_20]; rfl) (by decide) ?_
        exact lw_see (E.2.2.2.2.2.2.2.2.2.2.2.2.2.2.2.2.2.2.2.2.1) C hL hj4 R G hl hf K
      by_cases c2_21 : xs (4 * j) &&& 31 = 21
      · refine lv_tableIn (tgt := 705) hx9 hb9 dL_law_32 (by rw [c2_21]; decide) (by rw [c2_21]; decide) (by rw [c2_21]; rfl) (by decide) ?_
        exact lw_forget (E.2.2.2.2.2.2.2.2.2.2.2.2.2.2.2.2.2.2.2.2.2.1) C hL hj4 R G hl hf K
      by_cases c2_22 : xs (4 * j) &&& 31 = 22
      · refine lv_tableIn (tgt := 718) hx9 hb9 dL_law_32 (by rw [c2_22]; decide) (by rw [c2_22]; decide) (by rw [c2_22]; rfl) (by decide) ?_
        exact lw_drawn (E.2.2.2.2.2.2.2.2.2.2.2.2.2.2.2.2.2.2.2.2.2.2.1) C hL hj4 R G hl hf K
      by_cases c2_23 : xs (4 * j) &&& 31 = 23
      · refine lv_tableIn (tgt := 761) hx9 hb9 dL_law_32 (by rw [c2_23]; decide) (by rw [c2_23]; decide) (by rw [c2_23]; rfl) (by decide) ?_
        exact lw_image (E.2.2.2.2.2.2.2.2.2.2.2.2.2.2.2.2.2.2.2.2.2.2.2.1) C hL hj4 R G hl hf K
      by_cases c2_24 : xs (4 * j) &&& 31 = 24
      · refine lv_tableIn (tgt := 774) hx9 hb9 dL_law_32 (by rw [c2_24]; decide) (by rw [c2_24]; decide) (by rw [c2_24]; rfl) (by decide) ?_
        exact lw_restore (E.2.2.2.2.2.2.2.2.2.2.2.2.2.2.2.2.2.2.2.2.2.2.2.2.1) C hL hj4 R G hl hf K
      by_cases c2_25 : xs (4 * j) &&& 31 = 25
      · refine lv_tableIn (tgt := 787) hx9 hb9 dL_law_32 (by rw [c2_25]; decide) (by rw [c2_25]; decide) (by rw [c2_25]; rfl) (by decide) ?_
        exact lw_count (E.2.2.2.2.2.2.2.2.2.2.2.2.2.2.2.2.2.2.2.2.2.2.2.2.2.1) C hL hj4 R G hl hf K
      by_cases c2_26 : xs (4 * j) &&& 31 = 26
      · refine lv_tableIn (tgt := 810) hx9 hb9 dL_law_32 (by rw [c2_26]; decide) (by rw [c2_26]; decide) (by rw [c2_26]; rfl) (by decide) ?_
        exact lw_digest (E.2.2.2.2.2.2.2.2.2.2.2.2.2.2.2.2.2.2.2.2.2.2.2.2.2.2) C hL hj4 R G hl hf K
      refine lv_tableOut (tgt := 824) hx9 hb9 dL_law_32 (tab_26 (fun q hq => ?_)) (by decide) ?_
      · match q, hq with
        | 0, _ => exact c2_0
        | 1, _ => exact c2_1
        | 2, _ => exact c2_2
        | 3, _ => exact c2_3
        | 4, _ => exact c2_4
        | 5, _ => exact c2_5
        | 6, _ => exact c2_6
        | 7, _ => exact c2_7
        | 8, _ => exact c2_8
        | 9, _ => exact c2_9
        | 10, _ => exact c2_10
        | 11, _ => exact c2_11
        | 12, _ => exact c2_12
        | 13, _ => exact c2_13
        | 14, _ => exact c2_14
        | 15, _ => exact c2_15
        | 16, _ => exact c2_16
        | 17, _ => exact c2_17
        | 18, _ => exact c2_18
        | 19, _ => exact c2_19
        | 20, _ => exact c2_20
        | 21, _ => exact c2_21
        | 22, _ => exact c2_22
        | 23, _ => exact c2_23
        | 24, _ => exact c2_24
        | 25, _ => exact c2_25
        | 26, _ => exact c2_26
        | q + 27, hq => exact absurd hq (by omega)
      · exact K X M H locs ls (Edef _ _ _ R) G hl
