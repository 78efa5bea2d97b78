-- THE LAW'S WALK, over any relation Rel of the two states that the calls keep
def lC (p : Program) (s : State) (m : MethodId) (meth : Method) (c : Code) (b L : Nat) (xs : Nat → Int32) (D : va_G) (cy : ClassId) (hx hm : Nat → Nat) : Prop :=
  p.tables.exec = Jvm.exec ∧ c.code = code ∧ c.maxLocals = 4 ∧ s.vm.findClass "LaneOrderLaw" = some m.cls ∧ (∀ w ∈ tb, w.before #[Value.ref b] s = true) ∧ va_K D vwCl [(cy, .int)] s ∧ va_X b L xs s s.heap ∧ b < s.heap.size ∧ gN hx (fun q => s.heap.size ≤ q) s ∧ gN hm (fun q => s.heap.size ≤ q) s ∧ meth.sig.returnType = ret ∧ meth.locks = false
def lG (D : va_G) (cy : ClassId) (hx hm : Nat → Nat) (s : State) (X M : GS) (H : Heap) (locs : List Loc) : Prop :=
  va_P D vwCl (gW XSh cy hx X ++ gW MSh cy hm M) H ∧ va_D (fun q => s.heap.size ≤ q) (gW XSh cy hx X ++ gW MSh cy hm M) ∧ va_S (fun q => s.heap.size ≤ q) s.heap H locs
theorem va_P.left {D : va_G} {cl : List vw_C} {w1 w2 : va_W} {H : Heap} (h : va_P D cl (w1 ++ w2) H) : va_P D cl w1 H := fun k q hk => h k q (by rw [List.getElem?_append_left (List.getElem?_eq_some_iff.mp hk).1]; exact hk)
theorem va_P.right {D : va_G} {cl : List vw_C} {w1 w2 : va_W} {H : Heap} (h : va_P D cl (w1 ++ w2) H) : va_P D cl w2 H := fun k q hk => h (w1.length + k) q (by rw [List.getElem?_append_right (by omega), Nat.add_sub_cancel_left]; exact hk)
theorem va_D.left {A : Nat → Prop} {w1 w2 : va_W} (h : va_D A (w1 ++ w2)) : va_D A w1 := ⟨fun i j x y hi hj e => h.1 i j x y (by rw [List.getElem?_append_left (List.getElem?_eq_some_iff.mp hi).1]; exact hi) (by rw [List.getElem?_append_left (List.getElem?_eq_some_iff.mp hj).1]; exact hj) e, fun k q hk => h.2 k q (by rw [List.getElem?_append_left (List.getElem?_eq_some_iff.mp hk).1]; exact hk)⟩
theorem va_D.right {A : Nat → Prop} {w1 w2 : va_W} (h : va_D A (w1 ++ w2)) : va_D A w2 := ⟨fun i j x y hi hj e => by
  have := h.1 (w1.length + i) (w1.length + j) x y (by rw [List.getElem?_append_right (by omega), Nat.add_sub_cancel_left]; exact hi) (by rw [List.getElem?_append_right (by omega), Nat.add_sub_cancel_left]; exact hj) e
  omega, fun k q hk => h.2 (w1.length + k) q (by rw [List.getElem?_append_right (by omega), Nat.add_sub_cancel_left]; exact hk)⟩
theorem va_D.cross {A : Nat → Prop} {w1 w2 : va_W} (h : va_D A (w1 ++ w2)) {i j : Nat} {x y : Nat × va_E} (hi : w1[i]? = some x) (hj : w2[j]? = some y) : x.1 ≠ y.1 := by
  intro e
  have hl := (List.getElem?_eq_some_iff.mp hi).1
  have := h.1 i (w1.length + j) x y (by rw [List.getElem?_append_left hl]; exact hi) (by rw [List.getElem?_append_right (by omega), Nat.add_sub_cancel_left]; exact hj) e
  omega
theorem gW_len {S : Shape} {cy : ClassId} {h : Nat → Nat} {st : GS} : (gW S cy h st).length = S.1 := by simp [gW]
/-- two systems side by side: any state of each is as apart -/
theorem lD_any {A : Nat → Prop} {S1 S2 : Shape} {cy : ClassId} {h1 h2 : Nat → Nat} {a b a' b' : GS} (h : va_D A (gW S1 cy h1 a ++ gW S2 cy h2 b)) : va_D A (gW S1 cy h1 a' ++ gW S2 cy h2 b') := by
  refine va_D.app (gD_any h.left (fun k hk => h.left.2 k _ (gW_at hk)) a') (gD_any h.right (fun k hk => h.right.2 k _ (gW_at hk)) b') (fun i j x y hi hj => ?_)
  have li : i < S1.1 := by have := (List.getElem?_eq_some_iff.mp hi).1; rwa [gW_len] at this
  have lj : j < S2.1 := by have := (List.getElem?_eq_some_iff.mp hj).1; rwa [gW_len] at this
  rw [gW_at li] at hi; rw [gW_at lj] at hj
  cases hi; cases hj
  have hz : h1 i ≠ h2 j := h.cross (gW_at li) (gW_at lj)
  exact hz
section LW
variable {p : Program} {l : Launch} {e : Env} {s : State} {m : MethodId} {below : List Frame} {meth : Method} {c : Code} {H : Heap} {locs : List Loc} {cells slots : Nat} {Q : State → Prop}
variable {bytes : ByteArray} {pc maxL n idx lev b L : Nat} {xs : Nat → Int32} {ls : Array Slot} {rest As stk : List Value} {D : va_G} {cy : ClassId} {hx hm : Nat → Nat} {X M X' M' : GS} {y : MethodName} {ret : Option FieldType}
theorem lgPc {S : Shape} {h : Nat → Nat} {st : GS} {w2 : va_W} (hK : va_K D vwCl [(cy, .int)] s) (hN : gN h (fun q => s.heap.size ≤ q) s) (hP : va_P D vwCl (gW S cy h st) H) (hD : va_D (fun q => s.heap.size ≤ q) (gW S cy h st)) (hS : va_S (fun q => s.heap.size ≤ q) s.heap H locs) (av : List Value) : ∀ U : State, U.heap = H → s.WarmedH U.vm → gPc S D cy h H.size st av av.toArray U := by
  intro U hU hW
  have hsub : ∀ q, gA S h H.size q → s.heap.size ≤ q := fun q hq => hq.elim (fun ⟨k, hk, e⟩ => e ▸ hD.2 k _ (gW_at hk)) (fun z => Nat.le_trans hS.1 z)
  exact ⟨rfl, by rw [hU], by rw [hU]; exact hP, va_K.moved hW.alike hK, hD.weaken (fun _ _ _ _ => trivial), gN_to hN hW (fun a h1 h2 => by rw [hU]; exact hS.2.1 a h1 h2) hsub⟩
theorem l_run {S : Shape} {h : Nat → Nat} {st : GS} {Qc : Array Value → State → Outcome → State → Prop} (C : lC p s m meth c b L xs D cy hx hm) (hN : gN h (fun q => s.heap.size ≤ q) s) (hP : va_P D vwCl (gW S cy h st) H) (hD : va_D (fun q => s.heap.size ≤ q) (gW S cy h st)) (hS : va_S (fun q => s.heap.size ≤ q) s.heap H locs) {ci N : Nat} {Cn : String} {T : u_T} {ty : Nat → FieldType} (hM : Met l y (Cond.code y bytes maxL ret :: tb) (gR lev) (gPc S D cy h H.size st (.ref (h 0) :: As)) Qc 0 0 (gA S h H.size)) (K : clsOK ci Cn T ty N) (hy : y.cls = Cn) (hO : cellO S 0 ci) (ok : vOK "LaneOrderLaw" idx y bytes maxL ret n)
    (hF : 2 * lev + 1 ≤ 2048) (hL : 8 + (maxL + 11) + 64 * lev ≤ 84000) (hn : As.length = n) (hsz : ls.size = 4) (hstk : stk = As.reverse ++ .ref (h 0) :: rest) (hW : (rest.map fun v => v.category).sum ≤ 8) (hdg : decode code pc = .ok (.invokevirtual idx, 3)) (hf : cells ≤ 600000 ∧ slots ≤ 7302250) :
    va_Run p l e room_1 s m #[Value.ref b] below meth c H locs cells slots 0 0 (F0 m pc ls stk) rest (Qc (Value.ref (h 0) :: As).toArray) (gA S h H.size) := by
  have hPc := lgPc (w2 := []) C.2.2.2.2.2.1 hN hP hD hS (.ref (h 0) :: As)
  obtain ⟨hx', hb, hml, hown, hts, hK, -⟩ := C
  obtain ⟨o1, o2, o3, o4, o5, o6, o7, o8⟩ := ok
  obtain ⟨k1, k2, k3, -, -, -⟩ := K
  obtain ⟨ho, hc⟩ := hO
  have cw : CallW room_1 s #[Value.ref b] "LaneOrderLaw" y.cls idx y bytes maxL ret (Cond.code y bytes maxL ret :: tb) (gR lev) 0 0 n := by
    refine cwV (Ts := tb) (ws' := tb) n hts (tb_good (fun _ h => h) (fun w hw => ?_)) rfl rfl rfl ⟨rfl, o6, o7, o8⟩ ⟨hF, hL⟩
    rcases List.mem_append.mp hw with h | h
    · simp only [List.mem_cons, List.not_mem_nil, or_false] at h
      rcases h with h | h | h | h <;> subst h <;> assumption
    · exact tb_code (ws := []) o5 h
  refine va_runV (n := n) (C := y.cls) (As := As) (rest := rest) ⟨hx', hb, hml, hown, hts⟩ hM cw ⟨gPc_blind, ?_, hPc⟩ rfl hn hsz hstk (lv_room hW) hdg hf
  rw [hy]
  exact va_recv hK hP (ci := ci) (q0 := 0) k1 ((gW_at ho).trans (by rw [gE_obj hc k3 k2]))
theorem l_sub {S : Shape} {h : Nat → Nat} {st : GS} (hD : va_D (fun q => s.heap.size ≤ q) (gW S cy h st)) (hS : va_S (fun q => s.heap.size ≤ q) s.heap H locs) : ∀ q, gA S h H.size q → s.heap.size ≤ q := fun q hq => hq.elim (fun ⟨k, hk, e⟩ => e ▸ hD.2 k _ (gW_at hk)) (fun z => Nat.le_trans hS.1 z)
/-- what isn't the callee's stays -/
theorem l_keep {S1 S2 : Shape} {h1 h2 : Nat → Nat} {b2 : GS} {H1 : Heap} (hP2 : va_P D vwCl (gW S2 cy h2 b2) H) (hne : ∀ i j, i < S1.1 → j < S2.1 → h1 i ≠ h2 j) (hk : ∀ q : Nat, q < H.size → ¬ gA S1 h1 H.size q → H1[q]? = H[q]?) : va_P D vwCl (gW S2 cy h2 b2) H1 := by
  refine hP2.kept (fun k q hq => ?_)
  have lj : k < S2.1 := by have := (List.getElem?_eq_some_iff.mp hq).1; rwa [gW_len] at this
  have hlt := (hP2 k q hq).lt
  rw [gW_at lj] at hq
  cases hq
  refine hk _ hlt (fun hA => ?_)
  rcases hA with ⟨i, hi, e⟩ | hA
  · exact hne i k hi lj e
  · exact Nat.not_le.mpr hlt hA
theorem l_X_i (C : lC p s m meth c b L xs D cy hx hm) (G : lG D cy hx hm s X M H locs) {r : Int32} (hM : gMi l XSh D cy hx y bytes maxL ret lev X (.ref (hx 0) :: As) r X') (hy : y.cls = "LaneOrder") (ok : vOK "LaneOrderLaw" idx y bytes maxL ret n)
    (hF : 2 * lev + 1 ≤ 2048) (hL : 8 + (maxL + 11) + 64 * lev ≤ 84000) (hn : As.length = n) (hsz : ls.size = 4) (hstk : stk = As.reverse ++ .ref (hx 0) :: rest) (hW : (rest.map fun v => v.category).sum ≤ 8) (hdg : decode code pc = .ok (.invokevirtual idx, 3)) (hf : cells ≤ 600000 ∧ slots ≤ 7302250)
    (kk : ∀ H locs, lG D cy hx hm s X' M H locs → W p l e room_1 s m #[Value.ref b] below meth c H locs cells slots Q (F0 m (pc + 3) ls (.int r :: rest))) : W p l e room_1 s m #[Value.ref b] below meth c H locs cells slots Q (F0 m pc ls stk) := by
  obtain ⟨hP, hD, hS⟩ := G
  have hsub := l_sub hD.left hS
  have hN := C.2.2.2.2.2.2.2.2.1
  refine va_calli (l_run C hN hP.left hD.left hS (hM H.size) cl7 hy (C7 ok7_0) ok hF hL hn hsz hstk hW hdg hf) hS (fun q _ h => hsub q h) hsub (fun r1 u t H1 locs1 ht hvm hw hB hz1 hk1 hS1 => ?_)
  subst hw
  rw [ht] at hB
  exact kk H1 locs1 ⟨va_P.app hB (l_keep hP.right (fun i j hi hj => hD.cross (gW_at hi) (gW_at hj)) hk1), lD_any hD, hS1⟩
theorem l_X_l (C : lC p s m meth c b L xs D cy hx hm) (G : lG D cy hx hm s X M H locs) {r : Int64} (hM : gMl l XSh D cy hx y bytes maxL ret lev X (.ref (hx 0) :: As) r X') (hy : y.cls = "LaneOrder") (ok : vOK "LaneOrderLaw" idx y bytes maxL ret n)
    (hF : 2 * lev + 1 ≤ 2048) (hL : 8 + (maxL + 11) + 64 * lev ≤ 84000) (hn : As.length = n) (hsz : ls.size = 4) (hstk : stk = As.reverse ++ .ref (hx 0) :: rest) (hW : (rest.map fun v => v.category).sum ≤ 8) (hdg : decode code pc = .ok (.invokevirtual idx, 3)) (hf : cells ≤ 600000 ∧ slots ≤ 7302250)
    (kk : ∀ H locs, lG D cy hx hm s X' M H locs → W p l e room_1 s m #[Value.ref b] below meth c H locs cells slots Q (F0 m (pc + 3) ls (.long r :: rest))) : W p l e room_1 s m #[Value.ref b] below meth c H locs cells slots Q (F0 m pc ls stk) := by
  obtain ⟨hP, hD, hS⟩ := G
  have hsub := l_sub hD.left hS
  have hN := C.2.2.2.2.2.2.2.2.1
  refine va_calll (l_run C hN hP.left hD.left hS (hM H.size) cl7 hy (C7 ok7_0) ok hF hL hn hsz hstk hW hdg hf) hS (fun q _ h => hsub q h) hsub (fun r1 u t H1 locs1 ht hvm hw hB hz1 hk1 hS1 => ?_)
  subst hw
  rw [ht] at hB
  exact kk H1 locs1 ⟨va_P.app hB (l_keep hP.right (fun i j hi hj => hD.cross (gW_at hi) (gW_at hj)) hk1), lD_any hD, hS1⟩
theorem l_M_i (C : lC p s m meth c b L xs D cy hx hm) (G : lG D cy hx hm s X M H locs) {r : Int32} (hM : gMi l MSh D cy hm y bytes maxL ret lev M (.ref (hm 0) :: As) r M') (hy : y.cls = "LaneOrderModel") (ok : vOK "LaneOrderLaw" idx y bytes maxL ret n)
    (hF : 2 * lev + 1 ≤ 2048) (hL : 8 + (maxL + 11) + 64 * lev ≤ 84000) (hn : As.length = n) (hsz : ls.size = 4) (hstk : stk = As.reverse ++ .ref (hm 0) :: rest) (hW : (rest.map fun v => v.category).sum ≤ 8) (hdg : decode code pc = .ok (.invokevirtual idx, 3)) (hf : cells ≤ 600000 ∧ slots ≤ 7302250)
    (kk : ∀ H locs, lG D cy hx hm s X M' H locs → W p l e room_1 s m #[Value.ref b] below meth c H locs cells slots Q (F0 m (pc + 3) ls (.int r :: rest))) : W p l e room_1 s m #[Value.ref b] below meth c H locs cells slots Q (F0 m pc ls stk) := by
  obtain ⟨hP, hD, hS⟩ := G
  have hsub := l_sub hD.right hS
  have hN := C.2.2.2.2.2.2.2.2.2.1
  refine va_calli (l_run C hN hP.right hD.right hS (hM H.size) cl8 hy (C8 ok8_0) ok hF hL hn hsz hstk hW hdg hf) hS (fun q _ h => hsub q h) hsub (fun r1 u t H1 locs1 ht hvm hw hB hz1 hk1 hS1 => ?_)
  subst hw
  rw [ht] at hB
  exact kk H1 locs1 ⟨va_P.app (l_keep hP.left (fun i j hi hj => Ne.symm (hD.cross (gW_at hj) (gW_at hi))) hk1) hB, lD_any hD, hS1⟩
theorem l_M_l (C : lC p s m meth c b L xs D cy hx hm) (G : lG D cy hx hm s X M H locs) {r : Int64} (hM : gMl l MSh D cy hm y bytes maxL ret lev M (.ref (hm 0) :: As) r M') (hy : y.cls = "LaneOrderModel") (ok : vOK "LaneOrderLaw" idx y bytes maxL ret n)
    (hF : 2 * lev + 1 ≤ 2048) (hL : 8 + (maxL + 11) + 64 * lev ≤ 84000) (hn : As.length = n) (hsz : ls.size = 4) (hstk : stk = As.reverse ++ .ref (hm 0) :: rest) (hW : (rest.map fun v => v.category).sum ≤ 8) (hdg : decode code pc = .ok (.invokevirtual idx, 3)) (hf : cells ≤ 600000 ∧ slots ≤ 7302250)
    (kk : ∀ H locs, lG D cy hx hm s X M' H locs → W p l e room_1 s m #[Value.ref b] below meth c H locs cells slots Q (F0 m (pc + 3) ls (.long r :: rest))) : W p l e room_1 s m #[Value.ref b] below meth c H locs cells slots Q (F0 m pc ls stk) := by
  obtain ⟨hP, hD, hS⟩ := G
  have hsub := l_sub hD.right hS
  have hN := C.2.2.2.2.2.2.2.2.2.1
  refine va_calll (l_run C hN hP.right hD.right hS (hM H.size) cl8 hy (C8 ok8_0) ok hF hL hn hsz hstk hW hdg hf) hS (fun q _ h => hsub q h) hsub (fun r1 u t H1 locs1 ht hvm hw hB hz1 hk1 hS1 => ?_)
  subst hw
  rw [ht] at hB
  exact kk H1 locs1 ⟨va_P.app (l_keep hP.left (fun i j hi hj => Ne.symm (hD.cross (gW_at hj) (gW_at hi))) hk1) hB, lD_any hD, hS1⟩
theorem l_sld (C : lC p s m meth c b L xs D cy hx hm) (G : lG D cy hx hm s X M H locs) {i : Int32} {j : Nat} (hi : i = nI j) (hj : j < L) (hL : L ≤ 2048) (hdg : decode code pc = .ok (.iaload, 1))
    (kk : W p l e room_1 s m #[Value.ref b] below meth c H locs cells slots Q (F0 m (pc + 1) ls (.int (xs j) :: rest))) : W p l e room_1 s m #[Value.ref b] below meth c H locs cells slots Q (F0 m pc ls (.int i :: .ref b :: rest)) := by
  obtain ⟨hx', hb, hml, hown, hts, hK, hX, hbl, -⟩ := C
  subst hi
  refine va_sld (A := fun q => s.heap.size ≤ q) hx' hb hX hbl (Nat.not_le.mpr hbl) G.2.2 (vp_in_nI hj (by omega)) hdg ?_
  rw [nI_clamp (by omega)]
  exact kk
theorem l_slen (C : lC p s m meth c b L xs D cy hx hm) (G : lG D cy hx hm s X M H locs) (hdg : decode code pc = .ok (.arraylength, 1))
    (kk : W p l e room_1 s m #[Value.ref b] below meth c H locs cells slots Q (F0 m (pc + 1) ls (.int (nI L) :: rest))) : W p l e room_1 s m #[Value.ref b] below meth c H locs cells slots Q (F0 m pc ls (.ref b :: rest)) := by
  obtain ⟨hx', hb, hml, hown, hts, hK, hX, hbl, -⟩ := C
  exact va_slen (A := fun q => s.heap.size ≤ q) hx' hb hX hbl (Nat.not_le.mpr hbl) G.2.2 hdg kk
end LW
