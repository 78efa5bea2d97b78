theorem gPc_blind {S : Shape} {D : va_G} {cy : ClassId} {h : Nat → Nat} {sz : Nat} {st : GS} {av : List Value} : FrameBlind (gPc S D cy h sz st av) := by
  intro a U g mk q
  obtain ⟨q0, q1, qP, qK, qD, qN⟩ := q
  exact ⟨q0, q1, qP, va_K.moved (u := U) (U := U.calling g mk a) (Vm.Alike.refl U.vm) qK, qD, gN_same (u := U) rfl rfl qN⟩
/-- the calls' words: an instance method, a static one -/
def vOK (own : String) (idx : Nat) (y : MethodName) (bytes : ByteArray) (maxL : Nat) (ret : Option FieldType) (n : Nat) : Prop :=
  Cond.methodLink own idx y ∈ tb ∧ Cond.instanceMethod y ∈ tb ∧ Cond.selects y.cls y y ∈ tb ∧ Cond.initialized y.cls ∈ tb ∧ Cond.code y bytes maxL ret ∈ tb ∧ y.cls ≠ "java/lang/invoke/MethodHandle" ∧ y.cls ≠ "java/lang/invoke/VarHandle" ∧ (parseMethodDescriptor y.desc).map (fun d => d.parameters.length) = some n
def sOK (own : String) (idx : Nat) (y : MethodName) (bytes : ByteArray) (maxL : Nat) (ret : Option FieldType) (n : Nat) : Prop :=
  Cond.methodLink own idx y ∈ tb ∧ Cond.static y ∈ tb ∧ Cond.initialized y.cls ∈ tb ∧ Cond.code y bytes maxL ret ∈ tb ∧ y.cls ≠ "java/lang/invoke/MethodHandle" ∧ y.cls ≠ "java/lang/invoke/VarHandle" ∧ (parseMethodDescriptor y.desc).map (fun d => d.parameters.length) = some n
theorem tb_code {c w : Cond} {ws : List Cond} (hc : c ∈ tb) (h : w ∈ c :: tb) : w ∈ tb := (List.mem_cons.mp h).elim (fun e => e ▸ hc) id
section GC
variable {p : Program} {l : Launch} {e : Env} {R : Room} {s : State} {m : MethodId} {args : Array Value} {below : List Frame} {meth : Method} {c : Code} {H : Heap} {locs : List Loc} {cells slots : Nat} {Q : State → Prop}
variable {cc bytes : ByteArray} {pc nL maxL n idx lev : Nat} {ls : Array Slot} {rest As stk av : List Value} {D : va_G} {A : Nat → Prop} {own : String} {S : Shape} {cy : ClassId} {h : Nat → Nat} {st st' : GS} {y : MethodName} {ret : Option FieldType}
theorem gPc_at (C : gC p s m args c cc nL own S D cy h A) (G : gG S D cy h A s st H locs) (av : List Value) : ∀ U : State, U.heap = H → s.WarmedH U.vm → gPc S D cy h H.size st av av.toArray U := by
  obtain ⟨hx, hb, hml, hown, hts, hK, hD, hN, hA⟩ := C
  intro U hU hW
  have hsub : ∀ q, gA S h H.size q → A q := fun q hq => hA q (hq.elim Or.inl (fun z => Or.inr (Nat.le_trans G.2.1 z)))
  exact ⟨rfl, by rw [hU], by rw [hU]; exact G.1, va_K.moved hW.alike hK, (hD st).weaken (fun _ _ _ _ => trivial), gN_to hN hW (fun a h1 h2 => by rw [hU]; exact G.2.2.1 a h1 h2) hsub⟩
theorem gA_sub (C : gC p s m args c cc nL own S D cy h A) (G : gG S D cy h A s st H locs) : ∀ q, gA S h H.size q → A q := fun q hq => C.2.2.2.2.2.2.2.2 q (hq.elim Or.inl (fun z => Or.inr (Nat.le_trans G.2.1 z)))
theorem g_runV (C : gC p s m args c cc nL own S D cy h A) (G : gG S D cy h A s st H locs) {Qc : Array Value → State → Outcome → State → Prop} {o ci N : Nat} {Cn : String} {T : u_T} {ty : Nat → FieldType} (hM : Met l y (Cond.code y bytes maxL ret :: tb) (gR lev) (gPc S D cy h H.size st (.ref (h o) :: As)) Qc 0 0 (gA S h H.size)) (K : clsOK ci Cn T ty N) (hy : y.cls = Cn) (hO : cellO S o ci) (ok : vOK own idx y bytes maxL ret n)
    (hF : 2 * lev + 1 ≤ R.frames) (hL : 8 + (maxL + 11) + 64 * lev ≤ R.locals) (hn : As.length = n) (hsz : ls.size = nL) (hstk : stk = As.reverse ++ .ref (h o) :: rest) (hW : (rest.map fun v => v.category).sum ≤ 8) (hdg : decode cc pc = .ok (.invokevirtual idx, 3)) (hf : cells ≤ R.cells ∧ slots ≤ R.slots) :
    va_Run p l e R s m args below meth c H locs cells slots 0 0 (F0 m pc ls stk) rest (Qc (Value.ref (h o) :: As).toArray) (gA S h H.size) := by
  have hPc := gPc_at C G (.ref (h o) :: As)
  obtain ⟨hx, hb, hml, hown, hts, hK, hD, hN, hA⟩ := C
  obtain ⟨o1, o2, o3, o4, o5, o6, o7, o8⟩ := ok
  obtain ⟨k1, k2, k3, -, -, -⟩ := K
  obtain ⟨ho, hc⟩ := hO
  have cw : CallW R s args own y.cls idx y bytes maxL ret (Cond.code y bytes maxL ret :: tb) (gR lev) 0 0 n := by
    refine cwV (Ts := tb) (ws' := tb) n hts (tb_good (fun _ h => h) (fun w hw => ?_)) rfl rfl rfl ⟨rfl, o6, o7, o8⟩ ⟨hF, hL⟩
    rcases List.mem_append.mp hw with h | h
    · simp only [List.mem_cons, List.not_mem_nil, or_false] at h
      rcases h with h | h | h | h <;> subst h <;> assumption
    · exact tb_code (ws := []) o5 h
  refine va_runV (n := n) (C := y.cls) (As := As) (rest := rest) ⟨hx, hb, hml, hown, hts⟩ hM cw ⟨gPc_blind, ?_, hPc⟩ rfl hn hsz hstk (lv_room hW) hdg hf
  rw [hy]
  exact va_recv hK G.1 (ci := ci) (q0 := o) k1 ((gW_at ho).trans (by rw [gE_obj hc k3 k2]))
theorem g_runS (C : gC p s m args c cc nL own S D cy h A) (G : gG S D cy h A s st H locs) {Qc : Array Value → State → Outcome → State → Prop} (hM : Met l y (Cond.code y bytes maxL ret :: tb) (gR lev) (gPc S D cy h H.size st As) Qc 0 0 (gA S h H.size)) (ok : sOK own idx y bytes maxL ret n)
    (hF : 2 * lev + 1 ≤ R.frames) (hL : 8 + (maxL + 11) + 64 * lev ≤ R.locals) (hn : As.length = n) (hsz : ls.size = nL) (hstk : stk = As.reverse ++ rest) (hW : (rest.map fun v => v.category).sum ≤ 8) (hdg : decode cc pc = .ok (.invokestatic idx, 3)) (hf : cells ≤ R.cells ∧ slots ≤ R.slots) :
    va_Run p l e R s m args below meth c H locs cells slots 0 0 (F0 m pc ls stk) rest (Qc As.toArray) (gA S h H.size) := by
  have hPc := gPc_at C G As
  obtain ⟨hx, hb, hml, hown, hts, hK, hD, hN, hA⟩ := C
  obtain ⟨o1, o2, o4, o5, o6, o7, o8⟩ := ok
  have cw : CallB R s args own idx y bytes maxL ret (Cond.code y bytes maxL ret :: tb) (gR lev) 0 0 n ∧ (Cond.static y).before args s = true := by
    refine va_cwS (Ts := tb) (ws' := tb) n hts (tb_good (fun _ h => h) (fun w hw => ?_)) rfl rfl rfl ⟨o6, o7, o8⟩ ⟨hF, hL⟩
    rcases List.mem_append.mp hw with h | h
    · simp only [List.mem_cons, List.not_mem_nil, or_false] at h
      rcases h with h | h | h <;> subst h <;> assumption
    · exact tb_code (ws := []) o5 h
  exact va_runS (n := n) (As := As) (rest := rest) ⟨hx, hb, hml, hown, hts⟩ hM cw ⟨gPc_blind, hPc⟩ rfl hn hsz hstk (lv_room hW) hdg hf
theorem g_callVi (C : gC p s m args c cc nL own S D cy h A) (G : gG S D cy h A s st H locs) {r : Int32} {o ci N : Nat} {Cn : String} {T : u_T} {ty : Nat → FieldType} (hM : gMi l S D cy h y bytes maxL ret lev st (.ref (h o) :: As) r st') (K : clsOK ci Cn T ty N) (hy : y.cls = Cn) (hO : cellO S o ci) (ok : vOK own idx y bytes maxL ret n)
    (hF : 2 * lev + 1 ≤ R.frames) (hL : 8 + (maxL + 11) + 64 * lev ≤ R.locals) (hn : As.length = n) (hsz : ls.size = nL) (hstk : stk = As.reverse ++ .ref (h o) :: rest) (hW : (rest.map fun v => v.category).sum ≤ 8) (hdg : decode cc pc = .ok (.invokevirtual idx, 3)) (hf : cells ≤ R.cells ∧ slots ≤ R.slots)
    (kk : ∀ H locs, gG S D cy h A s st' H locs → W p l e R s m args below meth c H locs cells slots Q (F0 m (pc + 3) ls (.int r :: rest))) : W p l e R s m args below meth c H locs cells slots Q (F0 m pc ls stk) := by
  have hsub := gA_sub C G
  refine va_calli (g_runV C G (hM H.size) K hy hO ok hF hL hn hsz hstk hW hdg hf) G.2 (fun q _ h => hsub q h) hsub (fun r1 u t H1 locs1 ht hvm hw hB hz1 hk1 hS => ?_)
  subst hw
  rw [ht] at hB
  exact kk H1 locs1 ⟨hB, hS⟩
theorem g_callVl (C : gC p s m args c cc nL own S D cy h A) (G : gG S D cy h A s st H locs) {r : Int64} {o ci N : Nat} {Cn : String} {T : u_T} {ty : Nat → FieldType} (hM : gMl l S D cy h y bytes maxL ret lev st (.ref (h o) :: As) r st') (K : clsOK ci Cn T ty N) (hy : y.cls = Cn) (hO : cellO S o ci) (ok : vOK own idx y bytes maxL ret n)
    (hF : 2 * lev + 1 ≤ R.frames) (hL : 8 + (maxL + 11) + 64 * lev ≤ R.locals) (hn : As.length = n) (hsz : ls.size = nL) (hstk : stk = As.reverse ++ .ref (h o) :: rest) (hW : (rest.map fun v => v.category).sum ≤ 8) (hdg : decode cc pc = .ok (.invokevirtual idx, 3)) (hf : cells ≤ R.cells ∧ slots ≤ R.slots)
    (kk : ∀ H locs, gG S D cy h A s st' H locs → W p l e R s m args below meth c H locs cells slots Q (F0 m (pc + 3) ls (.long r :: rest))) : W p l e R s m args below meth c H locs cells slots Q (F0 m pc ls stk) := by
  have hsub := gA_sub C G
  refine va_calll (g_runV C G (hM H.size) K hy hO ok hF hL hn hsz hstk hW hdg hf) G.2 (fun q _ h => hsub q h) hsub (fun r1 u t H1 locs1 ht hvm hw hB hz1 hk1 hS => ?_)
  subst hw
  rw [ht] at hB
  exact kk H1 locs1 ⟨hB, hS⟩
theorem g_callVv (C : gC p s m args c cc nL own S D cy h A) (G : gG S D cy h A s st H locs) {o ci N : Nat} {Cn : String} {T : u_T} {ty : Nat → FieldType} (hM : gMv l S D cy h y bytes maxL ret lev st (.ref (h o) :: As) st') (K : clsOK ci Cn T ty N) (hy : y.cls = Cn) (hO : cellO S o ci) (ok : vOK own idx y bytes maxL ret n)
    (hF : 2 * lev + 1 ≤ R.frames) (hL : 8 + (maxL + 11) + 64 * lev ≤ R.locals) (hn : As.length = n) (hsz : ls.size = nL) (hstk : stk = As.reverse ++ .ref (h o) :: rest) (hW : (rest.map fun v => v.category).sum ≤ 8) (hdg : decode cc pc = .ok (.invokevirtual idx, 3)) (hf : cells ≤ R.cells ∧ slots ≤ R.slots)
    (kk : ∀ H locs, gG S D cy h A s st' H locs → W p l e R s m args below meth c H locs cells slots Q (F0 m (pc + 3) ls rest)) : W p l e R s m args below meth c H locs cells slots Q (F0 m pc ls stk) := by
  have hsub := gA_sub C G
  refine va_callv (g_runV C G (hM H.size) K hy hO ok hF hL hn hsz hstk hW hdg hf) G.2 (fun q _ h => hsub q h) hsub (fun u t H1 locs1 ht hvm hw hB hz1 hk1 hS => ?_)
  rw [ht] at hB
  exact kk H1 locs1 ⟨hB, hS⟩
theorem g_callSi (C : gC p s m args c cc nL own S D cy h A) (G : gG S D cy h A s st H locs) {r : Int32} (hM : gMi l S D cy h y bytes maxL ret lev st As r st') (ok : sOK own idx y bytes maxL ret n)
    (hF : 2 * lev + 1 ≤ R.frames) (hL : 8 + (maxL + 11) + 64 * lev ≤ R.locals) (hn : As.length = n) (hsz : ls.size = nL) (hstk : stk = As.reverse ++ rest) (hW : (rest.map fun v => v.category).sum ≤ 8) (hdg : decode cc pc = .ok (.invokestatic idx, 3)) (hf : cells ≤ R.cells ∧ slots ≤ R.slots)
    (kk : ∀ H locs, gG S D cy h A s st' H locs → W p l e R s m args below meth c H locs cells slots Q (F0 m (pc + 3) ls (.int r :: rest))) : W p l e R s m args below meth c H locs cells slots Q (F0 m pc ls stk) := by
  have hsub := gA_sub C G
  refine va_calli (g_runS C G (hM H.size) ok hF hL hn hsz hstk hW hdg hf) G.2 (fun q _ h => hsub q h) hsub (fun r1 u t H1 locs1 ht hvm hw hB hz1 hk1 hS => ?_)
  subst hw
  rw [ht] at hB
  exact kk H1 locs1 ⟨hB, hS⟩
theorem g_callSv (C : gC p s m args c cc nL own S D cy h A) (G : gG S D cy h A s st H locs) (hM : gMv l S D cy h y bytes maxL ret lev st As st') (ok : sOK own idx y bytes maxL ret n)
    (hF : 2 * lev + 1 ≤ R.frames) (hL : 8 + (maxL + 11) + 64 * lev ≤ R.locals) (hn : As.length = n) (hsz : ls.size = nL) (hstk : stk = As.reverse ++ rest) (hW : (rest.map fun v => v.category).sum ≤ 8) (hdg : decode cc pc = .ok (.invokestatic idx, 3)) (hf : cells ≤ R.cells ∧ slots ≤ R.slots)
    (kk : ∀ H locs, gG S D cy h A s st' H locs → W p l e R s m args below meth c H locs cells slots Q (F0 m (pc + 3) ls rest)) : W p l e R s m args below meth c H locs cells slots Q (F0 m pc ls stk) := by
  have hsub := gA_sub C G
  refine va_callv (g_runS C G (hM H.size) ok hF hL hn hsz hstk hW hdg hf) G.2 (fun q _ h => hsub q h) hsub (fun u t H1 locs1 ht hvm hw hB hz1 hk1 hS => ?_)
  rw [ht] at hB
  exact kk H1 locs1 ⟨hB, hS⟩
-- the ends
theorem g_iret (C : gC p s m args c cc nL own S D cy h A) (G : gG S D cy h A s st H locs) {v : Int32} (hr : meth.sig.returnType = some .int) (hlocks : meth.locks = false) (hdg : decode cc pc = .ok (.ireturn, 1)) : W p l e R s m args below meth c H locs 0 0 (MQ below (gQi S D cy h A v st) args s 0 0 A) (F0 m pc ls [.int v]) := by
  obtain ⟨hx, hb, -⟩ := C
  exact W.iret hx hb hr (fun t ht hW => ⟨⟨v, (), rfl, rfl, by show va_P _ _ _ t.heap; rw [ht]; exact G.1⟩, G.2.F ht⟩) G.2.2.2 hdg hlocks
theorem g_zret (C : gC p s m args c cc nL own S D cy h A) (G : gG S D cy h A s st H locs) {v : Int32} (hv : v = 0 ∨ v = 1) (hr : meth.sig.returnType = some .boolean) (hlocks : meth.locks = false) (hdg : decode cc pc = .ok (.ireturn, 1)) : W p l e R s m args below meth c H locs 0 0 (MQ below (gQi S D cy h A v st) args s 0 0 A) (F0 m pc ls [.int v]) := by
  obtain ⟨hx, hb, -⟩ := C
  exact W.zret hx hb hr (by rcases hv with rfl | rfl <;> rfl) (fun t ht hW => ⟨⟨v, (), rfl, rfl, by show va_P _ _ _ t.heap; rw [ht]; exact G.1⟩, G.2.F ht⟩) G.2.2.2 hdg hlocks
theorem g_lret (C : gC p s m args c cc nL own S D cy h A) (G : gG S D cy h A s st H locs) {v : Int64} (hr : meth.sig.returnType = some .long) (hlocks : meth.locks = false) (hdg : decode cc pc = .ok (.lreturn, 1)) : W p l e R s m args below meth c H locs 0 0 (MQ below (gQl S D cy h A v st) args s 0 0 A) (F0 m pc ls [.long v]) := by
  obtain ⟨hx, hb, -⟩ := C
  exact W.lret hx hb hr (fun t ht hW => ⟨⟨v, (), rfl, rfl, by show va_P _ _ _ t.heap; rw [ht]; exact G.1⟩, G.2.F ht⟩) G.2.2.2 hdg hlocks
theorem g_vret (C : gC p s m args c cc nL own S D cy h A) (G : gG S D cy h A s st H locs) (hr : meth.sig.returnType = none) (hlocks : meth.locks = false) (hdg : decode cc pc = .ok (.return_, 1)) : W p l e R s m args below meth c H locs 0 0 (MQ below (gQv S D cy h A st) args s 0 0 A) (F0 m pc ls []) := by
  obtain ⟨hx, hb, -⟩ := C
  exact W.vret hx hb hr (fun t ht hW => ⟨⟨(), rfl, trivial, by show va_P _ _ _ t.heap; rw [ht]; exact G.1⟩, G.2.F ht⟩) G.2.2.2 hdg hlocks
end GC
-- the beginnings
theorem g_start {l : Launch} {S : Shape} {D : va_G} {cy : ClassId} {h : Nat → Nat} {y : MethodName} {cc : ByteArray} {maxL : Nat} {ret : Option FieldType} {lev : Nat} {st : GS} {av : List Value} {Qc : (Nat → Prop) → Array Value → State → Outcome → State → Prop} (hy : plainName y.cls = true) (hle : (lg_sl av).length ≤ maxL)
    (body : ∀ (p : Program) (e : Env) (s : State) (m : MethodId) (args : Array Value) (below : List Frame) (meth : Method) (c : Code) (A : Nat → Prop) (ls : Array Slot), gC p s m args c cc maxL y.cls S D cy h A → meth.sig.returnType = ret → meth.locks = false → gG S D cy h A s st s.heap [] → lv_has ls maxL (lv_args 0 av) → W p l e (gR lev) s m args below meth c s.heap [] 0 0 (MQ below (Qc A) args s 0 0 A) (F0 m 0 ls [])) :
    ∀ sz, Met l y (Cond.code y cc maxL ret :: tb) (gR lev) (gPc S D cy h sz st av) (Qc (gA S h sz)) 0 0 (gA S h sz) := by
  intro sz
  refine Met.ofW (cc := cc) (maxL := maxL) (ret := ret) hy rfl ?_
  intro p e s m args below meth c s₁ B hml hv
  obtain ⟨rfl, hsz, hP, hK, hD0, hN⟩ := hv
  subst hsz
  have hts := atoms_spec (ws := Cond.code y cc maxL ret :: tb) B.pre
  have hl := lv_entry av (n := maxL) hle
  rw [lg_entry_eq]
  have hA : ∀ k, k < S.1 → gA S h s.heap.size (h k) := fun k hk => Or.inl ⟨k, hk, rfl⟩
  exact body p e s m _ below meth c (gA S h s.heap.size) _ ⟨B.exec, B.bytes, hml, findClass_of_methodNamed B.named, fun w hw => hts w (List.mem_cons_of_mem _ hw), hK, gD_any hD0 hA, hN, fun _ h => h⟩ B.returns B.notSynchronized ⟨hP, va_S.rf⟩ hl
theorem gMi_of {l : Launch} {S : Shape} {D : va_G} {cy : ClassId} {h : Nat → Nat} {y : MethodName} {cc : ByteArray} {maxL : Nat} {ret : Option FieldType} {lev : Nat} {st st' : GS} {av : List Value} {r : Int32} (hy : plainName y.cls = true) (hle : (lg_sl av).length ≤ maxL)
    (body : ∀ (p : Program) (e : Env) (s : State) (m : MethodId) (args : Array Value) (below : List Frame) (meth : Method) (c : Code) (A : Nat → Prop) (ls : Array Slot), gC p s m args c cc maxL y.cls S D cy h A → meth.sig.returnType = ret → meth.locks = false → gG S D cy h A s st s.heap [] → lv_has ls maxL (lv_args 0 av) → W p l e (gR lev) s m args below meth c s.heap [] 0 0 (MQ below (gQi S D cy h A r st') args s 0 0 A) (F0 m 0 ls [])) :
    gMi l S D cy h y cc maxL ret lev st av r st' := g_start (Qc := fun A => gQi S D cy h A r st') hy hle body
theorem gMl_of {l : Launch} {S : Shape} {D : va_G} {cy : ClassId} {h : Nat → Nat} {y : MethodName} {cc : ByteArray} {maxL : Nat} {ret : Option FieldType} {lev : Nat} {st st' : GS} {av : List Value} {r : Int64} (hy : plainName y.cls = true) (hle : (lg_sl av).length ≤ maxL)
    (body : ∀ (p : Program) (e : Env) (s : State) (m : MethodId) (args : Array Value) (below : List Frame) (meth : Method) (c : Code) (A : Nat → Prop) (ls : Array Slot), gC p s m args c cc maxL y.cls S D cy h A → meth.sig.returnType = ret → meth.locks = false → gG S D cy h A s st s.heap [] → lv_has ls maxL (lv_args 0 av) → W p l e (gR lev) s m args below meth c s.heap [] 0 0 (MQ below (gQl S D cy h A r st') args s 0 0 A) (F0 m 0 ls [])) :
    gMl l S D cy h y cc maxL ret lev st av r st' := g_start (Qc := fun A => gQl S D cy h A r st') hy hle body
theorem gMv_of {l : Launch} {S : Shape} {D : va_G} {cy : ClassId} {h : Nat → Nat} {y : MethodName} {cc : ByteArray} {maxL : Nat} {ret : Option FieldType} {lev : Nat} {st st' : GS} {av : List Value} (hy : plainName y.cls = true) (hle : (lg_sl av).length ≤ maxL)
    (body : ∀ (p : Program) (e : Env) (s : State) (m : MethodId) (args : Array Value) (below : List Frame) (meth : Method) (c : Code) (A : Nat → Prop) (ls : Array Slot), gC p s m args c cc maxL y.cls S D cy h A → meth.sig.returnType = ret → meth.locks = false → gG S D cy h A s st s.heap [] → lv_has ls maxL (lv_args 0 av) → W p l e (gR lev) s m args below meth c s.heap [] 0 0 (MQ below (gQv S D cy h A st') args s 0 0 A) (F0 m 0 ls [])) :
    gMv l S D cy h y cc maxL ret lev st av st' := g_start (Qc := fun A => gQv S D cy h A st') hy hle body
-- THE FUNCTIONS' OWN WORDS: what the walked methods compute, in Option
def bI1 {α β : Type} (x : Option α) (k : α → Option β) : Option β := match x with
  | none => none
  | some a => k a
def bI2 {α β γ : Type} (x : Option (α × β)) (k : α → β → Option γ) : Option γ := match x with
  | none => none
  | some q => k q.1 q.2
def bI3 {α β γ δ : Type} (x : Option (α × β × γ)) (k : α → β → γ → Option δ) : Option δ := match x with
  | none => none
  | some q => k q.1 q.2.1 q.2.2
def bI4 {α β γ δ ε : Type} (x : Option (α × β × γ × δ)) (k : α → β → γ → δ → Option ε) : Option ε := match x with
  | none => none
  | some q => k q.1 q.2.1 q.2.2.1 q.2.2.2
def bI5 {α β γ δ ε ζ : Type} (x : Option (α × β × γ × δ × ε)) (k : α → β → γ → δ → ε → Option ζ) : Option ζ := match x with
  | none => none
  | some q => k q.1 q.2.1 q.2.2.1 q.2.2.2.1 q.2.2.2.2
def bI6 {α β γ δ ε η ζ : Type} (x : Option (α × β × γ × δ × ε × η)) (k : α → β → γ → δ → ε → η → Option ζ) : Option ζ := match x with
  | none => none
  | some q => k q.1 q.2.1 q.2.2.1 q.2.2.2.1 q.2.2.2.2.1 q.2.2.2.2.2
theorem bI1_some {α β : Type} {x : Option α} {k : α → Option β} {r : β} (h : bI1 x k = some r) : ∃ a, x = some a ∧ k a = some r := by
  cases x with
  | none => cases h
  | some q => exact ⟨_, rfl, h⟩
theorem bI2_some {α β γ : Type} {x : Option (α × β)} {k : α → β → Option γ} {r : γ} (h : bI2 x k = some r) : ∃ a b, x = some (a, b) ∧ k a b = some r := by
  cases x with
  | none => cases h
  | some q => exact ⟨_, _, rfl, h⟩
theorem bI3_some {α β γ δ : Type} {x : Option (α × β × γ)} {k : α → β → γ → Option δ} {r : δ} (h : bI3 x k = some r) : ∃ a b c, x = some (a, b, c) ∧ k a b c = some r := by
  cases x with
  | none => cases h
  | some q => exact ⟨_, _, _, rfl, h⟩
theorem bI4_some {α β γ δ ε : Type} {x : Option (α × β × γ × δ)} {k : α → β → γ → δ → Option ε} {r : ε} (h : bI4 x k = some r) : ∃ a b c d, x = some (a, b, c, d) ∧ k a b c d = some r := by
  cases x with
  | none => cases h
  | some q => exact ⟨_, _, _, _, rfl, h⟩
theorem bI5_some {α β γ δ ε ζ : Type} {x : Option (α × β × γ × δ × ε)} {k : α → β → γ → δ → ε → Option ζ} {r : ζ} (h : bI5 x k = some r) : ∃ a b c d e, x = some (a, b, c, d, e) ∧ k a b c d e = some r := by
  cases x with
  | none => cases h
  | some q => exact ⟨_, _, _, _, _, rfl, h⟩
theorem bI6_some {α β γ δ ε η ζ : Type} {x : Option (α × β × γ × δ × ε × η)} {k : α → β → γ → δ → ε → η → Option ζ} {r : ζ} (h : bI6 x k = some r) : ∃ a b c d e f, x = some (a, b, c, d, e, f) ∧ k a b c d e f = some r := by
  cases x with
  | none => cases h
  | some q => exact ⟨_, _, _, _, _, _, rfl, h⟩
def lt_ {α β : Type} (e : α) (k : α → Option β) : Option β := k e
theorem lt_some {α β : Type} {e y : α} {k : α → Option β} {r : β} (ey : y = e) (h : lt_ e k = some r) : k y = some r := by subst ey; exact h
theorem ifP {α : Type} {c : Prop} [Decidable c] {a b : Option α} {r : α} (hc : c) (h : (if c then a else b) = some r) : a = some r := by rwa [if_pos hc] at h
theorem ifN {α : Type} {c : Prop} [Decidable c] {a b : Option α} {r : α} (hc : ¬ c) (h : (if c then a else b) = some r) : b = some r := by rwa [if_neg hc] at h
/-- an index is within, else nothing -/
def gd {β : Type} (i : Int32) (n : Nat) (k : Option β) : Option β := if i < 0 then none else if i.toNatClampNeg < n then k else none
theorem gd_some {β : Type} {i : Int32} {n : Nat} {k : Option β} {r : β} (h : gd i n k = some r) : vp_in i n ∧ k = some r := by
  unfold gd at h
  split at h
  · cases h
  · split at h
    · exact ⟨fun q => q.elim (by assumption) (fun q => by omega), h⟩
    · cases h
/-- a condition that the walk needs, else nothing -/
def gq {β : Type} (c : Prop) [Decidable c] (k : Option β) : Option β := if c then k else none
theorem gq_some {β : Type} {c : Prop} [Decidable c] {k : Option β} {r : β} (h : gq c k = some r) : c ∧ k = some r := by
  unfold gq at h
  split at h
  · exact ⟨by assumption, h⟩
  · cases h
/-- a loop: the body goes on with a state, or ends with an answer -/
def lp {σ ρ : Type} (b : σ → Option (σ ⊕ ρ)) : Nat → σ → Option ρ
  | 0, _ => none
  | n + 1, s => match b s with
    | none => none
    | some (.inl s') => lp b n s'
    | some (.inr r) => some r
theorem lp_mono {σ ρ : Type} {b : σ → Option (σ ⊕ ρ)} {n : Nat} {s : σ} {r : ρ} (h : lp b n s = some r) : ∀ k, lp b (n + k) s = some r := by
  intro k
  induction n generalizing s with
  | zero => cases h
  | succ n ih =>
    rw [Nat.succ_add]
    unfold lp at h ⊢
    cases hb : b s with
    | none => rw [hb] at h; cases h
    | some q =>
      rw [hb] at h
      cases q with
      | inl s' => exact ih h
      | inr r' => exact h
theorem lp_det {σ ρ : Type} {b : σ → Option (σ ⊕ ρ)} {n m : Nat} {s : σ} {r r' : ρ} (h : lp b n s = some r) (h' : lp b m s = some r') : r = r' := by
  have h1 := lp_mono h m
  have h2 := lp_mono h' n
  rw [Nat.add_comm] at h2
  rw [h1] at h2
  exact Option.some.inj h2
noncomputable def lpx {σ ρ : Type} (b : σ → Option (σ ⊕ ρ)) (s : σ) : Option ρ := Classical.epsilon (fun o : Option ρ => (∃ n, lp b n s = o ∧ o ≠ none) ∨ ((∀ n, lp b n s = none) ∧ o = none))
theorem lpx_spec {σ ρ : Type} (b : σ → Option (σ ⊕ ρ)) (s : σ) : (∃ n, lp b n s = lpx b s ∧ lpx b s ≠ none) ∨ ((∀ n, lp b n s = none) ∧ lpx b s = none) := by
  have hex : ∃ o : Option ρ, (∃ n, lp b n s = o ∧ o ≠ none) ∨ ((∀ n, lp b n s = none) ∧ o = none) := by
    by_cases h : ∃ n, lp b n s ≠ none
    · obtain ⟨n, hn⟩ := h
      exact ⟨_, Or.inl ⟨n, rfl, hn⟩⟩
    · exact ⟨none, Or.inr ⟨fun n => Classical.byContradiction (fun q => h ⟨n, q⟩), rfl⟩⟩
  exact Classical.epsilon_spec hex
theorem lpx_some {σ ρ : Type} {b : σ → Option (σ ⊕ ρ)} {s : σ} {r : ρ} (h : lpx b s = some r) : ∃ n, lp b n s = some r := by
  rcases lpx_spec b s with ⟨n, h1, -⟩ | ⟨-, h2⟩
  · exact ⟨n, h1.trans h⟩
  · rw [h] at h2; cases h2
theorem lpx_of {σ ρ : Type} {b : σ → Option (σ ⊕ ρ)} {s : σ} {r : ρ} {n : Nat} (h : lp b n s = some r) : lpx b s = some r := by
  rcases lpx_spec b s with ⟨m, h1, h2⟩ | ⟨h1, -⟩
  · cases hq : lpx b s with
    | none => exact absurd hq h2
    | some r' => rw [hq] at h1; rw [lp_det h1 h]
  · rw [h1 n] at h; cases h
theorem lpx_go {σ ρ : Type} {b : σ → Option (σ ⊕ ρ)} {s s' : σ} (h : b s = some (.inl s')) : lpx b s = lpx b s' := by
  cases hq : lpx b s' with
  | some r =>
    obtain ⟨n, hn⟩ := lpx_some hq
    exact lpx_of (n := n + 1) (by unfold lp; rw [h]; exact hn)
  | none =>
    cases hz : lpx b s with
    | none => rfl
    | some r =>
      obtain ⟨n, hn⟩ := lpx_some hz
      cases n with
      | zero => cases hn
      | succ n =>
        unfold lp at hn
        rw [h] at hn
        rw [lpx_of hn] at hq
        cases hq
theorem lpx_end {σ ρ : Type} {b : σ → Option (σ ⊕ ρ)} {s : σ} {r : ρ} (h : b s = some (.inr r)) : lpx b s = some r := lpx_of (n := 1) (by unfold lp; rw [h])
theorem lp_s {σ ρ : Type} {b : σ → Option (σ ⊕ ρ)} {n : Nat} {s : σ} {r : ρ} (h : lp b (n + 1) s = some r) : (∃ s', b s = some (.inl s') ∧ lp b n s' = some r) ∨ b s = some (.inr r) := by
  unfold lp at h
  cases hb : b s with
  | none => rw [hb] at h; cases h
  | some q =>
    rw [hb] at h
    cases q with
    | inl s' => exact Or.inl ⟨s', rfl, h⟩
    | inr r' => exact Or.inr (by rw [Option.some.inj h])
