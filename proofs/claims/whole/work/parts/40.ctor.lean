-- THE MAKING of objects: worlds that grow at their end
def z0 : GS := (fun _ _ => 0, 0)
def nR (lev mc ms : Nat) : Room := { frames := 2 * lev, cells := mc, slots := ms, locals := 64 * lev }
/-- the fixed things in a constructor's walk -/
def nC (p : Program) (s : State) (m : MethodId) (args : Array Value) (meth : Method) (c : Code) (cc : ByteArray) (nL : Nat) (own : String) (D : va_G) (cy : ClassId) (A : Nat → Prop) : Prop :=
  p.tables.exec = Jvm.exec ∧ c.code = cc ∧ c.maxLocals = nL ∧ s.vm.findClass own = some m.cls ∧ (∀ w ∈ tb, w.before args s = true) ∧ va_K D vwCl [(cy, .int)] s ∧ (∀ q, s.heap.size ≤ q → A q) ∧ (∀ w ∈ nw, va_Nw w s) ∧ meth.name = "<init>"
/-- what moves -/
def nG (D : va_G) (A : Nat → Prop) (s : State) (ws : va_W) (H : Heap) (locs : List Loc) : Prop := va_P D vwCl ws H ∧ va_D A ws ∧ va_S A s.heap H locs
/-- a constructor's start: its own cell, as it was born -/
def nPc (D : va_G) (cy : ClassId) (q sz : Nat) (e0 : va_E) : Array Value → State → Prop :=
  va_Pc [.ref q] (fun U => U.heap.size = sz ∧ va_P D vwCl [(q, e0)] U.heap ∧ va_K D vwCl [(cy, .int)] U ∧ va_D (fun _ => True) [(q, e0)] ∧ (∀ w ∈ nw, va_Nw w U))
/-- its end: a system of cells of a shape, at new addresses but for the first -/
def nQ (S : Shape) (D : va_G) (cy : ClassId) (q : Nat) (st : GS) (A : Nat → Prop) : Array Value → State → Outcome → State → Prop :=
  va_Qv (fun u : Nat → Nat => u 0 = q) (fun u t => va_P D vwCl (gW S cy u st) t.heap ∧ va_D A (gW S cy u st)) A
def nM (l : Launch) (S : Shape) (D : va_G) (cy : ClassId) (y : MethodName) (cc : ByteArray) (lev mc ms q : Nat) (e0 : va_E) (st : GS) : Prop := ∀ sz, Met l y (Cond.code y cc 1 none :: tb) (nR lev mc ms) (nPc D cy q sz e0) (nQ S D cy q st (va_A [(q, e0)] sz)) mc ms (va_A [(q, e0)] sz)
theorem nPc_blind {D : va_G} {cy : ClassId} {q sz : Nat} {e0 : va_E} : FrameBlind (nPc D cy q sz e0) := by
  intro a U g mk z
  obtain ⟨q0, q1, qP, qK, qD, qN⟩ := z
  exact ⟨q0, q1, qP, va_K.moved (u := U) (U := U.calling g mk a) (Vm.Alike.refl U.vm) qK, qD, fun w hw => va_Nw.same (isNest_tab (List.mem_filter.mp hw).2) (u := U) (U := U.calling g mk a) rfl (qN w hw)⟩
/-- behind the making of the last cell -/
theorem joinLast {A0 : Nat → Prop} {D : va_G} {cl : List vw_C} {wr w1 : va_W} {x : Nat × va_E} {H H1 : Heap} (hP : va_P D cl (wr ++ [x]) H) (hD : va_D A0 (wr ++ [x])) (hk : ∀ q : Nat, q < H.size → ¬ va_A [x] H.size q → H1[q]? = H[q]?) (hF : ∀ q, va_A [x] H.size q → A0 q) (hP1 : va_P D cl w1 H1) (hD1 : va_D (va_A [x] H.size) w1) : va_P D cl (wr ++ w1) H1 ∧ va_D A0 (wr ++ w1) := by
  have hR : (List.range wr.length).map (fun i => (wr ++ [x])[i]?) = wr.map some := by
    apply List.ext_getElem?
    intro i
    by_cases hi : i < wr.length
    · simp [hi, List.getElem?_append_left hi]
    · rw [List.getElem?_eq_none (by simp; omega), List.getElem?_eq_none (by simp; omega)]
  have hn : ∀ n, va_nd (List.range n) = true := by
    intro n
    have : ∀ l : List Nat, l.Nodup → va_nd l = true := by
      intro l hl
      induction l with
      | nil => rfl
      | cons a l ih =>
        have h2 := List.nodup_cons.mp hl
        simp [va_nd, h2.1, ih h2.2]
    exact this _ List.nodup_range
  refine va_join (wc := [x]) hP hD [wr.length] (List.range wr.length) (by simp) hR (hn _) (fun i hi h2 => ?_) hk hF hP1 hD1
  have h3 := List.mem_range.mp hi
  have h4 : i = wr.length := by simpa using h2
  omega
section NR
variable {p : Program} {l : Launch} {e : Env} {R : Room} {s : State} {m : MethodId} {args : Array Value} {below : List Frame} {meth : Method} {c : Code} {H : Heap} {locs : List Loc} {cells slots : Nat} {Q : State → Prop}
variable {cc bytes : ByteArray} {pc nL idx lev mc ms : Nat} {ls : Array Slot} {rest : List Value} {D : va_G} {A : Nat → Prop} {own : String} {cy : ClassId} {ws tl : va_W} {y : MethodName}
theorem n_obj (C : nC p s m args meth c cc nL own D cy A) {q : Nat} (hl : ls.size = nL) (hlink : Cond.methodLink own idx Lib.objectInit ∈ tb) (hinst : Cond.instanceMethod Lib.objectInit ∈ tb) (hcode : Cond.code Lib.objectInit ⟨#[0xb1]⟩ 1 none ∈ tb) (hdg : decode cc pc = .ok (.invokespecial idx, 3)) (hF : 1 ≤ R.frames) (hL : (rest.map fun v => v.category).sum + 12 ≤ R.locals)
    (kk : W p l e R s m args below meth c H locs cells slots Q (F0 m (pc + 3) ls rest)) : W p l e R s m args below meth c H locs cells slots Q (F0 m pc ls (.ref q :: rest)) := by
  obtain ⟨hx, hb, hml, hown, hts, -⟩ := C
  exact W.objInit hx hb hown (hts _ hlink) (hts _ hinst) (hts _ hcode) rfl (by rw [hml]; exact hl) rfl hdg hF (by show 2 * 0 + _ + 12 ≤ _; omega) kk
theorem n_newa (C : nC p s m args meth c cc nL own D cy A) (G : nG D A s ws H locs) {n : Int32} {N : Nat} (harr : Cond.arrayClass .int ∈ tb) (hn : ¬ n < 0) (hN : n.toNatClampNeg = N) (hb9 : N * componentBytes .int ≤ 536870912) (hc : cells + 1 ≤ R.cells) (hs : slots + N ≤ R.slots) (hdg : decode cc pc = .ok (.newarray .int, 2))
    (kk : ∀ (q : Nat) (H : Heap), nG D A s (ws ++ [(q, .inl (cy, N, .inl (fun _ => 0)))]) H locs → W p l e R s m args below meth c H locs (cells + 1) (slots + N) Q (F0 m (pc + 2) ls (.ref q :: rest))) : W p l e R s m args below meth c H locs cells slots Q (F0 m pc ls (.int n :: rest)) := by
  obtain ⟨hx, hb, hml, hown, hts, hK, hA, -⟩ := C
  refine va_newa (atype := .int) (ty := .int) (a0 := (N, .inl (fun _ => 0))) hx hb (hts _ harr) rfl hK G.1 G.2.1 G.2.2 hA (fun cA => rfl) hn hN hb9 hc hs hdg (fun q cA H1 hK1 hP hD hS => ?_)
  have e1 := (hK1.2 0 (cy, .int) rfl).2
  have e2 := (hK1.2 1 (cA, .int) rfl).2
  have hcy : cA = cy := Option.some.inj (e2.symm.trans e1)
  subst hcy
  exact kk q H1 ⟨hP, hD, hS⟩
theorem n_putF (C : nC p s m args meth c cc nL own D cy A) {o : Nat} {fs : List Value} {ci : Nat} (G : nG D A s ((o, .inr (ci, fs)) :: tl) H locs) {j N : Nat} {Cn : String} {T : u_T} {ty : Nat → FieldType} {v : Value} (K : clsOK ci Cn T ty N) (hj : j < N) (hlink : Cond.fieldLink own idx (T j).1 (T j).2.1 (T j).2.2.1 ∈ tb) (hfin : (T j).2.2.2 = true) (hdecl : (T j).1 = own) (hn : narrow (ty j) v = v) (hfit : fits (ty j) v = true) (hl : j < fs.length) (hdg : decode cc pc = .ok (.putfield idx, 3))
    (kk : ∀ H locs, nG D A s ((o, .inr (ci, fs.set j v)) :: tl) H locs → W p l e R s m args below meth c H locs cells slots Q (F0 m (pc + 3) ls rest)) : W p l e R s m args below meth c H locs cells slots Q (F0 m pc ls (v :: .ref o :: rest)) := by
  obtain ⟨hx, hb, hml, hown, hts, hK, hA, -, hin⟩ := C
  obtain ⟨k1, k2, k3, k4, k5, k6⟩ := K
  exact va_putF hx hb hts k4 ty k5 k6 hown hK G.1 G.2.1 G.2.2 0 rfl k1 j hj (hts _ hlink) (fun _ h9 => h9) hfin hin hdecl (k5 j hj) hn hfit hl hdg (fun H1 locs1 hP hD hS => kk H1 locs1 ⟨hP, hD, hS⟩)
theorem n_put (C : nC p s m args meth c cc nL own D cy A) {o : Nat} {fs : List Value} {ci : Nat} (G : nG D A s ((o, .inr (ci, fs)) :: tl) H locs) {j N : Nat} {Cn : String} {T : u_T} {ty : Nat → FieldType} {v : Value} (K : clsOK ci Cn T ty N) (hj : j < N) (hlink : Cond.fieldLink own idx (T j).1 (T j).2.1 (T j).2.2.1 ∈ tb) (hfin : (T j).2.2.2 = false) (hn : narrow (ty j) v = v) (hfit : fits (ty j) v = true) (hl : j < fs.length) (hdg : decode cc pc = .ok (.putfield idx, 3))
    (kk : ∀ H locs, nG D A s ((o, .inr (ci, fs.set j v)) :: tl) H locs → W p l e R s m args below meth c H locs cells slots Q (F0 m (pc + 3) ls rest)) : W p l e R s m args below meth c H locs cells slots Q (F0 m pc ls (v :: .ref o :: rest)) := by
  obtain ⟨hx, hb, hml, hown, hts, hK, hA, -, hin⟩ := C
  obtain ⟨k1, k2, k3, k4, k5, k6⟩ := K
  exact va_put hx hb hts k4 ty k5 k6 hown hK G.1 G.2.1 G.2.2 0 rfl k1 j hj (hts _ hlink) (fun _ h9 => h9) hfin (k5 j hj) hn hfit hl hdg (fun H1 locs1 hP hD hS => kk H1 locs1 ⟨hP, hD, hS⟩)
theorem n_new (C : nC p s m args meth c cc nL own D cy A) (G : nG D A s ws H locs) {ci N : Nat} {Cn : String} {T : u_T} {ty : Nat → FieldType} (K : clsOK ci Cn T ty N) {fs : List Value} (hcl : Cond.classLink own idx Cn ∈ tb) (hinst : Cond.instantiable Cn N ∈ tb) (hini : Cond.initialized Cn ∈ tb) (hfs : ∀ j, j < N → defaultValue (ty j) = vp_V fs j) (hc : cells + 1 ≤ R.cells) (hs : slots + N ≤ R.slots) (hdg : decode cc pc = .ok (.new idx, 3))
    (kk : ∀ (q : Nat) (H : Heap), nG D A s (ws ++ [(q, .inr (ci, fs))]) H locs → W p l e R s m args below meth c H locs (cells + 1) (slots + N) Q (F0 m (pc + 3) ls (.ref q :: rest))) : W p l e R s m args below meth c H locs cells slots Q (F0 m pc ls rest) := by
  obtain ⟨hx, hb, hml, hown, hts, hK, hA, -, hin⟩ := C
  obtain ⟨k1, k2, k3, k4, k5, k6⟩ := K
  exact va_new hx hb hts k4 ty k5 hown (hts _ hcl) (hts _ hinst) (hts _ hini) hK G.1 G.2.1 G.2.2 hA k1 hfs hc hs hdg (fun q H1 hP hD hS => kk q H1 ⟨hP, hD, hS⟩)
/-- a nest mate's constructor, on the last cell -/
theorem n_init (C : nC p s m args meth c cc nL own D cy A) {wr : va_W} {q : Nat} {e0 : va_E} (G : nG D A s (wr ++ [(q, e0)]) H locs) {S : Shape} {host : String} {st : GS} (hM : nM l S D cy y bytes lev mc ms q e0 st) (hlink : Cond.methodLinkNest own idx y host ∈ nw) (hcode : Cond.code y bytes 1 none ∈ tb) (hinst : Cond.instanceMethod y ∈ tb) (hini : Cond.initialized y.cls ∈ tb) (hy : y.name = "<init>") (hd : y.cls ≠ "java/lang/invoke/MethodHandle" ∧ y.cls ≠ "java/lang/invoke/VarHandle" ∧ (parseMethodDescriptor y.desc).map (fun d => d.parameters.length) = some 0)
    (hF : 2 * lev + 1 ≤ R.frames) (hL : 8 + (1 + 11) + 64 * lev ≤ R.locals) (hsz : ls.size = nL) (hW : (rest.map fun v => v.category).sum ≤ 8) (hdg : decode cc pc = .ok (.invokespecial idx, 3)) (hf : cells + mc ≤ R.cells ∧ slots + ms ≤ R.slots)
    (kk : ∀ (u : Nat → Nat) H locs, u 0 = q → nG D A s (wr ++ gW S cy u st) H locs → W p l e R s m args below meth c H locs (cells + mc) (slots + ms) Q (F0 m (pc + 3) ls rest)) : W p l e R s m args below meth c H locs cells slots Q (F0 m pc ls (.ref q :: rest)) := by
  obtain ⟨hx, hb, hml, hown, hts, hK, hA, hN, hin⟩ := C
  obtain ⟨hP, hD, hS⟩ := G
  have hat : (wr ++ [(q, e0)])[wr.length]? = some (q, e0) := by simp
  have hPc : va_P D vwCl [(q, e0)] H := fun k x hx => by
    have hk : k = 0 := by
      have := (List.getElem?_eq_some_iff.mp hx).1
      simp at this; exact this
    subst hk
    cases hx
    exact hP _ _ hat
  have hDc : va_D (fun _ => True) [(q, e0)] := ⟨fun i j x y hi hj _ => by
    have h1 := (List.getElem?_eq_some_iff.mp hi).1
    have h2 := (List.getElem?_eq_some_iff.mp hj).1
    simp at h1 h2
    omega, fun _ _ _ => trivial⟩
  have hFc := va_free (wc := [(q, e0)]) hD hS hA [wr.length] (by simp)
  have cw : va_CN R s args own idx y host bytes 1 none (Cond.code y bytes 1 none :: tb) (nR lev mc ms) mc ms 0 := va_cnB (Ts := tb) (ws' := tb) 0 hts (tb_good (fun _ h => h) (fun w hw => tb_code (ws := []) hcode hw)) rfl rfl rfl (hN _ hlink) (hts _ hini) hd ⟨hF, hL⟩
  refine va_callv (va_runIN (n := 0) (As := []) (rest := rest) ⟨hx, hb, hml, hown, hts⟩ (hM H.size) ⟨cw, hy, hts _ hinst⟩ ⟨nPc_blind, fun U hU hW => ⟨rfl, by rw [hU], by rw [hU]; exact hPc, va_K.moved hW.alike hK, hDc, fun w hw => nw_warm (List.mem_filter.mp hw).2 hW (hN w hw)⟩⟩ rfl rfl hsz rfl (lv_room hW) hdg hf) hS (fun q _ h => hFc q h) hFc (fun u t H1 locs1 ht hvm hw hB hz1 hk1 hS => ?_)
  obtain ⟨hP1, hD1⟩ := hB
  rw [ht] at hP1
  obtain ⟨hP2, hD2⟩ := joinLast hP hD hk1 hFc hP1 hD1
  exact kk u H1 locs1 hw ⟨hP2, hD2, hS⟩
theorem n_ret (C : nC p s m args meth c cc nL own D cy A) (G : nG D A s ws H locs) {S : Shape} {q : Nat} {st : GS} (u : Nat → Nat) (hu : u 0 = q) (hw : ws = gW S cy u st) (hr : meth.sig.returnType = none) (hlocks : meth.locks = false) (hc : cells ≤ mc) (hs : slots ≤ ms) (hdg : decode cc pc = .ok (.return_, 1)) : W p l e R s m args below meth c H locs cells slots (MQ below (nQ S D cy q st A) args s mc ms A) (F0 m pc ls []) := by
  obtain ⟨hx, hb, -⟩ := C
  subst hw
  refine W.widen (k := mc) (n := ms) hc hs ?_
  exact W.vret hx hb hr (fun t ht hW => ⟨⟨u, rfl, hu, by rw [ht]; exact G.1, G.2.1⟩, G.2.2.F ht⟩) G.2.2.2.2 hdg hlocks
end NR
theorem n_start {l : Launch} {S : Shape} {D : va_G} {cy : ClassId} {y : MethodName} {cc : ByteArray} {lev mc ms q : Nat} {e0 : va_E} {st : GS} (hy : plainName y.cls = true) (hyn : y.name = "<init>")
    (body : ∀ (p : Program) (e : Env) (s : State) (m : MethodId) (args : Array Value) (below : List Frame) (meth : Method) (c : Code) (A : Nat → Prop) (ls : Array Slot), nC p s m args meth c cc 1 y.cls D cy A → meth.sig.returnType = none → meth.locks = false → nG D A s [(q, e0)] s.heap [] → lv_has ls 1 [(0, .ref q)] → W p l e (nR lev mc ms) s m args below meth c s.heap [] 0 0 (MQ below (nQ S D cy q st A) args s mc ms A) (F0 m 0 ls [])) :
    nM l S D cy y cc lev mc ms q e0 st := by
  intro sz
  refine Met.ofW (cc := cc) (maxL := 1) (ret := none) hy rfl ?_
  intro p e s m args below meth c s₁ B hml hv
  obtain ⟨rfl, hsz, hP, hK, hD0, hN⟩ := hv
  subst hsz
  have hts := atoms_spec (ws := Cond.code y cc 1 none :: tb) B.pre
  have hl := lv_entry [.ref q] (n := 1) (Nat.le_of_ble_eq_true rfl)
  rw [lg_entry_eq]
  have hin : meth.name = "<init>" := by
    have := (name_of_methodNamed B.named B.method).1
    rw [this]; exact hyn
  exact body p e s m _ below meth c (va_A [(q, e0)] s.heap.size) _ ⟨B.exec, B.bytes, hml, findClass_of_methodNamed B.named, fun w hw => hts w (List.mem_cons_of_mem _ hw), hK, fun _ h => Or.inr h, hN, hin⟩ B.returns B.notSynchronized ⟨hP, hD0.self, va_S.rf⟩ hl
