/-- a kind of object: its number, its fields' table -/
def clsOK (ci : Nat) (Cn : String) (T : u_T) (ty : Nat → FieldType) (N : Nat) : Prop :=
  vwCl[ci]? = some (Cn, T, N) ∧ nsl ci = N ∧ ci ≠ 9 ∧ (∀ w ∈ u_ws Cn T N, w ∈ tb) ∧ (∀ k, k < N → parseFieldDescriptor (T k).2.2.1 = some (ty k)) ∧ (∀ a, a < N → ∀ b, b < N → a ≠ b → (T a).2.1 ≠ (T b).2.1)
/-- which cells a method may change: its system's, and new ones -/
def gA (S : Shape) (h : Nat → Nat) (sz : Nat) : Nat → Prop := fun q => (∃ k, k < S.1 ∧ h k = q) ∨ sz ≤ q
/-- what stays the same in a method's walk -/
def gC (p : Program) (s : State) (m : MethodId) (args : Array Value) (c : Code) (cc : ByteArray) (nL : Nat) (own : String) (S : Shape) (D : va_G) (cy : ClassId) (h : Nat → Nat) (A : Nat → Prop) : Prop :=
  p.tables.exec = Jvm.exec ∧ c.code = cc ∧ c.maxLocals = nL ∧ s.vm.findClass own = some m.cls ∧ (∀ w ∈ tb, w.before args s = true) ∧ va_K D vwCl [(cy, .int)] s ∧ (∀ st, va_D A (gW S cy h st)) ∧ gN h A s ∧ (∀ q, gA S h s.heap.size q → A q)
/-- what moves: the heap, and the state that it holds -/
def gG (S : Shape) (D : va_G) (cy : ClassId) (h : Nat → Nat) (A : Nat → Prop) (s : State) (st : GS) (H : Heap) (locs : List Loc) : Prop := va_P D vwCl (gW S cy h st) H ∧ va_S A s.heap H locs
/-- a contract's start, its ends, its room -/
def gPc (S : Shape) (D : va_G) (cy : ClassId) (h : Nat → Nat) (sz : Nat) (st : GS) (av : List Value) : Array Value → State → Prop :=
  va_Pc av (fun U => U.heap.size = sz ∧ va_P D vwCl (gW S cy h st) U.heap ∧ va_K D vwCl [(cy, .int)] U ∧ va_D (fun _ => True) (gW S cy h st) ∧ gN h (gA S h sz) U)
def gQi (S : Shape) (D : va_G) (cy : ClassId) (h : Nat → Nat) (A : Nat → Prop) (r : Int32) (st : GS) : Array Value → State → Outcome → State → Prop := va_Qi (fun (r' : Int32) (_ : Unit) => r' = r) (fun _ t => va_P D vwCl (gW S cy h st) t.heap) A
def gQl (S : Shape) (D : va_G) (cy : ClassId) (h : Nat → Nat) (A : Nat → Prop) (r : Int64) (st : GS) : Array Value → State → Outcome → State → Prop := va_Ql (fun (r' : Int64) (_ : Unit) => r' = r) (fun _ t => va_P D vwCl (gW S cy h st) t.heap) A
def gQv (S : Shape) (D : va_G) (cy : ClassId) (h : Nat → Nat) (A : Nat → Prop) (st : GS) : Array Value → State → Outcome → State → Prop := va_Qv (fun (_ : Unit) => True) (fun _ t => va_P D vwCl (gW S cy h st) t.heap) A
def gR (lev : Nat) : Room := { frames := 2 * lev, cells := 0, slots := 0, locals := 64 * lev }
def gMi (l : Launch) (S : Shape) (D : va_G) (cy : ClassId) (h : Nat → Nat) (y : MethodName) (cc : ByteArray) (maxL : Nat) (ret : Option FieldType) (lev : Nat) (st : GS) (av : List Value) (r : Int32) (st' : GS) : Prop := ∀ sz, Met l y (Cond.code y cc maxL ret :: tb) (gR lev) (gPc S D cy h sz st av) (gQi S D cy h (gA S h sz) r st') 0 0 (gA S h sz)
def gMl (l : Launch) (S : Shape) (D : va_G) (cy : ClassId) (h : Nat → Nat) (y : MethodName) (cc : ByteArray) (maxL : Nat) (ret : Option FieldType) (lev : Nat) (st : GS) (av : List Value) (r : Int64) (st' : GS) : Prop := ∀ sz, Met l y (Cond.code y cc maxL ret :: tb) (gR lev) (gPc S D cy h sz st av) (gQl S D cy h (gA S h sz) r st') 0 0 (gA S h sz)
def gMv (l : Launch) (S : Shape) (D : va_G) (cy : ClassId) (h : Nat → Nat) (y : MethodName) (cc : ByteArray) (maxL : Nat) (ret : Option FieldType) (lev : Nat) (st : GS) (av : List Value) (st' : GS) : Prop := ∀ sz, Met l y (Cond.code y cc maxL ret :: tb) (gR lev) (gPc S D cy h sz st av) (gQv S D cy h (gA S h sz) st') 0 0 (gA S h sz)
theorem gD_any {S : Shape} {cy : ClassId} {h : Nat → Nat} {st : GS} {A B : Nat → Prop} (hD : va_D B (gW S cy h st)) (hA : ∀ k, k < S.1 → A (h k)) (st' : GS) : va_D A (gW S cy h st') := by
  have key : ∀ (st0 : GS) (k : Nat) (q : Nat × va_E), (gW S cy h st0)[k]? = some q → k < S.1 ∧ q.1 = h k := by
    intro st0 k q hk
    have hl : k < S.1 := by
      have := (List.getElem?_eq_some_iff.mp hk).1
      simpa [gW] using this
    rw [gW_at hl] at hk
    cases hk
    exact ⟨hl, rfl⟩
  refine ⟨fun i j p q hi hj hpq => ?_, fun k q hk => ?_⟩
  · obtain ⟨l1, e1⟩ := key st' i p hi
    obtain ⟨l2, e2⟩ := key st' j q hj
    exact hD.1 i j _ _ (gW_at l1) (gW_at l2) (by show h i = h j; rw [← e1, ← e2, hpq])
  · obtain ⟨l1, e1⟩ := key st' k q hk
    rw [e1]; exact hA k l1
/-- a cell is an object of a kind; an array of ints of a length -/
def cellO (S : Shape) (o ci : Nat) : Prop := o < S.1 ∧ S.2.1 o = ci
def arrO (S : Shape) (a n : Nat) : Prop := a < S.1 ∧ S.2.1 a = 9 ∧ S.2.2.1 a = n
section GR
variable {p : Program} {l : Launch} {e : Env} {R : Room} {s : State} {m : MethodId} {args : Array Value} {below : List Frame} {meth : Method} {c : Code} {H : Heap} {locs : List Loc} {cells slots : Nat} {Q : State → Prop}
variable {cc : ByteArray} {pc nL : Nat} {ls : Array Slot} {rest : List Value} {D : va_G} {A : Nat → Prop} {own : String} {S : Shape} {cy : ClassId} {h : Nat → Nat} {st : GS}
theorem g_fs {S : Shape} {h : Nat → Nat} {st : GS} {o j N f : Nat} (hj : j < N) (hf : S.2.2.2 o j = f) : ((List.range N).map (fun j => gV h st (S.2.2.2 o j) o j))[j]? = some (gV h st f o j) := by
  subst hf; simp [hj]
theorem g_getV (C : gC p s m args c cc nL own S D cy h A) (G : gG S D cy h A s st H locs) {o j ci f index N : Nat} {Cn : String} {T : u_T} {ty : Nat → FieldType} (K : clsOK ci Cn T ty N) (hO : cellO S o ci) (hj : j < N) (hf : S.2.2.2 o j = f) (hlink : Cond.fieldLink own index (T j).1 (T j).2.1 (T j).2.2.1 ∈ tb) (hdg : decode cc pc = .ok (.getfield index, 3))
    (kk : W p l e R s m args below meth c H locs cells slots Q (F0 m (pc + 3) ls (gV h st f o j :: rest))) : W p l e R s m args below meth c H locs cells slots Q (F0 m pc ls (.ref (h o) :: rest)) := by
  obtain ⟨hx, hb, -, hown, hts, hK, -, -, -⟩ := C
  obtain ⟨k1, k2, k3, k4, -, -⟩ := K
  obtain ⟨ho, hc⟩ := hO
  exact va_get hx hb hts k4 hown hK G.1 o ((gW_at ho).trans (by rw [gE_obj hc k3 k2])) k1 j hj (hts _ hlink) (fun _ h9 => h9) (g_fs hj hf) hdg kk
theorem g_getVN (C : gC p s m args c cc nL own S D cy h A) (G : gG S D cy h A s st H locs) {o j ci f index N : Nat} {Cn host : String} {T : u_T} {ty : Nat → FieldType} (K : clsOK ci Cn T ty N) (hO : cellO S o ci) (hj : j < N) (hf : S.2.2.2 o j = f) (hlink : Cond.fieldLinkNest own index (T j).1 (T j).2.1 (T j).2.2.1 host ∈ nw) (hdg : decode cc pc = .ok (.getfield index, 3))
    (kk : W p l e R s m args below meth c H locs cells slots Q (F0 m (pc + 3) ls (gV h st f o j :: rest))) : W p l e R s m args below meth c H locs cells slots Q (F0 m pc ls (.ref (h o) :: rest)) := by
  obtain ⟨hx, hb, -, hown, hts, hK, -, hN, -⟩ := C
  obtain ⟨k1, k2, k3, k4, -, -⟩ := K
  obtain ⟨ho, hc⟩ := hO
  exact va_getN hx hb hts k4 hown hK G.1 o ((gW_at ho).trans (by rw [gE_obj hc k3 k2])) k1 j hj (va_Nw.use rfl (hN.1 _ hlink)) (fun _ h9 => h9) (g_fs hj hf) hdg kk
theorem g_geti (C : gC p s m args c cc nL own S D cy h A) (G : gG S D cy h A s st H locs) {o j ci index N : Nat} {Cn : String} {T : u_T} {ty : Nat → FieldType} (K : clsOK ci Cn T ty N) (hO : cellO S o ci) (hj : j < N) (hf : S.2.2.2 o j = 0) (hlink : Cond.fieldLink own index (T j).1 (T j).2.1 (T j).2.2.1 ∈ tb) (hdg : decode cc pc = .ok (.getfield index, 3))
    (kk : W p l e R s m args below meth c H locs cells slots Q (F0 m (pc + 3) ls (.int (gt st o j) :: rest))) : W p l e R s m args below meth c H locs cells slots Q (F0 m pc ls (.ref (h o) :: rest)) := g_getV C G K hO hj hf hlink hdg kk
theorem g_getl (C : gC p s m args c cc nL own S D cy h A) (G : gG S D cy h A s st H locs) {o j ci index N : Nat} {Cn : String} {T : u_T} {ty : Nat → FieldType} (K : clsOK ci Cn T ty N) (hO : cellO S o ci) (hj : j < N) (hf : S.2.2.2 o j = 1) (hlink : Cond.fieldLink own index (T j).1 (T j).2.1 (T j).2.2.1 ∈ tb) (hdg : decode cc pc = .ok (.getfield index, 3))
    (kk : W p l e R s m args below meth c H locs cells slots Q (F0 m (pc + 3) ls (.long (gl st) :: rest))) : W p l e R s m args below meth c H locs cells slots Q (F0 m pc ls (.ref (h o) :: rest)) := g_getV C G K hO hj hf hlink hdg kk
theorem g_getr (C : gC p s m args c cc nL own S D cy h A) (G : gG S D cy h A s st H locs) {o j ci index N k : Nat} {Cn : String} {T : u_T} {ty : Nat → FieldType} (K : clsOK ci Cn T ty N) (hO : cellO S o ci) (hj : j < N) (hf : S.2.2.2 o j = k + 2) (hlink : Cond.fieldLink own index (T j).1 (T j).2.1 (T j).2.2.1 ∈ tb) (hdg : decode cc pc = .ok (.getfield index, 3))
    (kk : W p l e R s m args below meth c H locs cells slots Q (F0 m (pc + 3) ls (.ref (h k) :: rest))) : W p l e R s m args below meth c H locs cells slots Q (F0 m pc ls (.ref (h o) :: rest)) := g_getV C G K hO hj hf hlink hdg kk
theorem g_getiN (C : gC p s m args c cc nL own S D cy h A) (G : gG S D cy h A s st H locs) {o j ci index N : Nat} {Cn host : String} {T : u_T} {ty : Nat → FieldType} (K : clsOK ci Cn T ty N) (hO : cellO S o ci) (hj : j < N) (hf : S.2.2.2 o j = 0) (hlink : Cond.fieldLinkNest own index (T j).1 (T j).2.1 (T j).2.2.1 host ∈ nw) (hdg : decode cc pc = .ok (.getfield index, 3))
    (kk : W p l e R s m args below meth c H locs cells slots Q (F0 m (pc + 3) ls (.int (gt st o j) :: rest))) : W p l e R s m args below meth c H locs cells slots Q (F0 m pc ls (.ref (h o) :: rest)) := g_getVN C G K hO hj hf hlink hdg kk
theorem g_getrN (C : gC p s m args c cc nL own S D cy h A) (G : gG S D cy h A s st H locs) {o j ci index N k : Nat} {Cn host : String} {T : u_T} {ty : Nat → FieldType} (K : clsOK ci Cn T ty N) (hO : cellO S o ci) (hj : j < N) (hf : S.2.2.2 o j = k + 2) (hlink : Cond.fieldLinkNest own index (T j).1 (T j).2.1 (T j).2.2.1 host ∈ nw) (hdg : decode cc pc = .ok (.getfield index, 3))
    (kk : W p l e R s m args below meth c H locs cells slots Q (F0 m (pc + 3) ls (.ref (h k) :: rest))) : W p l e R s m args below meth c H locs cells slots Q (F0 m pc ls (.ref (h o) :: rest)) := g_getVN C G K hO hj hf hlink hdg kk
theorem g_set {S : Shape} {cy : ClassId} {h : Nat → Nat} {st : GS} {o j ci N : Nat} {v : Int32} (hc : S.2.1 o = ci) (h9 : ci ≠ 9) (hN : nsl ci = N) (hj : j < N) (hf : S.2.2.2 o j = 0) : (gW S cy h st).set o (h o, .inr (ci, ((List.range N).map (fun j => gV h st (S.2.2.2 o j) o j)).set j (.int v))) = gW S cy h (sv st o j v) := by
  refine gW_set ?_ (fun k hk => gE_ne hk)
  rw [gE_obj hc h9 hN]
  congr 2
  apply List.ext_getElem?
  intro i
  by_cases hi : i < N
  · by_cases hij : i = j
    · subst hij
      rw [List.getElem?_set_self (by simpa using hi), g_fs hi hf]
      simp [gV, gt, sv]
    · rw [List.getElem?_set_ne (Ne.symm hij), g_fs hi rfl, g_fs hi rfl]
      congr 1
      match S.2.2.2 o i with
      | 0 => simp [gV, gt, sv, hij]
      | 1 => rfl
      | f + 2 => rfl
  · rw [List.getElem?_eq_none (by simp; omega), List.getElem?_eq_none (by simp; omega)]
theorem g_puti (C : gC p s m args c cc nL own S D cy h A) (G : gG S D cy h A s st H locs) {o j ci index N : Nat} {Cn : String} {T : u_T} {ty : Nat → FieldType} {v : Int32} (K : clsOK ci Cn T ty N) (hO : cellO S o ci) (hj : j < N) (hf : S.2.2.2 o j = 0) (hlink : Cond.fieldLink own index (T j).1 (T j).2.1 (T j).2.2.1 ∈ tb) (hfin : (T j).2.2.2 = false) (hn : narrow (ty j) (.int v) = .int v) (hfit : fits (ty j) (.int v) = true) (hdg : decode cc pc = .ok (.putfield index, 3))
    (kk : ∀ st1, st1 = sv st o j v → ∀ H locs, gG S D cy h A s st1 H locs → W p l e R s m args below meth c H locs cells slots Q (F0 m (pc + 3) ls rest)) : W p l e R s m args below meth c H locs cells slots Q (F0 m pc ls (.int v :: .ref (h o) :: rest)) := by
  obtain ⟨hx, hb, -, hown, hts, hK, hD, -, -⟩ := C
  obtain ⟨k1, k2, k3, k4, k5, k6⟩ := K
  obtain ⟨ho, hc⟩ := hO
  refine va_put hx hb hts k4 ty k5 k6 hown hK G.1 (hD st) G.2 o ((gW_at ho).trans (by rw [gE_obj hc k3 k2])) k1 j hj (hts _ hlink) (fun _ h9 => h9) hfin (k5 j hj) hn hfit (by simpa using hj) hdg (fun H1 locs1 hP _ hS => ?_)
  rw [g_set hc k3 k2 hj hf] at hP
  exact kk _ rfl H1 locs1 ⟨hP, hS⟩
theorem g_putiN (C : gC p s m args c cc nL own S D cy h A) (G : gG S D cy h A s st H locs) {o j ci index N : Nat} {Cn host : String} {T : u_T} {ty : Nat → FieldType} {v : Int32} (K : clsOK ci Cn T ty N) (hO : cellO S o ci) (hj : j < N) (hf : S.2.2.2 o j = 0) (hlink : Cond.fieldLinkNest own index (T j).1 (T j).2.1 (T j).2.2.1 host ∈ nw) (hfin : (T j).2.2.2 = false) (hn : narrow (ty j) (.int v) = .int v) (hfit : fits (ty j) (.int v) = true) (hdg : decode cc pc = .ok (.putfield index, 3))
    (kk : ∀ st1, st1 = sv st o j v → ∀ H locs, gG S D cy h A s st1 H locs → W p l e R s m args below meth c H locs cells slots Q (F0 m (pc + 3) ls rest)) : W p l e R s m args below meth c H locs cells slots Q (F0 m pc ls (.int v :: .ref (h o) :: rest)) := by
  obtain ⟨hx, hb, -, hown, hts, hK, hD, hN, -⟩ := C
  obtain ⟨k1, k2, k3, k4, k5, k6⟩ := K
  obtain ⟨ho, hc⟩ := hO
  refine va_putN hx hb hts k4 ty k5 k6 hown hK G.1 (hD st) G.2 o ((gW_at ho).trans (by rw [gE_obj hc k3 k2])) k1 j hj (va_Nw.use rfl (hN.1 _ hlink)) (fun _ h9 => h9) hfin (k5 j hj) hn hfit (by simpa using hj) hdg (fun H1 locs1 hP _ hS => ?_)
  rw [g_set hc k3 k2 hj hf] at hP
  exact kk _ rfl H1 locs1 ⟨hP, hS⟩
/-- the one long field -/
theorem g_putl (C : gC p s m args c cc nL own S D cy h A) (G : gG S D cy h A s st H locs) {o j ci index N : Nat} {Cn : String} {T : u_T} {ty : Nat → FieldType} {v : Int64} (K : clsOK ci Cn T ty N) (hO : cellO S o ci) (hj : j < N) (hf : S.2.2.2 o j = 1) (hsole : ∀ k i, (k ≠ o ∨ i ≠ j) → S.2.2.2 k i ≠ 1) (hlink : Cond.fieldLink own index (T j).1 (T j).2.1 (T j).2.2.1 ∈ tb) (hfin : (T j).2.2.2 = false) (hn : narrow (ty j) (.long v) = .long v) (hfit : fits (ty j) (.long v) = true) (hdg : decode cc pc = .ok (.putfield index, 3))
    (kk : ∀ st1, st1 = sl st v → ∀ H locs, gG S D cy h A s st1 H locs → W p l e R s m args below meth c H locs cells slots Q (F0 m (pc + 3) ls rest)) : W p l e R s m args below meth c H locs cells slots Q (F0 m pc ls (.long v :: .ref (h o) :: rest)) := by
  obtain ⟨hx, hb, -, hown, hts, hK, hD, -, -⟩ := C
  obtain ⟨k1, k2, k3, k4, k5, k6⟩ := K
  obtain ⟨ho, hc⟩ := hO
  refine va_put hx hb hts k4 ty k5 k6 hown hK G.1 (hD st) G.2 o ((gW_at ho).trans (by rw [gE_obj hc k3 k2])) k1 j hj (hts _ hlink) (fun _ h9 => h9) hfin (k5 j hj) hn hfit (by simpa using hj) hdg (fun H1 locs1 hP _ hS => ?_)
  have e : (gW S cy h st).set o (h o, .inr (ci, ((List.range N).map (fun j => gV h st (S.2.2.2 o j) o j)).set j (.long v))) = gW S cy h (sl st v) := by
    refine gW_set ?_ (fun k hk => gE_neL (o := 0) (fun i => hsole k i (Or.inl hk)))
    rw [gE_obj hc k3 k2]
    congr 2
    apply List.ext_getElem?
    intro i
    by_cases hi : i < N
    · by_cases hij : i = j
      · subst hij
        rw [List.getElem?_set_self (by simpa using hi), g_fs hi hf]
        rfl
      · rw [List.getElem?_set_ne (Ne.symm hij), g_fs hi rfl, g_fs hi rfl]
        congr 1
        have := hsole o i (Or.inr hij)
        match hq : S.2.2.2 o i with
        | 0 => rfl
        | 1 => exact absurd hq this
        | f + 2 => rfl
    · rw [List.getElem?_eq_none (by simp; omega), List.getElem?_eq_none (by simp; omega)]
  rw [e] at hP
  exact kk _ rfl H1 locs1 ⟨hP, hS⟩
theorem g_iald (C : gC p s m args c cc nL own S D cy h A) (G : gG S D cy h A s st H locs) {a n : Nat} {i : Int32} (hO : arrO S a n) {j : Nat} (hj : i.toNatClampNeg = j) (hin : vp_in i n) (hdg : decode cc pc = .ok (.iaload, 1))
    (kk : W p l e R s m args below meth c H locs cells slots Q (F0 m (pc + 1) ls (.int (gt st a j) :: rest))) : W p l e R s m args below meth c H locs cells slots Q (F0 m pc ls (.int i :: .ref (h a) :: rest)) := by
  obtain ⟨hx, hb, -, hown, hts, hK, -, -, -⟩ := C
  obtain ⟨ha, hc, hn⟩ := hO
  subst hn; subst hj
  exact va_iald hx hb hK G.1 a 0 (f := fun j => gt st a j) ((gW_at ha).trans (by rw [gE_arr hc])) rfl hin hdg kk
theorem g_iast (C : gC p s m args c cc nL own S D cy h A) (G : gG S D cy h A s st H locs) {a n : Nat} {i v : Int32} (hO : arrO S a n) {j : Nat} (hj : i.toNatClampNeg = j) (hin : vp_in i n) (hdg : decode cc pc = .ok (.iastore, 1))
    (kk : ∀ st1, st1 = sv st a j v → ∀ H locs, gG S D cy h A s st1 H locs → W p l e R s m args below meth c H locs cells slots Q (F0 m (pc + 1) ls rest)) : W p l e R s m args below meth c H locs cells slots Q (F0 m pc ls (.int v :: .int i :: .ref (h a) :: rest)) := by
  obtain ⟨hx, hb, -, hown, hts, hK, hD, -, -⟩ := C
  obtain ⟨ha, hc, hn⟩ := hO
  subst hn; subst hj
  refine va_iast hx hb hK G.1 (hD st) G.2 a 0 (f := fun j => gt st a j) ((gW_at ha).trans (by rw [gE_arr hc])) rfl hin hdg (fun H1 locs1 hP _ hS => ?_)
  have e : (gW S cy h st).set a (h a, .inl (cy, S.2.2.1 a, .inl (upd (fun j => gt st a j) i.toNatClampNeg v))) = gW S cy h (sv st a i.toNatClampNeg v) := by
    refine gW_set ?_ (fun k hk => gE_ne hk)
    rw [gE_arr hc]
    congr 4
    funext j
    by_cases hj : j = i.toNatClampNeg
    · subst hj; simp [gt, sv, upd]
    · simp [gt, sv, upd, hj]
  rw [e] at hP
  exact kk _ rfl H1 locs1 ⟨hP, hS⟩
theorem g_alen (C : gC p s m args c cc nL own S D cy h A) (G : gG S D cy h A s st H locs) {a : Nat} {v : Int32} {n : Nat} (hO : arrO S a n) (hv : Int32.ofNat n = v) (hdg : decode cc pc = .ok (.arraylength, 1))
    (kk : W p l e R s m args below meth c H locs cells slots Q (F0 m (pc + 1) ls (.int v :: rest))) : W p l e R s m args below meth c H locs cells slots Q (F0 m pc ls (.ref (h a) :: rest)) := by
  obtain ⟨hx, hb, -, hown, hts, hK, -, -, -⟩ := C
  obtain ⟨ha, hc, hn⟩ := hO
  subst hn
  exact va_alen hx hb hK G.1 a 0 ((gW_at ha).trans (by rw [gE_arr hc])) rfl hv hdg kk
theorem g_copy (C : gC p s m args c cc nL own S D cy h A) (G : gG S D cy h A s st H locs) {a b n0 n1 index : Nat} {sp dp n : Int32} (hml : ls.size = nL) (hO : arrO S a n0) (hO1 : arrO S b n1) (hlink : Cond.methodLink own index arraycopyName ∈ tb) (hnat : Cond.native arraycopyName ∈ tb) (hstat : Cond.static arraycopyName ∈ tb) (hini : Cond.initialized "java/lang/System" ∈ tb)
    (h1 : ¬ sp < 0) (h2 : ¬ dp < 0) (h3 : ¬ n < 0) (h4 : sp.toNatClampNeg + n.toNatClampNeg ≤ n0) (h5 : dp.toNatClampNeg + n.toNatClampNeg ≤ n1) (hframes : 1 ≤ R.frames) (hlocals : (rest.map fun v => v.category).sum + (nativeFrameWords "java/lang/System" "arraycopy" 5 + 11) ≤ R.locals) (hdg : decode cc pc = .ok (.invokestatic index, 3))
    (kk : ∀ st1, st1 = sc st a b sp.toNatClampNeg dp.toNatClampNeg n.toNatClampNeg → ∀ H locs, gG S D cy h A s st1 H locs → W p l e R s m args below meth c H locs cells slots Q (F0 m (pc + 3) ls rest)) : W p l e R s m args below meth c H locs cells slots Q (F0 m pc ls (.int n :: .int dp :: .ref (h b) :: .int sp :: .ref (h a) :: rest)) := by
  obtain ⟨hx, hb, hmx, hown, hts, hK, hD, -, -⟩ := C
  obtain ⟨ha, hc, hn0⟩ := hO
  obtain ⟨hb1, hcb, hn1⟩ := hO1
  subst hn0; subst hn1
  refine va_copyi hx hb (hmx.trans hml.symm) hown (hts _ hlink) (hts _ hnat) (hts _ hstat) (hts _ hini) hK G.1 (hD st) G.2 a b 0 0 (f := fun j => gt st a j) (g := fun j => gt st b j) ((gW_at ha).trans (by rw [gE_arr hc])) ((gW_at hb1).trans (by rw [gE_arr hcb])) rfl rfl rfl h1 h2 h3 h4 h5 (fun _ _ => rfl) hframes hlocals hdg (fun H1 locs1 hP _ hS => ?_)
  have e : (gW S cy h st).set b (h b, .inl (cy, S.2.2.1 b, .inl (va_cpy (fun j => gt st a j) (fun j => gt st b j) sp.toNatClampNeg dp.toNatClampNeg n.toNatClampNeg))) = gW S cy h (sc st a b sp.toNatClampNeg dp.toNatClampNeg n.toNatClampNeg) := by
    refine gW_set ?_ (fun k hk => gE_neC hk)
    rw [gE_arr hcb]
    congr 4
    funext j
    simp [gt, sc, va_cpy]
  rw [e] at hP
  exact kk _ rfl H1 locs1 ⟨hP, hS⟩
end GR
