-- THE WORDS that every contract takes: the tables' good ones
def tb : List Cond := lw_tbl.filter goodWord
theorem tb_of {w : Cond} (h : w ∈ tables_1) (hg : goodWord w = true) : w ∈ tb := List.mem_filter.mpr ⟨List.mem_append_right _ h, hg⟩
theorem tb1 {w : Cond} (i : Nat) (h : tables_1_1[i]? = some w) (hg : goodWord w = true) : w ∈ tb := tb_of (List.mem_append_left _ (List.mem_of_getElem? h)) hg
theorem tb2 {w : Cond} (i : Nat) (h : tables_1_2[i]? = some w) (hg : goodWord w = true) : w ∈ tb := tb_of (List.mem_append_right _ (List.mem_append_left _ (List.mem_of_getElem? h))) hg
theorem tb3 {w : Cond} (i : Nat) (h : tables_1_3[i]? = some w) (hg : goodWord w = true) : w ∈ tb := tb_of (List.mem_append_right _ (List.mem_append_right _ (List.mem_append_left _ (List.mem_of_getElem? h)))) hg
theorem tb4 {w : Cond} (i : Nat) (h : tables_1_4[i]? = some w) (hg : goodWord w = true) : w ∈ tb := tb_of (List.mem_append_right _ (List.mem_append_right _ (List.mem_append_right _ (List.mem_append_left _ (List.mem_of_getElem? h))))) hg
theorem tb5 {w : Cond} (i : Nat) (h : tables_1_5[i]? = some w) (hg : goodWord w = true) : w ∈ tb := tb_of (List.mem_append_right _ (List.mem_append_right _ (List.mem_append_right _ (List.mem_append_right _ (List.mem_of_getElem? h))))) hg
theorem tbS {w : Cond} (i : Nat) (h : (k2_sels lw_privs)[i]? = some w) (hg : goodWord w = true) : w ∈ tb := List.mem_filter.mpr ⟨List.mem_append_left _ (List.mem_of_getElem? h), hg⟩
theorem tb_all {args : Array Value} {s : State} (h : ∀ w ∈ lw_tbl, w.before args s = true) : ∀ w ∈ tb, w.before args s = true := fun w hw => h w (List.mem_filter.mp hw).1
theorem tb_good {big ws : List Cond} (hb : ∀ w ∈ tb, w ∈ big) (h : ∀ w ∈ ws, w ∈ tb) : GoodIn big ws := fun w hw => ⟨hb w (h w hw), good_of_word (List.mem_filter.mp (h w hw)).2⟩
theorem tb_list {ws : List Cond} (ps : List Nat) (hp : ws = ps.filterMap (fun i => tables_1[i]?)) (hg : ws.all goodWord = true) : ∀ w ∈ ws, w ∈ tb := by
  intro w hw
  have h1 := List.all_eq_true.mp hg w hw
  rw [hp] at hw
  obtain ⟨i, -, hi⟩ := List.mem_filterMap.mp hw
  exact tb_of (List.mem_of_getElem? hi) h1
-- THE NEST'S WORDS
def isNest (w : Cond) : Bool := match w with
  | .fieldLinkNest _ _ _ _ _ _ => true
  | .methodLinkNest _ _ _ _ => true
  | _ => false
def nw : List Cond := lw_tbl.filter isNest
theorem nw_of {w : Cond} (h : w ∈ tables_1) (hg : isNest w = true) : w ∈ nw := List.mem_filter.mpr ⟨List.mem_append_right _ h, hg⟩
theorem nw1 {w : Cond} (i : Nat) (h : tables_1_1[i]? = some w) (hg : isNest w = true) : w ∈ nw := nw_of (List.mem_append_left _ (List.mem_of_getElem? h)) hg
theorem nw2 {w : Cond} (i : Nat) (h : tables_1_2[i]? = some w) (hg : isNest w = true) : w ∈ nw := nw_of (List.mem_append_right _ (List.mem_append_left _ (List.mem_of_getElem? h))) hg
theorem nw3 {w : Cond} (i : Nat) (h : tables_1_3[i]? = some w) (hg : isNest w = true) : w ∈ nw := nw_of (List.mem_append_right _ (List.mem_append_right _ (List.mem_append_left _ (List.mem_of_getElem? h)))) hg
theorem nw4 {w : Cond} (i : Nat) (h : tables_1_4[i]? = some w) (hg : isNest w = true) : w ∈ nw := nw_of (List.mem_append_right _ (List.mem_append_right _ (List.mem_append_right _ (List.mem_append_left _ (List.mem_of_getElem? h))))) hg
theorem nw5 {w : Cond} (i : Nat) (h : tables_1_5[i]? = some w) (hg : isNest w = true) : w ∈ nw := nw_of (List.mem_append_right _ (List.mem_append_right _ (List.mem_append_right _ (List.mem_append_right _ (List.mem_of_getElem? h))))) hg
theorem isNest_tab {w : Cond} (h : isNest w = true) : w.onTables = true := by
  cases w <;> first | rfl | exact absurd h Bool.false_ne_true
theorem nw_warm {w : Cond} (hg : isNest w = true) {s U : State} (hW : s.WarmedH U.vm) (h : va_Nw w s) : va_Nw w U := by
  cases w <;> first | exact va_Nw.warmF hW h | exact va_Nw.warmM hW h | exact absurd hg Bool.false_ne_true
-- WHAT ELSE a method may read: the two static rows, the text constant, a static of String
def stR (j : Nat) : Int32 := ([-1, 0, 1, 0] : List Int32).getD j 0
def stD (j : Nat) : Int32 := ([0, -1, 0, 1] : List Int32).getD j 0
def gN (h : Nat → Nat) (A : Nat → Prop) (U : State) : Prop := (∀ w ∈ nw, va_Nw w U) ∧
  (va_Z "LaneOrder" "STEPS_RIGHT" "[I" (.ref (h 1002)) A U U.heap ∧ va_T .int (h 1002) 4 (fun j => .int (stR j)) A U U.heap) ∧
  (va_Z "LaneOrder" "STEPS_DOWN" "[I" (.ref (h 1003)) A U U.heap ∧ va_T .int (h 1003) 4 (fun j => .int (stD j)) A U U.heap) ∧
  (vk_R "LaneOrder$Text" 60 "btnfc" (h 1000) U ∧ vk_S 1 [5] [[98, 116, 110, 102, 99]] (fun _ => h 1000) (fun _ => h 1001) A U U.heap) ∧
  va_Z "java/lang/String" "COMPACT_STRINGS" "Z" (.int 1) A U U.heap
theorem gN_same {h : Nat → Nat} {A : Nat → Prop} {u U : State} (hv : U.vm = u.vm) (hh : U.heap = u.heap) (hN : gN h A u) : gN h A U := by
  obtain ⟨h1, ⟨a1, b1⟩, ⟨a2, b2⟩, ⟨a3, b3⟩, a4⟩ := hN
  have al : u.vm.Alike U.vm := by rw [hv]; exact Vm.Alike.refl _
  refine ⟨fun w hw => va_Nw.same (isNest_tab (List.mem_filter.mp hw).2) hv.symm (h1 w hw), ⟨?_, ?_⟩, ⟨?_, ?_⟩, ⟨vk_R.same hv a3, ?_⟩, ?_⟩
  · rw [hh]; exact a1.moved al
  · rw [hh]; exact b1.moved al
  · rw [hh]; exact a2.moved al
  · rw [hh]; exact b2.moved al
  · rw [hh]; exact b3.moved al
  · rw [hh]; exact a4.moved al
theorem gN_to {h : Nat → Nat} {A B : Nat → Prop} {s U : State} (hN : gN h A s) (hW : s.WarmedH U.vm) (hq : ∀ a : Nat, a < s.heap.size → ¬ A a → U.heap[a]? = s.heap[a]?) (hAB : ∀ q, B q → A q) : gN h B U := by
  obtain ⟨h1, ⟨a1, b1⟩, ⟨a2, b2⟩, ⟨a3, b3⟩, a4⟩ := hN
  exact ⟨fun w hw => nw_warm (List.mem_filter.mp hw).2 hW (h1 w hw), ⟨((a1.kept hq).moved hW.alike).narrow hAB, ((b1.kept hq).moved hW.alike).narrow hAB⟩, ⟨((a2.kept hq).moved hW.alike).narrow hAB, ((b2.kept hq).moved hW.alike).narrow hAB⟩, ⟨a3.warm hW, ((b3.kept hq).moved hW.alike).narrow hAB⟩, ((a4.kept hq).moved hW.alike).narrow hAB⟩
-- THE STATE of a system of fixed cells: ints by cell and place, and one long
abbrev GS : Type := (Nat → Nat → Int32) × Int64
abbrev Shape : Type := Nat × (Nat → Nat) × (Nat → Nat) × (Nat → Nat → Nat)
def gt (st : GS) (o j : Nat) : Int32 := st.1 o j
def sv (st : GS) (o j : Nat) (v : Int32) : GS := (fun o' j' => if o' = o ∧ j' = j then v else st.1 o' j', st.2)
def gl (st : GS) : Int64 := st.2
def sl (st : GS) (v : Int64) : GS := (st.1, v)
def sc (st : GS) (a b : Nat) (sp dp n : Nat) : GS := (fun o' j' => if o' = b ∧ (dp ≤ j' ∧ j' < dp + n) then st.1 a (sp + (j' - dp)) else st.1 o' j', st.2)
def nsl (c : Nat) : Nat := match c with
  | 0 => 6 | 1 => 1 | 2 => 4 | 3 => 13 | 4 => 3 | 5 => 8 | 6 => 2 | 7 => 9 | _ => 40
def gV (h : Nat → Nat) (st : GS) (f o j : Nat) : Value := match f with
  | 0 => .int (gt st o j)
  | 1 => .long (gl st)
  | k + 2 => .ref (h k)
def gE (S : Shape) (cy : ClassId) (h : Nat → Nat) (st : GS) (o : Nat) : va_E :=
  if S.2.1 o = 9 then .inl (cy, S.2.2.1 o, .inl (fun j => gt st o j)) else .inr (S.2.1 o, (List.range (nsl (S.2.1 o))).map (fun j => gV h st (S.2.2.2 o j) o j))
def gW (S : Shape) (cy : ClassId) (h : Nat → Nat) (st : GS) : va_W := (List.range S.1).map (fun k => (h k, gE S cy h st k))
theorem gW_at {S : Shape} {cy : ClassId} {h : Nat → Nat} {st : GS} {k : Nat} (hk : k < S.1) : (gW S cy h st)[k]? = some (h k, gE S cy h st k) := by
  simp [gW, hk]
theorem gW_set {S : Shape} {cy : ClassId} {h : Nat → Nat} {st st' : GS} {k : Nat} {e : va_E} (he : gE S cy h st' k = e) (ho : ∀ j, j ≠ k → gE S cy h st' j = gE S cy h st j) : (gW S cy h st).set k (h k, e) = gW S cy h st' := by
  apply List.ext_getElem?
  intro j
  by_cases hj : j < S.1
  · rw [gW_at hj]
    by_cases hjk : j = k
    · subst hjk
      rw [List.getElem?_set_self (by simpa [gW] using hj), he]
    · rw [List.getElem?_set_ne (Ne.symm hjk), gW_at hj, ho j hjk]
  · have h1 : ∀ st0, (gW S cy h st0).length = S.1 := fun st0 => by simp [gW]
    rw [List.getElem?_eq_none (by rw [List.length_set, h1]; omega), List.getElem?_eq_none (by rw [h1]; omega)]
theorem gE_arr {S : Shape} {cy : ClassId} {h : Nat → Nat} {st : GS} {a : Nat} (hk : S.2.1 a = 9) : gE S cy h st a = .inl (cy, S.2.2.1 a, .inl (fun j => gt st a j)) := by
  unfold gE; rw [if_pos hk]
theorem gE_obj {S : Shape} {cy : ClassId} {h : Nat → Nat} {st : GS} {o ci N : Nat} (hk : S.2.1 o = ci) (h9 : ci ≠ 9) (hN : nsl ci = N) : gE S cy h st o = .inr (ci, (List.range N).map (fun j => gV h st (S.2.2.2 o j) o j)) := by
  subst hk; subst hN; unfold gE; rw [if_neg h9]
theorem gE_ne {S : Shape} {cy : ClassId} {h : Nat → Nat} {st : GS} {o k j : Nat} {v : Int32} (hne : k ≠ o) : gE S cy h (sv st o j v) k = gE S cy h st k := by
  have e1 : ∀ j', gt (sv st o j v) k j' = gt st k j' := fun j' => by simp [gt, sv, hne]
  have e2 : ∀ f j', gV h (sv st o j v) f k j' = gV h st f k j' := fun f j' => by
    match f with
    | 0 => simp [gV, e1]
    | 1 => rfl
    | f + 2 => rfl
  unfold gE
  simp only [e1, e2]
theorem gE_neL {S : Shape} {cy : ClassId} {h : Nat → Nat} {st : GS} {o k : Nat} {v : Int64} (hne : ∀ j, S.2.2.2 k j ≠ 1) : gE S cy h (sl st v) k = gE S cy h st k := by
  have e2 : ∀ j', gV h (sl st v) (S.2.2.2 k j') k j' = gV h st (S.2.2.2 k j') k j' := fun j' => by
    have := hne j'
    match hf : S.2.2.2 k j' with
    | 0 => rfl
    | 1 => exact absurd hf this
    | f + 2 => rfl
  unfold gE
  simp only [e2]
  rfl
theorem gE_neC {S : Shape} {cy : ClassId} {h : Nat → Nat} {st : GS} {a b k sp dp n : Nat} (hne : k ≠ b) : gE S cy h (sc st a b sp dp n) k = gE S cy h st k := by
  have e1 : ∀ j', gt (sc st a b sp dp n) k j' = gt st k j' := fun j' => by simp [gt, sc, hne]
  have e2 : ∀ f j', gV h (sc st a b sp dp n) f k j' = gV h st f k j' := fun f j' => by
    match f with
    | 0 => simp [gV, e1]
    | 1 => rfl
    | f + 2 => rfl
  unfold gE
  simp only [e1, e2]
