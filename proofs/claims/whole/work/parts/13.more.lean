def imax (x y : Int32) : Int32 := if x < y then y else x
def irem (x y : Int32) : Int32 := x - x / y * y
def ishl (x y : Int32) : Int32 := x <<< (y &&& 31)
def ishr (x y : Int32) : Int32 := x >>> (y &&& 31)
def iushr (x y : Int32) : Int32 := (x.toUInt32 >>> (y.toUInt32 &&& Int32.toUInt32 31)).toInt32
theorem lp_q {σ ρ : Type} {b : σ → Option (σ ⊕ ρ)} {n : Nat} {s : σ} {z : ρ} (h : lp b (n + 1) s = some z) : ∃ q, b s = some q ∧ (∀ s', q = .inl s' → lp b n s' = some z) ∧ (∀ r, q = .inr r → r = z) := by
  unfold lp at h
  cases hb : b s with
  | none => rw [hb] at h; cases h
  | some q =>
    rw [hb] at h
    refine ⟨q, rfl, fun s' e => ?_, fun r e => ?_⟩
    · subst e; exact h
    · subst e; exact Option.some.inj h
def uc1 {α ω : Type} (f : α → ω) : α → ω := f
def uc2 {α β ω : Type} (f : α → β → ω) : α × β → ω := fun q => f q.1 q.2
def uc3 {α β γ ω : Type} (f : α → β → γ → ω) : α × β × γ → ω := fun q => f q.1 q.2.1 q.2.2
def uc4 {α β γ δ ω : Type} (f : α → β → γ → δ → ω) : α × β × γ × δ → ω := fun q => f q.1 q.2.1 q.2.2.1 q.2.2.2
def uc5 {α β γ δ ε ω : Type} (f : α → β → γ → δ → ε → ω) : α × β × γ × δ × ε → ω := fun q => f q.1 q.2.1 q.2.2.1 q.2.2.2.1 q.2.2.2.2
def uc6 {α β γ δ ε ζ ω : Type} (f : α → β → γ → δ → ε → ζ → ω) : α × β × γ × δ × ε × ζ → ω := fun q => f q.1 q.2.1 q.2.2.1 q.2.2.2.1 q.2.2.2.2.1 q.2.2.2.2.2
theorem tab_out {x : Int32} (n : Nat) (hn : n < 1000) (h : ∀ j, j ≤ n → ¬ x = nI j) : x.toInt < 0 ∨ (n : Int) < x.toInt := by
  rcases Int.lt_or_le x.toInt 0 with h1 | h1
  · exact Or.inl h1
  · rcases Int.lt_or_le (n : Int) x.toInt with h2 | h2
    · exact Or.inr h2
    · exfalso
      refine h x.toInt.toNat (by omega) ?_
      apply Int32.toInt_inj.mp
      rw [nI_toInt (by omega)]
      omega
theorem tab_2 {x : Int32} (c0 : ¬ x = 0) (c1 : ¬ x = 1) (c2 : ¬ x = 2) : x.toInt < 0 ∨ 2 < x.toInt := tab_out 2 (by omega) (fun j hj => by
  match j, hj with
  | 0, _ => exact c0
  | 1, _ => exact c1
  | 2, _ => exact c2)
theorem tab_4 {x : Int32} (c0 : ¬ x = 0) (c1 : ¬ x = 1) (c2 : ¬ x = 2) (c3 : ¬ x = 3) (c4 : ¬ x = 4) : x.toInt < 0 ∨ 4 < x.toInt := tab_out 4 (by omega) (fun j hj => by
  match j, hj with
  | 0, _ => exact c0
  | 1, _ => exact c1
  | 2, _ => exact c2
  | 3, _ => exact c3
  | 4, _ => exact c4)
theorem tab_7 {x : Int32} (c0 : ¬ x = 0) (c1 : ¬ x = 1) (c2 : ¬ x = 2) (c3 : ¬ x = 3) (c4 : ¬ x = 4) (c5 : ¬ x = 5) (c6 : ¬ x = 6) (c7 : ¬ x = 7) : x.toInt < 0 ∨ 7 < x.toInt := tab_out 7 (by omega) (fun j hj => by
  match j, hj with
  | 0, _ => exact c0
  | 1, _ => exact c1
  | 2, _ => exact c2
  | 3, _ => exact c3
  | 4, _ => exact c4
  | 5, _ => exact c5
  | 6, _ => exact c6
  | 7, _ => exact c7)
theorem tab_9 {x : Int32} (c0 : ¬ x = 0) (c1 : ¬ x = 1) (c2 : ¬ x = 2) (c3 : ¬ x = 3) (c4 : ¬ x = 4) (c5 : ¬ x = 5) (c6 : ¬ x = 6) (c7 : ¬ x = 7) (c8 : ¬ x = 8) (c9 : ¬ x = 9) : x.toInt < 0 ∨ 9 < x.toInt := tab_out 9 (by omega) (fun j hj => by
  match j, hj with
  | 0, _ => exact c0
  | 1, _ => exact c1
  | 2, _ => exact c2
  | 3, _ => exact c3
  | 4, _ => exact c4
  | 5, _ => exact c5
  | 6, _ => exact c6
  | 7, _ => exact c7
  | 8, _ => exact c8
  | 9, _ => exact c9)
theorem vin_lit {i : Int32} {j n : Nat} (hj : i.toNatClampNeg = j) (h0 : ¬ i < 0) (hn : j < n) : vp_in i n := fun q => q.elim h0 (fun z => by omega)
section GX
variable {p : Program} {l : Launch} {e : Env} {R : Room} {s : State} {m : MethodId} {args : Array Value} {below : List Frame} {meth : Method} {c : Code} {H : Heap} {locs : List Loc} {cells slots : Nat} {Q : State → Prop}
variable {cc bytes : ByteArray} {pc nL maxL n idx lev : Nat} {ls : Array Slot} {rest As stk av : List Value} {D : va_G} {A : Nat → Prop} {own : String} {S : Shape} {cy : ClassId} {h : Nat → Nat} {st st' : GS} {y : MethodName} {ret : Option FieldType}
theorem g_irem (C : gC p s m args c cc nL own S D cy h A) {x y : Int32} (hdg : decode cc pc = .ok (.irem, 1)) (hne : ¬ y = 0)
    (k : W p l e R s m args below meth c H locs cells slots Q (F0 m (pc + 1) ls (.int (irem x y) :: rest))) : W p l e R s m args below meth c H locs cells slots Q (F0 m pc ls (.int y :: .int x :: rest)) := lv_irem C.1 C.2.1 hdg hne k
theorem g_ishl (C : gC p s m args c cc nL own S D cy h A) {x y : Int32} (hdg : decode cc pc = .ok (.ishl, 1))
    (k : W p l e R s m args below meth c H locs cells slots Q (F0 m (pc + 1) ls (.int (ishl x y) :: rest))) : W p l e R s m args below meth c H locs cells slots Q (F0 m pc ls (.int y :: .int x :: rest)) := lv_ishl C.1 C.2.1 hdg k
theorem g_ishr (C : gC p s m args c cc nL own S D cy h A) {x y : Int32} (hdg : decode cc pc = .ok (.ishr, 1))
    (k : W p l e R s m args below meth c H locs cells slots Q (F0 m (pc + 1) ls (.int (ishr x y) :: rest))) : W p l e R s m args below meth c H locs cells slots Q (F0 m pc ls (.int y :: .int x :: rest)) := lv_ishr C.1 C.2.1 hdg k
theorem g_iushr (C : gC p s m args c cc nL own S D cy h A) {x y : Int32} (hdg : decode cc pc = .ok (.iushr, 1))
    (k : W p l e R s m args below meth c H locs cells slots Q (F0 m (pc + 1) ls (.int (iushr x y) :: rest))) : W p l e R s m args below meth c H locs cells slots Q (F0 m pc ls (.int y :: .int x :: rest)) := lv_iushr C.1 C.2.1 hdg rfl k
theorem g_max (C : gC p s m args c cc nL own S D cy h A) {x y : Int32} (hml : ls.size = nL) (hlink : Cond.methodLink own idx Lib.Math.max.name ∈ tb) (hstat : Cond.static Lib.Math.max.name ∈ tb) (hini : Cond.initialized "java/lang/Math" ∈ tb) (hcode : Cond.code Lib.Math.max.name Lib.Math.max.code 2 (some .int) ∈ tb) (hframes : 1 ≤ R.frames) (hlocals : (rest.map fun v => v.category).sum + 13 ≤ R.locals) (hc : cells ≤ R.cells) (hs : slots ≤ R.slots) (hdg : decode cc pc = .ok (.invokestatic idx, 3))
    (kk : W p l e R s m args below meth c H locs cells slots Q (F0 m (pc + 3) ls (.int (imax x y) :: rest))) : W p l e R s m args below meth c H locs cells slots Q (F0 m pc ls (.int y :: .int x :: rest)) := by
  obtain ⟨hx, hb, hmx, hown, hts, -⟩ := C
  exact va_mmax hx hb (hmx.trans hml.symm) hown (hts _ hlink) (hts _ hstat) (hts _ hini) (hts _ hcode) hframes hlocals hc hs hdg kk
theorem g_min (C : gC p s m args c cc nL own S D cy h A) {x y : Int32} (hml : ls.size = nL) (hlink : Cond.methodLink own idx Lib.Math.min.name ∈ tb) (hstat : Cond.static Lib.Math.min.name ∈ tb) (hini : Cond.initialized "java/lang/Math" ∈ tb) (hcode : Cond.code Lib.Math.min.name Lib.Math.min.code 2 (some .int) ∈ tb) (hframes : 1 ≤ R.frames) (hlocals : (rest.map fun v => v.category).sum + 13 ≤ R.locals) (hc : cells ≤ R.cells) (hs : slots ≤ R.slots) (hdg : decode cc pc = .ok (.invokestatic idx, 3))
    (kk : W p l e R s m args below meth c H locs cells slots Q (F0 m (pc + 3) ls (.int (if y < x then y else x) :: rest))) : W p l e R s m args below meth c H locs cells slots Q (F0 m pc ls (.int y :: .int x :: rest)) := by
  obtain ⟨hx, hb, hmx, hown, hts, -⟩ := C
  exact va_mmin hx hb (hmx.trans hml.symm) hown (hts _ hlink) (hts _ hstat) (hts _ hini) (hts _ hcode) hframes hlocals hc hs hdg kk
/-- the two static rows -/
theorem g_stR (C : gC p s m args c cc nL own S D cy h A) (G : gG S D cy h A s st H locs) (hlink : Cond.fieldLink own idx "LaneOrder" "STEPS_RIGHT" "[I" ∈ tb) (hdg : decode cc pc = .ok (.getstatic idx, 3))
    (kk : W p l e R s m args below meth c H locs cells slots Q (F0 m (pc + 3) ls (.ref (h 1002) :: rest))) : W p l e R s m args below meth c H locs cells slots Q (F0 m pc ls rest) := by
  obtain ⟨hx, hb, hmx, hown, hts, -, -, hN, -⟩ := C
  exact va_gets hx hb hN.2.1.1 G.2 hown (hts _ hlink) (fun _ h9 => h9) hdg kk
theorem g_stD (C : gC p s m args c cc nL own S D cy h A) (G : gG S D cy h A s st H locs) (hlink : Cond.fieldLink own idx "LaneOrder" "STEPS_DOWN" "[I" ∈ tb) (hdg : decode cc pc = .ok (.getstatic idx, 3))
    (kk : W p l e R s m args below meth c H locs cells slots Q (F0 m (pc + 3) ls (.ref (h 1003) :: rest))) : W p l e R s m args below meth c H locs cells slots Q (F0 m pc ls rest) := by
  obtain ⟨hx, hb, hmx, hown, hts, -, -, hN, -⟩ := C
  exact va_gets hx hb hN.2.2.1.1 G.2 hown (hts _ hlink) (fun _ h9 => h9) hdg kk
theorem g_stRld (C : gC p s m args c cc nL own S D cy h A) (G : gG S D cy h A s st H locs) {i : Int32} {j : Nat} (hj : i.toNatClampNeg = j) (hin : vp_in i 4) (hdg : decode cc pc = .ok (.iaload, 1))
    (kk : W p l e R s m args below meth c H locs cells slots Q (F0 m (pc + 1) ls (.int (stR j) :: rest))) : W p l e R s m args below meth c H locs cells slots Q (F0 m pc ls (.int i :: .ref (h 1002) :: rest)) := by
  obtain ⟨hx, hb, hmx, hown, hts, -, -, hN, -⟩ := C
  subst hj
  exact va_ti hx hb hN.2.1.2 G.2 hin rfl hdg kk
theorem g_stDld (C : gC p s m args c cc nL own S D cy h A) (G : gG S D cy h A s st H locs) {i : Int32} {j : Nat} (hj : i.toNatClampNeg = j) (hin : vp_in i 4) (hdg : decode cc pc = .ok (.iaload, 1))
    (kk : W p l e R s m args below meth c H locs cells slots Q (F0 m (pc + 1) ls (.int (stD j) :: rest))) : W p l e R s m args below meth c H locs cells slots Q (F0 m pc ls (.int i :: .ref (h 1003) :: rest)) := by
  obtain ⟨hx, hb, hmx, hown, hts, -, -, hN, -⟩ := C
  subst hj
  exact va_ti hx hb hN.2.2.1.2 G.2 hin rfl hdg kk
theorem g_stRlen (C : gC p s m args c cc nL own S D cy h A) (G : gG S D cy h A s st H locs) (hdg : decode cc pc = .ok (.arraylength, 1))
    (kk : W p l e R s m args below meth c H locs cells slots Q (F0 m (pc + 1) ls (.int 4 :: rest))) : W p l e R s m args below meth c H locs cells slots Q (F0 m pc ls (.ref (h 1002) :: rest)) := by
  obtain ⟨hx, hb, hmx, hown, hts, -, -, hN, -⟩ := C
  exact va_tlen hx hb hN.2.1.2 G.2 rfl hdg kk
/-- the text constant -/
theorem g_ldcS (C : gC p s m args c cc nL own S D cy h A) (how : own = "LaneOrder$Text") (hdg : decode cc pc = .ok (.ldc 60, 2))
    (kk : W p l e R s m args below meth c H locs cells slots Q (F0 m (pc + 2) ls (.ref (h 1000) :: rest))) : W p l e R s m args below meth c H locs cells slots Q (F0 m pc ls rest) := by
  obtain ⟨hx, hb, hmx, hown, hts, -, -, hN, -⟩ := C
  subst how
  exact va_ldcS hx hb hown hN.2.2.2.1.1 hdg kk
theorem g_sval (C : gC p s m args c cc nL own S D cy h A) (G : gG S D cy h A s st H locs) (hlink : Cond.fieldLink own idx "java/lang/String" "value" "[B" ∈ tb) (hdg : decode cc pc = .ok (.getfield idx, 3))
    (kk : W p l e R s m args below meth c H locs cells slots Q (F0 m (pc + 3) ls (.ref (h 1001) :: rest))) : W p l e R s m args below meth c H locs cells slots Q (F0 m pc ls (.ref (h 1000) :: rest)) := by
  obtain ⟨hx, hb, hmx, hown, hts, -, -, hN, -⟩ := C
  exact vk_getf hx hb (hN.2.2.2.1.2.1 0 (by decide)).2.2.1 G.2 hown (hts _ hlink) (fun _ h9 => h9) hdg kk
theorem g_scod (C : gC p s m args c cc nL own S D cy h A) (G : gG S D cy h A s st H locs) (hlink : Cond.fieldLink own idx "java/lang/String" "coder" "B" ∈ tb) (hdg : decode cc pc = .ok (.getfield idx, 3))
    (kk : W p l e R s m args below meth c H locs cells slots Q (F0 m (pc + 3) ls (.int 0 :: rest))) : W p l e R s m args below meth c H locs cells slots Q (F0 m pc ls (.ref (h 1000) :: rest)) := by
  obtain ⟨hx, hb, hmx, hown, hts, -, -, hN, -⟩ := C
  exact vk_getf hx hb (hN.2.2.2.1.2.1 0 (by decide)).2.1 G.2 hown (hts _ hlink) (fun _ h9 => h9) hdg kk
theorem g_scs (C : gC p s m args c cc nL own S D cy h A) (G : gG S D cy h A s st H locs) (hlink : Cond.fieldLink own idx "java/lang/String" "COMPACT_STRINGS" "Z" ∈ tb) (hdg : decode cc pc = .ok (.getstatic idx, 3))
    (kk : W p l e R s m args below meth c H locs cells slots Q (F0 m (pc + 3) ls (.int 1 :: rest))) : W p l e R s m args below meth c H locs cells slots Q (F0 m pc ls rest) := by
  obtain ⟨hx, hb, hmx, hown, hts, -, -, hN, -⟩ := C
  exact va_gets hx hb hN.2.2.2.2 G.2 hown (hts _ hlink) (fun _ h9 => h9) hdg kk
def byS (j : Nat) : Int32 := ([98, 116, 110, 102, 99] : List Int32).getD j 0
theorem g_sbld (C : gC p s m args c cc nL own S D cy h A) (G : gG S D cy h A s st H locs) {i : Int32} {j : Nat} (hj : i.toNatClampNeg = j) (hin : vp_in i 5) (hdg : decode cc pc = .ok (.baload, 1))
    (kk : W p l e R s m args below meth c H locs cells slots Q (F0 m (pc + 1) ls (.int (byS j) :: rest))) : W p l e R s m args below meth c H locs cells slots Q (F0 m pc ls (.int i :: .ref (h 1001) :: rest)) := by
  obtain ⟨hx, hb, hmx, hown, hts, -, -, hN, -⟩ := C
  subst hj
  exact va_tb hx hb (hN.2.2.2.1.2.1 0 (by decide)).2.2.2 G.2 hin rfl hdg kk
theorem g_sblen (C : gC p s m args c cc nL own S D cy h A) (G : gG S D cy h A s st H locs) (hdg : decode cc pc = .ok (.arraylength, 1))
    (kk : W p l e R s m args below meth c H locs cells slots Q (F0 m (pc + 1) ls (.int 5 :: rest))) : W p l e R s m args below meth c H locs cells slots Q (F0 m pc ls (.ref (h 1001) :: rest)) := by
  obtain ⟨hx, hb, hmx, hown, hts, -, -, hN, -⟩ := C
  exact va_tlen hx hb (hN.2.2.2.1.2.1 0 (by decide)).2.2.2 G.2 rfl hdg kk
/-- a call on the text constant -/
theorem g_callSt (C : gC p s m args c cc nL own S D cy h A) (G : gG S D cy h A s st H locs) {r : Int32} (hM : gMi l S D cy h y bytes maxL ret lev st (.ref (h 1000) :: As) r st') (hy : y.cls = "java/lang/String") (ok : vOK own idx y bytes maxL ret n)
    (hF : 2 * lev + 1 ≤ R.frames) (hL : 8 + (maxL + 11) + 64 * lev ≤ R.locals) (hn : As.length = n) (hsz : ls.size = nL) (hstk : stk = As.reverse ++ .ref (h 1000) :: rest) (hW : (rest.map fun v => v.category).sum ≤ 8) (hdg : decode cc pc = .ok (.invokevirtual idx, 3)) (hf : cells ≤ R.cells ∧ slots ≤ R.slots)
    (kk : ∀ H locs, gG S D cy h A s st' H locs → W p l e R s m args below meth c H locs cells slots Q (F0 m (pc + 3) ls (.int r :: rest))) : W p l e R s m args below meth c H locs cells slots Q (F0 m pc ls stk) := by
  have hsub := gA_sub C G
  have hPc := gPc_at C G (.ref (h 1000) :: As)
  obtain ⟨hx, hb, hml, hown, hts, hK, hD, hN, hA⟩ := C
  obtain ⟨o1, o2, o3, o4, o5, o6, o7, o8⟩ := ok
  have cw : CallW R s args own y.cls idx y bytes maxL ret (Cond.code y bytes maxL ret :: tb) (gR lev) 0 0 n := by
    refine cwV (Ts := tb) (ws' := tb) n hts (tb_good (fun _ h => h) (fun w hw => ?_)) rfl rfl rfl ⟨rfl, o6, o7, o8⟩ ⟨hF, hL⟩
    rcases List.mem_append.mp hw with h | h
    · simp only [List.mem_cons, List.not_mem_nil, or_false] at h
      rcases h with h | h | h | h <;> subst h <;> assumption
    · exact tb_code (ws := []) o5 h
  refine va_calli (va_runV (n := n) (C := y.cls) (As := As) (rest := rest) ⟨hx, hb, hml, hown, hts⟩ (hM H.size) cw ⟨gPc_blind, ?_, hPc⟩ rfl hn hsz hstk (lv_room hW) hdg hf) G.2 (fun q _ h => hsub q h) hsub (fun r1 u t H1 locs1 ht hvm hw hB hz1 hk1 hS => ?_)
  · rw [hy]
    exact vk_recv hN.2.2.2.1.2 (i := 0) (by decide) G.2
  · subst hw
    rw [ht] at hB
    exact kk H1 locs1 ⟨hB, hS⟩
end GX
