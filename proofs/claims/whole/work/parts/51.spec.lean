-- THE PAGE as numbers: b k c: of box k, c = 0 kind, 1 left, 2 top, 3 right, 4 bottom
abbrev Bx : Type := Nat → Nat → Int
abbrev Ln : Type := Nat × Int × Int
def bg (b : Bx) (s k : Nat) : Int := b k (1 + s)
def en (b : Bx) (s k : Nat) : Int := b k (3 + s)
def okB (b : Bx) (ids : List Nat) : Prop := ∀ k ∈ ids, ∀ s, s < 2 → bg b s k < en b s k
/-- a lane: its side, where it lies, its width -/
def isLn (b : Bx) (ids : List Nat) (l : Ln) : Prop := l.1 < 2 ∧ 0 < l.2.2 ∧ (∃ i, i ∈ ids ∧ en b l.1 i = l.2.1) ∧ (∃ j, j ∈ ids ∧ bg b l.1 j = l.2.1 + l.2.2) ∧ ∀ k, k ∈ ids → ¬ (bg b l.1 k < l.2.1 + l.2.2 ∧ l.2.1 < en b l.1 k)
/-- which lane comes first -/
def lnB (l m : Ln) : Prop := m.2.2 < l.2.2 ∨ (m.2.2 = l.2.2 ∧ (m.1 < l.1 ∨ (m.1 = l.1 ∧ l.2.1 < m.2.1)))
theorem lnB_irr (l : Ln) : ¬ lnB l l := by unfold lnB; omega
theorem lnB_tr {l m n : Ln} (h : lnB l m) (h2 : lnB m n) : lnB l n := by unfold lnB at *; omega
theorem lnB_tot (l m : Ln) : l = m ∨ lnB l m ∨ lnB m l := by
  obtain ⟨a, b, c⟩ := l
  obtain ⟨a', b', c'⟩ := m
  by_cases h : a = a' ∧ b = b' ∧ c = c'
  · obtain ⟨rfl, rfl, rfl⟩ := h; exact Or.inl rfl
  · right; unfold lnB; simp only []; omega
theorem lnB_asy {l m : Ln} (h : lnB l m) : ¬ lnB m l := fun h2 => lnB_irr l (lnB_tr h h2)
def isBest (b : Bx) (ids : List Nat) (l : Ln) : Prop := isLn b ids l ∧ ∀ m, isLn b ids m → m = l ∨ lnB l m
theorem isBest_u {b : Bx} {ids : List Nat} {l m : Ln} (h : isBest b ids l) (h2 : isBest b ids m) : l = m := by
  rcases h.2 m h2.1 with e | e
  · exact e.symm
  · rcases h2.2 l h.1 with e2 | e2
    · exact e2
    · exact absurd e2 (lnB_asy e)
noncomputable def best (b : Bx) (ids : List Nat) : Option Ln := @dite _ (∃ l, isBest b ids l) (Classical.propDecidable _) (fun h => some (Classical.choose h)) (fun _ => none)
theorem best_some {b : Bx} {ids : List Nat} {l : Ln} (h : isBest b ids l) : best b ids = some l := by
  unfold best
  have hx : ∃ l, isBest b ids l := ⟨l, h⟩
  rw [dif_pos hx, isBest_u (Classical.choose_spec hx) h]
theorem best_none {b : Bx} {ids : List Nat} (h : ∀ l, ¬ isLn b ids l) : best b ids = none := by
  unfold best
  rw [dif_neg (fun ⟨l, hl⟩ => h l hl.1)]
theorem best_spec {b : Bx} {ids : List Nat} {l : Ln} (h : best b ids = some l) : isBest b ids l := by
  unfold best at h
  by_cases hx : ∃ l, isBest b ids l
  · rw [dif_pos hx] at h
    rw [← Option.some.inj h]
    exact Classical.choose_spec hx
  · rw [dif_neg hx] at h; cases h
-- the leaf's order
def rk (b : Bx) (r : Int) (k : Nat) : Int := if r = 0 then (if b k 0 = 1 then 0 else 1) else if r = 1 then (if b k 0 = 2 ∨ b k 0 = 4 then 1 else 0) else if r = 2 then b k 2 else b k 1
def ah (b : Bx) : List Int → Nat → Nat → Bool
  | [], x, y => decide (x < y)
  | r :: rs, x, y => decide (rk b r x < rk b r y) || (decide (rk b r x = rk b r y) && ah b rs x y)
theorem ah_irr (b : Bx) (rs : List Int) (x : Nat) : ¬ ah b rs x x = true := by
  induction rs with
  | nil => simp [ah]
  | cons r rs ih => simp [ah, ih]
theorem ah_tr {b : Bx} {rs : List Int} {x y z : Nat} (h : ah b rs x y = true) (h2 : ah b rs y z = true) : ah b rs x z = true := by
  induction rs with
  | nil => simp [ah] at *; omega
  | cons r rs ih =>
    simp only [ah, Bool.or_eq_true, decide_eq_true_eq, Bool.and_eq_true] at *
    rcases h with h | ⟨h, h'⟩ <;> rcases h2 with h2 | ⟨h2, h2'⟩
    · left; omega
    · left; omega
    · left; omega
    · right; exact ⟨by omega, ih h' h2'⟩
theorem ah_tot {b : Bx} {rs : List Int} {x y : Nat} (h : x ≠ y) : ah b rs x y = true ∨ ah b rs y x = true := by
  induction rs with
  | nil => simp [ah]; omega
  | cons r rs ih =>
    simp only [ah, Bool.or_eq_true, decide_eq_true_eq, Bool.and_eq_true]
    rcases Int.lt_trichotomy (rk b r x) (rk b r y) with h1 | h1 | h1
    · exact Or.inl (Or.inl h1)
    · rcases ih with h2 | h2
      · exact Or.inl (Or.inr ⟨h1, h2⟩)
      · exact Or.inr (Or.inr ⟨h1.symm, h2⟩)
    · exact Or.inr (Or.inl h1)
def ins (b : Bx) (rs : List Int) (x : Nat) : List Nat → List Nat
  | [] => [x]
  | y :: t => if ah b rs x y = true then x :: y :: t else y :: ins b rs x t
def srt (b : Bx) (rs : List Int) (ids : List Nat) : List Nat := ids.foldr (ins b rs) []
theorem ins_perm (b : Bx) (rs : List Int) (x : Nat) (l : List Nat) : (ins b rs x l).Perm (x :: l) := by
  induction l with
  | nil => exact List.Perm.refl _
  | cons y t ih =>
    unfold ins
    split
    · exact List.Perm.refl _
    · exact (List.Perm.cons y ih).trans (List.Perm.swap x y t)
theorem srt_perm (b : Bx) (rs : List Int) (ids : List Nat) : (srt b rs ids).Perm ids := by
  induction ids with
  | nil => exact List.Perm.refl _
  | cons x t ih =>
    show (ins b rs x (srt b rs t)).Perm (x :: t)
    exact (ins_perm b rs x _).trans (List.Perm.cons x ih)
theorem ins_pw {b : Bx} {rs : List Int} {x : Nat} {l : List Nat} (hx : x ∉ l) (h : l.Pairwise (fun a c => ah b rs a c = true)) : (ins b rs x l).Pairwise (fun a c => ah b rs a c = true) := by
  induction l with
  | nil => simp [ins]
  | cons y t ih =>
    have h1 := List.pairwise_cons.mp h
    unfold ins
    split
    · rename_i hxy
      refine List.pairwise_cons.mpr ⟨fun z hz => ?_, h⟩
      rcases List.mem_cons.mp hz with e | e
      · rw [e]; exact hxy
      · exact ah_tr hxy (h1.1 z e)
    · rename_i hxy
      have hne : x ≠ y := fun e => hx (e ▸ List.mem_cons_self)
      have hyx : ah b rs y x = true := (ah_tot hne).resolve_left hxy
      refine List.pairwise_cons.mpr ⟨fun z hz => ?_, ih (fun q => hx (List.mem_cons_of_mem _ q)) h1.2⟩
      rcases List.mem_cons.mp ((ins_perm b rs x t).mem_iff.mp hz) with e | e
      · rw [e]; exact hyx
      · exact h1.1 z e
theorem srt_pw {b : Bx} {rs : List Int} {ids : List Nat} (h : ids.Nodup) : (srt b rs ids).Pairwise (fun a c => ah b rs a c = true) := by
  induction ids with
  | nil => exact List.Pairwise.nil
  | cons x t ih =>
    have h1 := List.nodup_cons.mp h
    exact ins_pw (fun q => h1.1 ((srt_perm b rs t).mem_iff.mp q)) (ih h1.2)
theorem pw_uniq {R : Nat → Nat → Prop} (irr : ∀ x, ¬ R x x) (tr : ∀ x y z, R x y → R y z → R x z) : ∀ (l m : List Nat), l.Perm m → l.Pairwise R → m.Pairwise R → l = m := by
  intro l
  induction l with
  | nil => intro m hp _ _; exact (List.Perm.nil_eq hp)
  | cons x t ih =>
    intro m hp h1 h2
    cases m with
    | nil => exact absurd hp.symm (by intro q; exact absurd (List.Perm.nil_eq q) (by simp))
    | cons y u =>
      have p1 := List.pairwise_cons.mp h1
      have p2 := List.pairwise_cons.mp h2
      have hxy : x = y := by
        have hx : x ∈ y :: u := hp.mem_iff.mp List.mem_cons_self
        have hy : y ∈ x :: t := hp.mem_iff.mpr List.mem_cons_self
        rcases List.mem_cons.mp hx with e | e
        · exact e
        · rcases List.mem_cons.mp hy with e2 | e2
          · exact e2.symm
          · exact absurd (tr _ _ _ (p1.1 y e2) (p2.1 x e)) (irr x)
      subst hxy
      rw [ih u (List.Perm.cons_inv hp) p1.2 p2.2]
theorem srt_uniq {b : Bx} {rs : List Int} {ids l : List Nat} (hn : ids.Nodup) (hp : l.Perm ids) (h : l.Pairwise (fun a c => ah b rs a c = true)) : l = srt b rs ids :=
  pw_uniq (R := fun a c => ah b rs a c = true) (fun x => ah_irr b rs x) (fun _ _ _ h1 h2 => ah_tr h1 h2) l _ (hp.trans (srt_perm b rs ids).symm) h (srt_pw hn)
-- the cutting
def fsd (b : Bx) (l : Ln) (ids : List Nat) : List Nat := ids.filter (fun k => decide (en b l.1 k ≤ l.2.1))
def ssd (b : Bx) (l : Ln) (ids : List Nat) : List Nat := ids.filter (fun k => !decide (en b l.1 k ≤ l.2.1))
abbrev Ct : Type := Ln × Nat × Nat
noncomputable def rd (b : Bx) (rs : List Int) : Nat → List Nat → Nat → List Ct × List (List Nat × Nat)
  | 0, ids, d => ([], [(srt b rs ids, d)])
  | n + 1, ids, d => match best b ids with
    | none => ([], [(srt b rs ids, d)])
    | some l => ((l, (fsd b l ids).length, (ssd b l ids).length) :: ((rd b rs n (fsd b l ids) (d + 1)).1 ++ (rd b rs n (ssd b l ids) (d + 1)).1), (rd b rs n (fsd b l ids) (d + 1)).2 ++ (rd b rs n (ssd b l ids) (d + 1)).2)
theorem sd_len (b : Bx) (l : Ln) (ids : List Nat) : (fsd b l ids).length + (ssd b l ids).length = ids.length := by
  unfold fsd ssd
  induction ids with
  | nil => rfl
  | cons x t ih =>
    simp only [List.filter_cons]
    by_cases h : en b l.1 x ≤ l.2.1
    · simp [h] at *; omega
    · simp [h] at *; omega
theorem fsd_pos {b : Bx} {l : Ln} {ids : List Nat} (h : isLn b ids l) : 0 < (fsd b l ids).length := by
  obtain ⟨-, -, ⟨i, hi, e⟩, -⟩ := h
  exact List.length_pos_of_mem (List.mem_filter.mpr ⟨hi, by simp [e]⟩)
theorem ssd_pos {b : Bx} {l : Ln} {ids : List Nat} (hb : okB b ids) (h : isLn b ids l) : 0 < (ssd b l ids).length := by
  obtain ⟨h1, h2, -, ⟨j, hj, e⟩, -⟩ := h
  have := hb j hj l.1 h1
  exact List.length_pos_of_mem (List.mem_filter.mpr ⟨hj, by simp; omega⟩)
theorem okB_sub {b : Bx} {ids l : List Nat} (h : okB b ids) (hs : ∀ k ∈ l, k ∈ ids) : okB b l := fun k hk => h k (hs k hk)
theorem fsd_sub {b : Bx} {l : Ln} {ids : List Nat} : ∀ k ∈ fsd b l ids, k ∈ ids := fun _ h => (List.mem_filter.mp h).1
theorem ssd_sub {b : Bx} {l : Ln} {ids : List Nat} : ∀ k ∈ ssd b l ids, k ∈ ids := fun _ h => (List.mem_filter.mp h).1
theorem best_nil (b : Bx) : best b [] = none := best_none (fun l h => by obtain ⟨-, -, ⟨i, hi, -⟩, -⟩ := h; cases hi)
theorem rd_fuel {b : Bx} {rs : List Int} : ∀ (n : Nat) (ids : List Nat) (m d : Nat), okB b ids → ids.length ≤ n → ids.length ≤ m → rd b rs n ids d = rd b rs m ids d := by
  intro n
  induction n with
  | zero =>
    intro ids m d _ h1 _
    have : ids = [] := List.eq_nil_of_length_eq_zero (by omega)
    subst this
    cases m with
    | zero => rfl
    | succ m => simp [rd, best_nil]
  | succ n ih =>
    intro ids m d hb h1 h2
    cases m with
    | zero =>
      have : ids = [] := List.eq_nil_of_length_eq_zero (by omega)
      subst this
      simp [rd, best_nil]
    | succ m =>
      unfold rd
      cases hq : best b ids with
      | none => rfl
      | some l =>
        have hl := (best_spec hq).1
        have e := sd_len b l ids
        have p1 := fsd_pos hl
        have p2 := ssd_pos hb hl
        simp only []
        rw [ih (fsd b l ids) m (d + 1) (okB_sub hb fsd_sub) (by omega) (by omega), ih (ssd b l ids) m (d + 1) (okB_sub hb ssd_sub) (by omega) (by omega)]
noncomputable def rdf (b : Bx) (rs : List Int) (ids : List Nat) (d : Nat) : List Ct × List (List Nat × Nat) := rd b rs ids.length ids d
theorem rdf_none {b : Bx} {rs : List Int} {ids : List Nat} {d : Nat} (h : best b ids = none) : rdf b rs ids d = ([], [(srt b rs ids, d)]) := by
  unfold rdf
  cases hn : ids.length with
  | zero => rfl
  | succ n => simp [rd, h]
theorem rdf_some {b : Bx} {rs : List Int} {ids : List Nat} {d : Nat} {l : Ln} (hb : okB b ids) (h : best b ids = some l) : rdf b rs ids d = ((l, (fsd b l ids).length, (ssd b l ids).length) :: ((rdf b rs (fsd b l ids) (d + 1)).1 ++ (rdf b rs (ssd b l ids) (d + 1)).1), (rdf b rs (fsd b l ids) (d + 1)).2 ++ (rdf b rs (ssd b l ids) (d + 1)).2) := by
  have hl := (best_spec h).1
  have e := sd_len b l ids
  have p1 := fsd_pos hl
  have p2 := ssd_pos hb hl
  unfold rdf
  cases hn : ids.length with
  | zero => omega
  | succ n =>
    rw [← rd_fuel n (fsd b l ids) _ (d + 1) (okB_sub hb fsd_sub) (by omega) (Nat.le_refl _), ← rd_fuel n (ssd b l ids) _ (d + 1) (okB_sub hb ssd_sub) (by omega) (Nat.le_refl _)]
    simp [rd, h]
-- the binding
def gp (lo hi lo' hi' : Int) : Int := if hi < lo' then lo' - hi else if hi' < lo then lo - hi' else 0
def dst (b : Bx) (c f : Nat) : Int := gp (b c 1) (b c 3) (b f 1) (b f 3) + gp (b c 2) (b c 4) (b f 2) (b f 4)
def nrF (b : Bx) (c : Nat) (acc : Option Nat) (f : Nat) : Option Nat := if b f 0 = 3 then (match acc with
  | none => some f
  | some g => if dst b c f < dst b c g then some f else some g) else acc
def nrst (b : Bx) (ids : List Nat) (c : Nat) : Option Nat := ids.foldl (nrF b c) none
def bnd (b : Bx) (ids : List Nat) (c : Nat) : Option Nat := if b c 0 = 4 then nrst b ids c else none
def fre (b : Bx) (ids : List Nat) : List Nat := ids.filter (fun k => decide (bnd b ids k = none))
def caps (b : Bx) (ids : List Nat) (x : Nat) : List Nat := ids.filter (fun c => decide (bnd b ids c = some x))
noncomputable def lvs (b : Bx) (rs : List Int) (ids : List Nat) : List (List Nat × Nat) := if fre b ids = [] then [] else (rdf b rs (fre b ids) 0).2
noncomputable def cts (b : Bx) (rs : List Int) (ids : List Nat) : List Ct := if fre b ids = [] then [] else (rdf b rs (fre b ids) 0).1
noncomputable def rws (b : Bx) (rs : List Int) (ids : List Nat) : List Nat := (lvs b rs ids).flatMap (fun p => p.1)
noncomputable def ords (b : Bx) (rs : List Int) (ids : List Nat) : List Nat := (rws b rs ids).flatMap (fun x => x :: caps b ids x)
theorem rdf_perm {b : Bx} {rs : List Int} : ∀ (n : Nat) (ids : List Nat) (d : Nat), ids.length ≤ n → okB b ids → ((rdf b rs ids d).2.flatMap (fun p => p.1)).Perm ids := by
  intro n
  induction n with
  | zero =>
    intro ids d h hb
    have : ids = [] := List.eq_nil_of_length_eq_zero (by omega)
    subst this
    rw [rdf_none (best_nil b)]
    exact List.Perm.refl _
  | succ n ih =>
    intro ids d h hb
    cases hq : best b ids with
    | none =>
      rw [rdf_none hq]
      simpa using srt_perm b rs ids
    | some l =>
      have hl := (best_spec hq).1
      have e := sd_len b l ids
      have p1 := fsd_pos hl
      have p2 := ssd_pos hb hl
      rw [rdf_some hb hq]
      simp only [List.flatMap_append]
      refine (List.Perm.append (ih _ _ (by omega) (okB_sub hb fsd_sub)) (ih _ _ (by omega) (okB_sub hb ssd_sub))).trans ?_
      exact List.filter_append_perm _ _
