-- PAGES renumbered by a rising map
theorem up_lt {f : Nat → Nat} (hf : ∀ x y, x < y → f x < f y) {x y : Nat} : f x < f y ↔ x < y := by
  constructor
  · intro q
    rcases Nat.lt_trichotomy x y with e | e | e
    · exact e
    · subst e; omega
    · have := hf y x e; omega
  · exact hf x y
theorem up_inj {f : Nat → Nat} (hf : ∀ x y, x < y → f x < f y) {x y : Nat} (h : f x = f y) : x = y := by
  rcases Nat.lt_trichotomy x y with e | e | e
  · have := hf x y e; omega
  · exact e
  · have := hf y x e; omega
def ren (b : Bx) (f : Nat → Nat) : Bx := fun k c => b (f k) c
theorem ren_ln {b : Bx} {f : Nat → Nat} {ids : List Nat} {l : Ln} : isLn (ren b f) ids l ↔ isLn b (ids.map f) l := by
  unfold isLn
  simp only [List.mem_map]
  constructor
  · rintro ⟨h1, h2, ⟨i, hi, e⟩, ⟨j, hj, e2⟩, h5⟩
    exact ⟨h1, h2, ⟨f i, ⟨i, hi, rfl⟩, e⟩, ⟨f j, ⟨j, hj, rfl⟩, e2⟩, fun k hk => by obtain ⟨q, hq, rfl⟩ := hk; exact h5 q hq⟩
  · rintro ⟨h1, h2, ⟨i, ⟨i', hi, rfl⟩, e⟩, ⟨j, ⟨j', hj, rfl⟩, e2⟩, h5⟩
    exact ⟨h1, h2, ⟨i', hi, e⟩, ⟨j', hj, e2⟩, fun k hk => h5 (f k) ⟨k, hk, rfl⟩⟩
theorem ren_isBest {b : Bx} {f : Nat → Nat} {ids : List Nat} {l : Ln} : isBest (ren b f) ids l ↔ isBest b (ids.map f) l := by
  unfold isBest
  rw [ren_ln]
  constructor
  · rintro ⟨h1, h2⟩; exact ⟨h1, fun m hm => h2 m (ren_ln.mpr hm)⟩
  · rintro ⟨h1, h2⟩; exact ⟨h1, fun m hm => h2 m (ren_ln.mp hm)⟩
theorem best_no {b : Bx} {ids : List Nat} (h : best b ids = none) (l : Ln) : ¬ isBest b ids l := fun q => by rw [best_some q] at h; cases h
theorem best_no2 {b : Bx} {ids : List Nat} (h : ∀ l, ¬ isBest b ids l) : best b ids = none := by
  unfold best; rw [dif_neg (fun ⟨l, hl⟩ => h l hl)]
theorem ren_best {b : Bx} {f : Nat → Nat} {ids : List Nat} : best (ren b f) ids = best b (ids.map f) := by
  cases hq : best b (ids.map f) with
  | none => exact best_no2 (fun l q => best_no hq l (ren_isBest.mp q))
  | some l => exact best_some (ren_isBest.mpr (best_spec hq))
theorem ren_ah {b : Bx} {f : Nat → Nat} (hf : ∀ x y, x < y → f x < f y) (x y : Nat) : ∀ rs, ah (ren b f) rs x y = ah b rs (f x) (f y) := by
  intro rs
  induction rs with
  | nil => exact decide_eq_decide.mpr (up_lt hf).symm
  | cons r rs ih => simp only [ah]; rw [ih]; rfl
theorem ren_ins {b : Bx} {f : Nat → Nat} {rs : List Int} (hf : ∀ x y, x < y → f x < f y) (x : Nat) : ∀ l, (ins (ren b f) rs x l).map f = ins b rs (f x) (l.map f) := by
  intro l
  induction l with
  | nil => rfl
  | cons y t ih =>
    simp only [ins, List.map_cons]
    rw [ren_ah hf]
    by_cases h : ah b rs (f x) (f y) = true
    · rw [if_pos h, if_pos h]; rfl
    · rw [if_neg h, if_neg h, List.map_cons, ih]
theorem ren_srt {b : Bx} {f : Nat → Nat} {rs : List Int} (hf : ∀ x y, x < y → f x < f y) : ∀ ids, (srt (ren b f) rs ids).map f = srt b rs (ids.map f) := by
  intro ids
  induction ids with
  | nil => rfl
  | cons x t ih =>
    show (ins (ren b f) rs x (srt (ren b f) rs t)).map f = ins b rs (f x) (srt b rs (t.map f))
    rw [ren_ins hf, ih]
theorem ren_fsd {b : Bx} {f : Nat → Nat} {ids : List Nat} {l : Ln} : (fsd (ren b f) l ids).map f = fsd b l (ids.map f) := by
  unfold fsd; rw [List.filter_map]; rfl
theorem ren_ssd {b : Bx} {f : Nat → Nat} {ids : List Nat} {l : Ln} : (ssd (ren b f) l ids).map f = ssd b l (ids.map f) := by
  unfold ssd; rw [List.filter_map]; rfl
theorem ren_rd {b : Bx} {f : Nat → Nat} {rs : List Int} (hf : ∀ x y, x < y → f x < f y) : ∀ (n : Nat) (ids : List Nat) (d : Nat), rd b rs n (ids.map f) d = ((rd (ren b f) rs n ids d).1, (rd (ren b f) rs n ids d).2.map (fun p => (p.1.map f, p.2))) := by
  intro n
  induction n with
  | zero => intro ids d; simp only [rd, List.map_cons, List.map_nil]; rw [ren_srt hf]
  | succ n ih =>
    intro ids d
    unfold rd
    rw [ren_best]
    cases hq : best b (ids.map f) with
    | none => simp only [List.map_cons, List.map_nil, ren_srt hf]
    | some l =>
      simp only []
      rw [← ren_fsd, ← ren_ssd, ih, ih]
      simp [List.map_append]
theorem ren_nr {b : Bx} {f : Nat → Nat} (c : Nat) : ∀ (l : List Nat) (acc : Option Nat), (l.map f).foldl (nrF b (f c)) (acc.map f) = (l.foldl (nrF (ren b f) c) acc).map f := by
  intro l
  induction l with
  | nil => intro acc; rfl
  | cons x t ih =>
    intro acc
    rw [List.map_cons, List.foldl_cons, List.foldl_cons, ← ih]
    congr 1
    unfold nrF
    show (if b (f x) 0 = 3 then _ else _) = Option.map f (if b (f x) 0 = 3 then _ else _)
    by_cases h : b (f x) 0 = 3
    · rw [if_pos h, if_pos h]
      cases acc with
      | none => rfl
      | some g =>
        show (if dst b (f c) (f x) < dst b (f c) (f g) then some (f x) else some (f g)) = Option.map f (if dst b (f c) (f x) < dst b (f c) (f g) then some x else some g)
        by_cases h2 : dst b (f c) (f x) < dst b (f c) (f g)
        · rw [if_pos h2, if_pos h2]; rfl
        · rw [if_neg h2, if_neg h2]; rfl
    · rw [if_neg h, if_neg h]
theorem ren_bnd {b : Bx} {f : Nat → Nat} {ids : List Nat} (c : Nat) : bnd b (ids.map f) (f c) = (bnd (ren b f) ids c).map f := by
  unfold bnd nrst
  show (if b (f c) 0 = 4 then _ else none) = Option.map f (if b (f c) 0 = 4 then _ else none)
  by_cases h : b (f c) 0 = 4
  · rw [if_pos h, if_pos h]; exact ren_nr c ids none
  · rw [if_neg h, if_neg h]; rfl
theorem ren_fre {b : Bx} {f : Nat → Nat} {ids : List Nat} : fre b (ids.map f) = (fre (ren b f) ids).map f := by
  unfold fre
  rw [List.filter_map]
  congr 1
  apply List.filter_congr
  intro k _
  show decide (bnd b (ids.map f) (f k) = none) = _
  rw [ren_bnd]
  cases bnd (ren b f) ids k <;> simp
theorem ren_caps {b : Bx} {f : Nat → Nat} {ids : List Nat} (hf : ∀ x y, x < y → f x < f y) (x : Nat) : caps b (ids.map f) (f x) = (caps (ren b f) ids x).map f := by
  unfold caps
  rw [List.filter_map]
  congr 1
  apply List.filter_congr
  intro k _
  show decide (bnd b (ids.map f) (f k) = some (f x)) = _
  rw [ren_bnd]
  cases bnd (ren b f) ids k with
  | none => simp
  | some y =>
    refine decide_eq_decide.mpr ⟨fun q => ?_, fun q => ?_⟩
    · rw [Option.map_some] at q; rw [up_inj hf (Option.some.inj q)]
    · rw [Option.some.inj q]; rfl
theorem ren_lvs {b : Bx} {f : Nat → Nat} {rs : List Int} {ids : List Nat} (hf : ∀ x y, x < y → f x < f y) : lvs b rs (ids.map f) = (lvs (ren b f) rs ids).map (fun p => (p.1.map f, p.2)) := by
  unfold lvs
  rw [ren_fre]
  by_cases h : fre (ren b f) ids = []
  · rw [if_pos h, if_pos (by rw [h]; rfl)]; rfl
  · rw [if_neg h, if_neg (by simpa using h)]
    unfold rdf
    rw [List.length_map, ren_rd hf]
theorem ren_cts {b : Bx} {f : Nat → Nat} {rs : List Int} {ids : List Nat} (hf : ∀ x y, x < y → f x < f y) : cts b rs (ids.map f) = cts (ren b f) rs ids := by
  unfold cts
  rw [ren_fre]
  by_cases h : fre (ren b f) ids = []
  · rw [if_pos h, if_pos (by rw [h]; rfl)]
  · rw [if_neg h, if_neg (by simpa using h)]
    unfold rdf
    rw [List.length_map, ren_rd hf]
theorem ren_rws {b : Bx} {f : Nat → Nat} {rs : List Int} {ids : List Nat} (hf : ∀ x y, x < y → f x < f y) : rws b rs (ids.map f) = (rws (ren b f) rs ids).map f := by
  unfold rws
  rw [ren_lvs hf, List.flatMap_map, List.map_flatMap]
theorem ren_ords {b : Bx} {f : Nat → Nat} {rs : List Int} {ids : List Nat} (hf : ∀ x y, x < y → f x < f y) : ords b rs (ids.map f) = (ords (ren b f) rs ids).map f := by
  unfold ords
  rw [ren_rws hf, List.flatMap_map, List.map_flatMap]
  congr 1
  funext x
  rw [List.map_cons, ren_caps hf]
/-- the numbers but for k -/
def upk (k j : Nat) : Nat := if j < k then j else j + 1
theorem upk_up (k : Nat) : ∀ x y, x < y → upk k x < upk k y := fun x y h => by unfold upk; split <;> split <;> omega
theorem upk_ne (k j : Nat) : upk k j ≠ k := by unfold upk; split <;> omega
theorem upk_range {n k : Nat} (hk : k < n) : (List.range (n - 1)).map (upk k) = (List.range n).filter (fun j => !decide (j = k)) := by
  refine pw_uniq (R := fun a c => a < c) (fun x => Nat.lt_irrefl x) (fun _ _ _ h1 h2 => Nat.lt_trans h1 h2) _ _ ?_ ?_ ?_
  · refine (List.perm_ext_iff_of_nodup ?_ (List.Nodup.sublist List.filter_sublist List.nodup_range)).mpr (fun j => ?_)
    · refine List.Pairwise.map _ ?_ (List.pairwise_lt_range (n := n - 1))
      intro x y h
      have := upk_up k x y h
      omega
    · rw [List.mem_map, List.mem_filter, List.mem_range]
      constructor
      · rintro ⟨i, hi, rfl⟩
        have := List.mem_range.mp hi
        have := upk_ne k i
        refine ⟨?_, by simpa using this⟩
        unfold upk; split <;> omega
      · rintro ⟨h1, h2⟩
        have h3 : j ≠ k := by simpa using h2
        by_cases h4 : j < k
        · exact ⟨j, List.mem_range.mpr (by omega), by unfold upk; rw [if_pos h4]⟩
        · exact ⟨j - 1, List.mem_range.mpr (by omega), by unfold upk; rw [if_neg (by omega)]; omega⟩
  · exact List.Pairwise.map _ (fun x y h => upk_up k x y h) (List.pairwise_lt_range (n := n - 1))
  · exact List.Pairwise.sublist List.filter_sublist (List.pairwise_lt_range (n := n))
