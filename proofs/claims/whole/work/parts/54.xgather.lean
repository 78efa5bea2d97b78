theorem bI1_s {α β : Type} (a : α) (k : α → Option β) : bI1 (some a) k = k a := rfl
theorem bI2_s {α β γ : Type} (a : α) (b : β) (k : α → β → Option γ) : bI2 (some (a, b)) k = k a b := rfl
/-- a run of an array holds a list of box numbers -/
def sg (st : GS) (a fr : Nat) (ids : List Nat) : Prop := ∀ i, i < ids.length → gt st a (fr + i) = nI (ids.getD i 0)
theorem getD_mem {l : List Nat} {i : Nat} (h : i < l.length) : l.getD i 0 ∈ l := by
  rw [List.getD_eq_getElem?_getD, List.getElem?_eq_getElem h]; exact List.getElem_mem h
theorem mem_getD {l : List Nat} {x : Nat} (h : x ∈ l) : ∃ i, i < l.length ∧ l.getD i 0 = x := by
  obtain ⟨i, hi, e⟩ := List.getElem_of_mem h
  exact ⟨i, hi, by rw [List.getD_eq_getElem?_getD, List.getElem?_eq_getElem hi]; exact e⟩
/-- where the first of those begins that reach beyond a place -/
def nxB (b : Bx) (s : Nat) (ids : List Nat) (x r : Int) : Prop := ((∀ k ∈ ids, en b s k ≤ x) ∧ r = x) ∨ ((∃ j, j ∈ ids ∧ x < en b s j ∧ bg b s j = r) ∧ ∀ k ∈ ids, x < en b s k → r ≤ bg b s k)
theorem x_nextBegin {st : GS} {o fr : Nat} {ids : List Nat} {b : Bx} {s ca ce : Nat} {x : Int32} (hsg : sg st (o + 23) fr ids) (hid : ∀ k ∈ ids, k < 8) (hle : fr + ids.length ≤ 8) (hb : ∀ k ∈ ids, (gt st ca k).toInt = bg b s k) (he : ∀ k ∈ ids, (gt st ce k).toInt = en b s k) : ∃ r, f_X3_nextBegin o ca ce x (nI fr) (nI (fr + ids.length)) st = some r ∧ nxB b s ids x.toInt r.toInt := by
  show ok (f_X3_nextBegin o ca ce x (nI fr) (nI (fr + ids.length)) st) _
  unfold f_X3_nextBegin
  refine ok_bI1 (P := fun r => nxB b s ids x.toInt r.toInt) ?_ (fun r hr => ok_some hr)
  refine ok_for ids.length (fun i z => z.2.2 = nI (fr + i) ∧ ((z.1 = 0 ∧ z.2.1 = x ∧ ∀ j, j < i → en b s (ids.getD j 0) ≤ x.toInt) ∨ (z.1 = 1 ∧ (∃ j, j < i ∧ x.toInt < en b s (ids.getD j 0) ∧ bg b s (ids.getD j 0) = z.2.1.toInt) ∧ ∀ j, j < i → x.toInt < en b s (ids.getD j 0) → z.2.1.toInt ≤ bg b s (ids.getD j 0)))) _ ?_ ?_ 0 _ (Nat.zero_le _) ⟨rfl, Or.inl ⟨rfl, rfl, fun j hj => absurd hj (Nat.not_lt_zero _)⟩⟩
  · rintro i ⟨z1, z2, z3⟩ hi ⟨hz, hd⟩
    simp only at hz hd
    subst hz
    show ok (f_X3_nextBegin_L10 o ca ce x (nI (fr + ids.length)) st z1 z2 (nI (fr + i))) _
    unfold f_X3_nextBegin_L10
    rw [if_neg (nI_ge (by omega) (by omega))]
    have hk := getD_mem hi
    have hk8 := hid _ hk
    simp only [gd_n (show fr + i < 8 by omega) (show 8 < 2147483648 by omega), nI_clamp (show fr + i < 2 ^ 31 by omega), lt_, hsg i hi]
    simp only [gd_n hk8 (show 8 < 2147483648 by omega), nI_clamp (show ids.getD i 0 < 2 ^ 31 by omega)]
    have eb := hb _ hk
    have ee := he _ hk
    have lt_i : ∀ j, j < i + 1 → j = i ∨ j < i := fun j hj => by omega
    refine ok_if (fun c => ?_) (fun c => ?_)
    · rw [le32, ee] at c
      refine ok_some (Or.inl ⟨_, rfl, ?_, ?_⟩)
      · rw [nI_p1]; rfl
      · rcases hd with ⟨d1, d2, d3⟩ | ⟨d1, ⟨j, j1, j2, j3⟩, d3⟩
        · refine Or.inl ⟨d1, d2, fun j hj => ?_⟩
          rcases lt_i j hj with rfl | h1
          · exact c
          · exact d3 j h1
        · refine Or.inr ⟨d1, ⟨j, by omega, j2, j3⟩, fun j hj h2 => ?_⟩
          rcases lt_i j hj with rfl | h1
          · omega
          · exact d3 j h1 h2
    · rw [le32, ee] at c
      refine ok_if (fun c2 => ?_) (fun c2 => ?_)
      · refine ok_some (Or.inl ⟨_, rfl, ?_, Or.inr ⟨rfl, ⟨i, by omega, by omega, ?_⟩, fun j hj h2 => ?_⟩⟩)
        · rw [nI_p1]; rfl
        · exact eb.symm
        · rcases hd with ⟨d1, d2, d3⟩ | ⟨d1, -⟩
          · rcases lt_i j hj with rfl | h1
            · show (gt st ca (ids.getD j 0)).toInt ≤ _; omega
            · have := d3 j h1; omega
          · rw [d1] at c2; exact absurd c2 (by decide)
      · rcases hd with ⟨d1, d2, d3⟩ | ⟨d1, ⟨j0, j1, j2, j3⟩, d3⟩
        · exact absurd d1 c2
        · refine ok_if (fun c3 => ?_) (fun c3 => ?_)
          · rw [le32, eb] at c3
            refine ok_some (Or.inl ⟨_, rfl, ?_, Or.inr ⟨d1, ⟨j0, by omega, j2, j3⟩, fun j hj h2 => ?_⟩⟩)
            · rw [nI_p1]; rfl
            · rcases lt_i j hj with rfl | h1
              · exact c3
              · exact d3 j h1 h2
          · rw [le32, eb] at c3
            refine ok_some (Or.inl ⟨_, rfl, ?_, Or.inr ⟨rfl, ⟨i, by omega, by omega, ?_⟩, fun j hj h2 => ?_⟩⟩)
            · rw [nI_p1]; rfl
            · exact eb.symm
            · show (gt st ca (ids.getD i 0)).toInt ≤ _
              rcases lt_i j hj with rfl | h1
              · omega
              · have := d3 j h1 h2; omega
  · rintro ⟨z1, z2, z3⟩ ⟨hz, hd⟩
    simp only at hz hd
    subst hz
    show ok (f_X3_nextBegin_L10 o ca ce x (nI (fr + ids.length)) st z1 z2 (nI (fr + ids.length))) _
    unfold f_X3_nextBegin_L10
    rw [if_pos (nI_le (Nat.le_refl _) (by omega))]
    refine ok_some ⟨_, rfl, ?_⟩
    rcases hd with ⟨d1, d2, d3⟩ | ⟨d1, ⟨j, j1, j2, j3⟩, d3⟩
    · refine Or.inl ⟨fun k hk => ?_, by rw [d2]⟩
      obtain ⟨i, hi, rfl⟩ := mem_getD hk
      exact d3 i hi
    · refine Or.inr ⟨⟨_, getD_mem j1, j2, j3⟩, fun k hk h2 => ?_⟩
      obtain ⟨i, hi, rfl⟩ := mem_getD hk
      exact d3 i hi h2
/-- from a box's end to the next beginning: that is the one lane that lies there -/
theorem nxB_lane {b : Bx} {s : Nat} {ids : List Nat} {x r : Int} (hs : s < 2) (hb : okB b ids) (hx : ∃ i, i ∈ ids ∧ en b s i = x) (h : nxB b s ids x r) : (x < r → isLn b ids (s, x, r - x)) ∧ ∀ w, isLn b ids (s, x, w) → w = r - x ∧ x < r := by
  refine ⟨fun hlt => ?_, fun w hw => ?_⟩
  · rcases h with ⟨-, e⟩ | ⟨⟨j, j1, j2, j3⟩, h2⟩
    · omega
    · refine ⟨hs, by show 0 < r - x; omega, hx, ⟨j, j1, by show bg b s j = x + (r - x); omega⟩, fun k hk hh => ?_⟩
      have : bg b s k < x + (r - x) ∧ x < en b s k := hh
      have := h2 k hk this.2
      omega
  · obtain ⟨-, w1, -, ⟨j, j1, j2⟩, w3⟩ := hw
    have j2 : bg b s j = x + w := j2
    have w1 : 0 < w := w1
    have hj := hb j j1 s hs
    rcases h with ⟨e1, e2⟩ | ⟨⟨i, i1, i2, i3⟩, h2⟩
    · have := e1 j j1; omega
    · have h4 := h2 j j1 (by omega)
      have h5 : ¬ (bg b s i < x + w ∧ x < en b s i) := w3 i i1
      constructor <;> omega
-- how many lanes there can be
def lst (b : Bx) (ids : List Nat) (s k : Nat) : Prop := ∃ w, isLn b ids (s, en b s k, w)
noncomputable def cL (b : Bx) (ids : List Nat) (s : Nat) (l : List Nat) : Nat := (l.filter (fun k => @decide (lst b ids s k) (Classical.propDecidable _))).length
theorem cL_sub {b : Bx} {ids : List Nat} {s : Nat} : ∀ (l : List Nat) (i : Nat), cL b ids s (l.take i) ≤ cL b ids s l := by
  intro l i
  unfold cL
  exact (List.Sublist.filter _ (List.take_sublist i l)).length_le
theorem cL_step {b : Bx} {ids l : List Nat} {s i : Nat} (hi : i < l.length) (h : lst b ids s (l.getD i 0)) : cL b ids s (l.take (i + 1)) = cL b ids s (l.take i) + 1 := by
  have e : l.take (i + 1) = l.take i ++ [l.getD i 0] := by
    rw [List.take_succ_eq_append_getElem hi, List.getD_eq_getElem?_getD, List.getElem?_eq_getElem hi]; rfl
  generalize l.getD i 0 = y at h e
  unfold cL
  rw [e, List.filter_append, List.length_append]
  simp [h]
theorem cL_le {b : Bx} {ids l : List Nat} {s i : Nat} : cL b ids s (l.take i) ≤ cL b ids s (l.take (i + 1)) := by
  unfold cL
  exact (List.Sublist.filter _ (List.take_sublist_take_left (Nat.le_succ i))).length_le
theorem max_en (b : Bx) (s : Nat) : ∀ (ids : List Nat), ids ≠ [] → ∃ k, k ∈ ids ∧ ∀ j, j ∈ ids → en b s j ≤ en b s k := by
  intro ids
  induction ids with
  | nil => intro h; exact absurd rfl h
  | cons x t ih =>
    intro _
    by_cases ht : t = []
    · subst ht
      exact ⟨x, List.mem_cons_self, fun j hj => by
        rcases List.mem_cons.mp hj with e | e
        · rw [e]; exact Int.le_refl _
        · cases e⟩
    · obtain ⟨k, k1, k2⟩ := ih ht
      by_cases hx : en b s k ≤ en b s x
      · exact ⟨x, List.mem_cons_self, fun j hj => by
          rcases List.mem_cons.mp hj with e | e
          · rw [e]; exact Int.le_refl _
          · have := k2 j e; omega⟩
      · exact ⟨k, List.mem_cons_of_mem _ k1, fun j hj => by
          rcases List.mem_cons.mp hj with e | e
          · rw [e]; omega
          · exact k2 j e⟩
theorem cL_lt {b : Bx} {ids : List Nat} {s : Nat} (hs : s < 2) (hb : okB b ids) (hne : ids ≠ []) : cL b ids s ids < ids.length := by
  obtain ⟨k, k1, k2⟩ := max_en b s ids hne
  unfold cL
  refine List.length_filter_lt_length_iff_exists.mpr ⟨k, k1, ?_⟩
  intro h
  have h2 : lst b ids s k := @of_decide_eq_true _ (Classical.propDecidable _) h
  obtain ⟨w, -, w1, -, ⟨j, j1, j2⟩, -⟩ := h2
  have j2 : bg b s j = en b s k + w := j2
  have w1 : 0 < w := w1
  have := hb j j1 s hs
  have := k2 j j1
  omega
/-- all lanes of a part: the ones that lie at the first i ends of a side come to those that are there -/
theorem x_gatherOf {st : GS} {o fr : Nat} {ids : List Nat} {b : Bx} {s ca ce m0 : Nat} {f0 : Nat → Ln} {Dn : Ln → Prop} (hs : s < 2) (hok : okB b ids) (hsm : ∀ k ∈ ids, ∀ t, t < 2 → -1 ≤ bg b t k ∧ en b t k ≤ 1000) (hsg : sg st (o + 23) fr ids) (hid : ∀ k ∈ ids, k < 8) (hle : fr + ids.length ≤ 8) (hca : ca < o + 19) (hce : ce < o + 19) (hb : ∀ k ∈ ids, (gt st ca k).toInt = bg b s k) (he : ∀ k ∈ ids, (gt st ce k).toInt = en b s k)
    (hl : lnS st (o + 19) m0 f0) (hsr : srtF m0 f0) (hm0 : m0 ≤ 7) (hset : ∀ l, (∃ i, i < m0 ∧ f0 i = l) ↔ (isLn b ids l ∧ Dn l)) (hdn : ∀ l, Dn l → l.1 ≠ s) :
    ok (f_X3_gatherLanesOf o (nI s) ca ce (nI fr) (nI (fr + ids.length)) st) (fun st' => ∃ m f, lnS st' (o + 19) m f ∧ srtF m f ∧ m ≤ m0 + cL b ids s ids ∧ (∀ l, (∃ i, i < m ∧ f i = l) ↔ (isLn b ids l ∧ (Dn l ∨ l.1 = s))) ∧ kpt (o + 19) (o + 22) st st') := by
  unfold f_X3_gatherLanesOf
  refine ok_bI1 (P := fun st' => ∃ m f, lnS st' (o + 19) m f ∧ srtF m f ∧ m ≤ m0 + cL b ids s ids ∧ (∀ l, (∃ i, i < m ∧ f i = l) ↔ (isLn b ids l ∧ (Dn l ∨ l.1 = s))) ∧ kpt (o + 19) (o + 22) st st') ?_ (fun r hr => ok_some hr)
  refine ok_for ids.length (fun i z => z.1 = nI (fr + i) ∧ ∃ m f, lnS z.2 (o + 19) m f ∧ srtF m f ∧ m ≤ m0 + cL b ids s (ids.take i) ∧ (∀ l, (∃ i, i < m ∧ f i = l) ↔ (isLn b ids l ∧ (Dn l ∨ (l.1 = s ∧ ∃ j, j < i ∧ en b s (ids.getD j 0) = l.2.1)))) ∧ kpt (o + 19) (o + 22) st z.2) _ ?_ ?_ 0 _ (Nat.zero_le _) ⟨rfl, m0, f0, hl, hsr, Nat.le_add_right _ _, fun l => ?_, kpt_rf _ _ _⟩
  · rintro i ⟨z, s2⟩ hi ⟨hz, m, f, h1, h2, h3, h4, h5⟩
    simp only at hz h1 h5
    subst hz
    show ok (f_X3_gatherLanesOf_L4 o (nI s) ca ce (nI fr) (nI (fr + ids.length)) (nI (fr + i)) s2) _
    unfold f_X3_gatherLanesOf_L4
    rw [if_neg (nI_ge (by omega) (by omega))]
    have hk := getD_mem hi
    have hk8 := hid _ hk
    have hsg2 : sg s2 (o + 23) fr ids := fun j hj => by rw [h5 _ _ (by omega)]; exact hsg j hj
    have hb2 : ∀ k ∈ ids, (gt s2 ca k).toInt = bg b s k := fun k hk => by rw [h5 _ _ (by omega)]; exact hb k hk
    have he2 : ∀ k ∈ ids, (gt s2 ce k).toInt = en b s k := fun k hk => by rw [h5 _ _ (by omega)]; exact he k hk
    simp only [gd_n (show fr + i < 8 by omega) (show 8 < 2147483648 by omega), nI_clamp (show fr + i < 2 ^ 31 by omega), lt_, hsg2 i hi]
    simp only [gd_n hk8 (show 8 < 2147483648 by omega), nI_clamp (show ids.getD i 0 < 2 ^ 31 by omega)]
    have ee := he2 _ hk
    obtain ⟨r, er, hr⟩ := x_nextBegin (x := gt s2 ce (ids.getD i 0)) hsg2 hid hle hb2 he2
    rw [er]
    rw [ee] at hr
    have hln := nxB_lane hs hok ⟨_, hk, rfl⟩ hr
    simp only [bI1_s]
    have lt_i : ∀ j, j < i + 1 → j = i ∨ j < i := fun j hj => by omega
    have enx : nI (fr + i) + 1 = nI (fr + (i + 1)) := by rw [nI_p1]; rfl
    have hcl := cL_le (b := b) (ids := ids) (l := ids) (s := s) (i := i)
    refine ok_if (fun c => ?_) (fun c => ?_)
    · rw [le32, ee] at c
      refine ok_some (Or.inl ⟨_, rfl, enx, m, f, h1, h2, by omega, fun l => ?_, h5⟩)
      rw [h4 l]
      constructor
      · rintro ⟨q1, q2 | ⟨q2, j, q3, q4⟩⟩
        · exact ⟨q1, Or.inl q2⟩
        · exact ⟨q1, Or.inr ⟨q2, j, by omega, q4⟩⟩
      · rintro ⟨q1, q2 | ⟨q2, j, q3, q4⟩⟩
        · exact ⟨q1, Or.inl q2⟩
        · rcases lt_i j q3 with rfl | q5
          · exfalso
            obtain ⟨l1, l2, l3⟩ := l
            simp only at q2 q4
            subst q2; subst q4
            have := (hln.2 _ q1).2
            omega
          · exact ⟨q1, Or.inr ⟨q2, j, q5, q4⟩⟩
    · rw [le32, ee] at c
      have hlane := hln.1 (by omega)
      have hcount : m ≤ 13 := by
        have e1 := cL_step (b := b) (ids := ids) (l := ids) (s := s) hi ⟨_, hlane⟩
        have e2 := cL_sub (b := b) (ids := ids) (s := s) ids (i + 1)
        have e3 := cL_lt hs hok (fun e => by rw [e] at hi; exact absurd hi (Nat.not_lt_zero _))
        omega
      obtain ⟨v, ev, hv⟩ := x_has (x := gt s2 ce (ids.getD i 0)) h1 (by omega) hs
      rw [ev]
      simp only [bI1_s]
      rcases hv with ⟨rfl, hv⟩ | ⟨rfl, hv⟩
      · rw [if_pos rfl]
        have hrs : (r - gt s2 ce (ids.getD i 0)).toInt = r.toInt - en b s (ids.getD i 0) := by
          rw [sub32, ee]
          · rw [ee]
            have := (hsm _ hk s hs).1
            have := hok _ hk s hs
            have := (hsm _ hk s hs).2
            omega
          · rw [ee]
            obtain ⟨-, -, -, ⟨j, j1, j2⟩, -⟩ := hlane
            have j2 : bg b s j = en b s (ids.getD i 0) + (r.toInt - en b s (ids.getD i 0)) := j2
            have := hok j j1 s hs
            have := (hsm j j1 s hs).2
            have := (hsm _ hk s hs).1
            have := hok _ hk s hs
            omega
        refine ok_bI1 (x_ladd (x := (s, en b s (ids.getD i 0), r.toInt - en b s (ids.getD i 0))) h1 (by omega) h2 hs (fun j hj e => ?_) ee hrs) ?_
        · exact hv j hj ⟨by rw [e], by rw [e, ee]⟩
        · rintro s3 ⟨f', g1, g2, g3, g4⟩
          refine ok_some (Or.inl ⟨_, rfl, enx, m + 1, f', g1, g2, ?_, fun l => ?_, kpt_tr h5 (kpt_w g4 (Nat.le_refl _) (by omega))⟩)
          · have e1 := cL_step (b := b) (ids := ids) (l := ids) (s := s) hi ⟨_, hlane⟩
            omega
          · rw [g3 l]
            constructor
            · rintro (rfl | q)
              · exact ⟨hlane, Or.inr ⟨rfl, i, by omega, rfl⟩⟩
              · obtain ⟨q1, q2 | ⟨q2, j, q3, q4⟩⟩ := (h4 l).mp q
                · exact ⟨q1, Or.inl q2⟩
                · exact ⟨q1, Or.inr ⟨q2, j, by omega, q4⟩⟩
            · rintro ⟨q1, q2 | ⟨q2, j, q3, q4⟩⟩
              · exact Or.inr ((h4 l).mpr ⟨q1, Or.inl q2⟩)
              · rcases lt_i j q3 with rfl | q5
                · left
                  obtain ⟨l1, l2, l3⟩ := l
                  simp only at q2 q4
                  subst q2; subst q4
                  rw [(hln.2 _ q1).1]
                · exact Or.inr ((h4 l).mpr ⟨q1, Or.inr ⟨q2, j, q5, q4⟩⟩)
      · rw [if_neg (by decide)]
        refine ok_some (Or.inl ⟨_, rfl, enx, m, f, h1, h2, by omega, fun l => ?_, h5⟩)
        rw [h4 l]
        constructor
        · rintro ⟨q1, q2 | ⟨q2, j, q3, q4⟩⟩
          · exact ⟨q1, Or.inl q2⟩
          · exact ⟨q1, Or.inr ⟨q2, j, by omega, q4⟩⟩
        · rintro ⟨q1, q2 | ⟨q2, j, q3, q4⟩⟩
          · exact ⟨q1, Or.inl q2⟩
          · rcases lt_i j q3 with rfl | q5
            · obtain ⟨k, k1, k2, k3⟩ := hv
              obtain ⟨q6, q7⟩ := (h4 (f k)).mp ⟨k, k1, rfl⟩
              rw [ee] at k3
              have e6 : f k = l := by
                have q8 : isLn b ids ((f k).1, (f k).2.1, (f k).2.2) := q6
                rw [k2, k3] at q8
                have w1 := hln.2 (f k).2.2 q8
                obtain ⟨l1, l2, l3⟩ := l
                simp only at q2 q4
                subst q2; subst q4
                have w2 := hln.2 _ q1
                have : f k = ((f k).1, (f k).2.1, (f k).2.2) := rfl
                rw [this, k2, k3, w1.1, w2.1]
              rw [← e6]
              exact ⟨q6, q7⟩
            · exact ⟨q1, Or.inr ⟨q2, j, q5, q4⟩⟩
  · rintro ⟨z, s2⟩ ⟨hz, m, f, h1, h2, h3, h4, h5⟩
    simp only at hz h1 h5
    subst hz
    show ok (f_X3_gatherLanesOf_L4 o (nI s) ca ce (nI fr) (nI (fr + ids.length)) (nI (fr + ids.length)) s2) _
    unfold f_X3_gatherLanesOf_L4
    rw [if_pos (nI_le (Nat.le_refl _) (by omega))]
    rw [List.take_length] at h3
    refine ok_some ⟨_, rfl, m, f, h1, h2, h3, fun l => ?_, h5⟩
    rw [h4 l]
    constructor
    · rintro ⟨q1, q2 | ⟨q2, -⟩⟩
      · exact ⟨q1, Or.inl q2⟩
      · exact ⟨q1, Or.inr q2⟩
    · rintro ⟨q1, q2 | q2⟩
      · exact ⟨q1, Or.inl q2⟩
      · refine ⟨q1, Or.inr ⟨q2, ?_⟩⟩
        obtain ⟨-, -, ⟨k, k1, k2⟩, -⟩ := q1
        obtain ⟨j, j1, rfl⟩ := mem_getD k1
        exact ⟨j, j1, by rw [← q2]; exact k2⟩
  · rw [hset l]
    constructor
    · rintro ⟨q1, q2⟩; exact ⟨q1, Or.inl q2⟩
    · rintro ⟨q1, q2 | ⟨-, j, q3, -⟩⟩
      · exact ⟨q1, q2⟩
      · exact absurd q3 (Nat.not_lt_zero _)
theorem isLn_s {b : Bx} {ids : List Nat} {l : Ln} (h : isLn b ids l) : l.1 = 0 ∨ l.1 = 1 := by have := h.1; omega
/-- the lanes of a part: sorted, all of them -/
def lanesOf (st : GS) (q : Nat) (b : Bx) (ids : List Nat) (m : Nat) (f : Nat → Ln) : Prop := lnS st q m f ∧ srtF m f ∧ m ≤ 14 ∧ ∀ l, (∃ i, i < m ∧ f i = l) ↔ isLn b ids l
theorem x_gather {st : GS} {o n fr : Nat} {ids : List Nat} {b : Bx} {rs : List Int} (hsh : shIs st (o + 1) n b rs) (hp : okP n b rs) (hsg : sg st (o + 23) fr ids) (hid : ∀ k ∈ ids, k < n) (hle : fr + ids.length ≤ 8) :
    ok (f_X3_gatherLanes o (nI fr) (nI (fr + ids.length)) st) (fun st' => (∃ m f, lanesOf st' (o + 19) b ids m f) ∧ kpt (o + 19) (o + 22) st st') := by
  have hn := hp.1
  have hok : okB b ids := fun k hk s hs => by
    obtain ⟨-, h1, h2⟩ := hp.2.2.2 k (hid k hk)
    match s, hs with
    | 0, _ => exact h1.2.1
    | 1, _ => exact h2.2.1
  have hsm : ∀ k ∈ ids, ∀ t, t < 2 → -1 ≤ bg b t k ∧ en b t k ≤ 1000 := fun k hk s hs => by
    obtain ⟨-, h1, h2⟩ := hp.2.2.2 k (hid k hk)
    match s, hs with
    | 0, _ => exact ⟨h1.1, h1.2.2⟩
    | 1, _ => exact ⟨h2.1, h2.2.2⟩
  have hid8 : ∀ k ∈ ids, k < 8 := fun k hk => Nat.lt_of_lt_of_le (hid k hk) hn
  unfold f_X3_gatherLanes f_X2_clear
  simp only [lt_, bI1_s]
  by_cases hne : ids = []
  · subst hne
    have cz : ∀ s, cL b [] s [] = 0 := fun _ => rfl
    refine ok_bI1 (x_gatherOf (b := b) (s := 1) (m0 := 0) (f0 := fun _ => (0, 0, 0)) (Dn := fun _ => False) (by decide) hok hsm (fun i hi => absurd hi (Nat.not_lt_zero _)) hid8 hle (by omega) (by omega) (fun k hk => by cases hk) (fun k hk => by cases hk) ⟨gt_sv_same _ _ _ _, fun i hi => absurd hi (Nat.not_lt_zero _)⟩ (fun i j _ hj => absurd hj (Nat.not_lt_zero _)) (by omega) (fun l => ⟨fun ⟨i, hi, _⟩ => absurd hi (Nat.not_lt_zero _), fun z => absurd z.2 (fun q => q)⟩) (fun l h => h.elim)) ?_
    rintro s1 ⟨m1, f1, g1, g2, g3, g4, g5⟩
    rw [cz] at g3
    refine ok_bI1 (x_gatherOf (b := b) (s := 0) (m0 := m1) (f0 := f1) (Dn := fun l => l.1 = 1) (by decide) hok hsm (fun i hi => absurd hi (Nat.not_lt_zero _)) hid8 hle (by omega) (by omega) (fun k hk => by cases hk) (fun k hk => by cases hk) g1 g2 (by omega) (fun l => by rw [g4 l]; simp) (fun l h => by omega)) ?_
    rintro s2 ⟨m2, f2, e1, e2, e3, e4, e5⟩
    rw [cz] at e3
    refine ok_some ⟨⟨m2, f2, e1, e2, by omega, fun l => ?_⟩, ?_⟩
    · rw [e4 l]
      exact ⟨fun z => z.1, fun z => ⟨z, (isLn_s z).elim Or.inr Or.inl⟩⟩
    · exact kpt_tr (kpt_tr (kpt_sv (kpt_rf _ _ _) (by omega) (by omega)) g5) e5
  · have hk0 : kpt (o + 19) (o + 22) st (sv st (o + 19) 3 0) := kpt_sv (kpt_rf _ _ _) (by omega) (by omega)
    have c1 := cL_lt (s := 1) (by decide) hok hne
    have c0 := cL_lt (s := 0) (by decide) hok hne
    refine ok_bI1 (x_gatherOf (b := b) (s := 1) (ids := ids) (m0 := 0) (f0 := fun _ => (0, 0, 0)) (Dn := fun _ => False) (by decide) hok hsm (fun i hi => by rw [hk0 _ _ (by omega)]; exact hsg i hi) hid8 hle (by omega) (by omega) (fun k hk => by rw [hk0 _ _ (by omega)]; exact hsh.c2 (hid k hk)) (fun k hk => by rw [hk0 _ _ (by omega)]; exact hsh.c4 (hid k hk)) ⟨gt_sv_same _ _ _ _, fun i hi => absurd hi (Nat.not_lt_zero _)⟩ (fun i j _ hj => absurd hj (Nat.not_lt_zero _)) (by omega) (fun l => ⟨fun ⟨i, hi, _⟩ => absurd hi (Nat.not_lt_zero _), fun z => absurd z.2 (fun q => q)⟩) (fun l h => h.elim)) ?_
    rintro s1 ⟨m1, f1, g1, g2, g3, g4, g5⟩
    have hk1 := kpt_tr hk0 g5
    refine ok_bI1 (x_gatherOf (b := b) (s := 0) (ids := ids) (m0 := m1) (f0 := f1) (Dn := fun l => l.1 = 1) (by decide) hok hsm (fun i hi => by rw [hk1 _ _ (by omega)]; exact hsg i hi) hid8 hle (by omega) (by omega) (fun k hk => by rw [hk1 _ _ (by omega)]; exact hsh.c1 (hid k hk)) (fun k hk => by rw [hk1 _ _ (by omega)]; exact hsh.c3 (hid k hk)) g1 g2 (by omega) (fun l => by rw [g4 l]; simp) (fun l h => by omega)) ?_
    rintro s2 ⟨m2, f2, e1, e2, e3, e4, e5⟩
    refine ok_some ⟨⟨m2, f2, e1, e2, by omega, fun l => ?_⟩, kpt_tr hk1 e5⟩
    rw [e4 l]
    exact ⟨fun z => z.1, fun z => ⟨z, (isLn_s z).elim Or.inr Or.inl⟩⟩
/-- the first of the lanes is the best one -/
theorem lanes_best {st : GS} {q : Nat} {b : Bx} {ids : List Nat} {m : Nat} {f : Nat → Ln} (h : lanesOf st q b ids m f) : best b ids = if m = 0 then none else some (f 0) := by
  obtain ⟨h1, h2, h3, h4⟩ := h
  by_cases hm : m = 0
  · rw [if_pos hm]
    subst hm
    exact best_none (fun l hl => by obtain ⟨i, hi, -⟩ := (h4 l).mpr hl; exact absurd hi (Nat.not_lt_zero _))
  · rw [if_neg hm]
    refine best_some ⟨(h4 _).mp ⟨0, by omega, rfl⟩, fun l hl => ?_⟩
    obtain ⟨i, hi, rfl⟩ := (h4 l).mpr hl
    by_cases h0 : i = 0
    · subst h0; exact Or.inl rfl
    · exact Or.inr (h2 0 i (by omega) hi)
