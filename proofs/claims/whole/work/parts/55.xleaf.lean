theorem getD_app1 {l m : List Nat} {i : Nat} (h : i < l.length) : (l ++ m).getD i 0 = l.getD i 0 := by
  rw [List.getD_eq_getElem?_getD, List.getD_eq_getElem?_getD, List.getElem?_append_left h]
theorem getD_app2 {l m : List Nat} {i : Nat} : (l ++ m).getD (l.length + i) 0 = m.getD i 0 := by
  rw [List.getD_eq_getElem?_getD, List.getD_eq_getElem?_getD, List.getElem?_append_right (by omega), Nat.add_sub_cancel_left]
theorem sg_app {st : GS} {a fr : Nat} {l m : List Nat} : sg st a fr (l ++ m) ↔ sg st a fr l ∧ sg st a (fr + l.length) m := by
  constructor
  · intro h
    refine ⟨fun i hi => ?_, fun i hi => ?_⟩
    · rw [h i (by rw [List.length_append]; omega), getD_app1 hi]
    · have := h (l.length + i) (by rw [List.length_append]; omega)
      rw [getD_app2] at this
      rw [Nat.add_assoc]; exact this
  · rintro ⟨h1, h2⟩ i hi
    rcases Nat.lt_or_ge i l.length with h | h
    · rw [getD_app1 h]; exact h1 i h
    · obtain ⟨j, rfl⟩ : ∃ j, i = l.length + j := ⟨i - l.length, by omega⟩
      rw [getD_app2, ← Nat.add_assoc]
      exact h2 j (by rw [List.length_append] at hi; omega)
theorem sg_one {st : GS} {a fr x : Nat} : sg st a fr [x] ↔ gt st a fr = nI x := by
  constructor
  · intro h; exact h 0 Nat.zero_lt_one
  · intro h i hi
    have : i = 0 := by simp at hi; exact hi
    subst this; exact h
theorem sg_cons {st : GS} {a fr x : Nat} {l : List Nat} : sg st a fr (x :: l) ↔ gt st a fr = nI x ∧ sg st a (fr + 1) l := by
  rw [show x :: l = [x] ++ l from rfl, sg_app, sg_one]; rfl
theorem sg_nil {st : GS} {a fr : Nat} : sg st a fr [] := fun i hi => absurd hi (Nat.not_lt_zero _)
theorem sg_same {st st' : GS} {a fr : Nat} {l : List Nat} (h : sg st a fr l) (hs : ∀ j, fr ≤ j → j < fr + l.length → gt st' a j = gt st a j) : sg st' a fr l := fun i hi => by rw [hs _ (by omega) (by omega)]; exact h i hi
theorem take_step {l : List Nat} {i : Nat} (hi : i < l.length) : l.take (i + 1) = l.take i ++ [l.getD i 0] := by
  rw [List.take_succ_eq_append_getElem hi, List.getD_eq_getElem?_getD, List.getElem?_eq_getElem hi]; rfl
/-- the row's run is divided by the best lane -/
theorem x_divide {st : GS} {o n fr : Nat} {ids : List Nat} {b : Bx} {rs : List Int} {l : Ln} (hsh : shIs st (o + 1) n b rs) (hn : n ≤ 8) (hsg : sg st (o + 23) fr ids) (hid : ∀ k ∈ ids, k < n) (hle : fr + ids.length ≤ 8) (hl : l.1 < 2) (e1 : gt st (o + 20) 0 = nI l.1) (e2 : (gt st (o + 21) 0).toInt = l.2.1) :
    ok (f_X3_divide o (nI fr) (nI (fr + ids.length)) st) (fun z => z.1 = nI (fr + (fsd b l ids).length) ∧ sg z.2 (o + 23) fr (fsd b l ids ++ ssd b l ids) ∧ kpt (o + 23) (o + 24) st z.2 ∧ ∀ j, (j < fr ∨ fr + ids.length ≤ j) → gt z.2 (o + 23) j = gt st (o + 23) j) := by
  unfold f_X3_divide
  have hce : ∃ ce, (if gt st (o + 20) 0 = 1 then some (o + 6) else some (o + 5)) = some ce ∧ ce < o + 19 ∧ ∀ k ∈ ids, (gt st ce k).toInt = en b l.1 k := by
    rw [e1]
    have : l.1 = 0 ∨ l.1 = 1 := by omega
    rcases this with h | h
    · rw [h, if_neg (by decide)]
      exact ⟨o + 5, rfl, by omega, fun k hk => hsh.c3 (hid k hk)⟩
    · rw [h, if_pos (by decide)]
      exact ⟨o + 6, rfl, by omega, fun k hk => hsh.c4 (hid k hk)⟩
  obtain ⟨ce, ec, hce, he⟩ := hce
  rw [ec, bI1_s]
  have hlen := sd_len b l ids
  refine ok_bI3 (P := fun z => z.1 = nI (fr + (fsd b l ids).length) ∧ z.2.1 = nI (ssd b l ids).length ∧ sg z.2.2 (o + 23) fr (fsd b l ids) ∧ sg z.2.2 (o + 24) 0 (ssd b l ids) ∧ kpt (o + 23) (o + 24) st z.2.2 ∧ ∀ j, (j < fr ∨ fr + ids.length ≤ j) → gt z.2.2 (o + 23) j = gt st (o + 23) j) ?_ ?_
  · refine ok_for ids.length (fun i z => z.1 = nI (fr + (fsd b l (ids.take i)).length) ∧ z.2.1 = nI (ssd b l (ids.take i)).length ∧ z.2.2.1 = nI (fr + i) ∧ sg z.2.2.2 (o + 23) fr (fsd b l (ids.take i)) ∧ sg z.2.2.2 (o + 24) 0 (ssd b l (ids.take i)) ∧ (∀ j, i ≤ j → j < ids.length → gt z.2.2.2 (o + 23) (fr + j) = nI (ids.getD j 0)) ∧ kpt (o + 23) (o + 24) st z.2.2.2 ∧ ∀ j, (j < fr ∨ fr + ids.length ≤ j) → gt z.2.2.2 (o + 23) j = gt st (o + 23) j) _ ?_ ?_ 0 _ (Nat.zero_le _) ⟨rfl, rfl, rfl, sg_nil, sg_nil, fun j _ hj => hsg j hj, kpt_rf _ _ _, fun j _ => rfl⟩
    · rintro i ⟨z1, z2, z3, s6⟩ hi ⟨h1, h2, h3, h4, h5, h6, h7, h8⟩
      simp only at h1 h2 h3 h4 h5 h6 h7 h8
      subst h1; subst h2; subst h3
      show ok (f_X3_divide_L40 o (nI (fr + ids.length)) ce (nI (fr + (fsd b l (ids.take i)).length)) (nI (ssd b l (ids.take i)).length) (nI (fr + i)) s6) _
      unfold f_X3_divide_L40
      rw [if_neg (nI_ge (by omega) (by omega))]
      have hk := getD_mem hi
      have hk8 : ids.getD i 0 < 8 := Nat.lt_of_lt_of_le (hid _ hk) hn
      have hlt := sd_len b l (ids.take i)
      rw [List.length_take, Nat.min_eq_left (by omega)] at hlt
      have ts := take_step hi
      simp only [gd_n (show fr + i < 8 by omega) (show 8 < 2147483648 by omega), nI_clamp (show fr + i < 2 ^ 31 by omega), lt_, h6 i (Nat.le_refl _) hi]
      simp only [gd_n hk8 (show 8 < 2147483648 by omega), nI_clamp (show ids.getD i 0 < 2 ^ 31 by omega)]
      have ee : (gt s6 ce (ids.getD i 0)).toInt = en b l.1 (ids.getD i 0) := by rw [h7 _ _ (by omega)]; exact he _ hk
      have ea : (gt s6 (o + 21) 0).toInt = l.2.1 := by rw [h7 _ _ (by omega)]; exact e2
      refine ok_if (fun c => ?_) (fun c => ?_)
      · rw [lt32, ee, ea] at c
        rw [gd_n (show (ssd b l (ids.take i)).length < 8 by omega) (by omega)]
        rw [nI_clamp (show (ssd b l (ids.take i)).length < 2 ^ 31 by omega)]
        have f1 : fsd b l (ids.take (i + 1)) = fsd b l (ids.take i) := by
          generalize ids.getD i 0 = y at ts c
          rw [ts]; unfold fsd; rw [List.filter_append]; simp; omega
        have f2 : ssd b l (ids.take (i + 1)) = ssd b l (ids.take i) ++ [ids.getD i 0] := by
          generalize ids.getD i 0 = y at ts c
          rw [ts]; unfold ssd; rw [List.filter_append]; congr 1; simp; omega
        refine ok_some (Or.inl ⟨_, rfl, ?_, ?_, ?_, ?_, ?_, ?_, ?_, ?_⟩)
        · rw [f1]
        · rw [f2, List.length_append, nI_p1]; rfl
        · exact nI_p1 (fr + i)
        · rw [f1]; exact sg_same h4 (fun j _ _ => gt_sv_o (by omega))
        · rw [f2]
          refine sg_app.mpr ⟨sg_same h5 (fun j _ hj => gt_sv_j (by omega)), sg_one.mpr ?_⟩
          rw [Nat.zero_add]; exact gt_sv_same _ _ _ _
        · intro j hj1 hj2; rw [gt_sv_o (by omega)]; exact h6 j (by omega) hj2
        · exact kpt_sv h7 (by omega) (by omega)
        · intro j hj; rw [gt_sv_o (by omega)]; exact h8 j hj
      · rw [lt32, ee, ea] at c
        rw [gd_n (show fr + (fsd b l (ids.take i)).length < 8 by omega) (by omega)]
        rw [nI_clamp (show fr + (fsd b l (ids.take i)).length < 2 ^ 31 by omega)]
        have f2 : ssd b l (ids.take (i + 1)) = ssd b l (ids.take i) := by
          generalize ids.getD i 0 = y at ts c
          rw [ts]; unfold ssd; rw [List.filter_append]; simp; omega
        have f1 : fsd b l (ids.take (i + 1)) = fsd b l (ids.take i) ++ [ids.getD i 0] := by
          generalize ids.getD i 0 = y at ts c
          rw [ts]; unfold fsd; rw [List.filter_append]; congr 1; simp; omega
        refine ok_some (Or.inl ⟨_, rfl, ?_, ?_, ?_, ?_, ?_, ?_, ?_, ?_⟩)
        · rw [f1, List.length_append, nI_p1]; rfl
        · rw [f2]
        · exact nI_p1 (fr + i)
        · rw [f1]
          refine sg_app.mpr ⟨sg_same h4 (fun j _ hj => gt_sv_j (by omega)), sg_one.mpr ?_⟩
          exact gt_sv_same _ _ _ _
        · rw [f2]; exact sg_same h5 (fun j _ _ => gt_sv_o (by omega))
        · intro j hj1 hj2; rw [gt_sv_j (by omega)]; exact h6 j (by omega) hj2
        · exact kpt_sv h7 (by omega) (by omega)
        · intro j hj; rw [gt_sv_j (by omega)]; exact h8 j hj
    · rintro ⟨z1, z2, z3, s6⟩ ⟨h1, h2, h3, h4, h5, h6, h7, h8⟩
      simp only at h1 h2 h3 h4 h5 h6 h7 h8
      subst h1; subst h2; subst h3
      show ok (f_X3_divide_L40 o (nI (fr + ids.length)) ce _ _ (nI (fr + ids.length)) s6) _
      unfold f_X3_divide_L40
      rw [if_pos (nI_le (Nat.le_refl _) (by omega))]
      rw [List.take_length] at *
      exact ok_some ⟨_, rfl, rfl, rfl, h4, h5, h7, h8⟩
  · rintro z1 z2 s6 ⟨h1, h2, h4, h5, h7, h8⟩
    simp only at h1 h2 h4 h5 h7 h8
    subst h1; subst h2
    have q1 : fr + (fsd b l ids).length < 2 ^ 31 := by omega
    have q2 : (ssd b l ids).length < 2 ^ 31 := by omega
    have q0 : Int32.toNatClampNeg 0 = 0 := by decide
    rw [nI_clamp q1, nI_clamp q2, q0]
    refine ok_gq ⟨by decide, nI_pos q1, nI_pos q2, by omega, by omega⟩ ?_
    refine ok_some ⟨rfl, sg_app.mpr ⟨?_, ?_⟩, ?_, ?_⟩
    · intro i hi
      show gt (sc s6 (o + 24) (o + 23) 0 (fr + (fsd b l ids).length) (ssd b l ids).length) (o + 23) (fr + i) = _
      rw [gt_sc, if_neg (by omega)]; exact h4 i hi
    · intro i hi
      show gt (sc s6 (o + 24) (o + 23) 0 (fr + (fsd b l ids).length) (ssd b l ids).length) (o + 23) (fr + (fsd b l ids).length + i) = _
      rw [gt_sc, if_pos (by omega)]
      have := h5 i hi
      rw [show 0 + (fr + (fsd b l ids).length + i - (fr + (fsd b l ids).length)) = 0 + i by omega]
      exact this
    · intro c j hc
      show gt (sc s6 (o + 24) (o + 23) 0 (fr + (fsd b l ids).length) (ssd b l ids).length) c j = _
      rw [gt_sc, if_neg (by omega)]; exact h7 c j hc
    · intro j hj
      show gt (sc s6 (o + 24) (o + 23) 0 (fr + (fsd b l ids).length) (ssd b l ids).length) (o + 23) j = _
      rw [gt_sc, if_neg (by omega)]; exact h8 j hj
