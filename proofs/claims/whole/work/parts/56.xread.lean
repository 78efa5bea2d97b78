/-- the inner loop of a leaf: x is put into a sorted list, from its right end on -/
theorem x_leafIn {st : GS} {o n fr : Nat} {P : List Nat} {b : Bx} {rs : List Int} {x : Nat} (hsh : shIs st (o + 1) n b rs) (hp : okP n b rs) (hP : ∀ k ∈ P, k < n) (hx : x < n) (hxP : x ∉ P) (hle : fr + P.length < 8) (hsg : sg st (o + 23) fr P) (hpw : P.Pairwise (fun a c => ah b rs a c = true)) :
    ok (lpx (uc2 (f_X3_readLeaf_L41 o (nI fr) (nI x))) (nI (fr + P.length), st)) (fun z => ∃ P1 P2, P = P1 ++ P2 ∧ z.1 = nI (fr + P1.length) ∧ (∀ a ∈ P1, ah b rs a x = true) ∧ (∀ a ∈ P2, ah b rs x a = true) ∧ sg z.2 (o + 23) fr P1 ∧ sg z.2 (o + 23) (fr + P1.length + 1) P2 ∧ kpt (o + 23) (o + 23) st z.2 ∧ ∀ j, (j < fr ∨ fr + P.length < j) → gt z.2 (o + 23) j = gt st (o + 23) j) := by
  have hn := hp.1
  refine ok_lpx (fun m z => ∃ P1 P2, P = P1 ++ P2 ∧ m = P1.length ∧ z.1 = nI (fr + P1.length) ∧ (∀ a ∈ P2, ah b rs x a = true) ∧ sg z.2 (o + 23) fr P1 ∧ sg z.2 (o + 23) (fr + P1.length + 1) P2 ∧ kpt (o + 23) (o + 23) st z.2 ∧ ∀ j, (j < fr ∨ fr + P.length < j) → gt z.2 (o + 23) j = gt st (o + 23) j) _ ?_ P.length _ ⟨P, [], by simp, rfl, rfl, (fun a ha => by cases ha), hsg, sg_nil, kpt_rf _ _ _, fun j _ => rfl⟩
  rintro m ⟨z, s2⟩ ⟨P1, P2, e, rfl, hz, h2, h3, h4, h5, h6⟩
  simp only at hz h3 h4 h5 h6
  subst hz
  show ok (f_X3_readLeaf_L41 o (nI fr) (nI x) (nI (fr + P1.length)) s2) _
  unfold f_X3_readLeaf_L41
  have hlen : P.length = P1.length + P2.length := by rw [e, List.length_append]
  refine ok_if (fun c => ?_) (fun c => ?_)
  · rw [nI_leI (by omega) (by omega)] at c
    have : P1 = [] := List.eq_nil_of_length_eq_zero (by omega)
    subst this
    exact ok_some (Or.inr ⟨_, rfl, [], P2, e, rfl, (fun a ha => by cases ha), h2, h3, h4, h5, h6⟩)
  · rw [nI_leI (by omega) (by omega)] at c
    rcases List.eq_nil_or_concat P1 with h | ⟨L, y, h⟩
    · subst h; simp at c
    · rw [List.concat_eq_append] at h
      subst h
      rw [List.length_append] at *
      have ey : nI (fr + (L.length + [y].length)) - 1 = nI (fr + L.length) := nI_pred (fr + L.length)
      rw [ey]
      obtain ⟨g1, g2⟩ := sg_app.mp h3
      have g2 := sg_one.mp g2
      have hyP : y ∈ P := by rw [e]; simp
      have hyn := hP y hyP
      simp only [List.length_singleton] at *
      simp only [gd_n (show fr + L.length < 8 by omega) (show 8 < 2147483648 by omega), gd_n (show fr + (L.length + 1) < 8 by omega) (show 8 < 2147483648 by omega), nI_clamp (show fr + L.length < 2 ^ 31 by omega), nI_clamp (show fr + (L.length + 1) < 2 ^ 31 by omega), g2, lt_]
      have hsh2 : shIs s2 (o + 1) n b rs := by
        obtain ⟨q1, q2, q3, q4⟩ := hsh
        exact ⟨by rw [h5 _ _ (by omega)]; exact q1, by rw [h5 _ _ (by omega)]; exact q2, fun k hk c hc => by rw [h5 _ _ (by omega)]; exact q3 k hk c hc, fun i hi => by rw [h5 _ _ (by omega)]; exact q4 i hi⟩
      rw [x_ahead hsh2 hp hx hyn, bI1_s]
      by_cases hxy : ah b rs x y = true
      · rw [if_pos hxy, if_neg (by decide)]
        refine ok_some (Or.inl ⟨_, L.length, rfl, by omega, L, y :: P2, by rw [e]; simp, rfl, pk_m1 (fr + L.length), fun a ha => ?_, ?_, ?_, ?_, ?_⟩)
        · rcases List.mem_cons.mp ha with e2 | e2
          · rw [e2]; exact hxy
          · exact h2 a e2
        · exact sg_same g1 (fun j _ _ => gt_sv_j (by omega))
        · refine sg_cons.mpr ⟨?_, ?_⟩
          · exact gt_sv_same _ _ _ _
          · exact sg_same h4 (fun j _ _ => gt_sv_j (by omega))
        · exact kpt_sv h5 (by omega) (by omega)
        · intro j hj; rw [gt_sv_j (by omega)]; exact h6 j hj
      · rw [if_neg hxy, if_pos rfl]
        have hne : x ≠ y := fun q => hxP (q ▸ hyP)
        have hyx : ah b rs y x = true := (ah_tot hne).resolve_left hxy
        refine ok_some (Or.inr ⟨_, rfl, L ++ [y], P2, e, by rw [List.length_append]; rfl, fun a ha => ?_, h2, h3, by rw [List.length_append]; exact h4, h5, h6⟩)
        rcases List.mem_append.mp ha with e2 | e2
        · rw [e] at hpw
          have hp1 := (List.pairwise_append.mp hpw).1
          exact ah_tr ((List.pairwise_append.mp hp1).2.2 a e2 y (by simp)) hyx
        · rw [List.mem_singleton.mp e2]; exact hyx
/-- a leaf is put in its order, and told of -/
theorem x_leaf {st : GS} {o n fr d L : Nat} {ids : List Nat} {b : Bx} {rs : List Int} (hsh : shIs st (o + 1) n b rs) (hp : okP n b rs) (hid : ∀ k ∈ ids, k < n) (hnd : ids.Nodup) (hle : fr + ids.length ≤ 8) (hsg : sg st (o + 23) fr ids) (hL : gt st o 7 = nI L) :
    ok (f_X3_readLeaf o (nI fr) (nI (fr + ids.length)) (nI d) st) (fun st' => sg st' (o + 23) fr (srt b rs ids) ∧ gt st' o 7 = nI (L + 1) ∧ (∀ k ∈ ids, gt st' (o + 11) k = nI d ∧ gt st' (o + 12) k = nI L) ∧ (∀ k, k ∉ ids → gt st' (o + 11) k = gt st (o + 11) k ∧ gt st' (o + 12) k = gt st (o + 12) k) ∧ (∀ j, (j < fr ∨ fr + ids.length ≤ j) → gt st' (o + 23) j = gt st (o + 23) j) ∧ (∀ j, j ≠ 7 → gt st' o j = gt st o j) ∧ ∀ c j, (c ≠ o ∧ c ≠ o + 11 ∧ c ≠ o + 12 ∧ c ≠ o + 23) → gt st' c j = gt st c j) := by
  have hn := hp.1
  unfold f_X3_readLeaf
  refine ok_bI1 (P := fun s5 => (∃ P, P.Perm ids ∧ P.Pairwise (fun a c => ah b rs a c = true) ∧ sg s5 (o + 23) fr P) ∧ (∀ k ∈ ids, gt s5 (o + 11) k = nI d ∧ gt s5 (o + 12) k = nI L) ∧ (∀ k, k ∉ ids → gt s5 (o + 11) k = gt st (o + 11) k ∧ gt s5 (o + 12) k = gt st (o + 12) k) ∧ (∀ j, (j < fr ∨ fr + ids.length ≤ j) → gt s5 (o + 23) j = gt st (o + 23) j) ∧ ∀ c j, (c ≠ o + 11 ∧ c ≠ o + 12 ∧ c ≠ o + 23) → gt s5 c j = gt st c j) ?_ ?_
  · refine ok_for ids.length (fun i z => z.1 = nI (fr + i) ∧ (∃ P, P.Perm (ids.take i) ∧ P.Pairwise (fun a c => ah b rs a c = true) ∧ sg z.2 (o + 23) fr P) ∧ (∀ j, i ≤ j → j < ids.length → gt z.2 (o + 23) (fr + j) = nI (ids.getD j 0)) ∧ (∀ k ∈ ids.take i, gt z.2 (o + 11) k = nI d ∧ gt z.2 (o + 12) k = nI L) ∧ (∀ k, k ∉ ids → gt z.2 (o + 11) k = gt st (o + 11) k ∧ gt z.2 (o + 12) k = gt st (o + 12) k) ∧ (∀ j, (j < fr ∨ fr + ids.length ≤ j) → gt z.2 (o + 23) j = gt st (o + 23) j) ∧ ∀ c j, (c ≠ o + 11 ∧ c ≠ o + 12 ∧ c ≠ o + 23) → gt z.2 c j = gt st c j) _ ?_ ?_ 0 _ (Nat.zero_le _) ⟨rfl, ⟨[], List.Perm.refl _, List.Pairwise.nil, sg_nil⟩, fun j _ hj => hsg j hj, (fun k hk => by cases hk), fun k _ => ⟨rfl, rfl⟩, fun j _ => rfl, fun c j _ => rfl⟩
    · rintro i ⟨z, s2⟩ hi ⟨hz, ⟨P, p1, p2, p3⟩, h3, h4, h5, h6, h7⟩
      simp only at hz p3 h3 h4 h5 h6 h7
      subst hz
      show ok (f_X3_readLeaf_L3 o (nI fr) (nI (fr + ids.length)) (nI d) (nI (fr + i)) s2) _
      unfold f_X3_readLeaf_L3
      rw [if_neg (nI_ge (by omega) (by omega))]
      have hk := getD_mem hi
      have hkn := hid _ hk
      have ts := take_step hi
      have hPl : P.length = i := by rw [p1.length_eq, List.length_take]; omega
      simp only [gd_n (show fr + i < 8 by omega) (show 8 < 2147483648 by omega), nI_clamp (show fr + i < 2 ^ 31 by omega), lt_, h3 i (Nat.le_refl _) hi]
      generalize hy : ids.getD i 0 = y at *
      simp only [gd_n (show y < 8 by omega) (show 8 < 2147483648 by omega), nI_clamp (show y < 2 ^ 31 by omega)]
      have hyT : y ∉ ids.take i := by
        have hnd2 : (ids.take (i + 1)).Nodup := List.Nodup.sublist (List.take_sublist _ _) hnd
        rw [ts] at hnd2
        intro hq
        exact (List.nodup_append.mp hnd2).2.2 y hq y (by simp) rfl
      have hyP : y ∉ P := fun q => hyT (p1.mem_iff.mp q)
      have eL : gt (sv s2 (o + 11) y (nI d)) o 7 = nI L := by rw [gt_sv_o (by omega), h7 _ _ (by omega)]; exact hL
      rw [eL]
      have k9 : ∀ c j, (c ≠ o + 11 ∧ c ≠ o + 12) → gt (sv (sv s2 (o + 11) y (nI d)) (o + 12) y (nI L)) c j = gt s2 c j := fun c j hc => by
        rw [gt_sv_o hc.2, gt_sv_o hc.1]
      have hsh2 : shIs (sv (sv s2 (o + 11) y (nI d)) (o + 12) y (nI L)) (o + 1) n b rs := by
        obtain ⟨q1, q2, q3, q4⟩ := hsh
        exact ⟨by rw [k9 _ _ (by omega), h7 _ _ (by omega)]; exact q1, by rw [k9 _ _ (by omega), h7 _ _ (by omega)]; exact q2, fun k hk c hc => by rw [k9 _ _ (by omega), h7 _ _ (by omega)]; exact q3 k hk c hc, fun i hi => by rw [k9 _ _ (by omega), h7 _ _ (by omega)]; exact q4 i hi⟩
      have e9 : nI (fr + i) = nI (fr + P.length) := by rw [hPl]
      rw [e9]
      refine ok_bI2 (x_leafIn hsh2 hp (fun k hk => hid k (List.mem_of_mem_take (p1.mem_iff.mp hk))) hkn hyP (by omega) (sg_same p3 (fun j _ _ => k9 _ _ (by omega))) p2) ?_
      rintro z3 s3 ⟨P1, P2, e, hz, g1, g2, g3, g4, g5, g6⟩
      simp only at hz g3 g4 g5 g6
      subst hz
      have hPP : P1.length + P2.length = i := by rw [← hPl, e, List.length_append]
      rw [gd_n (show fr + P1.length < 8 by omega) (by omega), nI_clamp (show fr + P1.length < 2 ^ 31 by omega)]
      have k8 : ∀ c j, (c ≠ o + 11 ∧ c ≠ o + 12 ∧ c ≠ o + 23) → gt s3 c j = gt s2 c j := fun c j hc => by
        rw [g5 _ _ (by omega), k9 _ _ ⟨hc.1, hc.2.1⟩]
      refine ok_some (Or.inl ⟨_, rfl, ?_, ⟨P1 ++ y :: P2, ?_, ?_, ?_⟩, ?_, ?_, ?_, ?_, ?_⟩)
      · show nI (fr + P.length) + 1 = _
        rw [hPl]; exact nI_p1 (fr + i)
      · rw [ts]
        refine List.perm_middle.trans ?_
        rw [← e]
        exact (List.Perm.cons y p1).trans (List.perm_append_singleton y _).symm
      · rw [e] at p2
        obtain ⟨w1, w2, w3⟩ := List.pairwise_append.mp p2
        refine List.pairwise_append.mpr ⟨w1, List.pairwise_cons.mpr ⟨g2, w2⟩, fun a ha c hc => ?_⟩
        rcases List.mem_cons.mp hc with e2 | e2
        · rw [e2]; exact g1 a ha
        · exact w3 a ha c e2
      · refine sg_app.mpr ⟨sg_same g3 (fun j _ _ => gt_sv_j (by omega)), sg_cons.mpr ⟨gt_sv_same _ _ _ _, sg_same g4 (fun j _ _ => gt_sv_j (by omega))⟩⟩
      · intro j hj1 hj2
        rw [gt_sv_j (by omega), g6 _ (by omega), k9 _ _ (by omega)]
        exact h3 j (by omega) hj2
      · intro k hk2
        rw [ts] at hk2
        rw [gt_sv_o (by omega), gt_sv_o (by omega), g5 _ _ (by omega), g5 _ _ (by omega)]
        by_cases hky : k = y
        · subst hky
          rw [gt_sv_o (by omega), gt_sv_same, gt_sv_same]
          exact ⟨rfl, rfl⟩
        · rw [gt_sv_o (by omega), gt_sv_j hky, gt_sv_j hky, gt_sv_o (by omega)]
          rcases List.mem_append.mp hk2 with q | q
          · exact h4 k q
          · exact absurd (List.mem_singleton.mp q) hky
      · intro k hk2
        have hky : k ≠ y := fun q => hk2 (q ▸ hk)
        rw [gt_sv_o (by omega), gt_sv_o (by omega), g5 _ _ (by omega), g5 _ _ (by omega), gt_sv_o (by omega), gt_sv_j hky, gt_sv_j hky, gt_sv_o (by omega)]
        exact h5 k hk2
      · intro j hj
        rw [gt_sv_j (by omega), g6 _ (by omega), k9 _ _ (by omega)]
        exact h6 j hj
      · intro c j hc
        rw [gt_sv_o hc.2.2, k8 _ _ hc]
        exact h7 c j hc
    · rintro ⟨z, s2⟩ ⟨hz, ⟨P, p1, p2, p3⟩, h3, h4, h5, h6, h7⟩
      simp only at hz p3 h3 h4 h5 h6 h7
      subst hz
      show ok (f_X3_readLeaf_L3 o (nI fr) (nI (fr + ids.length)) (nI d) (nI (fr + ids.length)) s2) _
      unfold f_X3_readLeaf_L3
      rw [if_pos (nI_le (Nat.le_refl _) (by omega))]
      rw [List.take_length] at *
      exact ok_some ⟨_, rfl, ⟨P, p1, p2, p3⟩, h4, h5, h6, h7⟩
  · rintro s5 ⟨⟨P, p1, p2, p3⟩, h4, h5, h6, h7⟩
    have e7 : gt s5 o 7 = nI L := by rw [h7 _ _ (by omega)]; exact hL
    simp only [lt_, e7]
    have := srt_uniq hnd p1 p2
    subst this
    refine ok_some ⟨sg_same p3 (fun j _ _ => gt_sv_o (by omega)), ?_, fun k hk => ?_, fun k hk => ?_, fun j hj => ?_, fun j hj => ?_, fun c j hc => ?_⟩
    · rw [gt_sv_same]; exact nI_p1 L
    · rw [gt_sv_o (by omega), gt_sv_o (by omega)]; exact h4 k hk
    · rw [gt_sv_o (by omega), gt_sv_o (by omega)]; exact h5 k hk
    · rw [gt_sv_o (by omega)]; exact h6 j hj
    · rw [gt_sv_j hj]; exact h7 _ _ (by omega)
    · rw [gt_sv_o hc.1]; exact h7 _ _ hc.2
