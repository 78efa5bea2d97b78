theorem s_minus {S T : Int32} (hs : sml S) : idS (S &&& (T ^^^ (-1))) = (idS S).filter (fun k => !bt T k) ∧ sml (S &&& (T ^^^ (-1))) := by
  refine ⟨s_filter (fun k hk => by rw [b_and, bt_not (by omega)]), fun i hi => by rw [b_and, hs i hi]; rfl⟩
theorem s_minus1 {S : Int32} {m : Nat} (hs : sml S) (hm : m < 8) : idS (S &&& (ishl 1 (nI m) ^^^ (-1))) = (idS S).filter (fun k => !decide (k = m)) ∧ sml (S &&& (ishl 1 (nI m) ^^^ (-1))) := by
  refine ⟨s_filter (fun k hk => by rw [b_and, bt_not (by omega), bt_shl hm]), (s_minus hs).2⟩
theorem srt_min {b : Bx} {rs : List Int} {ids : List Nat} {m : Nat} (hn : ids.Nodup) (hm : m ∈ ids) (h : ∀ k ∈ ids, k ≠ m → ah b rs m k = true) : srt b rs ids = m :: srt b rs (ids.filter (fun k => !decide (k = m))) := by
  have hf : (ids.filter (fun k => !decide (k = m))).Nodup := List.Nodup.sublist List.filter_sublist hn
  have hmem : ∀ k, k ∈ srt b rs (ids.filter (fun k => !decide (k = m))) ↔ k ∈ ids ∧ k ≠ m := fun k => by
    rw [(srt_perm b rs _).mem_iff, List.mem_filter]; simp
  refine (srt_uniq hn ?_ ?_).symm
  · refine (List.perm_ext_iff_of_nodup (List.nodup_cons.mpr ⟨fun q => ((hmem m).mp q).2 rfl, (srt_perm b rs _).nodup_iff.mpr hf⟩) hn).mpr (fun k => ?_)
    rw [List.mem_cons, hmem]
    by_cases hk : k = m
    · subst hk; simp [hm]
    · simp [hk]
  · exact List.pairwise_cons.mpr ⟨fun k hk => h k ((hmem k).mp hk).1 ((hmem k).mp hk).2, srt_pw hf⟩
theorem m_least {st : GS} {n : Nat} {b : Bx} {rs : List Int} {S : Int32} (h : mIs st n b rs) (hp : okP n b rs) (hS : ∀ k ∈ idS S, k < n) (hne : idS S ≠ []) :
    ok (lpx (uc2 (f_X8_layLeaf_L12 S st)) ((-1), 0)) (fun r => ∃ m, m ∈ idS S ∧ r = nI m ∧ ∀ k ∈ idS S, k ≠ m → ah b rs m k = true) := by
  have hn := hp.1
  refine ok_for n (fun i z => z.2 = nI i ∧ ((z.1 = -1 ∧ ∀ k ∈ idS S, ¬ k < i) ∨ ∃ m, m ∈ idS S ∧ z.1 = nI m ∧ ∀ k ∈ idS S, k < i → k ≠ m → ah b rs m k = true)) _ ?_ ?_ 0 _ (Nat.zero_le _) ⟨rfl, Or.inl ⟨rfl, fun k _ hk => absurd hk (Nat.not_lt_zero _)⟩⟩
  · rintro i ⟨z1, z2⟩ hi ⟨h1, h2⟩
    simp only at h1 h2
    subst h1
    show ok (f_X8_layLeaf_L12 S st z1 (nI i)) _
    unfold f_X8_layLeaf_L12
    rw [h.1, if_neg (nI_ge hi (by omega))]
    have lt_i : ∀ j, j < i + 1 → j = i ∨ j < i := fun j hj => by omega
    refine m_has_ok (show i < 8 by omega) (fun hb => ?_) (fun hb => ?_)
    · rw [if_neg (by decide)]
      have hin : i ∈ idS S := idS_mem.mpr ⟨by omega, hb⟩
      rcases h2 with ⟨rfl, h2⟩ | ⟨m, hm, rfl, h2⟩
      · rw [if_pos rfl]
        refine ok_lt (ok_some (Or.inl ⟨_, rfl, nI_p1 i, Or.inr ⟨i, hin, rfl, fun k hk q q2 => ?_⟩⟩))
        rcases lt_i k q with e | e
        · exact absurd e q2
        · exact absurd e (h2 k hk)
      · have hmn := hS m hm
        rw [if_neg (nI_ne_m1 (by omega)), m_ahead h hp hi hmn, bI1_s]
        by_cases ha : ah b rs i m = true
        · rw [if_pos ha, if_neg (by decide)]
          refine ok_lt (ok_some (Or.inl ⟨_, rfl, nI_p1 i, Or.inr ⟨i, hin, rfl, fun k hk q q2 => ?_⟩⟩))
          rcases lt_i k q with e | e
          · exact absurd e q2
          · by_cases hkm : k = m
            · rw [hkm]; exact ha
            · exact ah_tr ha (h2 k hk e hkm)
        · rw [if_neg ha, if_pos rfl]
          refine ok_lt (ok_some (Or.inl ⟨_, rfl, nI_p1 i, Or.inr ⟨m, hm, rfl, fun k hk q q2 => ?_⟩⟩))
          rcases lt_i k q with e | e
          · subst e; exact (ah_tot q2).resolve_left ha
          · exact h2 k hk e q2
    · rw [if_pos rfl]
      have hno : i ∉ idS S := fun q => by have := (idS_mem.mp q).2; rw [hb] at this; cases this
      refine ok_lt (ok_some (Or.inl ⟨_, rfl, nI_p1 i, ?_⟩))
      rcases h2 with ⟨e, h2⟩ | ⟨m, hm, e, h2⟩
      · refine Or.inl ⟨e, fun k hk q => ?_⟩
        rcases lt_i k q with e | e
        · subst e; exact hno hk
        · exact h2 k hk e
      · refine Or.inr ⟨m, hm, e, fun k hk q q2 => ?_⟩
        rcases lt_i k q with e | e
        · subst e; exact absurd hk hno
        · exact h2 k hk e q2
  · rintro ⟨z1, z2⟩ ⟨h1, h2⟩
    simp only at h1 h2
    subst h1
    show ok (f_X8_layLeaf_L12 S st z1 (nI n)) _
    unfold f_X8_layLeaf_L12
    rw [h.1, if_pos (nI_le (Nat.le_refl _) (by omega))]
    rcases h2 with ⟨rfl, h2⟩ | ⟨m, hm, rfl, h2⟩
    · exfalso
      obtain ⟨k, hk⟩ := List.exists_mem_of_ne_nil _ hne
      exact h2 k hk (hS k hk)
    · exact ok_some ⟨_, rfl, m, hm, rfl, fun k hk q => h2 k hk (hS k hk) q⟩
/-- a leaf is laid: its boxes in their order, each with its captions -/
theorem m_leaf {st : GS} {n : Nat} {b : Bx} {rs : List Int} {S T : Int32} {O : List Nat} {L d : Nat} (h : mIs st n b rs) (hp : okP n b rs) (hS : ∀ k ∈ idS S, k < n) (hs : sml T) (hT : ∀ k ∈ idS T, k < n) (hB : ∀ k, k < n → gt st 5 k = if k ∈ idS S then eO (bnd b (idS S) k) else -1) (hO : orM st O) (hL : gt st 0 19 = nI L) (hl : O.length + ((srt b rs (idS T)).flatMap (fun x => x :: caps b (idS S) x)).length ≤ 8) :
    ok (f_X8_layLeaf T (nI d) st) (fun st' => orM st' (O ++ (srt b rs (idS T)).flatMap (fun x => x :: caps b (idS S) x)) ∧ gt st' 0 19 = nI (L + 1) ∧ (∀ k ∈ idS T, gt st' 8 k = nI L ∧ gt st' 9 k = nI d) ∧ (∀ k, k ∉ idS T → gt st' 8 k = gt st 8 k ∧ gt st' 9 k = gt st 9 k) ∧ gl st' = gl st ∧ ∀ c j, c ≠ 6 → c ≠ 8 → c ≠ 9 → (c ≠ 0 ∨ (j ≠ 16 ∧ j ≠ 19)) → gt st' c j = gt st c j) := by
  have hn := hp.1
  unfold f_X8_layLeaf
  refine ok_bI1 (P := fun st' => orM st' (O ++ (srt b rs (idS T)).flatMap (fun x => x :: caps b (idS S) x)) ∧ (∀ k ∈ idS T, gt st' 8 k = nI L ∧ gt st' 9 k = nI d) ∧ (∀ k, k ∉ idS T → gt st' 8 k = gt st 8 k ∧ gt st' 9 k = gt st 9 k) ∧ gl st' = gl st ∧ ∀ c j, c ≠ 6 → c ≠ 8 → c ≠ 9 → (c ≠ 0 ∨ j ≠ 16) → gt st' c j = gt st c j) ?_ ?_
  · refine ok_lpx (fun m z => m = (idS z.1).length ∧ sml z.1 ∧ (∀ k ∈ idS z.1, k ∈ idS T) ∧ (∃ O', orM z.2 O' ∧ O' ++ (srt b rs (idS z.1)).flatMap (fun x => x :: caps b (idS S) x) = O ++ (srt b rs (idS T)).flatMap (fun x => x :: caps b (idS S) x)) ∧ (∀ k ∈ idS T, k ∉ idS z.1 → gt z.2 8 k = nI L ∧ gt z.2 9 k = nI d) ∧ (∀ k, k ∉ idS T → gt z.2 8 k = gt st 8 k ∧ gt z.2 9 k = gt st 9 k) ∧ gl z.2 = gl st ∧ ∀ c j, c ≠ 6 → c ≠ 8 → c ≠ 9 → (c ≠ 0 ∨ j ≠ 16) → gt z.2 c j = gt st c j) _ ?_ (idS T).length _ ⟨rfl, hs, fun k hk => hk, ⟨O, hO, rfl⟩, fun k hk q => absurd hk q, fun k _ => ⟨rfl, rfl⟩, rfl, fun c j _ _ _ _ => rfl⟩
    rintro m ⟨z, s⟩ ⟨h1, h2, h3, ⟨O', h4, h5⟩, h6, h7, h8, h9⟩
    simp only at h1 h2 h3 h4 h5 h6 h7 h8 h9
    subst h1
    show ok (f_X8_layLeaf_L2 (nI d) z s) _
    unfold f_X8_layLeaf_L2
    refine ok_if (fun c => ?_) (fun c => ?_)
    · have hz := (s_zero h2).mp c
      rw [hz] at h5 h6
      refine ok_some (Or.inr ⟨_, rfl, ?_, fun k hk => h6 k hk List.not_mem_nil, h7, h8, h9⟩)
      rw [← h5]
      simpa [srt] using h4
    · have hne : idS z ≠ [] := fun q => c ((s_zero h2).mpr q)
      have hz : ∀ k ∈ idS z, k < n := fun k hk => hT k (h3 k hk)
      have hm : mIs s n b rs := mIs_keep h (h9 _ _ (by decide) (by decide) (by decide) (Or.inr (by decide))) (h9 _ _ (by decide) (by decide) (by decide) (Or.inr (by decide))) (fun c j hc => h9 _ _ (by omega) (by omega) (by omega) (by omega))
      refine ok_bI1 (m_least hm hp hz hne) ?_
      rintro r ⟨x, hx, rfl, hmin⟩
      have hxn := hz x hx
      obtain ⟨q1, q2⟩ := s_minus1 (m := x) h2 (by omega)
      have hsr := srt_min (idS_nd _) hx hmin
      rw [hsr, ← q1, List.flatMap_cons] at h5
      refine ok_lt ?_
      rw [gd_n (show x < 8 by omega) (by omega), nI_clamp (show x < 2 ^ 31 by omega)]
      refine ok_lt ?_
      rw [gd_n (show x < 8 by omega) (by omega)]
      refine ok_lt ?_
      rw [h9 0 19 (by decide) (by decide) (by decide) (Or.inr (by decide)), hL]
      have hlen := congrArg List.length h5
      rw [List.length_append, List.length_append, List.length_append, List.length_cons] at hlen
      have e5 : ∀ c j, c ≠ 6 → c ≠ 8 → c ≠ 9 → (c ≠ 0 ∨ j ≠ 16) → gt (sv (sv s 8 x (nI L)) 9 x (nI d)) c j = gt st c j := fun c j c1 c2 c3 c4 => by rw [gt_sv_o c3, gt_sv_o c2]; exact h9 c j c1 c2 c3 c4
      refine ok_bI1 (m_append (S := S) (O := O') (k := x) (b := b) hn (by rw [e5 _ _ (by decide) (by decide) (by decide) (Or.inr (by decide))]; exact h.1) hS (fun k hk => by rw [e5 _ _ (by decide) (by decide) (by decide) (Or.inl (by decide))]; exact hB k hk) (by omega) ⟨by rw [gt_sv_o (by decide), gt_sv_o (by decide)]; exact h4.1, sg_same h4.2 (fun j _ _ => by rw [gt_sv_o (by decide), gt_sv_o (by decide)])⟩ (by omega)) ?_
      rintro s22 ⟨g1, g2, g3⟩
      have g8 : ∀ k, gt s22 8 k = if k = x then nI L else gt s 8 k := fun k => by
        rw [g3 _ _ (by decide) (Or.inl (by decide)), gt_sv_o (by decide), gt_sv]
        by_cases hk : k = x
        · rw [if_pos ⟨rfl, hk⟩, if_pos hk]
        · rw [if_neg (fun q => hk q.2), if_neg hk]
      have g9 : ∀ k, gt s22 9 k = if k = x then nI d else gt s 9 k := fun k => by
        rw [g3 _ _ (by decide) (Or.inl (by decide)), gt_sv]
        by_cases hk : k = x
        · rw [if_pos ⟨rfl, hk⟩, if_pos hk]
        · rw [if_neg (fun q => hk q.2), if_neg hk, gt_sv_o (by decide)]
      have hmem : ∀ k, k ∈ idS (z &&& (ishl 1 (nI x) ^^^ (-1))) ↔ k ∈ idS z ∧ k ≠ x := fun k => by rw [q1, List.mem_filter]; simp
      refine ok_some (Or.inl ⟨_, (idS (z &&& (ishl 1 (nI x) ^^^ (-1)))).length, rfl, ?_, rfl, q2, fun k hk => h3 k ((hmem k).mp hk).1, ⟨_, g1, by rw [List.append_assoc]; exact h5⟩, fun k hk hno => ?_, fun k hk => ?_, g2.trans h8, fun c j c1 c2 c3 c4 => (g3 c j c1 c4).trans (e5 c j c1 c2 c3 c4)⟩)
      · have := (srt_perm b rs (idS z)).length_eq
        rw [hsr, ← q1, List.length_cons, (srt_perm b rs _).length_eq] at this
        omega
      · show gt s22 8 k = nI L ∧ gt s22 9 k = nI d
        rw [g8, g9]
        by_cases hkx : k = x
        · rw [if_pos hkx, if_pos hkx]; exact ⟨rfl, rfl⟩
        · rw [if_neg hkx, if_neg hkx]
          exact h6 k hk (fun q => hno ((hmem k).mpr ⟨q, hkx⟩))
      · show gt s22 8 k = gt st 8 k ∧ gt s22 9 k = gt st 9 k
        have hkx : k ≠ x := fun q => hk (by rw [q]; exact h3 x hx)
        rw [g8, g9, if_neg hkx, if_neg hkx]
        exact h7 k hk
  · rintro s23 ⟨g1, g2, g3, g4, g5⟩
    refine ok_lt (ok_some ⟨⟨by rw [gt_sv_j (by decide)]; exact g1.1, sg_same g1.2 (fun j _ _ => gt_sv_o (by decide))⟩, ?_, fun k hk => ?_, fun k hk => ?_, g4, fun c j c1 c2 c3 c4 => ?_⟩)
    · rw [gt_sv_same, g5 0 19 (by decide) (by decide) (by decide) (Or.inr (by decide)), hL]; exact nI_p1 _
    · rw [gt_sv_o (by decide), gt_sv_o (by decide)]; exact g2 k hk
    · rw [gt_sv_o (by decide), gt_sv_o (by decide)]; exact g3 k hk
    · have : gt (sv s23 0 19 (gt s23 0 19 + 1)) c j = gt s23 c j := by
        rcases c4 with q | q
        · exact gt_sv_o q
        · exact gt_sv_j q.2
      rw [this]
      exact g5 c j c1 c2 c3 (by omega)
