/-- what the model holds after laying the order of a set of boxes -/
def mreads (st : GS) (n : Nat) (b : Bx) (rs : List Int) (ids : List Nat) : Prop := orM st (ords b rs ids) ∧ ctM st (cts b rs ids) ∧ lvM st (lvs b rs ids) ∧ ∀ k, k < n → gt st 5 k = if k ∈ ids then eO (bnd b ids k) else -1
theorem lens {n : Nat} {b : Bx} {rs : List Int} {S : Int32} (hp : okP n b rs) (hS : ∀ k ∈ idS S, k < n) : (cts b rs (idS S)).length ≤ 7 ∧ (lvs b rs (idS S)).length ≤ 8 := by
  have hl : (idS S).length ≤ 8 := by
    have := List.length_filter_le (fun k => bt S k) (List.range 8)
    rw [List.length_range] at this
    exact this
  unfold cts lvs
  by_cases hf : fre b (idS S) = []
  · rw [if_pos hf, if_pos hf]; exact ⟨by simp, by simp⟩
  · rw [if_neg hf, if_neg hf]
    have h1 := rdf_len (b := b) (rs := rs) _ (fre b (idS S)) 0 (Nat.le_refl _) hf (okB_of hp (fun k hk => hS k (List.mem_filter.mp hk).1))
    have h2 : (fre b (idS S)).length ≤ (idS S).length := List.length_filter_le _ _
    omega
theorem L73_e (x19 : Int32) (st20 : GS) : f_X8_layOrder_L73 x19 st20 = (if x19 ≤ 0 then some (.inr st20) else lt_ (x19 + (-1)) (fun x22 => gd x22 16 (lt_ (gt st20 10 (x22.toNatClampNeg)) (fun x24 => gd x22 16 (lt_ (gt st20 11 (x22.toNatClampNeg)) (fun x26 => bI1 (f_X8_layLane x24 st20) (fun st27 => if (gt st27 0 14) = 0 then bI1 (f_X8_layLeaf x24 x26 st27) (fun st52 => some (.inl (x22, st52))) else bI1 (f_X8_firstSide x24 st27) (fun r29 => m_cutF x24 x26 x22 r29 st27)))))))) := rfl
theorem m_order {st : GS} {n : Nat} {b : Bx} {rs : List Int} {S : Int32} (h : mIs st n b rs) (hp : okP n b rs) (hS : ∀ k ∈ idS S, k < n) (hs : sml S) : ok (f_X8_layOrder S st) (fun st' => mreads st' n b rs (idS S) ∧ oK st st') := by
  have hn := hp.1
  obtain ⟨hc7, hl8⟩ := lens (rs := rs) hp hS
  unfold f_X8_layOrder
  refine ok_bI2 (m_bound h hp hS hs) ?_
  rintro r1 s2 ⟨b1, b2, b3, b4, b5⟩
  simp only at b1 b2 b3 b4 b5
  simp only [lt_]
  generalize h0 : sv (sv (sv s2 0 16 0) 0 18 0) 0 19 0 = s5
  have z0 : gt s5 0 16 = 0 ∧ gt s5 0 18 = 0 ∧ gt s5 0 19 = 0 := by
    rw [← h0]
    refine ⟨?_, ?_, gt_sv_same _ _ _ _⟩
    · rw [gt_sv_j (by decide), gt_sv_j (by decide), gt_sv_same]
    · rw [gt_sv_j (by decide), gt_sv_same]
  have z1 : ∀ c j, (c ≠ 0 ∨ (j ≠ 16 ∧ j ≠ 18 ∧ j ≠ 19)) → gt s5 c j = gt s2 c j := fun c j hc => by
    rw [← h0]
    rcases hc with q | q
    · rw [gt_sv_o q, gt_sv_o q, gt_sv_o q]
    · rw [gt_sv_j q.2.2, gt_sv_j q.2.1, gt_sv_j q.1]
  have zg : gl s5 = gl st := by rw [← h0]; exact b4
  clear h0
  refine ok_bI1 (P := fun s => (∀ k, k < 8 → gt s 8 k = -1 ∧ gt s 9 k = -1) ∧ gl s = gl s5 ∧ ∀ c j, c ≠ 8 → c ≠ 9 → gt s c j = gt s5 c j) ?_ ?_
  · refine ok_for 8 (fun i z => z.1 = nI i ∧ (∀ k, k < i → gt z.2 8 k = -1 ∧ gt z.2 9 k = -1) ∧ gl z.2 = gl s5 ∧ ∀ c j, c ≠ 8 → c ≠ 9 → gt z.2 c j = gt s5 c j) _ ?_ ?_ 0 _ (Nat.zero_le _) ⟨rfl, fun k hk => absurd hk (Nat.not_lt_zero _), rfl, fun _ _ _ _ => rfl⟩
    · rintro i ⟨z, s⟩ hi ⟨h1, h2, h3, h4⟩
      simp only at h1 h2 h3 h4
      subst h1
      show ok (f_X8_layOrder_L23 (nI i) s) _
      unfold f_X8_layOrder_L23
      have n8 : ¬ (8 : Int32) ≤ nI i := by rw [show (8 : Int32) = nI 8 from rfl, nI_leI (by omega) (by omega)]; omega
      rw [if_neg n8, gd_n (show i < 8 by omega) (by omega), nI_clamp (show i < 2 ^ 31 by omega)]
      refine ok_lt ?_
      rw [gd_n (show i < 8 by omega) (by omega)]
      refine ok_lt (ok_lt (ok_some (Or.inl ⟨_, rfl, nI_p1 i, fun k hk => ?_, h3, fun c j c1 c2 => ?_⟩)))
      · show gt (sv (sv s 8 i (-1)) 9 i (-1)) 8 k = -1 ∧ gt (sv (sv s 8 i (-1)) 9 i (-1)) 9 k = -1
        by_cases hki : k = i
        · subst hki
          exact ⟨by rw [gt_sv_o (by decide), gt_sv_same], gt_sv_same _ _ _ _⟩
        · rw [gt_sv_o (by decide), gt_sv_j hki, gt_sv_j hki, gt_sv_o (by decide)]
          exact h2 k (by omega)
      · show gt (sv (sv s 8 i (-1)) 9 i (-1)) c j = _
        rw [gt_sv_o c2, gt_sv_o c1]; exact h4 c j c1 c2
    · rintro ⟨z, s⟩ ⟨h1, h2, h3, h4⟩
      simp only at h1 h2 h3 h4
      subst h1
      show ok (f_X8_layOrder_L23 (nI 8) s) _
      unfold f_X8_layOrder_L23
      rw [if_pos (by decide)]
      exact ok_some ⟨_, rfl, h2, h3, h4⟩
  · rintro s14 ⟨k1, k2, k3⟩
    generalize h0 : sv (sv s14 10 0 r1) 11 0 0 = s18
    have y0 : gt s18 10 0 = r1 ∧ gt s18 11 0 = 0 := by
      rw [← h0]; exact ⟨by rw [gt_sv_o (by decide), gt_sv_same], gt_sv_same _ _ _ _⟩
    have y1 : ∀ c j, c ≠ 10 → c ≠ 11 → gt s18 c j = gt s14 c j := fun c j c1 c2 => by rw [← h0, gt_sv_o c2, gt_sv_o c1]
    have yg : gl s18 = gl st := by rw [← h0]; exact k2.trans zg
    clear h0
    have yk : oK st s18 := ⟨yg, fun c j a1 a2 a3 a4 a5 a6 a7 a8 => by rw [y1 c j a6 a7, k3 c j a4 a5, z1 c j (by omega), b5 c j a1]⟩
    have y5 : ∀ k, k < n → gt s18 5 k = if k ∈ idS S then eO (bnd b (idS S) k) else -1 := fun k hk => by
      rw [y1 _ _ (by decide) (by decide), k3 _ _ (by decide) (by decide), z1 _ _ (Or.inl (by decide))]; exact b3 k hk
    have ym : mIs s18 n b rs := oK_m yk h
    have hfre : ∀ k ∈ idS r1, k < n := fun k hk => by rw [b1] at hk; exact hS k (List.mem_filter.mp hk).1
    have start : ∃ x16 : Int32, (if r1 = 0 then some (0 : Int32) else some 1) = some x16 ∧ ∃ m, ordI n b rs (idS S) s18 m (x16, s18) := by
      have c0 : ctM s18 [] := ⟨by rw [y1 _ _ (by decide) (by decide), k3 _ _ (by decide) (by decide)]; exact z0.2.1, fun i c hi => by simp at hi⟩
      have l0 : lvM s18 [] := ⟨by rw [y1 _ _ (by decide) (by decide), k3 _ _ (by decide) (by decide)]; exact z0.2.2, fun i p hi => by simp at hi, fun k hk _ => by rw [y1 _ _ (by decide) (by decide), y1 _ _ (by decide) (by decide)]; exact k1 k hk⟩
      have o0 : orM s18 [] := ⟨by rw [y1 _ _ (by decide) (by decide), k3 _ _ (by decide) (by decide)]; exact z0.1, sg_nil⟩
      by_cases hr : r1 = 0
      · have hf : fre b (idS S) = [] := by rw [← b1]; exact (s_zero b2).mp hr
        refine ⟨0, if_pos hr, _, [], [], [], rfl, trivial, (fun p hp => by cases hp), c0, l0, o0, ?_, ?_, rfl, fun _ => rfl, oK_rf _⟩
        · unfold cts; rw [if_pos hf]; rfl
        · unfold lvs; rw [if_pos hf]; rfl
      · have hf : ¬ fre b (idS S) = [] := fun q => hr ((s_zero b2).mpr (b1.trans q))
        refine ⟨1, if_neg hr, _, [(r1, 0)], [], [], rfl, ⟨y0.1, y0.2, trivial⟩, fun p hp => ?_, c0, l0, o0, ?_, ?_, rfl, fun _ => rfl, oK_rf _⟩
        · rcases List.mem_cons.mp hp with rfl | hp
          · exact ⟨b2, by rw [b1]; exact hf, hfre⟩
          · cases hp
        · unfold cts; rw [if_neg hf]; simp [b1]
        · unfold lvs; rw [if_neg hf]; simp [b1]
    obtain ⟨x16, ex, m, hI⟩ := start
    rw [ex, bI1_s]
    refine ok_bI1 (P := fun st' => mreads st' n b rs (idS S) ∧ oK st st') ?_ (fun r hr => ok_some hr)
    refine ok_lpx (ordI n b rs (idS S) s18) _ ?_ m _ hI
    rintro m ⟨z, s⟩ ⟨T, C, Lv, h1, h2, h3, h4, h5, h6, h7, h8, h9, h10, h11⟩
    simp only at h1 h2 h3 h4 h5 h6 h7 h8 h9 h10 h11
    subst h1
    show ok (f_X8_layOrder_L73 (nI T.length) s) _
    rw [L73_e]
    cases T with
    | nil =>
      rw [if_pos (by decide)]
      simp only [List.flatMap_nil, List.append_nil] at h7 h8
      subst h7; subst h8
      exact ok_some (Or.inr ⟨_, rfl, ⟨h6, h4, h5, fun k hk => by rw [h10]; exact y5 k hk⟩, oK_tr yk h11⟩)
    | cons p T =>
      have hT8 : T.length + 1 ≤ 8 := by
        have := stk_len (b := b) (rs := rs) (p :: T) (fun q hq => ⟨(h3 q hq).2.1, okB_of hp (h3 q hq).2.2⟩)
        rw [← h8, List.length_append] at hl8
        rw [List.length_cons] at this
        omega
      rw [List.length_cons, if_neg (nI_nle (by omega) (by omega)), nI_pm1 (by omega)]
      refine ok_lt ?_
      rw [gd_n (show T.length < 16 by omega) (by omega)]
      refine ok_lt ?_
      rw [gd_n (show T.length < 16 by omega) (by omega), nI_clamp (show T.length < 2 ^ 31 by omega), h2.1, h2.2.1]
      refine ok_lt ?_
      have q3 := (h3 p List.mem_cons_self).2.2
      refine ok_bI1 (m_lane (oK_m h11 ym) hp q3) ?_
      rintro s27 ⟨g1, g2⟩
      cases hb : best b (idS p.1) with
      | none =>
        rw [hb] at g1
        rw [if_pos g1.2.2]
        refine ok_bI1 (ord_leaf ym hp hS y5 h2 h3 h4 h5 h6 h7 h8 h10 h11 hb g2) ?_
        rintro s3 ⟨m', e1, e2⟩
        exact ok_some (Or.inl ⟨_, m', rfl, by rw [h9]; exact e1, e2⟩)
      | some l =>
        rw [hb] at g1
        have hl := (best_spec hb).1
        have w0 : ¬ gt s27 0 14 = 0 := fun q => by
          have := g1.2.2
          rw [q, l32_0] at this
          have := hl.2.1
          omega
        rw [if_neg w0]
        obtain ⟨r, e1, e2, e3⟩ := m_first (lnK_m g2 (oK_m h11 ym)) hn q3 hl.1 g1
        rw [e1, bI1_s]
        obtain ⟨s3, f1, m', f2, f3⟩ := ord_cut ym hp hS h2 h3 h4 h5 h6 h7 h8 h10 h11 hb g2 g1 hc7 hl8 e2 e3
        show ok (m_cutF p.1 (nI p.2) (nI T.length) r s27) _
        rw [f1]
        exact ok_some (Or.inl ⟨_, m', rfl, by rw [h9]; exact f2, f3⟩)
/-- the order of all boxes -/
theorem m_all {st : GS} {n : Nat} {b : Bx} {rs : List Int} (h : mIs st n b rs) (hp : okP n b rs) : ok (f_X8_layAll st) (fun st' => mreads st' n b rs (List.range n) ∧ oK st st') := by
  unfold f_X8_layAll
  obtain ⟨e1, e2⟩ := s_all hp.1
  rw [h.1]
  refine ok_bI1 (P := fun st' => mreads st' n b rs (List.range n) ∧ oK st st') ?_ (fun r hr => ok_some hr)
  have := m_order (S := ishl 1 (nI n) - 1) h hp (fun k hk => by rw [e1] at hk; exact List.mem_range.mp hk) e2
  rw [e1] at this
  exact this
