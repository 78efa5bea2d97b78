-- IDLE
def rW (rs : List Int) (o : Nat) : Nat → List Int
  | 0 => []
  | i + 1 => if i = o then rW rs o i else rW rs o i ++ [rs.getD i 0]
theorem rW_len (rs : List Int) (o : Nat) : ∀ i, (rW rs o i).length = if o < i then i - 1 else i := by
  intro i
  induction i with
  | zero => rfl
  | succ i ih =>
    unfold rW
    by_cases e : i = o
    · rw [if_pos e, ih, if_neg (by omega), if_pos (by omega)]; omega
    · rw [if_neg e, List.length_append, ih]
      by_cases e2 : o < i
      · rw [if_pos e2, if_pos (by omega)]
        have : ([rs.getD i 0] : List Int).length = 1 := rfl
        omega
      · rw [if_neg e2, if_neg (by omega)]; rfl
theorem rW_get (rs : List Int) (o : Nat) : ∀ i j, j < (rW rs o i).length → (rW rs o i).getD j 0 = rs.getD (if j < o then j else j + 1) 0 := by
  intro i
  induction i with
  | zero => intro j hj; exact absurd hj (Nat.not_lt_zero _)
  | succ i ih =>
    intro j hj
    have hl := rW_len rs o i
    unfold rW at hj ⊢
    by_cases e : i = o
    · rw [if_pos e] at hj ⊢; exact ih j hj
    · rw [if_neg e] at hj ⊢
      rw [List.length_append] at hj
      have hj' : j < (rW rs o i).length + 1 := hj
      by_cases e2 : j = (rW rs o i).length
      · rw [e2, gI_app2, ← e2]
        congr 1
        rw [hl] at e2
        by_cases e3 : o < i
        · rw [if_pos e3] at e2; rw [if_neg (by omega)]; omega
        · rw [if_neg e3] at e2; rw [if_pos (by omega)]; omega
      · rw [gI_app1 (by omega)]; exact ih j (by omega)
theorem getI_mem {rs : List Int} {i : Nat} (hi : i < rs.length) : rs.getD i 0 ∈ rs := by
  rw [List.getD_eq_getElem?_getD, List.getElem?_eq_getElem hi]; exact List.getElem_mem hi
theorem rW_mem (rs : List Int) (o : Nat) : ∀ i, i ≤ rs.length → ∀ r ∈ rW rs o i, r ∈ rs := by
  intro i
  induction i with
  | zero => intro _ r hr; cases hr
  | succ i ih =>
    intro hi r hr
    unfold rW at hr
    by_cases e : i = o
    · rw [if_pos e] at hr; exact ih (by omega) r hr
    · rw [if_neg e] at hr
      rcases List.mem_append.mp hr with q | q
      · exact ih (by omega) r q
      · rw [List.mem_singleton.mp q]; exact getI_mem (by omega)
theorem rW_okP {n o : Nat} {b : Bx} {rs : List Int} (h : okP n b rs) : okP n b (rW rs o rs.length) := by
  refine ⟨h.1, ?_, fun r hr => h.2.2.1 r (rW_mem rs o _ (Nat.le_refl _) r hr), h.2.2.2⟩
  have := h.2.1
  rw [rW_len]; split <;> omega
theorem x_drop {st : GS} {o n i : Nat} {b : Bx} {rs : List Int} (h : shIs st o n b rs) (hr : rs.length ≤ 4) (hi : i < rs.length) : ok (f_X5_dropRule o (nI i) st) (fun st' => shIs st' o n b (rW rs i rs.length) ∧ ∀ c j, (c < o ∨ o + 6 < c) → gt st' c j = gt st c j) := by
  obtain ⟨h1, h2, h3, h4⟩ := h
  unfold f_X5_dropRule
  rw [if_neg (nI_pos (by omega)), h2, if_pos (nI_lt hi (by omega))]
  refine ok_bI1 (P := fun s => (∀ j, j < rs.length - 1 → gt s (o + 6) j = gt st (o + 6) (if j < i then j else j + 1)) ∧ ∀ c j, c ≠ o + 6 → gt s c j = gt st c j) ?_ ?_
  · refine ok_for (rs.length - 1) (fun m z => i ≤ m ∧ z.1 = nI m ∧ (∀ j, gt z.2 (o + 6) j = gt st (o + 6) (if i ≤ j ∧ j < m then j + 1 else j)) ∧ ∀ c j, c ≠ o + 6 → gt z.2 c j = gt st c j) _ ?_ ?_ i _ (by omega) ⟨Nat.le_refl _, rfl, fun j => by rw [if_neg (by omega)], fun c j hc => rfl⟩
    · rintro m ⟨z, s⟩ hm ⟨k0, k1, k2, k3⟩
      simp only at k0 k1 k2 k3
      subst k1
      show ok (f_X5_dropRule_L15 o (nI m) s) _
      unfold f_X5_dropRule_L15
      rw [k3 _ _ (by omega), h2, nI_p1, if_neg (nI_ge (show m + 1 < rs.length by omega) (by omega)), gd_n (show m + 1 < 4 by omega) (by omega), gd_n (show m < 4 by omega) (by omega), nI_clamp (show m < 2 ^ 31 by omega), nI_clamp (show m + 1 < 2 ^ 31 by omega)]
      refine ok_lt (ok_lt (ok_some (Or.inl ⟨_, rfl, by omega, rfl, fun j => ?_, fun c j hc => ?_⟩)))
      · show gt (sv s (o + 6) m (gt s (o + 6) (m + 1))) (o + 6) j = _
        by_cases e : j = m
        · subst e
          rw [gt_sv_same, k2, if_neg (by omega), if_pos (by omega)]
        · rw [gt_sv_j e, k2]
          by_cases e2 : i ≤ j ∧ j < m
          · rw [if_pos e2, if_pos (by omega)]
          · rw [if_neg e2, if_neg (by omega)]
      · show gt (sv s (o + 6) m (gt s (o + 6) (m + 1))) c j = _
        rw [gt_sv_o hc]; exact k3 c j hc
    · rintro ⟨z, s⟩ ⟨k0, k1, k2, k3⟩
      simp only at k0 k1 k2 k3
      subst k1
      show ok (f_X5_dropRule_L15 o (nI (rs.length - 1)) s) _
      unfold f_X5_dropRule_L15
      rw [k3 _ _ (by omega), h2, nI_p1, if_pos (nI_le (show rs.length ≤ rs.length - 1 + 1 by omega) (by omega))]
      refine ok_some ⟨_, rfl, fun j hj => ?_, k3⟩
      rw [k2]
      congr 1
      by_cases e : j < i
      · rw [if_pos e, if_neg (by omega)]
      · rw [if_neg e, if_pos (by omega)]
  · rintro s ⟨k2, k3⟩
    have hl : (rW rs i rs.length).length = rs.length - 1 := by rw [rW_len, if_pos hi]
    refine ok_lt (ok_some ⟨⟨?_, ?_, fun k hk c hc => ?_, fun j hj => ?_⟩, fun c j hc => ?_⟩)
    · rw [gt_sv_j (by decide), k3 _ _ (by omega)]; exact h1
    · rw [gt_sv_same, k3 _ _ (by omega), h2, hl]
      exact nI_sub (c := 1) (by omega) (by omega)
    · rw [gt_sv_o (by omega), k3 _ _ (by omega)]; exact h3 k hk c hc
    · rw [gt_sv_o (by omega), k2 j (by omega), rW_get rs i _ j hj]
      exact h4 _ (by split <;> omega)
    · rw [gt_sv_o (by omega)]; exact k3 c j (by omega)
noncomputable def idV (X : GS) (n : Nat) (b : Bx) (rs : List Int) : Nat → Int32
  | 0 => 0
  | i + 1 => if ords b (rW rs i rs.length) (List.range n) = ords b rs (List.range n) then idV X n b rs i ||| ishl 1 (gt X 10 i) else idV X n b rs i
theorem x_idle {X : GS} {n : Nat} {b : Bx} {rs : List Int} (g1 : okC n b rs) (g2 : shIs X 4 n b rs) (g3 : reads X 3 n b rs) : ok (lpx (uc3 f_X7_idle_L32) (0, 0, X)) (fun r => r.1 = idV X n b rs rs.length ∧ xK X r.2) := by
  have hn := g1.1
  have hr := g1.2.1
  have hp := g1.p
  refine ok_for rs.length (fun i z => z.2.1 = nI i ∧ z.1 = idV X n b rs i ∧ xK X z.2.2) _ ?_ ?_ 0 _ (Nat.zero_le _) ⟨rfl, rfl, xK_rf X⟩
  · rintro i ⟨z1, z2, s⟩ hi ⟨h1, h2, h3⟩
    simp only at h1 h2 h3
    subst h1; subst h2
    show ok (f_X7_idle_L32 _ (nI i) s) _
    unfold f_X7_idle_L32
    rw [(xk_sh g2 h3).2.1, if_neg (nI_ge hi (by omega))]
    refine ok_bI1 (x_copy (o := 42) (xk_sh g2 h3) hn hr (by omega)) ?_
    rintro s8 ⟨a1, a2⟩
    refine ok_bI1 (x_drop a1 hr hi) ?_
    rintro s9 ⟨a3, a4⟩
    have hp' := rW_okP (o := i) hp
    refine ok_bI1 (x_renew (o := 41) a3 hp') ?_
    rintro s10 ⟨a5, a6⟩
    have hx : xK X s10 := xK_tr h3 (xk_of (fun c j hc => by rw [a6 c j (by omega), a4 c j (by omega), a2 c j (by omega)]))
    have hl1 := ords_len hp'
    have hl2 := ords_len hp
    rw [x_like a5.1 (xk_rd g3 hx).1 (by omega) (by omega) (fun k hk => by have := ords_lt hp' k hk; omega) (fun k hk => by have := ords_lt hp k hk; omega), bI1_s]
    have hc : idV X n b rs (i + 1) = if ords b (rW rs i rs.length) (List.range n) = ords b rs (List.range n) then idV X n b rs i ||| ishl 1 (gt X 10 i) else idV X n b rs i := rfl
    by_cases q : ords b (rW rs i rs.length) (List.range n) = ords b rs (List.range n)
    · rw [if_pos q] at hc
      rw [if_pos q, if_neg i10, gd_n (show i < 4 by omega) (by omega), nI_clamp (show i < 2 ^ 31 by omega), hx 10 i (by unfold xW; omega)]
      exact ok_lt (ok_lt (ok_some (Or.inl ⟨_, rfl, nI_p1 i, hc.symm, hx⟩)))
    · rw [if_neg q] at hc
      rw [if_neg q, if_pos rfl]
      exact ok_lt (ok_some (Or.inl ⟨_, rfl, nI_p1 i, hc.symm, hx⟩))
  · rintro ⟨z1, z2, s⟩ ⟨h1, h2, h3⟩
    simp only at h1 h2 h3
    subst h1; subst h2
    show ok (f_X7_idle_L32 _ (nI rs.length) s) _
    unfold f_X7_idle_L32
    rw [(xk_sh g2 h3).2.1, if_pos (nI_le (Nat.le_refl _) (by omega))]
    exact ok_some ⟨_, rfl, rfl, h3⟩
theorem or_0 (x : Int32) : x ||| 0 = x := by
  apply b_ext; intro i _; rw [b_or, b_0, Bool.or_false]
/-- what holds while rules are left out on trial -/
def idI (M : GS) (O : List Nat) (s : GS) : Prop := gl s = gl M ∧ sg s 12 0 O ∧ (∀ j, j < 4 → gt s 13 j = gt M 4 j) ∧ ∀ c j, mW c j → c ≠ 4 → (c ≠ 0 ∨ j ≠ 10) → gt s c j = gt M c j
theorem idI_m {M s : GS} {O : List Nat} {n : Nat} {b : Bx} {rs : List Int} (h : idI M O s) (g4 : mIs M n b rs) : mIs (sv s 0 10 0) n b [] := by
  obtain ⟨h1, h2, h3, h4⟩ := h
  refine ⟨?_, gt_sv_same _ _ _ _, fun k hk => ⟨?_, fun c hc => ?_⟩, fun i hi => absurd hi (Nat.not_lt_zero _)⟩
  · rw [gt_sv_j (by decide), h4 _ _ (by unfold mW; omega) (by decide) (by omega)]; exact g4.1
  · rw [gt_sv_o (by decide), h4 _ _ (by unfold mW; omega) (by decide) (by omega)]; exact g4.c0 hk
  · rw [gt_sv_o (by decide), h4 _ _ (by unfold mW; omega) (by decide) (by omega)]; exact (g4.2.2.1 k hk).2 c hc
theorem idI_sv {M s : GS} {O : List Nat} {v : Int32} (h : idI M O s) : idI M O (sv s 0 10 v) := by
  obtain ⟨h1, h2, h3, h4⟩ := h
  refine ⟨h1, sg_same h2 (fun j _ _ => gt_sv_o (by decide)), fun j hj => by rw [gt_sv_o (by decide)]; exact h3 j hj, fun c j w c1 c2 => ?_⟩
  have : gt (sv s 0 10 v) c j = gt s c j := by
    rcases c2 with r | r
    · exact gt_sv_o r
    · exact gt_sv_j r
  rw [this]; exact h4 c j w c1 c2
theorem idI_4 {M s : GS} {O : List Nat} {i : Nat} {v : Int32} (h : idI M O s) : idI M O (sv s 4 i v) := by
  obtain ⟨h1, h2, h3, h4⟩ := h
  exact ⟨h1, sg_same h2 (fun j _ _ => gt_sv_o (by decide)), fun j hj => by rw [gt_sv_o (by decide)]; exact h3 j hj, fun c j w c1 c2 => by rw [gt_sv_o c1]; exact h4 c j w c1 c2⟩
theorem idI_o {M s s' : GS} {O : List Nat} (h : idI M O s) (hk : oK s s') : idI M O s' := by
  obtain ⟨h1, h2, h3, h4⟩ := h
  have k : ∀ c j, (c = 12 ∨ c = 13) → gt s' c j = gt s c j := fun c j hc => hk.2 c j (by omega) (by omega) (by omega) (by omega) (by omega) (by omega) (by omega) (by omega)
  exact ⟨hk.1.trans h1, sg_same h2 (fun j _ _ => k _ _ (by omega)), fun j hj => by rw [k _ _ (by omega)]; exact h3 j hj, fun c j w c1 c2 => by rw [oK_mK hk c j w]; exact h4 c j w c1 c2⟩
theorem m_leave {M s : GS} {O : List Nat} {n o : Nat} {b : Bx} {rs : List Int} (h : idI M O s) (g4 : mIs M n b rs) (hr : rs.length ≤ 4) : ok (lpx (uc2 (f_X8_idleOf_L42 (nI rs.length) (nI o))) (0, sv s 0 10 0)) (fun s' => mIs s' n b (rW rs o rs.length) ∧ idI M O s') ∨ 4 ≤ o := by
  rcases Nat.lt_or_ge o 4 with ho | ho
  · left
    refine ok_for rs.length (fun i z => z.1 = nI i ∧ mIs z.2 n b (rW rs o i) ∧ idI M O z.2) _ ?_ ?_ 0 _ (Nat.zero_le _) ⟨rfl, idI_m h g4, idI_sv h⟩
    · rintro i ⟨z, s5⟩ hi ⟨h1, h2, h3⟩
      simp only at h1 h2 h3
      subst h1
      show ok (f_X8_idleOf_L42 (nI rs.length) (nI o) (nI i) s5) _
      unfold f_X8_idleOf_L42
      rw [if_neg (nI_ge hi (by omega))]
      have hd : rW rs o (i + 1) = if i = o then rW rs o i else rW rs o i ++ [rs.getD i 0] := rfl
      by_cases e : i = o
      · rw [if_pos e] at hd
        rw [if_pos (by rw [e])]
        exact ok_lt (ok_some (Or.inl ⟨_, rfl, nI_p1 i, by rw [hd]; exact h2, h3⟩))
      · rw [if_neg e] at hd
        have hl := rW_len rs o i
        have hl4 : (rW rs o i).length < 4 := by rw [hl]; split <;> omega
        rw [if_neg (fun q => e (nI_inj (by omega) (by omega) q)), gd_n (show i < 4 by omega) (by omega), h2.2.1, gd_n hl4 (by omega), nI_clamp (show (rW rs o i).length < 2 ^ 31 by omega), nI_clamp (show i < 2 ^ 31 by omega)]
        refine ok_lt ?_
        rw [gt_sv_o (show (0 : Nat) ≠ 4 by decide), h2.2.1, nI_p1]
        have hv : (gt s5 13 i).toInt = rs.getD i 0 := by rw [h3.2.2.1 i (by omega)]; exact g4.2.2.2 i hi
        have := m_addRule h2 (gt s5 13 i)
        rw [hv] at this
        exact ok_lt (ok_lt (ok_some (Or.inl ⟨_, rfl, nI_p1 i, by rw [hd]; exact this, idI_sv (idI_4 h3)⟩)))
    · rintro ⟨z, s5⟩ ⟨h1, h2, h3⟩
      simp only at h1 h2 h3
      subst h1
      show ok (f_X8_idleOf_L42 (nI rs.length) (nI o) (nI rs.length) s5) _
      unfold f_X8_idleOf_L42
      rw [if_pos (nI_le (Nat.le_refl _) (by omega))]
      exact ok_some ⟨_, rfl, h2, h3⟩
  · exact Or.inr ho
theorem m_idle {X M : GS} {n : Nat} {b : Bx} {rs : List Int} (g1 : okC n b rs) (g2 : shIs X 4 n b rs) (g4 : mIs M n b rs) : ok (f_X8_idleOf M) (fun r => r.1 = (if rs.length ≤ 1 then 0 else idV X n b rs rs.length) ∧ mIs r.2 n b rs ∧ gl r.2 = gl M ∧ ∀ c j, mW c j → c ≠ 4 → (c ≠ 0 ∨ j ≠ 10) → gt r.2 c j = gt M c j) := by
  have hn := g1.1
  have hr := g1.2.1
  have hp := g1.p
  unfold f_X8_idleOf
  refine ok_bI1 (m_keep g4 hp) ?_
  rintro M1 ⟨q1, q2, q3, q4⟩
  refine ok_bI1 (m_copy (st := M1) (a := 4) (N := 4) (q := 13) (by omega) (by decide)) ?_
  rintro M2 ⟨c1, c2, c3⟩
  have hI : idI M (ords b rs (List.range n)) M2 := ⟨c2.trans q3.1, sg_same q1 (fun j _ _ => c3 _ _ (by decide)), fun j hj => by rw [c1 j hj]; exact q4 _ _ (by omega) (by omega), fun c j w c4 c5 => by rw [c3 c j (by unfold mW at w; omega)]; exact q3.2 c j w⟩
  have e10 : gt M2 0 10 = nI rs.length := by rw [c3 _ _ (by decide)]; exact q2.2.1
  rw [e10]
  refine ok_lt ?_
  refine ok_bI2 (P := fun r => r.1 = (if rs.length ≤ 1 then 0 else idV X n b rs rs.length) ∧ idI M (ords b rs (List.range n)) r.2) ?_ ?_
  · by_cases h1 : rs.length ≤ 1
    · rw [if_pos h1]
      refine ⟨_, lpx_end (r := (0, M2)) ?_, rfl, hI⟩
      show f_X8_idleOf_L24 (nI rs.length) 0 0 M2 = _
      unfold f_X8_idleOf_L24
      by_cases h0 : nI rs.length ≤ 0
      · rw [if_pos h0]
      · rw [if_neg h0, if_pos (show nI rs.length ≤ 1 from nI_le (b := 1) h1 (by omega))]
    · rw [if_neg h1]
      refine ok_for rs.length (fun i z => z.2.1 = nI i ∧ z.1 = idV X n b rs i ∧ idI M (ords b rs (List.range n)) z.2.2) _ ?_ ?_ 0 _ (Nat.zero_le _) ⟨rfl, rfl, hI⟩
      · rintro i ⟨z1, z2, s⟩ hi ⟨k1, k2, k3⟩
        simp only at k1 k2 k3
        subst k1; subst k2
        show ok (f_X8_idleOf_L24 (nI rs.length) _ (nI i) s) _
        unfold f_X8_idleOf_L24
        rw [if_neg (nI_ge hi (by omega)), if_neg (show ¬ nI rs.length ≤ 1 from nI_ge (a := 1) (by omega) (by omega))]
        refine ok_lt ?_
        have hin := (m_leave (o := i) k3 g4 hr).resolve_right (by omega)
        refine ok_bI1 hin ?_
        rintro s20 ⟨a1, a2⟩
        have hp' := rW_okP (o := i) hp
        refine ok_bI1 (m_all a1 hp') ?_
        rintro s21 ⟨b1, b2⟩
        have b3 := oK_m b2 a1
        have b4 := idI_o a2 b2
        have hl1 := ords_len hp'
        have hl2 := ords_len hp
        rw [m_like b3.1 b1.1.2 b4.2.1 hl1 hl2 hn (fun k hk => by have := ords_lt hp' k hk; omega) (fun k hk => by have := ords_lt hp k hk; omega), bI1_s]
        have hc : idV X n b rs (i + 1) = if ords b (rW rs i rs.length) (List.range n) = ords b rs (List.range n) then idV X n b rs i ||| ishl 1 (gt X 10 i) else idV X n b rs i := rfl
        by_cases q : ords b (rW rs i rs.length) (List.range n) = ords b rs (List.range n)
        · rw [if_pos q] at hc
          have ev : gt s21 13 i = gt X 10 i := by rw [b4.2.2.1 i (by omega)]; exact i_eq (g4.2.2.2 i hi) (g2.2.2.2 i hi)
          rw [if_pos q, if_neg i10, gd_n (show i < 4 by omega) (by omega), nI_clamp (show i < 2 ^ 31 by omega), ev]
          exact ok_lt (ok_lt (ok_some (Or.inl ⟨_, rfl, nI_p1 i, hc.symm, b4⟩)))
        · rw [if_neg q] at hc
          rw [if_neg q, if_pos rfl, or_0]
          exact ok_lt (ok_lt (ok_some (Or.inl ⟨_, rfl, nI_p1 i, hc.symm, b4⟩)))
      · rintro ⟨z1, z2, s⟩ ⟨k1, k2, k3⟩
        simp only at k1 k2 k3
        subst k1; subst k2
        show ok (f_X8_idleOf_L24 (nI rs.length) _ (nI rs.length) s) _
        unfold f_X8_idleOf_L24
        rw [if_pos (nI_le (Nat.le_refl _) (by omega))]
        exact ok_some ⟨_, rfl, rfl, k3⟩
  · rintro x s30 ⟨k1, k2⟩
    refine ok_bI1 (m_copy (st := s30) (a := 13) (N := 4) (q := 4) (by omega) (by decide)) ?_
    rintro s31 ⟨d1, d2, d3⟩
    obtain ⟨f1, f2, f3, f4⟩ := k2
    have sk : ∀ c j, (c ≠ 0 ∨ j ≠ 10) → gt (sv s31 0 10 (nI rs.length)) c j = gt s31 c j := fun c j hc => by
      rcases hc with r | r
      · exact gt_sv_o r
      · exact gt_sv_j r
    refine ok_lt (ok_some ⟨k1, ⟨?_, gt_sv_same _ _ _ _, fun k hk => ⟨?_, fun c hc => ?_⟩, fun i hi => ?_⟩, d2.trans f1, fun c j w c1 c2 => ?_⟩)
    · rw [sk _ _ (by omega), d3 _ _ (by decide), f4 _ _ (by unfold mW; omega) (by decide) (by omega)]; exact g4.1
    · rw [sk _ _ (by omega), d3 _ _ (by decide), f4 _ _ (by unfold mW; omega) (by decide) (by omega)]; exact g4.c0 hk
    · rw [sk _ _ (by omega), d3 _ _ (by decide), f4 _ _ (by unfold mW; omega) (by decide) (by omega)]; exact (g4.2.2.1 k hk).2 c hc
    · rw [sk _ _ (by omega), d1 i (by omega), f3 i (by omega)]; exact g4.2.2.2 i hi
    · show gt (sv s31 0 10 (nI rs.length)) c j = _
      rw [sk _ _ c2, d3 _ _ c1]; exact f4 c j w c1 c2
theorem idle_tell {n : Nat} {b : Bx} {rs : List Int} {t p s : Nat} {X M : GS} (h : RelA n b rs t p s X M) (h0 : 0 < n) : ∃ r X1 M1, f_X7_idle X = some (r, X1) ∧ f_X8_idleOf M = some (r, M1) ∧ RelA n b rs t p s X1 M1 ∧ gl M1 = gl M := by
  obtain ⟨g1, g2, g3, g4, g5, g6, g7, g8⟩ := id h
  have hn := g1.1
  have hr := g1.2.1
  obtain ⟨⟨y, M1⟩, b1, b2, b3, b4, b5⟩ := m_idle g1 g2 g4
  simp only at b2 b3 b4 b5
  subst b2
  have e1 : f_X7_hasNoPage X = some 0 := by
    unfold f_X7_hasNoPage
    rw [g2.1, if_neg (nI_ne0 h0 (by omega))]
  unfold f_X7_idle
  rw [e1, bI1_s, if_pos rfl, g2.2.1]
  by_cases h1 : rs.length = 1
  · rw [if_pos (by rw [h1]; rfl)]
    rw [if_pos (by omega)] at b1
    exact ⟨_, _, _, rfl, b1, rel_m h (xK_rf X) b3 (fun c j w _ _ c4 c5 => b5 c j w c4 (by omega)), b4⟩
  · obtain ⟨⟨x, X1⟩, a1, a2, a3⟩ := x_idle g1 g2 g3
    simp only at a2 a3
    subst a2
    rw [if_neg (show ¬ nI _ = 1 from fun q => h1 (nI_inj (b := 1) (by omega) (by omega) q)), a1, bI2_s]
    have e2 : (if rs.length ≤ 1 then 0 else idV X n b rs rs.length) = idV X n b rs rs.length := by
      by_cases h2 : rs.length ≤ 1
      · rw [if_pos h2, show rs.length = 0 by omega]; rfl
      · rw [if_neg h2]
    rw [e2] at b1
    exact ⟨_, _, _, rfl, b1, rel_m h a3 b3 (fun c j w _ _ c4 c5 => b5 c j w c4 (by omega)), b4⟩
theorem r_idle : op_idle Rel := by
  intro c X M _ h
  obtain ⟨n, b, rs, t, p, s, hp, h⟩ := h
  obtain ⟨g1, g2, g3, g4, g5, g6, g7, g8⟩ := id h
  unfold f_X8_idle
  rcases page_or g2.1 g4.1 g1.1 with ⟨_, e1, e2⟩ | ⟨h0, e1, e2⟩
  · rw [e2, bI1_s, if_neg i10]
    refine ⟨_, _, _, ?_, rfl, Rel_of hp h⟩
    unfold f_X7_idle
    rw [e1, bI1_s, if_neg i10]
  · obtain ⟨r, X1, M1, k1, k2, k3, -⟩ := idle_tell h h0
    rw [e2, bI1_s, if_pos rfl, k2, bI2_s]
    exact ⟨r, X1, M1, k1, rfl, Rel_of hp k3⟩
-- FREE, WITHOUT
theorem ren_okP {n k : Nat} {b : Bx} {rs : List Int} (h : okP n b rs) (hk : k < n) : okP (n - 1) (ren b (upk k)) rs := by
  have := h.1
  exact ⟨by omega, h.2.1, h.2.2.1, fun j hj => h.2.2.2 _ (by unfold upk; split <;> omega)⟩
theorem m_lack {M : GS} {n k : Nat} {b : Bx} {rs : List Int} (h : mIs M n b rs) (hp : okP n b rs) (hk : k < n) : ok (f_X8_layOrder ((ishl 1 (nI n) - 1) &&& (ishl 1 (nI k) ^^^ (-1))) M) (fun M' => gt M' 0 18 = nI (cts (ren b (upk k)) rs (List.range (n - 1))).length ∧ orM M' ((ords (ren b (upk k)) rs (List.range (n - 1))).map (upk k)) ∧ oK M M') := by
  have hn := hp.1
  obtain ⟨e1, e2⟩ := s_all hn
  obtain ⟨f1, f2⟩ := s_minus1 (S := ishl 1 (nI n) - 1) (m := k) e2 (by omega)
  rw [e1, ← upk_range hk] at f1
  refine ok_mono (m_order (S := (ishl 1 (nI n) - 1) &&& (ishl 1 (nI k) ^^^ (-1))) h hp (fun j hj => ?_) f2) ?_
  · rw [f1, List.mem_map] at hj
    obtain ⟨i, hi, rfl⟩ := hj
    have := List.mem_range.mp hi
    unfold upk; split <;> omega
  · rintro M' ⟨m1, m2⟩
    obtain ⟨w1, w2, w3, w4⟩ := m1
    rw [f1, ren_ords (upk_up k)] at w1
    rw [f1, ren_cts (upk_up k)] at w2
    exact ⟨w2.1, w1, m2⟩
noncomputable def frV (b : Bx) (rs : List Int) (n : Nat) : Nat → Int32 × Int32
  | 0 => (-1, -1)
  | k + 1 => if nI (cts (ren b (upk k)) rs (List.range (n - 1))).length ≤ (frV b rs n k).2 then frV b rs n k else (nI k, nI (cts (ren b (upk k)) rs (List.range (n - 1))).length)
theorem x_free {X : GS} {n : Nat} {b : Bx} {rs : List Int} (g1 : okC n b rs) (g2 : shIs X 4 n b rs) : ok (lpx (uc4 f_X7_free_L32) (-1, -1, 0, X)) (fun r => r.1 = (frV b rs n n).1 ∧ xK X r.2) := by
  have hn := g1.1
  have hp := g1.p
  refine ok_for n (fun k z => z.2.2.1 = nI k ∧ z.1 = (frV b rs n k).1 ∧ z.2.1 = (frV b rs n k).2 ∧ xK X z.2.2.2) _ ?_ ?_ 0 _ (Nat.zero_le _) ⟨rfl, rfl, rfl, xK_rf X⟩
  · rintro k ⟨z1, z2, z3, s⟩ hk ⟨h1, h2, h3, h4⟩
    simp only at h1 h2 h3 h4
    subst h1; subst h2; subst h3
    show ok (f_X7_free_L32 _ _ (nI k) s) _
    unfold f_X7_free_L32
    rw [(xk_sh g2 h4).1, if_neg (nI_ge hk (by omega))]
    refine ok_bI1 (x_copyW (o := 42) (xk_sh g2 h4) hn g1.2.1 hk (by omega)) ?_
    rintro s9 ⟨a1, a2⟩
    refine ok_bI1 (x_renew (o := 41) a1 (ren_okP hp hk)) ?_
    rintro s10 ⟨a3, a4⟩
    have hx : xK X s10 := xK_tr h4 (xk_of (fun c j hc => by rw [a4 c j (by omega), a2 c j (by omega)]))
    have ec : gt s10 54 5 = nI (cts (ren b (upk k)) rs (List.range (n - 1))).length := a3.2.2.2.2.2.1.1
    have hd : frV b rs n (k + 1) = if nI (cts (ren b (upk k)) rs (List.range (n - 1))).length ≤ (frV b rs n k).2 then frV b rs n k else (nI k, nI (cts (ren b (upk k)) rs (List.range (n - 1))).length) := rfl
    rw [ec]
    refine ok_if (fun c => ?_) (fun c => ?_)
    · rw [if_pos c] at hd
      exact ok_lt (ok_some (Or.inl ⟨_, rfl, nI_p1 k, by rw [hd], by rw [hd], hx⟩))
    · rw [if_neg c] at hd
      exact ok_lt (ok_lt (ok_some (Or.inl ⟨_, rfl, nI_p1 k, by rw [hd], by rw [hd], hx⟩)))
  · rintro ⟨z1, z2, z3, s⟩ ⟨h1, h2, h3, h4⟩
    simp only at h1 h2 h3 h4
    subst h1; subst h2; subst h3
    show ok (f_X7_free_L32 _ _ (nI n) s) _
    unfold f_X7_free_L32
    rw [(xk_sh g2 h4).1, if_pos (nI_le (Nat.le_refl _) (by omega))]
    exact ok_some ⟨_, rfl, rfl, h4⟩
theorem m_free {M : GS} {n : Nat} {b : Bx} {rs : List Int} (g1 : okC n b rs) (g4 : mIs M n b rs) : ok (f_X8_freeOf M) (fun r => r.1 = (if n ≤ 1 then -1 else (frV b rs n n).1) ∧ tK M r.2) := by
  have hn := g1.1
  have hp := g1.p
  unfold f_X8_freeOf
  refine ok_bI2 (P := fun r => r.1 = (if n ≤ 1 then -1 else (frV b rs n n).1) ∧ tK M r.2) ?_ (fun a c hac => ok_some hac)
  by_cases h1 : n ≤ 1
  · rw [if_pos h1]
    refine ⟨_, lpx_end (r := (-1, M)) ?_, rfl, tK_rf M⟩
    show f_X8_freeOf_L6 (-1) (-1) 0 M = _
    unfold f_X8_freeOf_L6
    rw [g4.1]
    by_cases q : nI n ≤ 0
    · rw [if_pos q]
    · rw [if_neg q, if_pos (show nI n ≤ 1 from nI_le (b := 1) h1 (by omega))]
  · rw [if_neg h1]
    refine ok_for n (fun k z => z.2.2.1 = nI k ∧ z.1 = (frV b rs n k).1 ∧ z.2.1 = (frV b rs n k).2 ∧ mIs z.2.2.2 n b rs ∧ tK M z.2.2.2) _ ?_ ?_ 0 _ (Nat.zero_le _) ⟨rfl, rfl, rfl, g4, tK_rf M⟩
    · rintro k ⟨z1, z2, z3, s⟩ hk ⟨k1, k2, k3, k4, k5⟩
      simp only at k1 k2 k3 k4 k5
      subst k1; subst k2; subst k3
      show ok (f_X8_freeOf_L6 _ _ (nI k) s) _
      unfold f_X8_freeOf_L6
      rw [k4.1, if_neg (nI_ge hk (by omega)), if_neg (show ¬ nI n ≤ 1 from nI_ge (a := 1) (by omega) (by omega))]
      refine ok_bI1 (m_lack k4 hp hk) ?_
      rintro s7 ⟨a1, -, a3⟩
      have hd : frV b rs n (k + 1) = if nI (cts (ren b (upk k)) rs (List.range (n - 1))).length ≤ (frV b rs n k).2 then frV b rs n k else (nI k, nI (cts (ren b (upk k)) rs (List.range (n - 1))).length) := rfl
      rw [a1]
      by_cases c : nI (cts (ren b (upk k)) rs (List.range (n - 1))).length ≤ (frV b rs n k).2
      · rw [if_pos c] at hd
        rw [if_pos c, bI1_s, if_pos c]
        exact ok_lt (ok_some (Or.inl ⟨_, rfl, nI_p1 k, by rw [hd], by rw [hd], oK_m a3 k4, tK_tr k5 (oK_tK a3)⟩))
      · rw [if_neg c] at hd
        rw [if_neg c, bI1_s, if_neg c]
        exact ok_lt (ok_lt (ok_some (Or.inl ⟨_, rfl, nI_p1 k, by rw [hd], by rw [hd], oK_m a3 k4, tK_tr k5 (oK_tK a3)⟩)))
    · rintro ⟨z1, z2, z3, s⟩ ⟨k1, k2, k3, k4, k5⟩
      simp only at k1 k2 k3 k4 k5
      subst k1; subst k2; subst k3
      show ok (f_X8_freeOf_L6 _ _ (nI n) s) _
      unfold f_X8_freeOf_L6
      rw [k4.1, if_pos (nI_le (Nat.le_refl _) (by omega))]
      exact ok_some ⟨_, rfl, rfl, k5⟩
theorem free_tell {n : Nat} {b : Bx} {rs : List Int} {t p s : Nat} {X M : GS} (h : RelA n b rs t p s X M) (h0 : 0 < n) : ∃ r X1 M1, f_X7_free X = some (r, X1) ∧ f_X8_freeOf M = some (r, M1) ∧ RelA n b rs t p s X1 M1 ∧ gl M1 = gl M := by
  obtain ⟨g1, g2, g3, g4, g5, g6, g7, g8⟩ := id h
  have hn := g1.1
  obtain ⟨⟨y, M1⟩, b1, b2, b3⟩ := m_free g1 g4
  simp only at b2 b3
  subst b2
  have e1 : f_X7_hasNoPage X = some 0 := by
    unfold f_X7_hasNoPage
    rw [g2.1, if_neg (nI_ne0 h0 (by omega))]
  unfold f_X7_free
  rw [e1, bI1_s, if_pos rfl, g2.1]
  by_cases h1 : n = 1
  · rw [if_pos (by rw [h1]; rfl)]
    rw [if_pos (by omega)] at b1
    exact ⟨_, _, _, rfl, b1, RelA_keep h (xK_rf X) b3.2, b3.1⟩
  · obtain ⟨⟨x, X1⟩, a1, a2, a3⟩ := x_free g1 g2
    simp only at a2 a3
    subst a2
    rw [if_neg (by omega)] at b1
    rw [if_neg (show ¬ nI _ = 1 from fun q => h1 (nI_inj (b := 1) (by omega) (by omega) q)), a1, bI2_s]
    exact ⟨_, _, _, rfl, b1, RelA_keep h a3 b3.2, b3.1⟩
theorem r_free : op_free Rel := by
  intro c X M _ h
  obtain ⟨n, b, rs, t, p, s, hp, h⟩ := h
  obtain ⟨g1, g2, g3, g4, g5, g6, g7, g8⟩ := id h
  unfold f_X8_free
  rcases page_or g2.1 g4.1 g1.1 with ⟨_, e1, e2⟩ | ⟨h0, e1, e2⟩
  · rw [e2, bI1_s, if_neg i10]
    refine ⟨_, _, _, ?_, rfl, Rel_of hp h⟩
    unfold f_X7_free
    rw [e1, bI1_s, if_neg i10]
  · obtain ⟨r, X1, M1, k1, k2, k3, -⟩ := free_tell h h0
    rw [e2, bI1_s, if_pos rfl, k2, bI2_s]
    exact ⟨r, X1, M1, k1, rfl, Rel_of hp k3⟩
