-- what is seen of a box
def stV (X : GS) (a : Int32) : Nat → Int32
  | 0 => 31
  | i + 1 => if gt X 29 i = a then stV X a i &&& gt X 30 i else stV X a i
theorem x_sorts {X : GS} {s : Nat} (h2 : gt X 28 2 = nI s) (hs : s ≤ 6) (a : Int32) : f_X4_sortsOf 28 a X = some (stV X a s) := by
  apply ok_is
  unfold f_X4_sortsOf
  refine ok_bI1 (P := fun r => r = stV X a s) ?_ (fun r hr => ok_some hr)
  refine ok_for s (fun i z => z.2 = nI i ∧ z.1 = stV X a i) _ ?_ ?_ 0 _ (Nat.zero_le _) ⟨rfl, rfl⟩
  · rintro i ⟨z1, z2⟩ hi ⟨h3, h4⟩
    simp only at h3 h4
    subst h3; subst h4
    show ok (f_X4_sortsOf_L5 28 a X (stV X a i) (nI i)) _
    unfold f_X4_sortsOf_L5
    rw [h2, if_neg (nI_ge hi (by omega)), gd_n (show i < 6 by omega) (by omega), gd_n (show i < 6 by omega) (by omega), nI_clamp (show i < 2 ^ 31 by omega)]
    refine ok_if (fun c => ?_) (fun c => ?_)
    · refine ok_lt (ok_lt (ok_some (Or.inl ⟨_, rfl, nI_p1 i, ?_⟩)))
      show _ = if gt X 29 i = a then _ else _
      rw [if_pos c]
    · refine ok_lt (ok_some (Or.inl ⟨_, rfl, nI_p1 i, ?_⟩))
      show _ = if gt X 29 i = a then _ else _
      rw [if_neg c]
  · rintro ⟨z1, z2⟩ ⟨h3, h4⟩
    simp only at h3 h4
    subst h3; subst h4
    show ok (f_X4_sortsOf_L5 28 a X (stV X a s) (nI s)) _
    unfold f_X4_sortsOf_L5
    rw [h2, if_pos (nI_le (Nat.le_refl _) (by omega))]
    exact ok_some ⟨_, rfl, rfl⟩
theorem m_sorts {X M : GS} {s : Nat} (h : snR X 28 M 14 26 s) (a : Int32) : f_X8_sortsOf a M = some (stV X a s) := by
  obtain ⟨hs, h2, h3, h4⟩ := h
  apply ok_is
  unfold f_X8_sortsOf
  refine ok_bI1 (P := fun r => r = stV X a s) ?_ (fun r hr => ok_some hr)
  refine ok_for s (fun i z => z.2 = nI (3 * i) ∧ z.1 = stV X a i) _ ?_ ?_ 0 _ (Nat.zero_le _) ⟨rfl, rfl⟩
  · rintro i ⟨z1, z2⟩ hi ⟨h5, h6⟩
    simp only at h5 h6
    subst h5; subst h6
    obtain ⟨k1, w, hw, k2, k3⟩ := h4 i hi
    show ok (f_X8_sortsOf_L5 a M (stV X a i) (nI (3 * i))) _
    unfold f_X8_sortsOf_L5
    rw [h3, n3, if_neg (nI_ge (show 3 * i < 3 * s by omega) (by omega)), gd_n (show 3 * i < 18 by omega) (by omega), nI_clamp (show 3 * i < 2 ^ 31 by omega), n3_1, n3_2, gd_n (show 3 * i + 1 < 18 by omega) (by omega), nI_clamp (show 3 * i + 1 < 2 ^ 31 by omega), nI_clamp (show 3 * i + 2 < 2 ^ 31 by omega), ← k1, k2, kby hw, bI1_s, gd_n (show 3 * i + 2 < 18 by omega) (by omega)]
    have hd : stV X a (i + 1) = if gt X 29 i = a then stV X a i &&& gt X 30 i else stV X a i := rfl
    refine ok_if (fun c => ?_) (fun c => ?_)
    · have c' : gt X 29 i = a := c
      rw [if_pos c'] at hd
      rcases k3 with ⟨k4, k5⟩ | ⟨k4, k5⟩
      · have k5' : gt X 30 i = soK w := k5
        rw [if_pos k4]
        exact ok_lt (ok_lt (ok_some (Or.inl ⟨_, rfl, n3_3 i, by rw [hd, k5']⟩)))
      · have k5' : gt X 30 i = 31 - soK w := k5
        rw [if_neg (by rw [k4]; decide)]
        exact ok_lt (ok_lt (ok_some (Or.inl ⟨_, rfl, n3_3 i, by rw [hd, k5']⟩)))
    · have c' : ¬ gt X 29 i = a := c
      rw [if_neg c'] at hd
      exact ok_lt (ok_some (Or.inl ⟨_, rfl, n3_3 i, hd.symm⟩))
  · rintro ⟨z1, z2⟩ ⟨h5, h6⟩
    simp only at h5 h6
    subst h5; subst h6
    show ok (f_X8_sortsOf_L5 a M (stV X a s) (nI (3 * s))) _
    unfold f_X8_sortsOf_L5
    rw [h3, n3, if_pos (nI_le (Nat.le_refl _) (by omega))]
    exact ok_some ⟨_, rfl, rfl⟩
theorem stV_small (X : GS) (a : Int32) (s : Nat) : ∃ m, m < 32 ∧ stV X a s = nI m := by
  have key : ∀ s, stV X a s &&& 31 = stV X a s := by
    intro s
    induction s with
    | zero => show (31 : Int32) &&& 31 = 31; decide
    | succ i ih =>
      unfold stV
      by_cases c : gt X 29 i = a
      · rw [if_pos c]
        apply b_ext
        intro j hj
        have := congrArg (fun x => bt x j) ih
        simp only [b_and] at this ⊢
        rw [← this]
        cases bt (stV X a i) j <;> cases bt (gt X 30 i) j <;> cases bt 31 j <;> rfl
      · rw [if_neg c]; exact ih
  obtain ⟨j, hj, e⟩ := pk_andE (stV X a s) (m := 31) 5 (by decide)
  exact ⟨j, hj, by rw [← key s]; exact e⟩
theorem bcnt : ∀ m : Fin 32, ∀ w : Fin 4, f_J6_bitCount_0f7a4 (nI m.val &&& soK w.val) = some (nI (idS (nI m.val &&& soK w.val)).length) ∧ f_J6_bitCount_0f7a4 (nI m.val &&& (soK w.val ^^^ (-1))) = some (nI (idS (nI m.val)).length - nI (idS (nI m.val &&& soK w.val)).length) := by decide +kernel
def qv (m w : Nat) : Int32 := imax (nI (idS (nI m &&& soK w)).length) (nI (idS (nI m)).length - nI (idS (nI m &&& soK w)).length)
def qf (m : Nat) : Nat → Int32 × Int32
  | 0 => (-1, 6)
  | w + 1 => if (qf m w).2 ≤ qv m w then qf m w else (nI w, qv m w)
theorem imax_le (x y : Int32) : imax x y = if x ≤ y then y else x := by
  unfold imax
  by_cases h : x < y
  · rw [if_pos h, if_pos (by rw [lt32] at h; rw [le32]; omega)]
  · rw [if_neg h]
    by_cases h2 : x ≤ y
    · rw [if_pos h2, eq32]; rw [lt32] at h; rw [le32] at h2; omega
    · rw [if_neg h2]
theorem x_ask {X : GS} {s : Nat} (h2 : gt X 28 2 = nI s) (hs : s ≤ 6) (a : Int32) {m : Nat} (hm : m < 32) (e : stV X a s = nI m) : f_X4_nextQuestionFor 28 a X = some (if m = 0 then -1 else (qf m 4).1) := by
  unfold f_X4_nextQuestionFor
  rw [x_sorts h2 hs, bI1_s, e]
  rcases Nat.eq_zero_or_pos m with h0 | h0
  · subst h0; rw [if_pos rfl, if_pos (show nI 0 = 0 from rfl)]
  · rw [if_neg (nI_ne0 h0 (by omega)), if_neg (by omega)]
    apply ok_is
    refine ok_bI1 (P := fun r => r = (qf m 4).1) ?_ (fun r hr => ok_some hr)
    refine ok_for 4 (fun i z => z.2.2 = nI i ∧ z.1 = (qf m i).1 ∧ z.2.1 = (qf m i).2) _ ?_ ?_ 0 _ (Nat.zero_le _) ⟨rfl, rfl, rfl⟩
    · rintro i ⟨z1, z2, z3⟩ hi ⟨h3, h4, h5⟩
      simp only at h3 h4 h5
      subst h3; subst h4; subst h5
      show ok (f_X4_nextQuestionFor_L21 (nI m) (qf m i).1 (qf m i).2 (nI i)) _
      unfold f_X4_nextQuestionFor_L21
      obtain ⟨b1, b2⟩ := bcnt ⟨m, hm⟩ ⟨i, hi⟩
      simp only at b1 b2
      rw [if_neg (show ¬ (4 : Int32) ≤ nI i from nI_ge (b := 4) hi (by omega)), kso hi, bI1_s, b1, bI1_s, bI1_s, b2, bI1_s]
      refine ok_lt ?_
      have hd : qf m (i + 1) = if (qf m i).2 ≤ qv m i then qf m i else (nI i, qv m i) := rfl
      refine ok_if (fun c => ?_) (fun c => ?_)
      · rw [if_pos (show (qf m i).2 ≤ qv m i from c)] at hd
        exact ok_lt (ok_some (Or.inl ⟨_, rfl, nI_p1 i, by rw [hd], by rw [hd]⟩))
      · rw [if_neg (show ¬ (qf m i).2 ≤ qv m i from c)] at hd
        exact ok_lt (ok_some (Or.inl ⟨_, rfl, nI_p1 i, by rw [hd], by rw [hd]; rfl⟩))
    · rintro ⟨z1, z2, z3⟩ ⟨h3, h4, h5⟩
      simp only at h3 h4 h5
      subst h3; subst h4; subst h5
      show ok (f_X4_nextQuestionFor_L21 (nI m) (qf m 4).1 (qf m 4).2 (nI 4)) _
      unfold f_X4_nextQuestionFor_L21
      rw [if_pos (by decide)]
      exact ok_some ⟨_, rfl, rfl⟩
theorem m_ask {X M : GS} {s : Nat} (h : snR X 28 M 14 26 s) (a : Int32) {m : Nat} (hm : m < 32) (e : stV X a s = nI m) : f_X8_askOf a M = some (if m = 0 then -1 else (qf m 4).1) := by
  unfold f_X8_askOf
  rw [m_sorts h, bI1_s, e]
  rcases Nat.eq_zero_or_pos m with h0 | h0
  · subst h0
    rw [if_pos rfl, lpx_end (r := -1)]
    · rfl
    · show f_X8_askOf_L15 (nI 0) (-1) 6 0 = _
      unfold f_X8_askOf_L15
      rw [if_neg (by decide), if_pos (by decide)]
  · rw [if_neg (show ¬ m = 0 by omega)]
    apply ok_is
    refine ok_bI1 (P := fun r => r = (qf m 4).1) ?_ (fun r hr => ok_some hr)
    refine ok_for 4 (fun i z => z.2.2 = nI i ∧ z.1 = (qf m i).1 ∧ z.2.1 = (qf m i).2) _ ?_ ?_ 0 _ (Nat.zero_le _) ⟨rfl, rfl, rfl⟩
    · rintro i ⟨z1, z2, z3⟩ hi ⟨h3, h4, h5⟩
      simp only at h3 h4 h5
      subst h3; subst h4; subst h5
      show ok (f_X8_askOf_L15 (nI m) (qf m i).1 (qf m i).2 (nI i)) _
      unfold f_X8_askOf_L15
      rw [if_neg (show ¬ (4 : Int32) ≤ nI i from nI_ge (b := 4) hi (by omega)), if_neg (nI_ne0 h0 (by omega)), kby hi, bI1_s, m_ones, bI1_s, m_ones, bI1_s]
      refine ok_lt ?_
      have ev : (if nI (idS (nI m &&& soK i)).length ≤ nI (idS (nI m)).length - nI (idS (nI m &&& soK i)).length then some (nI (idS (nI m)).length - nI (idS (nI m &&& soK i)).length) else some (nI (idS (nI m &&& soK i)).length)) = some (qv m i) := by
        unfold qv
        rw [imax_le]
        split <;> rfl
      rw [ev, bI1_s]
      have hd : qf m (i + 1) = if (qf m i).2 ≤ qv m i then qf m i else (nI i, qv m i) := rfl
      by_cases c : (qf m i).2 ≤ qv m i
      · rw [if_pos c] at hd
        rw [if_pos c, bI1_s, if_pos c]
        exact ok_lt (ok_some (Or.inl ⟨_, rfl, nI_p1 i, by rw [hd], by rw [hd]⟩))
      · rw [if_neg c] at hd
        rw [if_neg c, bI1_s, if_neg c]
        exact ok_lt (ok_some (Or.inl ⟨_, rfl, nI_p1 i, by rw [hd], by rw [hd]⟩))
    · rintro ⟨z1, z2, z3⟩ ⟨h3, h4, h5⟩
      simp only at h3 h4 h5
      subst h3; subst h4; subst h5
      show ok (f_X8_askOf_L15 (nI m) (qf m 4).1 (qf m 4).2 (nI 4)) _
      unfold f_X8_askOf_L15
      rw [if_pos (by decide)]
      exact ok_some ⟨_, rfl, rfl⟩
-- where a box is
theorem m_place {M : GS} {O : List Nat} (h : orM M O) (hn : O.Nodup) (h8 : O.length ≤ 8) (hb : ∀ k ∈ O, k < 8) {i : Nat} (hi : i < O.length) : f_X8_placeOf (nI (O.getD i 0)) M = some (nI i) := by
  apply ok_is
  unfold f_X8_placeOf
  refine ok_bI1 (P := fun r => r = nI i) ?_ (fun r hr => ok_some hr)
  refine ok_for O.length (fun j z => z.2 = nI j ∧ (i < j → z.1 = nI i)) _ ?_ ?_ 0 _ (Nat.zero_le _) ⟨rfl, fun q => absurd q (Nat.not_lt_zero _)⟩
  · rintro j ⟨z1, z2⟩ hj ⟨h3, h4⟩
    simp only at h3 h4
    subst h3
    show ok (f_X8_placeOf_L4 (nI (O.getD i 0)) M z1 (nI j)) _
    unfold f_X8_placeOf_L4
    have e := h.2 j hj
    rw [Nat.zero_add] at e
    rw [h.1, if_neg (nI_ge hj (by omega)), gd_n (show j < 8 by omega) (by omega), nI_clamp (show j < 2 ^ 31 by omega), e]
    refine ok_if (fun c => ?_) (fun c => ?_)
    · have a1 := hb _ (getD_mem hi)
      have a2 := hb _ (getD_mem hj)
      have := getD_inj hn hj hi (nI_inj (by omega) (by omega) c)
      subst this
      exact ok_lt (ok_some (Or.inl ⟨_, rfl, nI_p1 j, fun _ => rfl⟩))
    · refine ok_lt (ok_some (Or.inl ⟨_, rfl, nI_p1 j, fun q => h4 ?_⟩))
      have : i ≠ j := fun q => c (by rw [q])
      omega
  · rintro ⟨z1, z2⟩ ⟨h3, h4⟩
    simp only at h3 h4
    subst h3
    show ok (f_X8_placeOf_L4 (nI (O.getD i 0)) M z1 (nI O.length)) _
    unfold f_X8_placeOf_L4
    rw [h.1, if_pos (nI_le (Nat.le_refl _) (by omega))]
    exact ok_some ⟨_, rfl, h4 hi⟩
theorem leaf_of {n : Nat} {b : Bx} {rs : List Int} (hp : okP n b rs) {k : Nat} (hk : k < n) : (bnd b (List.range n) k = none ∧ ∃ (i : Nat) (p : List Nat × Nat), (lvs b rs (List.range n))[i]? = some p ∧ k ∈ p.1) ∨ (bnd b (List.range n) k ≠ none ∧ ∀ p ∈ lvs b rs (List.range n), k ∉ p.1) := by
  have hpm := rws_perm (rs := rs) (okB_of hp (fun k hk => List.mem_range.mp hk))
  by_cases h : bnd b (List.range n) k = none
  · left
    refine ⟨h, ?_⟩
    have h1 : k ∈ fre b (List.range n) := List.mem_filter.mpr ⟨List.mem_range.mpr hk, decide_eq_true h⟩
    obtain ⟨p, hp1, hp2⟩ := List.mem_flatMap.mp (hpm.mem_iff.mpr h1)
    obtain ⟨i, hi, e⟩ := List.getElem_of_mem hp1
    exact ⟨i, p, by rw [List.getElem?_eq_getElem hi, e], hp2⟩
  · right
    refine ⟨h, fun p hp1 hp2 => h ?_⟩
    have h1 : k ∈ rws b rs (List.range n) := List.mem_flatMap.mpr ⟨p, hp1, hp2⟩
    exact of_decide_eq_true (List.mem_filter.mp (hpm.mem_iff.mp h1)).2
theorem i_eq {x y : Int32} {v : Int} (h1 : x.toInt = v) (h2 : y.toInt = v) : x = y := (eq32 _ _).mpr (h1.trans h2.symm)
theorem mem_ords {n : Nat} {b : Bx} {rs : List Int} (hp : okP n b rs) {k : Nat} (hk : k < n) : ∃ i, i < (ords b rs (List.range n)).length ∧ (ords b rs (List.range n)).getD i 0 = k := mem_getD ((ords_mem (rs := rs) (okB_of hp (fun k hk => List.mem_range.mp hk)) k).mpr (List.mem_range.mpr hk))
theorem ords_lt {n : Nat} {b : Bx} {rs : List Int} (hp : okP n b rs) : ∀ k ∈ ords b rs (List.range n), k < n := fun k hk => List.mem_range.mp ((ords_mem (rs := rs) (okB_of hp (fun k hk => List.mem_range.mp hk)) k).mp hk)
theorem x_place {n : Nat} {b : Bx} {rs : List Int} {X : GS} (hr : reads X 3 n b rs) {i : Nat} (hi : i < (ords b rs (List.range n)).length) : gt X 12 ((ords b rs (List.range n)).getD i 0) = nI i := hr.1.2.2 i hi
theorem m_placeO {n : Nat} {b : Bx} {rs : List Int} {M : GS} (hp : okP n b rs) (hr : mreads M n b rs (List.range n)) {i : Nat} (hi : i < (ords b rs (List.range n)).length) : f_X8_placeOf (nI ((ords b rs (List.range n)).getD i 0)) M = some (nI i) := by
  have hn := hp.1
  exact m_place hr.1 (ords_nd (okB_of hp (fun k hk => List.mem_range.mp hk)) List.nodup_range) (by rw [ords_len hp]; exact hn) (fun k hk => by have := ords_lt hp k hk; omega) hi
theorem box_tell {n : Nat} {b : Bx} {rs : List Int} {t p s : Nat} {X M : GS} (h : RelA n b rs t p s X M) {k : Nat} (hk : k < n) (a2 : Int32) : ∃ r M1, f_X7_box (nI k) a2 X = some r ∧ f_X8_tellBox (nI k) a2 M = some (r, M1) ∧ oK M M1 := by
  obtain ⟨g1, g2, g3, g4, g5, g6, g7, g8⟩ := h
  have hp := g1.p
  have hn := hp.1
  obtain ⟨M1, e, m1, m2⟩ := m_all g4 hp
  have g4' := oK_m m2 g4
  have g7' : snR X 28 M1 14 26 s := snR_keep g7 (fun _ _ _ _ => rfl) (fun j => oK_mK m2 _ _ (by unfold mW; omega)) (oK_mK m2 _ _ (by unfold mW; omega))
  obtain ⟨q1, q2, q3, q4, q5, q6, q7, q8⟩ := g3
  obtain ⟨w1, w2, w3, w4⟩ := m1
  unfold f_X7_box f_X8_tellBox
  rw [x_has_1 g2.1 hk hn, bI1_s, if_neg i10, e, bI1_s]
  simp only [gd_n (show k < 8 by omega) (show 8 < 2147483648 by omega), nI_clamp (show k < 2 ^ 31 by omega)]
  have v0 : gt M1 2 k = gt X 5 k := i_eq (g4'.c0 hk) (g2.c0 hk)
  have vs : ∀ c, c < 4 → gt M1 3 (4 * k + c) = gt X (6 + c) k := fun c hc => by
    refine i_eq ((g4'.2.2.1 k hk).2 c hc) ?_
    have := g2.2.2.1 k hk (1 + c) (by omega)
    rw [show 4 + 1 + (1 + c) = 6 + c by omega] at this
    exact this
  by_cases h0 : a2 = 0
  · rw [if_pos h0, if_pos h0, v0]; exact ⟨_, _, rfl, rfl, m2⟩
  rw [if_neg h0, if_neg h0]
  by_cases h1 : a2 = 1
  · subst h1
    rw [if_pos rfl, if_pos rfl, n4_1, nI_pred, gd_n (show 4 * k < 32 by omega) (by omega), nI_clamp (show 4 * k < 2 ^ 31 by omega)]
    have := vs 0 (by decide)
    rw [Nat.add_zero, Nat.add_zero] at this
    rw [this]; exact ⟨_, _, rfl, rfl, m2⟩
  rw [if_neg h1, if_neg h1]
  by_cases h1 : a2 = 2
  · subst h1
    rw [if_pos rfl, if_pos rfl, n4_2, nI_pred, gd_n (show 4 * k + 1 < 32 by omega) (by omega), nI_clamp (show 4 * k + 1 < 2 ^ 31 by omega), vs 1 (by decide)]
    exact ⟨_, _, rfl, rfl, m2⟩
  rw [if_neg h1, if_neg h1]
  by_cases h1 : a2 = 3
  · subst h1
    rw [if_pos rfl, if_pos rfl, n4_3, nI_pred, gd_n (show 4 * k + 2 < 32 by omega) (by omega), nI_clamp (show 4 * k + 2 < 2 ^ 31 by omega), vs 2 (by decide)]
    exact ⟨_, _, rfl, rfl, m2⟩
  rw [if_neg h1, if_neg h1]
  by_cases h1 : a2 = 4
  · subst h1
    have n4_4 : (4 : Int32) * nI k + 4 = nI (4 * k + 4) := by rw [n4]; exact nI_add _ 4
    rw [if_pos rfl, if_pos rfl, n4_4, nI_pred, gd_n (show 4 * k + 3 < 32 by omega) (by omega), nI_clamp (show 4 * k + 3 < 2 ^ 31 by omega), vs 3 (by decide)]
    exact ⟨_, _, rfl, rfl, m2⟩
  rw [if_neg h1, if_neg h1]
  by_cases h1 : a2 = 5
  · subst h1
    obtain ⟨i, hi, ei⟩ := mem_ords (rs := rs) hp hk
    have z1 := x_place ⟨q1, q2, q3, q4, q5, q6, q7, q8⟩ hi
    have z2 := m_placeO hp ⟨w1, w2, w3, w4⟩ hi
    rw [ei] at z1 z2
    rw [if_pos rfl, if_pos rfl, z1, z2, bI1_s]
    exact ⟨_, _, rfl, rfl, m2⟩
  rw [if_neg h1, if_neg h1]
  by_cases h1 : a2 = 6
  · subst h1
    have z1 : gt X 13 k = eO (bnd b (List.range n) k) := q2 k hk
    have z2 := w4 k hk
    rw [if_pos (List.mem_range.mpr hk)] at z2
    rw [if_pos rfl, if_pos rfl, z1, z2]
    exact ⟨_, _, rfl, rfl, m2⟩
  rw [if_neg h1, if_neg h1]
  by_cases h1 : a2 = 7
  · subst h1
    rw [if_pos rfl, if_pos rfl]
    have z : gt M1 9 k = gt X 14 k := by
      rcases leaf_of (rs := rs) hp hk with ⟨_, i, p, hi, hkp⟩ | ⟨hb, hno⟩
      · rw [(w3.2.1 i p hi k hkp).2]; exact (q4 i p hi k hkp).2.symm
      · rw [(w3.2.2 k (by omega) hno).2]; exact (q5 k hk hb).symm
    rw [z]
    exact ⟨_, _, rfl, rfl, m2⟩
  rw [if_neg h1, if_neg h1]
  by_cases h1 : a2 = 8
  · subst h1
    rw [if_pos rfl, if_pos rfl, x_sorts g7.2.1 g7.1, m_sorts g7', bI1_s, bI1_s]
    exact ⟨_, _, rfl, rfl, m2⟩
  rw [if_neg h1, if_neg h1]
  by_cases h1 : a2 = 9
  · subst h1
    obtain ⟨m, hm, em⟩ := stV_small X (nI k) s
    rw [if_pos rfl, if_pos rfl, x_ask g7.2.1 g7.1 _ hm em, m_ask g7' _ hm em, bI1_s, bI1_s]
    exact ⟨_, _, rfl, rfl, m2⟩
  rw [if_neg h1, if_neg h1]
  exact ⟨_, _, rfl, rfl, m2⟩
theorem r_box : op_box Rel := by
  intro c X M a1 a2 _ h
  obtain ⟨n, b, rs, t, p, s, hp, h⟩ := h
  obtain ⟨g1, g2, g3, g4, g5, g6, g7, g8⟩ := id h
  rcases box_or g2.1 g4.1 g1.1 a1 with ⟨k, hk, rfl, e1, e2⟩ | ⟨e1, e2⟩
  · obtain ⟨r, M1, x1, x2, x3⟩ := box_tell h hk a2
    refine ⟨r, M1, x1, ?_, Rel_of hp (RelA_keep h (xK_rf X) (oK_mK x3))⟩
    unfold f_X8_box
    rw [e1, bI1_s, if_neg i10, x2, bI2_s]
  · refine ⟨-101, M, ?_, ?_, Rel_of hp h⟩
    · unfold f_X7_box; rw [e2, bI1_s, if_pos rfl]
    · unfold f_X8_box; rw [e1, bI1_s, if_pos rfl]
theorem r_as : op_as Rel := by
  intro c X M a1 a2 _ h
  obtain ⟨n, b, rs, t, p, s, hp, h⟩ := h
  obtain ⟨g1, g2, g3, g4, g5, g6, g7, g8⟩ := id h
  have hn := g1.1
  have l5 : (5 : Int32).toInt = 5 := l32_5
  unfold f_X7_as f_X8_as f_X7_isKind
  rcases box_or g2.1 g4.1 g1.1 a1 with ⟨k, hk, rfl, e1, e2⟩ | ⟨e1, e2⟩
  · rw [e1, e2, bI1_s, bI1_s, if_neg i10, if_neg i10]
    by_cases h2 : 0 ≤ a2.toInt ∧ a2.toInt ≤ 4
    · rw [in_1 (l := 0) (h := 4) (by decide) (by decide) h2, bI1_s, if_neg i10, if_neg (by rw [lt32, l32_0]; omega), if_neg (by rw [le32, l5]; omega), bI1_s, if_neg i10, x_kind g2 hk hn, bI1_s]
      rw [gd_n (show k < 8 by omega) (by omega), gd_n (show k < 8 by omega) (by omega), nI_clamp (show k < 2 ^ 31 by omega)]
      simp only [eq32 a2, eq32 (gt M 2 k), l32_0, l32_2, l32_4, g4.c0 hk]
      refine ⟨if a2.toInt = 0 ∨ b k 0 = a2.toInt ∨ (a2.toInt = 2 ∧ b k 0 = 4) then nI k else -1, ?_, ?_, Rel_of hp h⟩
      · by_cases q : a2.toInt = 0 ∨ b k 0 = a2.toInt ∨ (a2.toInt = 2 ∧ b k 0 = 4)
        · rw [if_pos q, if_pos q, if_neg i10]
        · rw [if_neg q, if_neg q, if_pos rfl]
      · by_cases q0 : a2.toInt = 0
        · rw [if_pos q0, bI1_s, if_neg i10, if_pos (Or.inl q0)]
        · rw [if_neg q0]
          by_cases q1 : a2.toInt = b k 0
          · rw [if_pos q1, bI1_s, if_neg i10, if_pos (Or.inr (Or.inl q1.symm))]
          · rw [if_neg q1]
            by_cases q2 : a2.toInt = 2
            · rw [if_pos q2]
              by_cases q3 : b k 0 = 4
              · rw [if_pos q3, bI1_s, if_neg i10, if_pos (Or.inr (Or.inr ⟨q2, q3⟩))]
              · rw [if_neg q3, bI1_s, if_pos rfl, if_neg (by omega)]
            · rw [if_neg q2, bI1_s, if_pos rfl, if_neg (by omega)]
    · refine ⟨-102, ?_, ?_, Rel_of hp h⟩
      · by_cases q : a2 < 0
        · rw [if_pos q, bI1_s, if_pos rfl]
        · rw [if_neg q, if_pos (by rw [lt32, l32_0] at q; rw [le32, l5]; omega), bI1_s, if_pos rfl]
      · rw [in_0 (l := 0) (h := 4) (by decide) (by decide) h2, bI1_s, if_pos rfl]
  · rw [e1, e2, bI1_s, bI1_s, if_pos rfl, if_pos rfl]
    exact ⟨_, rfl, rfl, Rel_of hp h⟩
theorem order_at {n : Nat} {b : Bx} {rs : List Int} {X M1 : GS} (hp : okP n b rs) (hr : reads X 3 n b rs) (hm : mreads M1 n b rs (List.range n)) {i : Nat} (hi : i < n) : gt X 11 i = nI ((ords b rs (List.range n)).getD i 0) ∧ gt M1 6 i = nI ((ords b rs (List.range n)).getD i 0) := by
  have hl := ords_len hp
  have e1 := hr.1.2.1 i (by omega)
  have e2 := hm.1.2 i (by omega)
  rw [Nat.zero_add] at e1 e2
  exact ⟨e1, e2⟩
theorem r_order : op_order Rel := by
  intro c X M a1 _ h
  obtain ⟨n, b, rs, t, p, s, hp, h⟩ := h
  obtain ⟨g1, g2, g3, g4, g5, g6, g7, g8⟩ := id h
  have hn := g1.1
  have hl := ords_len g1.p
  have e3 : gt X 3 2 = nI n := by rw [g3.1.1, hl]
  unfold f_X7_order f_X8_order f_X8_isBox
  rw [g4.1, e3]
  rcases m_in (a := a1) (n := n) (by omega) with ⟨k, hk, rfl, h1⟩ | ⟨q, h0⟩
  · obtain ⟨M1, e, m1, m2⟩ := m_all g4 g1.p
    obtain ⟨o1, o2⟩ := order_at g1.p g3 m1 hk
    rw [h1, bI1_s]
    unfold gq
    rw [if_pos (Or.inr rfl), bI1_s, if_neg i10, e, bI1_s, if_neg (nI_pos (by omega)), if_neg (nI_ge hk (by omega)), gd_n (show k < 8 by omega) (by omega), gd_n (show k < 8 by omega) (by omega), nI_clamp (show k < 2 ^ 31 by omega), o1, o2]
    exact ⟨_, _, rfl, rfl, Rel_of hp (RelA_keep h (xK_rf X) (oK_mK m2))⟩
  · rw [h0, bI1_s]
    unfold gq
    rw [if_pos (Or.inl rfl), bI1_s, if_pos rfl]
    refine ⟨-101, M, ?_, rfl, Rel_of hp h⟩
    by_cases q2 : a1 < 0
    · rw [if_pos q2]
    · rw [if_neg q2, if_pos (by rw [lt32, l32_0] at q2; rw [le32, nI_T (by omega)]; omega)]
theorem cts_len {n : Nat} {b : Bx} {rs : List Int} (hp : okP n b rs) : (cts b rs (List.range n)).length ≤ 7 := by
  obtain ⟨e1, e2⟩ := s_all hp.1
  have := (lens (rs := rs) (S := ishl 1 (nI n) - 1) hp (fun k hk => by rw [e1] at hk; exact List.mem_range.mp hk)).1
  rw [e1] at this
  exact this
theorem cut_vals {n : Nat} {b : Bx} {rs : List Int} {X M1 : GS} (hr : reads X 3 n b rs) (hm : mreads M1 n b rs (List.range n)) {i : Nat} (hi : i < (cts b rs (List.range n)).length) : gt M1 7 (5 * i) = gt X 17 i ∧ gt M1 7 (5 * i + 1) = gt X 18 i ∧ gt M1 7 (5 * i + 2) = gt X 19 i ∧ gt M1 7 (5 * i + 3) = gt X 20 i ∧ gt M1 7 (5 * i + 4) = gt X 21 i := by
  obtain ⟨q1, q2, q3, q4, q5, q6, q7, q8⟩ := hr
  have e := List.getElem?_eq_getElem hi
  obtain ⟨x1, x2, x3, x4, x5⟩ := q6.2 i _ e
  obtain ⟨y1, y2, y3, y4, y5⟩ := hm.2.1.2 i _ e
  exact ⟨y1.trans x1.symm, i_eq y2 x2, i_eq y3 x3, y4.trans x4.symm, y5.trans x5.symm⟩
theorem cut_tell {n : Nat} {b : Bx} {rs : List Int} {t p s : Nat} {X M : GS} (h : RelA n b rs t p s X M) (a1 a2 : Int32) : ∃ r M1, f_X7_cut a1 a2 X = some r ∧ f_X8_cut a1 a2 M = some (r, M1) ∧ oK M M1 := by
  obtain ⟨g1, g2, g3, g4, g5, g6, g7, g8⟩ := h
  have hp := g1.p
  have hn := hp.1
  have hl := cts_len hp
  obtain ⟨M1, e, m1, m2⟩ := m_all g4 hp
  have e1 : gt X 16 5 = nI (cts b rs (List.range n)).length := g3.2.2.2.2.2.1.1
  have e2 : gt M1 0 18 = nI (cts b rs (List.range n)).length := m1.2.1.1
  unfold f_X7_cut f_X8_cut
  rw [e, bI1_s, e1, e2]
  rcases m_in (a := a1) (n := (cts b rs (List.range n)).length) (by omega) with ⟨k, hk, rfl, h1⟩ | ⟨q, h0⟩
  · obtain ⟨v0, v1, v2, v3, v4⟩ := cut_vals g3 m1 hk
    rw [h1, bI1_s, if_neg i10, if_neg (nI_pos (by omega)), if_pos (nI_lt hk (by omega))]
    simp only [gd_n (show k < 7 by omega) (show 7 < 2147483648 by omega), nI_clamp (show k < 2 ^ 31 by omega)]
    by_cases h2 : 0 ≤ a2.toInt ∧ a2.toInt ≤ 4
    · obtain ⟨w, hw, rfl⟩ := n_of (n := 5) h2.1 (by omega)
      rw [in_1 (l := 0) (h := 4) (by decide) (by decide) h2, bI1_s, if_neg i10, n5, n5s, gd_n (show 5 * k + w < 40 by omega) (by omega), nI_clamp (show 5 * k + w < 2 ^ 31 by omega)]
      match w, hw with
      | 0, _ => rw [Nat.add_zero, v0]; exact ⟨_, _, rfl, rfl, m2⟩
      | 1, _ => rw [v1]; exact ⟨_, _, rfl, rfl, m2⟩
      | 2, _ => rw [v2]; exact ⟨_, _, rfl, rfl, m2⟩
      | 3, _ => rw [v3]; exact ⟨_, _, rfl, rfl, m2⟩
      | 4, _ => rw [v4]; exact ⟨_, _, rfl, rfl, m2⟩
    · rw [in_0 (l := 0) (h := 4) (by decide) (by decide) h2, bI1_s, if_pos rfl]
      have n0 : ¬ a2 = 0 := fun q => h2 (by rw [q]; decide)
      have n1 : ¬ a2 = 1 := fun q => h2 (by rw [q]; decide)
      have n2 : ¬ a2 = 2 := fun q => h2 (by rw [q]; decide)
      have n3 : ¬ a2 = 3 := fun q => h2 (by rw [q]; decide)
      have n4 : ¬ a2 = 4 := fun q => h2 (by rw [q]; decide)
      rw [if_neg n0, if_neg n1, if_neg n2, if_neg n3, if_neg n4]
      exact ⟨_, _, rfl, rfl, m2⟩
  · rw [h0, bI1_s, if_pos rfl]
    refine ⟨-101, M1, ?_, rfl, m2⟩
    by_cases q2 : a1 < 0
    · rw [if_pos q2]
    · rw [if_neg q2, if_neg (by rw [lt32, l32_0] at q2; rw [lt32, nI_T (by omega)]; omega)]
theorem r_cut : op_cut Rel := by
  intro c X M a1 a2 _ h
  obtain ⟨n, b, rs, t, p, s, hp, h⟩ := h
  obtain ⟨r, M1, x1, x2, x3⟩ := cut_tell h a1 a2
  exact ⟨r, M1, x1, x2, Rel_of hp (RelA_keep h (xK_rf X) (oK_mK x3))⟩
theorem r_why : op_why Rel := by
  intro c X M a1 a2 _ h
  obtain ⟨n, b, rs, t, p, s, hp, h⟩ := h
  obtain ⟨g1, g2, g3, g4, g5, g6, g7, g8⟩ := id h
  have hn := g1.1
  unfold f_X7_why f_X8_why
  rcases box_or g2.1 g4.1 g1.1 a1 with ⟨k, hk, rfl, e1, e2⟩ | ⟨e1, e2⟩
  · rw [e1, e2, bI1_s, bI1_s, if_neg i10, if_neg i10]
    rcases box_or g2.1 g4.1 g1.1 a2 with ⟨j, hj, rfl, e1, e2⟩ | ⟨e1, e2⟩
    · rw [e1, e2, bI1_s, bI1_s, if_neg i10, if_neg i10]
      by_cases hkj : k = j
      · subst hkj
        rw [if_pos rfl, if_pos rfl]
        exact ⟨_, _, rfl, rfl, Rel_of hp h⟩
      · have hne : ¬ nI k = nI j := fun q => hkj (nI_inj (by omega) (by omega) q)
        rw [if_neg hne, if_neg hne]
        obtain ⟨M1, e, m1, m2⟩ := m_all g4 g1.p
        have g4' := oK_m m2 g4
        rw [e, bI1_s]
        obtain ⟨i1, hi1, ei1⟩ := mem_ords (rs := rs) g1.p hk
        obtain ⟨i2, hi2, ei2⟩ := mem_ords (rs := rs) g1.p hj
        have z1 := x_place g3 hi1
        have z2 := m_placeO g1.p m1 hi1
        have z3 := x_place g3 hi2
        have z4 := m_placeO g1.p m1 hi2
        rw [ei1] at z1 z2
        rw [ei2] at z3 z4
        obtain ⟨q1, q2, q3, q4, q5, q6, q7, q8⟩ := id g3
        obtain ⟨w1, w2, w3, w4⟩ := id m1
        have b1 : gt X 13 k = eO (bnd b (List.range n) k) := q2 k hk
        have b2 : gt X 13 j = eO (bnd b (List.range n) j) := q2 j hj
        have b3 := w4 k hk
        have b4 := w4 j hj
        rw [if_pos (List.mem_range.mpr hk)] at b3
        rw [if_pos (List.mem_range.mpr hj)] at b4
        unfold f_X3_reason
        simp only [z2, z4, bI1_s, gd_n (show k < 8 by omega) (show 8 < 2147483648 by omega), nI_clamp (show k < 2 ^ 31 by omega), gd_n (show j < 8 by omega) (show 8 < 2147483648 by omega), nI_clamp (show j < 2 ^ 31 by omega), z1, z3]
        rw [show (3 : Nat) + 10 = 13 from rfl, show (3 : Nat) + 12 = 15 from rfl, show (3 : Nat) + 1 = 4 from rfl, b1, b2, b3, b4]
        have hbn : ∀ k f, bnd b (List.range n) k = some f → f < 8 := fun k f hf => by
          have := List.mem_range.mp (bnd_fig hf).1; omega
        have ea : ∃ x, (if nI i2 ≤ nI i1 then some (nI j) else some (nI k)) = some x := by
          by_cases q : nI i2 ≤ nI i1
          · exact ⟨_, if_pos q⟩
          · exact ⟨_, if_neg q⟩
        obtain ⟨x, ex⟩ := ea
        rw [ex, bI1_s, bI1_s]
        have goal : ∃ r, bI1 (if eO (bnd b (List.range n) k) = -1 then (if eO (bnd b (List.range n) j) = -1 then (if gt X 15 k = gt X 15 j then bI1 (f_X5_ruleThatTells 4 (nI k) (nI j) X) (fun r8 => if r8 = -1 then some 4 else some r8) else some 5) else some 6) else some 6) (fun r10 => some (10 * x + r10)) = some r ∧ bI1 (if eO (bnd b (List.range n) k) = -1 then (if eO (bnd b (List.range n) j) = -1 then (if gt M1 8 k = gt M1 8 j then bI1 (f_X8_ruleOf (nI k) (nI j) M1) (fun r19 => some r19) else some 5) else some 6) else some 6) (fun x13 => some (10 * x + x13, M1)) = some (r, M1) := by
          by_cases c1 : eO (bnd b (List.range n) k) = -1
          · rw [if_pos c1, if_pos c1]
            by_cases c2 : eO (bnd b (List.range n) j) = -1
            · rw [if_pos c2, if_pos c2]
              have f1 := (eO_none (hbn k)).mp c1
              have f2 := (eO_none (hbn j)).mp c2
              have lk : gt M1 8 k = gt X 15 k := by
                rcases leaf_of (rs := rs) g1.p hk with ⟨_, i, p, hi, hkp⟩ | ⟨hb, _⟩
                · rw [(w3.2.1 i p hi k hkp).1]
                  have := (q4 i p hi k hkp).1
                  rw [Nat.zero_add] at this
                  exact this.symm
                · exact absurd f1 hb
              have lj : gt M1 8 j = gt X 15 j := by
                rcases leaf_of (rs := rs) g1.p hj with ⟨_, i, p, hi, hkp⟩ | ⟨hb, _⟩
                · rw [(w3.2.1 i p hi j hkp).1]
                  have := (q4 i p hi j hkp).1
                  rw [Nat.zero_add] at this
                  exact this.symm
                · exact absurd f2 hb
              rw [lk, lj]
              by_cases c3 : gt X 15 k = gt X 15 j
              · rw [if_pos c3, if_pos c3]
                obtain ⟨v, v1, v2⟩ := x_tells g2 g1.p hk hj
                obtain ⟨u, u1, u2⟩ := m_ruleOf g4' g1.p hk hj
                rw [v1, u1, bI1_s, bI1_s]
                by_cases c4 : tel b rs k j = -1
                · rw [if_pos c4] at u2
                  rw [if_pos ((eq32 _ _).mpr (by rw [v2, l32_m1, c4]))]
                  have : u = 4 := i_eq u2 l32_4
                  rw [this]
                  exact ⟨_, rfl, rfl⟩
                · rw [if_neg c4] at u2
                  rw [if_neg (fun q => c4 (by rw [eq32, v2, l32_m1] at q; exact q))]
                  have : u = v := i_eq u2 v2
                  rw [this]
                  exact ⟨_, rfl, rfl⟩
              · rw [if_neg c3, if_neg c3]; exact ⟨_, rfl, rfl⟩
            · rw [if_neg c2, if_neg c2]; exact ⟨_, rfl, rfl⟩
          · rw [if_neg c1, if_neg c1]; exact ⟨_, rfl, rfl⟩
        obtain ⟨r, r1, r2⟩ := goal
        exact ⟨r, M1, r1, r2, Rel_of hp (RelA_keep h (xK_rf X) (oK_mK m2))⟩
    · rw [e1, e2, bI1_s, bI1_s, if_pos rfl, if_pos rfl]
      exact ⟨_, _, rfl, rfl, Rel_of hp h⟩
  · rw [e1, e2, bI1_s, bI1_s, if_pos rfl, if_pos rfl]
    exact ⟨_, _, rfl, rfl, Rel_of hp h⟩
theorem m_bmany {M : GS} {n : Nat} {b : Bx} {rs : List Int} (hp : okP n b rs) (h5 : gt M 0 5 = nI n) (hm : mreads M n b rs (List.range n)) : ∃ v, f_X8_boundMany M = some v ∧ v = nI ((List.range n).filter (fun k => !decide (bnd b (List.range n) k = none))).length := by
  have hn := hp.1
  have hbn : ∀ k f, bnd b (List.range n) k = some f → f < 8 := fun k f hf => by
    have := List.mem_range.mp (bnd_fig hf).1; omega
  show ok (f_X8_boundMany M) _
  unfold f_X8_boundMany
  refine ok_bI1 (P := fun v => v = nI ((List.range n).filter (fun k => !decide (bnd b (List.range n) k = none))).length) ?_ (fun r hr => ok_some hr)
  refine ok_for n (fun i z => z.2 = nI i ∧ z.1 = nI ((List.range i).filter (fun k => !decide (bnd b (List.range n) k = none))).length) _ ?_ ?_ 0 _ (Nat.zero_le _) ⟨rfl, rfl⟩
  · rintro i ⟨z1, z2⟩ hi ⟨h3, h4⟩
    simp only at h3 h4
    subst h3; subst h4
    show ok (f_X8_boundMany_L4 M _ (nI i)) _
    unfold f_X8_boundMany_L4
    have e := hm.2.2.2 i hi
    rw [if_pos (List.mem_range.mpr hi)] at e
    rw [h5, if_neg (nI_ge hi (by omega)), gd_n (show i < 8 by omega) (by omega), nI_clamp (show i < 2 ^ 31 by omega), e]
    refine ok_if (fun c => ?_) (fun c => ?_)
    · have c2 := (eO_none (hbn i)).mp c
      refine ok_lt (ok_lt (ok_some (Or.inl ⟨_, rfl, nI_p1 i, ?_⟩)))
      rw [range_step, List.filter_append]
      simp only [List.filter_cons, c2, List.filter_nil, decide_true, Bool.not_true, Bool.false_eq_true, if_false, List.append_nil]
      exact nI_add _ 0
    · have c2 : ¬ bnd b (List.range n) i = none := fun q => c ((eO_none (hbn i)).mpr q)
      refine ok_lt (ok_lt (ok_some (Or.inl ⟨_, rfl, nI_p1 i, ?_⟩)))
      rw [range_step, List.filter_append, List.length_append]
      simp only [List.filter_cons, c2, List.filter_nil, decide_false, Bool.not_false, if_true]
      exact nI_p1 _
  · rintro ⟨z1, z2⟩ ⟨h3, h4⟩
    simp only at h3 h4
    subst h3; subst h4
    show ok (f_X8_boundMany_L4 M _ (nI n)) _
    unfold f_X8_boundMany_L4
    rw [h5, if_pos (nI_le (Nat.le_refl _) (by omega))]
    exact ok_some ⟨_, rfl, rfl⟩
theorem filt_len {P : Nat → Bool} : ∀ l : List Nat, (l.filter P).length + (l.filter (fun k => !P k)).length = l.length := by
  intro l
  induction l with
  | nil => rfl
  | cons x t ih =>
    simp only [List.filter_cons]
    cases hx : P x <;> simp <;> omega
theorem nI_sub {a c : Nat} (h : c ≤ a) (ha : a < 1000) : nI a - nI c = nI (a - c) := by
  rw [eq32, sub32 (by rw [nI_T (by omega), nI_T (by omega)]; omega) (by rw [nI_T (by omega), nI_T (by omega)]; omega), nI_T (by omega), nI_T (by omega), nI_T (by omega)]
  omega
theorem count_tell {n : Nat} {b : Bx} {rs : List Int} {t p s : Nat} {X M : GS} (h : RelA n b rs t p s X M) (a1 : Int32) : ∃ r M1, f_X7_count a1 X = some r ∧ f_X8_countOf a1 M = some (r, M1) ∧ oK M M1 := by
  obtain ⟨g1, g2, g3, g4, g5, g6, g7, g8⟩ := h
  have hp := g1.p
  have hn := hp.1
  obtain ⟨M1, e, m1, m2⟩ := m_all g4 hp
  have g4' := oK_m m2 g4
  have mk := oK_mK m2
  obtain ⟨q1, q2, q3, q4, q5, q6, q7, q8⟩ := g3
  obtain ⟨w1, w2, w3, w4⟩ := id m1
  unfold f_X7_count f_X8_countOf
  rw [e, bI1_s]
  by_cases h1 : a1 = 0
  · rw [if_pos h1, if_pos h1, g2.1, g4'.1]; exact ⟨_, _, rfl, rfl, m2⟩
  rw [if_neg h1, if_neg h1]
  by_cases h1 : a1 = 1
  · have z : gt X 16 5 = nI (cts b rs (List.range n)).length := q6.1
    rw [if_pos h1, if_pos h1, z, w2.1]; exact ⟨_, _, rfl, rfl, m2⟩
  rw [if_neg h1, if_neg h1]
  by_cases h1 : a1 = 2
  · rw [if_pos h1, if_pos h1, q3, w3.1]; exact ⟨_, _, rfl, rfl, m2⟩
  rw [if_neg h1, if_neg h1]
  by_cases h1 : a1 = 3
  · rw [if_pos h1, if_pos h1, g2.2.1, g4'.2.1]; exact ⟨_, _, rfl, rfl, m2⟩
  rw [if_neg h1, if_neg h1]
  by_cases h1 : a1 = 4
  · obtain ⟨v, v1, v2⟩ := m_bmany hp g4'.1 m1
    have hl := filt_len (P := fun k => decide (bnd b (List.range n) k = none)) (List.range n)
    have hr := (rws_perm (rs := rs) (okB_of hp (fun k hk => List.mem_range.mp hk))).length_eq
    have hf : (fre b (List.range n)).length = ((List.range n).filter (fun k => decide (bnd b (List.range n) k = none))).length := rfl
    rw [List.length_range] at hl
    rw [if_pos h1, if_pos h1, g2.1, q7, v1, bI1_s, v2, nI_sub (by omega) (by omega), show n - (rws b rs (List.range n)).length = ((List.range n).filter (fun k => !decide (bnd b (List.range n) k = none))).length by omega]
    exact ⟨_, _, rfl, rfl, m2⟩
  rw [if_neg h1, if_neg h1]
  by_cases h1 : a1 = 5
  · rw [if_pos h1, if_pos h1, g7.2.1, mk _ _ (by unfold mW; omega), g7.2.2.1]; exact ⟨_, _, rfl, rfl, m2⟩
  rw [if_neg h1, if_neg h1]
  by_cases h1 : a1 = 6
  · rw [if_pos h1, if_pos h1, g5.2.1, mk _ _ (by unfold mW; omega), g5.2.2.1]; exact ⟨_, _, rfl, rfl, m2⟩
  rw [if_neg h1, if_neg h1]
  by_cases h1 : a1 = 7
  · rw [if_pos h1, if_pos h1, g6.1, mk _ _ (by unfold mW; omega), g6.2]; exact ⟨_, _, rfl, rfl, m2⟩
  rw [if_neg h1, if_neg h1]
  exact ⟨_, _, rfl, rfl, m2⟩
theorem r_count : op_count Rel := by
  intro c X M a1 _ h
  obtain ⟨n, b, rs, t, p, s, hp, h⟩ := h
  obtain ⟨r, M1, x1, x2, x3⟩ := count_tell h a1
  refine ⟨r, M1, x1, ?_, Rel_of hp (RelA_keep h (xK_rf X) (oK_mK x3))⟩
  unfold f_X8_count
  rw [x2, bI2_s]
