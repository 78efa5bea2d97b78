theorem m_sort {st : GS} {n : Nat} {b : Bx} {rs : List Int} (h : mIs st n b rs) {k : Nat} (hk : k < n) (hn : n ≤ 8) {a : Int32} : f_X8_isSort (nI k) a st = some (if a = 0 then (if b k 0 = 1 then 1 else 0) else (if b k 0 = 2 ∨ b k 0 = 4 then 1 else 0)) := by
  unfold f_X8_isSort
  rw [gd_n (show k < 8 by omega) (by omega), gd_n (show k < 8 by omega) (by omega), gd_n (show k < 8 by omega) (by omega), nI_clamp (show k < 2 ^ 31 by omega)]
  simp only [eq32, h.c0 hk, l32_0, l32_1, l32_2, l32_4]
  by_cases h0 : a.toInt = 0
  · rw [if_pos h0, if_pos h0]; split <;> rfl
  · rw [if_neg h0, if_neg h0]
    by_cases h2 : b k 0 = 2
    · simp [h2]
    · by_cases h4 : b k 0 = 4
      · simp [h4]
      · simp [h2, h4]
theorem m_sort0 {st : GS} {n : Nat} {b : Bx} {rs : List Int} (h : mIs st n b rs) {k : Nat} (hk : k < n) (hn : n ≤ 8) : f_X8_isSort (nI k) 0 st = some (if b k 0 = 1 then 1 else 0) := by rw [m_sort h hk hn, if_pos rfl]
theorem m_sort1 {st : GS} {n : Nat} {b : Bx} {rs : List Int} (h : mIs st n b rs) {k : Nat} (hk : k < n) (hn : n ≤ 8) : f_X8_isSort (nI k) 1 st = some (if b k 0 = 2 ∨ b k 0 = 4 then 1 else 0) := by rw [m_sort h hk hn, if_neg (by decide)]
theorem m_byRule {st : GS} {n : Nat} {b : Bx} {rs : List Int} (h : mIs st n b rs) (hp : okP n b rs) {x y : Nat} (hx : x < n) (hy : y < n) {a : Int32} : ∃ v, f_X8_byRule a (nI x) (nI y) st = some v ∧ v.toInt = rk b a.toInt x - rk b a.toInt y := by
  have hn := hp.1
  have sx := rk_small hp hx
  have sy := rk_small hp hy
  unfold f_X8_byRule
  simp only [m_sort0 h hx hn, m_sort0 h hy hn, m_sort1 h hx hn, m_sort1 h hy hn, bI1_s]
  by_cases h0 : a = 0
  · subst h0
    rw [if_pos rfl]
    have r0 : ∀ k, rk b (Int32.toInt 0) k = if b k 0 = 1 then 0 else 1 := fun k => by rw [l32_0]; rfl
    rw [r0, r0]
    by_cases h1 : b x 0 = 1 <;> by_cases h2 : b y 0 = 1 <;> simp only [h1, h2, if_true, if_false, bI1_s] <;> exact ⟨_, rfl, by decide⟩
  · have h0' : ¬ a.toInt = 0 := fun e => h0 ((eq32 _ _).mpr (by rw [e, l32_0]))
    rw [if_neg h0]
    by_cases h1 : a = 1
    · subst h1
      rw [if_pos rfl]
      have r0 : ∀ k, rk b (Int32.toInt 1) k = if b k 0 = 2 ∨ b k 0 = 4 then 1 else 0 := fun k => by rw [l32_1]; rfl
      rw [r0, r0]
      by_cases h1 : b x 0 = 2 ∨ b x 0 = 4 <;> by_cases h2 : b y 0 = 2 ∨ b y 0 = 4 <;> simp only [h1, h2, if_true, if_false, bI1_s] <;> exact ⟨_, rfl, by decide⟩
    · have h1' : ¬ a.toInt = 1 := fun e => h1 ((eq32 _ _).mpr (by rw [e, l32_1]))
      rw [if_neg h1]
      have px := (hp.2.2.2 x hx).2
      have py := (hp.2.2.2 y hy).2
      by_cases h2 : a = 2
      · subst h2
        rw [if_pos rfl, n4_1, n4_1, gd_n (show 4 * x + 1 < 32 by omega) (by omega), gd_n (show 4 * y + 1 < 32 by omega) (by omega), nI_clamp (show 4 * x + 1 < 2 ^ 31 by omega), nI_clamp (show 4 * y + 1 < 2 ^ 31 by omega)]
        have a2 : (gt st 3 (4 * x + 1)).toInt = b x 2 := (h.2.2.1 x hx).2 1 (by decide)
        have b2 : (gt st 3 (4 * y + 1)).toInt = b y 2 := (h.2.2.1 y hy).2 1 (by decide)
        refine ⟨_, rfl, ?_⟩
        rw [sub32 (by omega) (by omega), a2, b2]
        rfl
      · have h2' : ¬ a.toInt = 2 := fun e => h2 ((eq32 _ _).mpr (by rw [e, l32_2]))
        rw [if_neg h2, n4, n4, gd_n (show 4 * x < 32 by omega) (by omega), gd_n (show 4 * y < 32 by omega) (by omega), nI_clamp (show 4 * x < 2 ^ 31 by omega), nI_clamp (show 4 * y < 2 ^ 31 by omega)]
        have a2 : (gt st 3 (4 * x)).toInt = b x 1 := (h.2.2.1 x hx).2 0 (by decide)
        have b2 : (gt st 3 (4 * y)).toInt = b y 1 := (h.2.2.1 y hy).2 0 (by decide)
        refine ⟨_, rfl, ?_⟩
        rw [sub32 (by omega) (by omega), a2, b2]
        simp only [rk, h0', h1', h2', if_false]
theorem tel_in {b : Bx} {x y : Nat} : ∀ (rs : List Int), (∀ r ∈ rs, 0 ≤ r ∧ r ≤ 3) → tel b rs x y = -1 ∨ (0 ≤ tel b rs x y ∧ tel b rs x y ≤ 3) := by
  intro rs
  induction rs with
  | nil => intro _; exact Or.inl rfl
  | cons r rs ih =>
    intro h
    unfold tel
    split
    · exact ih (fun q hq => h q (List.mem_cons_of_mem _ hq))
    · exact Or.inr (h r List.mem_cons_self)
theorem tel_ah {b : Bx} {x y : Nat} : ∀ (rs : List Int), (∀ r ∈ rs, 0 ≤ r ∧ r ≤ 3) → ah b rs x y = if tel b rs x y = -1 then decide (x < y) else decide (rk b (tel b rs x y) x < rk b (tel b rs x y) y) := by
  intro rs
  induction rs with
  | nil => intro _; rfl
  | cons r rs ih =>
    intro h
    have h2 := ih (fun q hq => h q (List.mem_cons_of_mem _ hq))
    have hr := h r List.mem_cons_self
    unfold tel
    by_cases e : rk b r x = rk b r y
    · rw [if_pos e, ← h2]
      simp [ah, e]
    · rw [if_neg e, if_neg (by omega)]
      simp [ah, e]
theorem m_ruleOf {st : GS} {n : Nat} {b : Bx} {rs : List Int} (h : mIs st n b rs) (hp : okP n b rs) {x y : Nat} (hx : x < n) (hy : y < n) : ∃ v, f_X8_ruleOf (nI x) (nI y) st = some v ∧ v.toInt = if tel b rs x y = -1 then 4 else tel b rs x y := by
  have hn := hp.1
  have hr := hp.2.1
  show ok (f_X8_ruleOf (nI x) (nI y) st) (fun v => v.toInt = if tel b rs x y = -1 then 4 else tel b rs x y)
  unfold f_X8_ruleOf
  refine ok_for rs.length (fun i s => s = nI i ∧ tel b rs x y = tel b (rs.drop i) x y) _ ?_ ?_ 0 0 (Nat.zero_le _) ⟨rfl, rfl⟩
  · rintro i s hi ⟨rfl, hd⟩
    show ok (f_X8_ruleOf_L2 (nI x) (nI y) st (nI i)) _
    unfold f_X8_ruleOf_L2
    rw [h.2.1, if_neg (nI_ge hi (by omega))]
    simp only [gd_n (show i < 4 by omega) (show 4 < 2147483648 by omega), nI_clamp (show i < 2 ^ 31 by omega)]
    obtain ⟨v, e1, v1⟩ := m_byRule h hp hx hy (a := gt st 4 i)
    rw [e1, bI1_s]
    rw [h.2.2.2 i hi] at v1
    rw [drop_cons hi] at hd
    have hmem : rs.getD i 0 ∈ rs := by
      rw [List.getD_eq_getElem?_getD, List.getElem?_eq_getElem hi]; exact List.getElem_mem hi
    have hri := hp.2.2.1 _ hmem
    simp only [tel] at hd
    refine ok_if (fun c => ?_) (fun c => ?_)
    · rw [eq32, v1, l32_0] at c
      refine ok_lt (ok_some (Or.inl ⟨_, rfl, nI_p1 i, ?_⟩))
      rw [hd, if_pos (by omega)]
    · rw [eq32, v1, l32_0] at c
      refine ok_some (Or.inr ⟨_, rfl, ?_⟩)
      rw [hd, if_neg (by omega), h.2.2.2 i hi, if_neg (by omega)]
  · rintro s ⟨rfl, hd⟩
    show ok (f_X8_ruleOf_L2 (nI x) (nI y) st (nI rs.length)) _
    unfold f_X8_ruleOf_L2
    rw [h.2.1, if_pos (nI_le (Nat.le_refl _) (by omega))]
    rw [List.drop_length] at hd
    refine ok_some ⟨_, rfl, ?_⟩
    rw [hd]
    exact l32_4
theorem m_ahead {st : GS} {n : Nat} {b : Bx} {rs : List Int} (h : mIs st n b rs) (hp : okP n b rs) {x y : Nat} (hx : x < n) (hy : y < n) : f_X8_isAhead (nI x) (nI y) st = some (if ah b rs x y = true then 1 else 0) := by
  have hn := hp.1
  obtain ⟨v, e1, v1⟩ := m_ruleOf h hp hx hy
  have t1 := tel_in (b := b) (x := x) (y := y) rs hp.2.2.1
  have t2 := tel_ah (b := b) (x := x) (y := y) rs hp.2.2.1
  unfold f_X8_isAhead
  rw [e1, bI1_s]
  by_cases ht : tel b rs x y = -1
  · rw [if_pos ht] at v1 t2
    rw [if_pos ((eq32 _ _).mpr (by rw [v1, l32_4])), t2]
    by_cases c : x < y
    · rw [if_neg (fun q => by rw [nI_leI (by omega) (by omega)] at q; omega), if_pos (decide_eq_true c)]
    · rw [if_pos (by rw [nI_leI (by omega) (by omega)]; omega), if_neg (by simp; omega)]
  · rw [if_neg ht] at v1 t2
    rw [if_neg (fun q => by rw [eq32, v1, l32_4] at q; omega), t2]
    obtain ⟨w, e2, w1⟩ := m_byRule h hp hx hy (a := v)
    rw [e2, bI1_s]
    rw [v1] at w1
    by_cases c : rk b (tel b rs x y) x < rk b (tel b rs x y) y
    · rw [if_neg (fun q => by rw [le32, w1, l32_0] at q; omega), if_pos (decide_eq_true c)]
    · rw [if_pos (by rw [le32, w1, l32_0]; omega), if_neg (by simp; omega)]
-- the order of the model
def orM (st : GS) (O : List Nat) : Prop := gt st 0 16 = nI O.length ∧ sg st 6 0 O
theorem m_append {st : GS} {n : Nat} {b : Bx} {S : Int32} {O : List Nat} {k : Nat} (hn : n ≤ 8) (h5 : gt st 0 5 = nI n) (hS : ∀ k ∈ idS S, k < n) (hB : ∀ k, k < n → gt st 5 k = if k ∈ idS S then eO (bnd b (idS S) k) else -1) (hk : k < 8) (hO : orM st O) (hl : O.length + 1 + (caps b (idS S) k).length ≤ 8) :
    ok (f_X8_append (nI k) st) (fun st' => orM st' (O ++ k :: caps b (idS S) k) ∧ gl st' = gl st ∧ ∀ c j, c ≠ 6 → (c ≠ 0 ∨ j ≠ 16) → gt st' c j = gt st c j) := by
  have hid := idS_n hn hS
  have hbn : ∀ k f, bnd b (idS S) k = some f → f < 8 := fun k f hf => (idS_mem.mp (bnd_fig hf).1).1
  have put : ∀ (s : GS) (O : List Nat) (x : Nat), orM s O → O.length < 8 → orM (sv (sv s 6 O.length (nI x)) 0 16 (gt (sv s 6 O.length (nI x)) 0 16 + 1)) (O ++ [x]) ∧ gl (sv (sv s 6 O.length (nI x)) 0 16 (gt (sv s 6 O.length (nI x)) 0 16 + 1)) = gl s ∧ ∀ c j, c ≠ 6 → (c ≠ 0 ∨ j ≠ 16) → gt (sv (sv s 6 O.length (nI x)) 0 16 (gt (sv s 6 O.length (nI x)) 0 16 + 1)) c j = gt s c j := by
    intro s O x hO hl
    refine ⟨⟨?_, sg_app.mpr ⟨sg_same hO.2 (fun j _ hj => ?_), sg_one.mpr ?_⟩⟩, rfl, fun c j hc hcj => ?_⟩
    · rw [gt_sv_same, gt_sv_o (by decide), hO.1, List.length_append]; exact nI_p1 _
    · rw [gt_sv_o (by decide), gt_sv_j (by omega)]
    · rw [gt_sv_o (by decide), Nat.zero_add, gt_sv_same]
    · rcases hcj with q | q
      · rw [gt_sv_o q, gt_sv_o hc]
      · rw [gt_sv_j q, gt_sv_o hc]
  unfold f_X8_append
  rw [hO.1, gd_n (show O.length < 8 by omega) (by omega), nI_clamp (show O.length < 2 ^ 31 by omega)]
  refine ok_lt (ok_lt ?_)
  obtain ⟨p1, p2, p3⟩ := put st O k hO (by omega)
  generalize hs1 : sv (sv st 6 O.length (nI k)) 0 16 (gt (sv st 6 O.length (nI k)) 0 16 + 1) = s1 at p1 p2 p3 ⊢
  have hcp : caps b (idS S) k = ((List.range n).filter (fun c => bt S c)).filter (fun c => decide (bnd b (idS S) c = some k)) := by rw [hid]; rfl
  refine ok_bI1 (P := fun st' => orM st' (O ++ k :: caps b (idS S) k) ∧ gl st' = gl st ∧ ∀ c j, c ≠ 6 → (c ≠ 0 ∨ j ≠ 16) → gt st' c j = gt st c j) ?_ (fun r hr => ok_some hr)
  refine ok_for n (fun i z => z.1 = nI i ∧ orM z.2 (O ++ k :: ((List.range i).filter (fun c => bt S c)).filter (fun c => decide (bnd b (idS S) c = some k))) ∧ gl z.2 = gl st ∧ ∀ c j, c ≠ 6 → (c ≠ 0 ∨ j ≠ 16) → gt z.2 c j = gt st c j) _ ?_ ?_ 0 _ (Nat.zero_le _) ⟨rfl, p1, p2, p3⟩
  · rintro i ⟨z, s⟩ hi ⟨h1, h2, h3, h4⟩
    simp only at h1 h2 h3 h4
    subst h1
    show ok (f_X8_append_L22 (nI k) (nI i) s) _
    unfold f_X8_append_L22
    rw [h4 0 5 (by decide) (by decide), h5, if_neg (nI_ge hi (by omega)), gd_n (show i < 8 by omega) (by omega), nI_clamp (show i < 2 ^ 31 by omega), h4 5 i (by decide) (Or.inl (by decide)), hB i hi]
    have hst : ((List.range (i + 1)).filter (fun c => bt S c)).filter (fun c => decide (bnd b (idS S) c = some k)) = ((List.range i).filter (fun c => bt S c)).filter (fun c => decide (bnd b (idS S) c = some k)) ++ (if i ∈ idS S ∧ bnd b (idS S) i = some k then [i] else []) := by
      rw [filt_step, List.filter_append]
      congr 1
      by_cases hb : bt S i = true
      · rw [if_pos hb]
        have : i ∈ idS S := idS_mem.mpr ⟨by omega, hb⟩
        by_cases hq : bnd b (idS S) i = some k
        · rw [if_pos ⟨this, hq⟩]; simp [hq]
        · rw [if_neg (fun q => hq q.2)]; simp [hq]
      · rw [if_neg hb, if_neg (fun q => hb (idS_mem.mp q.1).2)]; rfl
    have hle : (((List.range (i + 1)).filter (fun c => bt S c)).filter (fun c => decide (bnd b (idS S) c = some k))).length ≤ (caps b (idS S) k).length := by
      rw [hcp]
      refine List.Sublist.length_le (List.Sublist.filter _ (List.Sublist.filter _ ?_))
      exact List.range_sublist.mpr (by omega)
    have cond : ((if i ∈ idS S then eO (bnd b (idS S) i) else -1) = nI k) ↔ (i ∈ idS S ∧ bnd b (idS S) i = some k) := by
      by_cases hin : i ∈ idS S
      · rw [if_pos hin]
        cases hq : bnd b (idS S) i with
        | none => exact ⟨fun q => absurd q.symm (nI_ne_m1 (by omega)), fun q => by cases q.2⟩
        | some f =>
          have := hbn i f hq
          exact ⟨fun q => ⟨hin, by rw [nI_inj (by omega) (by omega) q]⟩, fun q => by cases q.2; rfl⟩
      · rw [if_neg hin]
        exact ⟨fun q => absurd q.symm (nI_ne_m1 (by omega)), fun q => absurd q.1 hin⟩
    refine ok_if (fun c => ?_) (fun c => ?_)
    · have c2 := cond.mp c
      rw [hst, if_pos c2] at hle
      rw [List.length_append] at hle
      have hll : (O ++ k :: ((List.range i).filter (fun c => bt S c)).filter (fun c => decide (bnd b (idS S) c = some k))).length < 8 := by
        rw [List.length_append, List.length_cons]
        have : ([i] : List Nat).length = 1 := rfl
        omega
      rw [h2.1, gd_n hll (by omega), nI_clamp (show _ < 2 ^ 31 by omega)]
      obtain ⟨g1, g2, g3⟩ := put s _ i h2 hll
      refine ok_lt (ok_lt (ok_lt (ok_some (Or.inl ⟨_, rfl, nI_p1 i, ?_, g2.trans h3, fun c j q1 q2 => (g3 c j q1 q2).trans (h4 c j q1 q2)⟩))))
      rw [hst, if_pos c2, ← List.cons_append, ← List.append_assoc]
      exact g1
    · have c2 : ¬ (i ∈ idS S ∧ bnd b (idS S) i = some k) := fun q => c (cond.mpr q)
      refine ok_lt (ok_some (Or.inl ⟨_, rfl, nI_p1 i, ?_, h3, h4⟩))
      rw [hst, if_neg c2, List.append_nil]
      exact h2
  · rintro ⟨z, s⟩ ⟨h1, h2, h3, h4⟩
    simp only at h1 h2 h3 h4
    subst h1
    show ok (f_X8_append_L22 (nI k) (nI n) s) _
    unfold f_X8_append_L22
    rw [h4 0 5 (by decide) (by decide), h5, if_pos (nI_le (Nat.le_refl _) (by omega))]
    refine ok_some ⟨_, rfl, ?_, h3, h4⟩
    rw [hcp]; exact h2
