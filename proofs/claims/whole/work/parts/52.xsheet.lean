theorem ok_is {α : Type} {x : Option α} {v : α} (h : ok x (fun a => a = v)) : x = some v := by
  obtain ⟨a, e, rfl⟩ := h; exact e
/-- the class's sheet at cell o holds a page: n boxes b, rules rs -/
def shIs (st : GS) (o n : Nat) (b : Bx) (rs : List Int) : Prop :=
  gt st o 5 = nI n ∧ gt st o 7 = nI rs.length ∧ (∀ k, k < n → ∀ c, c < 5 → (gt st (o + 1 + c) k).toInt = b k c) ∧ (∀ i, i < rs.length → (gt st (o + 6) i).toInt = rs.getD i 0)
/-- a page that may be read -/
def okP (n : Nat) (b : Bx) (rs : List Int) : Prop := n ≤ 8 ∧ rs.length ≤ 4 ∧ (∀ r ∈ rs, 0 ≤ r ∧ r ≤ 3) ∧ ∀ k, k < n → (0 ≤ b k 0 ∧ b k 0 ≤ 4) ∧ (-1 ≤ b k 1 ∧ b k 1 < b k 3 ∧ b k 3 ≤ 1000) ∧ (-1 ≤ b k 2 ∧ b k 2 < b k 4 ∧ b k 4 ≤ 1000)
theorem shIs.c0 {st : GS} {o n : Nat} {b : Bx} {rs : List Int} (h : shIs st o n b rs) {k : Nat} (hk : k < n) : (gt st (o + 1) k).toInt = b k 0 := h.2.2.1 k hk 0 (by decide)
theorem shIs.c1 {st : GS} {o n : Nat} {b : Bx} {rs : List Int} (h : shIs st o n b rs) {k : Nat} (hk : k < n) : (gt st (o + 2) k).toInt = b k 1 := h.2.2.1 k hk 1 (by decide)
theorem shIs.c2 {st : GS} {o n : Nat} {b : Bx} {rs : List Int} (h : shIs st o n b rs) {k : Nat} (hk : k < n) : (gt st (o + 3) k).toInt = b k 2 := h.2.2.1 k hk 2 (by decide)
theorem shIs.c3 {st : GS} {o n : Nat} {b : Bx} {rs : List Int} (h : shIs st o n b rs) {k : Nat} (hk : k < n) : (gt st (o + 4) k).toInt = b k 3 := h.2.2.1 k hk 3 (by decide)
theorem shIs.c4 {st : GS} {o n : Nat} {b : Bx} {rs : List Int} (h : shIs st o n b rs) {k : Nat} (hk : k < n) : (gt st (o + 5) k).toInt = b k 4 := h.2.2.1 k hk 4 (by decide)
theorem l32_0 : (0 : Int32).toInt = 0 := by decide
theorem l32_1 : (1 : Int32).toInt = 1 := by decide
theorem l32_2 : (2 : Int32).toInt = 2 := by decide
theorem l32_3 : (3 : Int32).toInt = 3 := by decide
theorem l32_4 : (4 : Int32).toInt = 4 := by decide
theorem l32_5 : (5 : Int32).toInt = 5 := by decide
theorem l32_6 : (6 : Int32).toInt = 6 := by decide
theorem l32_7 : (7 : Int32).toInt = 7 := by decide
theorem l32_8 : (8 : Int32).toInt = 8 := by decide
theorem l32_9 : (9 : Int32).toInt = 9 := by decide
theorem l32_m1 : (-1 : Int32).toInt = -1 := by decide
theorem x_kind {st : GS} {o n : Nat} {b : Bx} {rs : List Int} (h : shIs st o n b rs) {k : Nat} (hk : k < n) (hn : n ≤ 8) {a : Int32} : f_X5_isOfKind o (nI k) a st = some (if a.toInt = 0 ∨ b k 0 = a.toInt ∨ (a.toInt = 2 ∧ b k 0 = 4) then 1 else 0) := by
  unfold f_X5_isOfKind
  rw [gd_n (by omega) (by omega), gd_n (by omega) (by omega), nI_clamp (by omega)]
  simp only [eq32, l32_0, l32_2, l32_4, h.c0 hk]
  by_cases h0 : a.toInt = 0
  · simp [h0]
  · by_cases h1 : b k 0 = a.toInt
    · simp [h0, h1]
    · by_cases h2 : a.toInt = 2
      · by_cases h4 : b k 0 = 4
        · simp [h2, h4]
        · simp [h2, h4] at *; simp [h1]
      · simp [h0, h1, h2]
theorem x_kind1 {st : GS} {o n : Nat} {b : Bx} {rs : List Int} (h : shIs st o n b rs) {k : Nat} (hk : k < n) (hn : n ≤ 8) : f_X5_isOfKind o (nI k) 1 st = some (if b k 0 = 1 then 1 else 0) := by
  rw [x_kind h hk hn, l32_1]; simp
theorem x_kind2 {st : GS} {o n : Nat} {b : Bx} {rs : List Int} (h : shIs st o n b rs) {k : Nat} (hk : k < n) (hn : n ≤ 8) : f_X5_isOfKind o (nI k) 2 st = some (if b k 0 = 2 ∨ b k 0 = 4 then 1 else 0) := by
  rw [x_kind h hk hn, l32_2]; simp
theorem x_rank {st : GS} {o n : Nat} {b : Bx} {rs : List Int} (h : shIs st o n b rs) {k : Nat} (hk : k < n) (hn : n ≤ 8) {a : Int32} : ∃ v, f_X5_rank o a (nI k) st = some v ∧ v.toInt = rk b a.toInt k := by
  unfold f_X5_rank rk
  simp only [x_kind1 h hk hn, x_kind2 h hk hn, bI1, gd_n (show k < 8 by omega) (by omega), nI_clamp (show k < 2 ^ 31 by omega)]
  by_cases h0 : a = 0
  · subst h0
    simp only [l32_0, if_true]
    by_cases h1 : b k 0 = 1
    · simp only [h1, if_true]; exact ⟨0, rfl, by decide⟩
    · simp only [h1, if_false, if_true]; exact ⟨1, rfl, by decide⟩
  · have h0' : ¬ a.toInt = 0 := fun e => h0 ((eq32 _ _).mpr (by rw [e, l32_0]))
    rw [if_neg h0, if_neg h0']
    by_cases h1 : a = 1
    · subst h1
      simp only [l32_1, if_true]
      by_cases h2 : b k 0 = 2 ∨ b k 0 = 4
      · simp only [h2, if_true]; exact ⟨1, rfl, by decide⟩
      · simp only [h2, if_false, if_true]; exact ⟨0, rfl, by decide⟩
    · have h1' : ¬ a.toInt = 1 := fun e => h1 ((eq32 _ _).mpr (by rw [e, l32_1]))
      rw [if_neg h1, if_neg h1']
      by_cases h2 : a = 2
      · subst h2
        simp only [l32_2, if_true]
        exact ⟨_, rfl, h.c2 hk⟩
      · have h2' : ¬ a.toInt = 2 := fun e => h2 ((eq32 _ _).mpr (by rw [e, l32_2]))
        rw [if_neg h2, if_neg h2']
        exact ⟨_, rfl, h.c1 hk⟩
theorem rk_small {n : Nat} {b : Bx} {rs : List Int} (hp : okP n b rs) {k : Nat} (hk : k < n) (r : Int) : -1 ≤ rk b r k ∧ rk b r k ≤ 1000 := by
  obtain ⟨-, -, -, h⟩ := hp
  obtain ⟨-, h1, h2⟩ := h k hk
  unfold rk
  split
  · split <;> omega
  · split
    · split <;> omega
    · split <;> omega
theorem drop_cons {rs : List Int} {i : Nat} (h : i < rs.length) : rs.drop i = rs.getD i 0 :: rs.drop (i + 1) := by
  rw [List.drop_eq_getElem_cons h, List.getD_eq_getElem?_getD, List.getElem?_eq_getElem h]
  rfl
theorem x_ahead {st : GS} {o n : Nat} {b : Bx} {rs : List Int} (h : shIs st o n b rs) (hp : okP n b rs) {x y : Nat} (hx : x < n) (hy : y < n) : f_X5_isAhead o (nI x) (nI y) st = some (if ah b rs x y = true then 1 else 0) := by
  have hn := hp.1
  have hr := hp.2.1
  apply ok_is
  unfold f_X5_isAhead
  refine ok_for rs.length (fun i s => s = nI i ∧ ah b rs x y = ah b (rs.drop i) x y) _ ?_ ?_ 0 0 (Nat.zero_le _) ⟨rfl, rfl⟩
  · rintro i s hi ⟨rfl, hd⟩
    show ok (f_X5_isAhead_L2 o (nI x) (nI y) st (nI i)) _
    unfold f_X5_isAhead_L2
    rw [h.2.1, if_neg (nI_ge hi (by omega))]
    simp only [gd_n (show i < 4 by omega) (show 4 < 2147483648 by omega), nI_clamp (show i < 2 ^ 31 by omega)]
    obtain ⟨v, e1, v1⟩ := x_rank h hy hn (a := gt st (o + 6) i)
    obtain ⟨w, e2, w1⟩ := x_rank h hx hn (a := gt st (o + 6) i)
    rw [e1, e2]
    rw [h.2.2.2 i hi] at v1 w1
    have s1 := rk_small hp hx (rs.getD i 0)
    have s2 := rk_small hp hy (rs.getD i 0)
    have hs : (v - w).toInt = v.toInt - w.toInt := sub32 (by omega) (by omega)
    rw [drop_cons hi] at hd
    generalize rs.getD i 0 = r at hd v1 w1 s1 s2
    simp only [bI1, lt_, ah] at hd ⊢
    refine ok_if (fun c => ?_) (fun c => ?_)
    · rw [eq32, hs, l32_0] at c
      refine ok_some (Or.inl ⟨_, rfl, nI_p1 i, ?_⟩)
      rw [hd]
      have e3 : rk b r x = rk b r y := by omega
      simp [e3]
    · rw [eq32, hs, l32_0] at c
      refine ok_if (fun c2 => ?_) (fun c2 => ?_)
      · rw [le32, hs, l32_0] at c2
        refine ok_some (Or.inr ⟨_, rfl, ?_⟩)
        have e3 : ¬ rk b r x < rk b r y := by omega
        have e4 : ¬ rk b r x = rk b r y := by omega
        rw [hd]; simp [e3, e4]
      · rw [le32, hs, l32_0] at c2
        refine ok_some (Or.inr ⟨_, rfl, ?_⟩)
        have e3 : rk b r x < rk b r y := by omega
        rw [hd]; simp [e3]
  · rintro s ⟨rfl, hd⟩
    show ok (f_X5_isAhead_L2 o (nI x) (nI y) st (nI rs.length)) _
    unfold f_X5_isAhead_L2
    rw [h.2.1, if_pos (nI_le (Nat.le_refl _) (by omega))]
    rw [List.drop_length] at hd
    simp only [ah] at hd
    refine ok_if (fun c => ?_) (fun c => ?_)
    · rw [nI_leI (by omega) (by omega)] at c
      refine ok_some ⟨_, rfl, ?_⟩
      rw [hd, if_neg (by simp; omega)]
    · rw [nI_leI (by omega) (by omega)] at c
      refine ok_some ⟨_, rfl, ?_⟩
      rw [hd, if_pos (by simp; omega)]
/-- the rule that tells two apart, -1: none -/
def tel (b : Bx) : List Int → Nat → Nat → Int
  | [], _, _ => -1
  | r :: rs, x, y => if rk b r x = rk b r y then tel b rs x y else r
theorem x_tells {st : GS} {o n : Nat} {b : Bx} {rs : List Int} (h : shIs st o n b rs) (hp : okP n b rs) {x y : Nat} (hx : x < n) (hy : y < n) : ∃ v, f_X5_ruleThatTells o (nI x) (nI y) st = some v ∧ v.toInt = tel b rs x y := by
  have hn := hp.1
  have hr := hp.2.1
  show ok (f_X5_ruleThatTells o (nI x) (nI y) st) (fun v => v.toInt = tel b rs x y)
  unfold f_X5_ruleThatTells
  refine ok_for rs.length (fun i s => s = nI i ∧ tel b rs x y = tel b (rs.drop i) x y) _ ?_ ?_ 0 0 (Nat.zero_le _) ⟨rfl, rfl⟩
  · rintro i s hi ⟨rfl, hd⟩
    show ok (f_X5_ruleThatTells_L2 o (nI x) (nI y) st (nI i)) _
    unfold f_X5_ruleThatTells_L2
    rw [h.2.1, if_neg (nI_ge hi (by omega))]
    simp only [gd_n (show i < 4 by omega) (show 4 < 2147483648 by omega), nI_clamp (show i < 2 ^ 31 by omega)]
    obtain ⟨v, e1, v1⟩ := x_rank h hy hn (a := gt st (o + 6) i)
    obtain ⟨w, e2, w1⟩ := x_rank h hx hn (a := gt st (o + 6) i)
    rw [e1, e2]
    rw [h.2.2.2 i hi] at v1 w1
    rw [drop_cons hi] at hd
    simp only [bI1, lt_, tel] at hd ⊢
    refine ok_if (fun c => ?_) (fun c => ?_)
    · rw [eq32, w1, v1] at c
      rw [if_pos c] at hd
      exact ok_some (Or.inl ⟨_, rfl, nI_p1 i, hd⟩)
    · rw [eq32, w1, v1] at c
      rw [if_neg c] at hd
      exact ok_some (Or.inr ⟨_, rfl, by rw [hd, h.2.2.2 i hi]⟩)
  · rintro s ⟨rfl, hd⟩
    show ok (f_X5_ruleThatTells_L2 o (nI x) (nI y) st (nI rs.length)) _
    unfold f_X5_ruleThatTells_L2
    rw [h.2.1, if_pos (nI_le (Nat.le_refl _) (by omega))]
    rw [List.drop_length] at hd
    exact ok_some ⟨_, rfl, by rw [hd, l32_m1]; rfl⟩
theorem imax_T (x y : Int32) : (imax x y).toInt = max x.toInt y.toInt := by
  unfold imax
  split
  · rename_i h; rw [lt32] at h; omega
  · rename_i h; rw [lt32] at h; omega
theorem x_dist {st : GS} {o n : Nat} {b : Bx} {rs : List Int} (h : shIs st o n b rs) (hp : okP n b rs) {x y : Nat} (hx : x < n) (hy : y < n) : ∃ v, f_X5_distance o (nI x) (nI y) st = some v ∧ v.toInt = dst b x y := by
  have hn := hp.1
  obtain ⟨-, p1, p2⟩ := hp.2.2.2 x hx
  obtain ⟨-, q1, q2⟩ := hp.2.2.2 y hy
  unfold f_X5_distance f_X5_gap
  simp only [gd_n (show x < 8 by omega) (by omega), gd_n (show y < 8 by omega) (by omega), nI_clamp (show x < 2 ^ 31 by omega), nI_clamp (show y < 2 ^ 31 by omega), bI1]
  refine ⟨_, rfl, ?_⟩
  have a1 := h.c1 hx; have a2 := h.c2 hx; have a3 := h.c3 hx; have a4 := h.c4 hx
  have b1 := h.c1 hy; have b2 := h.c2 hy; have b3 := h.c3 hy; have b4 := h.c4 hy
  have s1 : (gt st (o + 2) y - gt st (o + 4) x).toInt = b y 1 - b x 3 := by rw [sub32 (by omega) (by omega)]; omega
  have s2 : (gt st (o + 2) x - gt st (o + 4) y).toInt = b x 1 - b y 3 := by rw [sub32 (by omega) (by omega)]; omega
  have s3 : (gt st (o + 3) y - gt st (o + 5) x).toInt = b y 2 - b x 4 := by rw [sub32 (by omega) (by omega)]; omega
  have s4 : (gt st (o + 3) x - gt st (o + 5) y).toInt = b x 2 - b y 4 := by rw [sub32 (by omega) (by omega)]; omega
  have g1 : (imax 0 (imax (gt st (o + 2) y - gt st (o + 4) x) (gt st (o + 2) x - gt st (o + 4) y))).toInt = gp (b x 1) (b x 3) (b y 1) (b y 3) := by
    rw [imax_T, imax_T, s1, s2, l32_0]; unfold gp; split
    · omega
    · split <;> omega
  have g2 : (imax 0 (imax (gt st (o + 3) y - gt st (o + 5) x) (gt st (o + 3) x - gt st (o + 5) y))).toInt = gp (b x 2) (b x 4) (b y 2) (b y 4) := by
    rw [imax_T, imax_T, s3, s4, l32_0]; unfold gp; split
    · omega
    · split <;> omega
  have m1 : 0 ≤ gp (b x 1) (b x 3) (b y 1) (b y 3) ∧ gp (b x 1) (b x 3) (b y 1) (b y 3) ≤ 1001 := by
    unfold gp; split
    · omega
    · split <;> omega
  have m2 : 0 ≤ gp (b x 2) (b x 4) (b y 2) (b y 4) ∧ gp (b x 2) (b x 4) (b y 2) (b y 4) ≤ 1001 := by
    unfold gp; split
    · omega
    · split <;> omega
  rw [add32 (by omega) (by omega), g1, g2]
  rfl
