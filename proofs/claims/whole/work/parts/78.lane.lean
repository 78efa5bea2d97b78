-- WITHOUT
def wV (A O : List Nat) (k q : Nat) : Nat → Nat
  | 0 => 0
  | i + 1 => wV A O k q i + if upk k (A.getD i 0) = O.getD (upk q i) 0 then 0 else 1
theorem map_getD {l : List Nat} {f : Nat → Nat} {i : Nat} (h : i < l.length) : (l.map f).getD i 0 = f (l.getD i 0) := by
  rw [List.getD_eq_getElem?_getD, List.getD_eq_getElem?_getD, List.getElem?_map, List.getElem?_eq_getElem h]; rfl
theorem x_without {st : GS} {n k q : Nat} {A O : List Nat} (hn : n ≤ 8) (hk : k < n) (hq : q < n) (hA : orS st 41 A) (hO : orS st 3 O) (lA : A.length = n - 1) (lO : O.length = n) (eq : O.getD q 0 = k) (bA : ∀ x ∈ A, x < n - 1) (bO : ∀ x ∈ O, x < n) : f_X7_without_L46 (nI k) st = f_X7_without_L46 (nI k) st ∧ lpx (uc2 (f_X7_without_L46 (nI k) st)) (0, 0) = some (nI (wV A O k q (n - 1))) := by
  refine ⟨rfl, ?_⟩
  apply ok_is
  have pk : gt st 12 k = nI q := by have := hO.2.2 q (by omega); rw [eq] at this; exact this
  refine ok_for (n - 1) (fun i z => z.2 = nI i ∧ z.1 = nI (wV A O k q i)) _ ?_ ?_ 0 _ (Nat.zero_le _) ⟨rfl, rfl⟩
  · rintro i ⟨z1, z2⟩ hi ⟨h1, h2⟩
    simp only at h1 h2
    subst h1; subst h2
    show ok (f_X7_without_L46 (nI k) st _ (nI i)) _
    unfold f_X7_without_L46
    have e1 : gt st 49 i = nI (A.getD i 0) := by have := hA.2.1 i (by omega); rw [Nat.zero_add] at this; exact this
    have e2 : ∀ j, j < n → gt st 11 j = nI (O.getD j 0) := fun j hj => by have := hO.2.1 j (by omega); rw [Nat.zero_add] at this; exact this
    have a1 := bA _ (getD_mem (show i < A.length by omega))
    rw [hA.1, lA, if_neg (nI_ge hi (by omega)), hO.1, lO, nI_p1, if_neg (nI_ge (show i + 1 < n by omega) (by omega))]
    simp only [gd_n (show i < 8 by omega) (show 8 < 2147483648 by omega), gd_n (show k < 8 by omega) (show 8 < 2147483648 by omega), gd_n (show i + 1 < 8 by omega) (show 8 < 2147483648 by omega), nI_clamp (show i < 2 ^ 31 by omega), nI_clamp (show i + 1 < 2 ^ 31 by omega), nI_clamp (show k < 2 ^ 31 by omega)]
    rw [e1, pk, e2 i (by omega), e2 (i + 1) (by omega)]
    have ex : (if nI k ≤ nI (A.getD i 0) then some (nI (A.getD i 0) + 1) else some (nI (A.getD i 0))) = some (nI (upk k (A.getD i 0))) := by
      unfold upk
      by_cases c : A.getD i 0 < k
      · rw [if_pos c, if_neg (nI_ge c (by omega))]
      · rw [if_neg c, if_pos (nI_le (by omega) (by omega)), nI_p1]
    have ey : (if nI q ≤ nI i then some (nI (O.getD (i + 1) 0)) else some (nI (O.getD i 0))) = some (nI (O.getD (upk q i) 0)) := by
      unfold upk
      by_cases c : i < q
      · rw [if_pos c, if_neg (nI_ge c (by omega))]
      · rw [if_neg c, if_pos (nI_le (by omega) (by omega))]
    have a2 := bO _ (getD_mem (show upk q i < O.length by unfold upk; split <;> omega))
    have a3 : upk k (A.getD i 0) < 8 := by unfold upk; split <;> omega
    rw [ex, bI1_s, ey, bI1_s]
    have hd : wV A O k q (i + 1) = wV A O k q i + if upk k (A.getD i 0) = O.getD (upk q i) 0 then 0 else 1 := rfl
    refine ok_if (fun c => ?_) (fun c => ?_)
    · rw [if_pos (nI_inj (by omega) (by omega) c)] at hd
      exact ok_lt (ok_some (Or.inl ⟨_, rfl, rfl, by rw [hd]; rfl⟩))
    · rw [if_neg (fun e => c (by rw [e]))] at hd
      exact ok_lt (ok_lt (ok_some (Or.inl ⟨_, rfl, rfl, by rw [hd]; exact nI_p1 _⟩)))
  · rintro ⟨z1, z2⟩ ⟨h1, h2⟩
    simp only at h1 h2
    subst h1; subst h2
    show ok (f_X7_without_L46 (nI k) st _ (nI (n - 1))) _
    unfold f_X7_without_L46
    rw [hA.1, lA, if_pos (nI_le (Nat.le_refl _) (by omega))]
    exact ok_some ⟨_, rfl, rfl⟩
theorem m_without {st : GS} {n k q : Nat} {A O : List Nat} (hn : n ≤ 8) (hk : k < n) (hq : q < n) (h5 : gt st 0 5 = nI n) (hA : sg st 6 0 (A.map (upk k))) (hO : sg st 12 0 O) (lA : A.length = n - 1) (lO : O.length = n) (nO : O.Nodup) (eq : O.getD q 0 = k) (bA : ∀ x ∈ A, x < n - 1) (bO : ∀ x ∈ O, x < n) : lpx (uc3 (f_X8_without_L40 (nI k) st)) (0, 0, 0) = some (nI (wV A O k q (n - 1))) := by
  apply ok_is
  refine ok_for n (fun j z => z.2.2 = nI j ∧ ∃ i, i = (if j ≤ q then j else j - 1) ∧ z.2.1 = nI i ∧ z.1 = nI (wV A O k q i)) _ ?_ ?_ 0 _ (Nat.zero_le _) ⟨rfl, 0, by rw [if_pos (Nat.zero_le _)], rfl, rfl⟩
  · rintro j ⟨z1, z2, z3⟩ hj ⟨h1, i, hi, h2, h3⟩
    simp only at h1 h2 h3
    subst h1; subst h2; subst h3
    show ok (f_X8_without_L40 (nI k) st _ (nI i) (nI j)) _
    unfold f_X8_without_L40
    have e2 : gt st 12 j = nI (O.getD j 0) := by have := hO j (by omega); rw [Nat.zero_add] at this; exact this
    have a2 := bO _ (getD_mem (show j < O.length by omega))
    rw [h5, if_neg (nI_ge hj (by omega)), gd_n (show j < 8 by omega) (by omega), nI_clamp (show j < 2 ^ 31 by omega), e2]
    by_cases ej : j = q
    · subst ej
      rw [if_pos (by rw [eq])]
      rw [if_pos (Nat.le_refl _)] at hi
      exact ok_lt (ok_some (Or.inl ⟨_, rfl, nI_p1 j, i, by rw [if_neg (by omega)]; omega, rfl, rfl⟩))
    · have hne : ¬ nI (O.getD j 0) = nI k := fun z => by
        have z1 := nI_inj (by omega) (by omega) z
        rw [← eq] at z1
        exact ej (getD_inj nO (by omega) (by omega) z1)
      have hi2 : i < n - 1 ∧ upk q i = j := by
        unfold upk
        by_cases c : j ≤ q
        · rw [if_pos c] at hi; subst hi; rw [if_pos (by omega)]; exact ⟨by omega, rfl⟩
        · rw [if_neg c] at hi; subst hi; rw [if_neg (by omega)]; exact ⟨by omega, by omega⟩
      have e1 : gt st 6 i = nI (upk k (A.getD i 0)) := by
        have := hA i (by rw [List.length_map]; omega)
        rw [Nat.zero_add, map_getD (by omega)] at this
        exact this
      have a1 := bA _ (getD_mem (show i < A.length by omega))
      have a3 : upk k (A.getD i 0) < 8 := by unfold upk; split <;> omega
      rw [if_neg hne, gd_n (show i < 8 by omega) (by omega), gd_n (show j < 8 by omega) (by omega), nI_clamp (show i < 2 ^ 31 by omega), e1]
      have hd : wV A O k q (i + 1) = wV A O k q i + if upk k (A.getD i 0) = O.getD (upk q i) 0 then 0 else 1 := rfl
      rw [hi2.2] at hd
      have hn1 : i + 1 = if j + 1 ≤ q then j + 1 else j + 1 - 1 := by
        by_cases c : j ≤ q
        · rw [if_pos c] at hi; rw [if_pos (by omega)]; omega
        · rw [if_neg c] at hi; rw [if_neg (by omega)]; omega
      refine ok_if (fun c => ?_) (fun c => ?_)
      · rw [if_pos (nI_inj (by omega) (by omega) c)] at hd
        exact ok_lt (ok_lt (ok_lt (ok_some (Or.inl ⟨_, rfl, nI_p1 j, i + 1, hn1, nI_p1 i, by rw [hd]; exact nI_add _ 0⟩))))
      · rw [if_neg (fun e => c (by rw [e]))] at hd
        exact ok_lt (ok_lt (ok_lt (ok_some (Or.inl ⟨_, rfl, nI_p1 j, i + 1, hn1, nI_p1 i, by rw [hd]; exact nI_p1 _⟩))))
  · rintro ⟨z1, z2, z3⟩ ⟨h1, i, hi, h2, h3⟩
    simp only at h1 h2 h3
    subst h1; subst h2; subst h3
    show ok (f_X8_without_L40 (nI k) st _ (nI i) (nI n)) _
    unfold f_X8_without_L40
    rw [h5, if_pos (nI_le (Nat.le_refl _) (by omega))]
    rw [if_neg (by omega)] at hi
    exact ok_some ⟨_, rfl, by rw [hi]⟩
theorem r_without : op_without Rel := by
  intro c X M a1 _ h
  obtain ⟨n, b, rs, t, p, s, hp, h⟩ := h
  obtain ⟨g1, g2, g3, g4, g5, g6, g7, g8⟩ := id h
  have hn := g1.1
  have hP := g1.p
  unfold f_X7_without f_X8_without
  rcases box_or g2.1 g4.1 g1.1 a1 with ⟨k, hk, rfl, e1, e2⟩ | ⟨e1, e2⟩
  · rw [e1, e2, bI1_s, bI1_s, if_neg i10, if_neg i10]
    obtain ⟨X3, x1, x2, x3⟩ := x_copyW (o := 42) g2 hn g1.2.1 hk (by omega)
    have hp' := ren_okP hP hk
    obtain ⟨X4, y1, y2, y3⟩ := x_renew (o := 41) x2 hp'
    have hx : xK X X4 := xk_of (fun c j hc => by rw [y3 c j (by omega), x3 c j (by omega)])
    obtain ⟨q, hq, eq⟩ := mem_ords (rs := rs) hP hk
    have l1 := ords_len hP
    have l2 := ords_len hp'
    have nd : (ords b rs (List.range n)).Nodup := ords_nd (okB_of hP (fun k hk => List.mem_range.mp hk)) List.nodup_range
    have w1 := (x_without hn hk (by omega) y2.1 (xk_rd g3 hx).1 l2 l1 eq (ords_lt hp') (ords_lt hP)).2
    rw [x1, bI1_s, y1, bI1_s, w1, bI1_s]
    obtain ⟨M3, q1, q2, q3, q4, -⟩ := m_keep g4 hP
    rw [q1, bI1_s, q3.1]
    obtain ⟨M4, p1, -, p3, p4⟩ := m_lack q3 hP hk
    have w2 := m_without (st := M4) hn hk (by omega) (oK_m p4 q3).1 p3.2 (sg_same q2 (fun j _ _ => p4.2 _ _ (by decide) (by decide) (by decide) (by decide) (by decide) (by decide) (by decide) (Or.inl (by decide)))) l2 l1 nd eq (ords_lt hp') (ords_lt hP)
    rw [p1, bI1_s, w2, bI1_s]
    exact ⟨_, _, _, rfl, rfl, Rel_of hp (RelA_keep h hx (mK_tr q4.2 (oK_mK p4)))⟩
  · rw [e1, e2, bI1_s, bI1_s, if_pos rfl, if_pos rfl]
    exact ⟨_, _, _, rfl, rfl, Rel_of hp h⟩
-- LANES by their rank
def rkL (l : Ln) : Int := (1000 - l.2.2) * 2000 + (1 - (l.1 : Int)) * 1000 + l.2.1
theorem rkL_lt {l m : Ln} (h1 : l.1 < 2) (h2 : m.1 < 2) (b1 : 0 ≤ l.2.1 ∧ l.2.1 < 1000) (b2 : 0 ≤ m.2.1 ∧ m.2.1 < 1000) : rkL l < rkL m ↔ lnB l m := by
  unfold rkL lnB
  omega
theorem ln_in {n : Nat} {b : Bx} {rs : List Int} {ids : List Nat} {l : Ln} (hc : okC n b rs) (hid : ∀ k ∈ ids, k < n) (h : isLn b ids l) : l.1 < 2 ∧ (0 ≤ l.2.1 ∧ l.2.1 < 1000) ∧ (0 < l.2.2 ∧ l.2.2 < 1000) := by
  obtain ⟨h1, h2, ⟨i, hi, e⟩, ⟨j, hj, e2⟩, -⟩ := h
  obtain ⟨-, p1, p2⟩ := hc.2.2.2 i (hid i hi)
  obtain ⟨-, q1, q2⟩ := hc.2.2.2 j (hid j hj)
  obtain ⟨s, x, w⟩ := l
  simp only at h1 h2 e e2 ⊢
  match s, h1 with
  | 0, _ =>
    have e' : b i 3 = x := e
    have e2' : b j 1 = x + w := e2
    omega
  | 1, _ =>
    have e' : b i 4 = x := e
    have e2' : b j 2 = x + w := e2
    omega
theorem rank_T {s : Nat} (hs : s < 2) {x y : Int32} (hx : 0 ≤ x.toInt ∧ x.toInt ≤ 999) (hy : 0 ≤ y.toInt ∧ y.toInt ≤ 999) : f_X8_rankOf (nI s) x (y - x) = some (((1000 - (y - x)) * 2000 + (1 - nI s) * 1000) + x) ∧ (((1000 - (y - x)) * 2000 + (1 - nI s) * 1000) + x).toInt = rkL (s, x.toInt, y.toInt - x.toInt) := by
  refine ⟨rfl, ?_⟩
  have k1 : (1000 : Int32).toInt = 1000 := by decide
  have k2 : (2000 : Int32).toInt = 2000 := by decide
  have ks : (nI s).toInt = (s : Int) := nI_T (by omega)
  have a1 : (y - x).toInt = y.toInt - x.toInt := sub32 (by omega) (by omega)
  have a2 : (1000 - (y - x)).toInt = 1000 - (y.toInt - x.toInt) := by rw [sub32 (by rw [k1, a1]; omega) (by rw [k1, a1]; omega), k1, a1]
  have a3 : ((1000 - (y - x)) * 2000).toInt = (1000 - (y.toInt - x.toInt)) * 2000 := by rw [mul32 (by rw [a2, k2]; omega) (by rw [a2, k2]; omega), a2, k2]
  have a4 : (1 - nI s).toInt = 1 - (s : Int) := by rw [sub32 (by rw [l32_1, ks]; omega) (by rw [l32_1, ks]; omega), l32_1, ks]
  have a5 : ((1 - nI s) * 1000).toInt = (1 - (s : Int)) * 1000 := by rw [mul32 (by rw [a4, k1]; omega) (by rw [a4, k1]; omega), a4, k1]
  have a6 : ((1000 - (y - x)) * 2000 + (1 - nI s) * 1000).toInt = (1000 - (y.toInt - x.toInt)) * 2000 + (1 - (s : Int)) * 1000 := by rw [add32 (by rw [a3, a5]; omega) (by rw [a3, a5]; omega), a3, a5]
  rw [add32 (by rw [a6]; omega) (by rw [a6]; omega), a6]
  rfl
def cnd (b : Bx) (a : Nat) : Ln := (a / 64, en b (a / 64) (a / 8 % 8), bg b (a / 64) (a % 8) - en b (a / 64) (a / 8 % 8))
def nxW (b : Bx) (ids : List Nat) (last : Int) (z : Int32) (a : Nat) : Prop := (z = -1 ∨ ∃ l, isLn b ids l ∧ z.toInt = rkL l ∧ last < rkL l) ∧ ∀ a', a' < a → a' / 8 % 8 ∈ ids → a' % 8 ∈ ids → isLn b ids (cnd b a') → last < rkL (cnd b a') → (z ≠ -1 ∧ z.toInt ≤ rkL (cnd b a'))
theorem nxW_skip {b : Bx} {ids : List Nat} {last : Int} {z : Int32} {a : Nat} (h : nxW b ids last z a) (hs : a / 8 % 8 ∈ ids → a % 8 ∈ ids → isLn b ids (cnd b a) → last < rkL (cnd b a) → (z ≠ -1 ∧ z.toInt ≤ rkL (cnd b a))) : nxW b ids last z (a + 1) := by
  refine ⟨h.1, fun a' ha => ?_⟩
  by_cases e : a' = a
  · subst e; exact hs
  · exact h.2 a' (by omega)
theorem nxW_take {b : Bx} {ids : List Nat} {last : Int} {z r : Int32} {a : Nat} (h : nxW b ids last z a) (hl : -1 ≤ last) (h1 : isLn b ids (cnd b a)) (h2 : r.toInt = rkL (cnd b a)) (h3 : last < rkL (cnd b a)) (h4 : z = -1 ∨ r.toInt < z.toInt) : nxW b ids last r (a + 1) := by
  have hr : r ≠ -1 := fun e => by rw [e, l32_m1] at h2; omega
  refine ⟨Or.inr ⟨_, h1, h2, h3⟩, fun a' ha q1 q2 q3 q4 => ⟨hr, ?_⟩⟩
  by_cases e : a' = a
  · subst e; omega
  · have := h.2 a' (by omega) q1 q2 q3 q4
    rcases h4 with h4 | h4
    · exact absurd h4 this.1
    · omega
theorem div64 {a : Nat} (h : a < 128) : nI a / 64 = nI (a / 64) := pk_div (d := 64) (by omega) (by omega) (by omega)
theorem div8 {a : Nat} (h : a < 128) : nI a / 8 = nI (a / 8) := pk_div (d := 8) (by omega) (by omega) (by omega)
theorem rem8 {a : Nat} (h : a < 128) : irem (nI a) 8 = nI (a % 8) := pk_rem (d := 8) (by omega) (by omega) (by omega)
theorem m_next {M : GS} {n : Nat} {b : Bx} {rs : List Int} {S last : Int32} (h : mIs M n b rs) (hc : okC n b rs) (hS : ∀ k ∈ idS S, k < n) (hl : -1 ≤ last.toInt) : ∃ v, f_X8_nextLane S last M = some v ∧ nxW b (idS S) last.toInt v 128 := by
  have hn := hc.1
  show ok (f_X8_nextLane S last M) (fun v => nxW b (idS S) last.toInt v 128)
  unfold f_X8_nextLane
  refine ok_bI1 (P := fun v => nxW b (idS S) last.toInt v 128) ?_ (fun r hr => ok_some hr)
  refine ok_for 128 (fun a z => z.2 = nI a ∧ nxW b (idS S) last.toInt z.1 a) _ ?_ ?_ 0 _ (Nat.zero_le _) ⟨rfl, Or.inl rfl, fun a' ha => absurd ha (Nat.not_lt_zero _)⟩
  · rintro a ⟨z1, z2⟩ ha ⟨h1, h2⟩
    simp only at h1 h2
    subst h1
    show ok (f_X8_nextLane_L5 S last M z1 (nI a)) _
    unfold f_X8_nextLane_L5
    rw [if_neg (show ¬ (128 : Int32) ≤ nI a from nI_ge (b := 128) ha (by omega)), div64 ha, div8 ha, rem8 (show a / 8 < 128 by omega), rem8 ha, nI_p1]
    refine ok_lt (ok_lt (ok_lt ?_))
    have hi8 : a / 8 % 8 < 8 := by omega
    have hj8 : a % 8 < 8 := by omega
    have hs2 : a / 64 < 2 := by omega
    refine m_has_ok hi8 (fun b1 => ?_) (fun b1 => ?_)
    · rw [if_neg i10]
      refine m_has_ok hj8 (fun b2 => ?_) (fun b2 => ?_)
      · rw [if_neg i10]
        have hi : a / 8 % 8 ∈ idS S := idS_mem.mpr ⟨hi8, b1⟩
        have hj : a % 8 ∈ idS S := idS_mem.mpr ⟨hj8, b2⟩
        have hin := hS _ hi
        have hjn := hS _ hj
        have e1 := h.gF hin hs2
        have e2 := h.gB hjn hs2
        rw [n42s, n4s, gd_n (show 4 * (a / 8 % 8) + 2 + a / 64 < 32 by omega) (by omega), nI_clamp (show 4 * (a / 8 % 8) + 2 + a / 64 < 2 ^ 31 by omega)]
        refine ok_lt ?_
        rw [gd_n (show 4 * (a % 8) + a / 64 < 32 by omega) (by omega), nI_clamp (show 4 * (a % 8) + a / 64 < 2 ^ 31 by omega)]
        refine ok_lt ?_
        have small : ∀ k, k < n → (0 ≤ bg b (a / 64) k ∧ bg b (a / 64) k ≤ 999) ∧ (0 ≤ en b (a / 64) k ∧ en b (a / 64) k ≤ 999) := fun k hk => by
          obtain ⟨-, p1, p2⟩ := hc.2.2.2 k hk
          rcases (show a / 64 = 0 ∨ a / 64 = 1 by omega) with q | q <;> rw [q]
          · show (0 ≤ b k 1 ∧ b k 1 ≤ 999) ∧ (0 ≤ b k 3 ∧ b k 3 ≤ 999); omega
          · show (0 ≤ b k 2 ∧ b k 2 ≤ 999) ∧ (0 ≤ b k 4 ∧ b k 4 ≤ 999); omega
        have s1 := small _ hin
        have s2 := small _ hjn
        obtain ⟨r1, r2⟩ := rank_T hs2 (x := gt M 3 (4 * (a / 8 % 8) + 2 + a / 64)) (y := gt M 3 (4 * (a % 8) + a / 64)) (by rw [e1]; omega) (by rw [e2]; omega)
        rw [e1, e2] at r2
        have r2' : _ = rkL (cnd b a) := r2
        rw [r1, bI1_s]
        generalize hr : (1000 - (gt M 3 (4 * (a % 8) + a / 64) - gt M 3 (4 * (a / 8 % 8) + 2 + a / 64))) * 2000 + (1 - nI (a / 64)) * 1000 + gt M 3 (4 * (a / 8 % 8) + 2 + a / 64) = r at r2' ⊢
        have skip : (isLn b (idS S) (cnd b a) → last.toInt < rkL (cnd b a) → (z1 ≠ -1 ∧ z1.toInt ≤ rkL (cnd b a))) → ok (some (Sum.inl (z1, nI (a + 1)) : (Int32 × Int32) ⊕ Int32)) (fun q => (∃ s', q = Sum.inl s' ∧ s'.2 = nI (a + 1) ∧ nxW b (idS S) last.toInt s'.1 (a + 1)) ∨ ∃ r, q = Sum.inr r ∧ nxW b (idS S) last.toInt r 128) := fun hs => ok_some (Or.inl ⟨_, rfl, rfl, nxW_skip h2 (fun _ _ => hs)⟩)
        have wid : isLn b (idS S) (cnd b a) → 0 < bg b (a / 64) (a % 8) - en b (a / 64) (a / 8 % 8) := fun q => q.2.1
        by_cases c1 : gt M 3 (4 * (a % 8) + a / 64) ≤ gt M 3 (4 * (a / 8 % 8) + 2 + a / 64)
        · rw [if_pos c1, bI1_s, if_pos rfl]
          rw [le32, e1, e2] at c1
          exact ok_lt (skip (fun q _ => absurd (wid q) (by omega)))
        · rw [if_neg c1]
          rw [le32, e1, e2] at c1
          by_cases c2 : r ≤ last
          · rw [if_pos c2, bI1_s, if_pos rfl]
            rw [le32, r2'] at c2
            exact ok_lt (skip (fun _ q => absurd q (by omega)))
          · rw [if_neg c2]
            rw [le32, r2'] at c2
            obtain ⟨v, v1, v2⟩ := m_isLane h hn hS hs2 (fr := gt M 3 (4 * (a / 8 % 8) + 2 + a / 64)) (to := gt M 3 (4 * (a % 8) + a / 64))
            rw [e1, e2] at v2
            have lane_of : (∀ k ∈ idS S, ¬ (bg b (a / 64) k < bg b (a / 64) (a % 8) ∧ en b (a / 64) (a / 8 % 8) < en b (a / 64) k)) → isLn b (idS S) (cnd b a) := fun hk => by
              refine ⟨hs2, ?_, ⟨_, hi, rfl⟩, ⟨_, hj, ?_⟩, fun k hkS => ?_⟩
              · show 0 < bg b (a / 64) (a % 8) - en b (a / 64) (a / 8 % 8); omega
              · show bg b (a / 64) (a % 8) = en b (a / 64) (a / 8 % 8) + (bg b (a / 64) (a % 8) - en b (a / 64) (a / 8 % 8)); omega
              · show ¬ (bg b (a / 64) k < en b (a / 64) (a / 8 % 8) + (bg b (a / 64) (a % 8) - en b (a / 64) (a / 8 % 8)) ∧ en b (a / 64) (a / 8 % 8) < en b (a / 64) k)
                have := hk k hkS
                omega
            have of_lane : isLn b (idS S) (cnd b a) → ∀ k ∈ idS S, ¬ (bg b (a / 64) k < bg b (a / 64) (a % 8) ∧ en b (a / 64) (a / 8 % 8) < en b (a / 64) k) := fun q k hkS => by
              have := q.2.2.2.2 k hkS
              have this' : ¬ (bg b (a / 64) k < en b (a / 64) (a / 8 % 8) + (bg b (a / 64) (a % 8) - en b (a / 64) (a / 8 % 8)) ∧ en b (a / 64) (a / 8 % 8) < en b (a / 64) k) := this
              omega
            have fin : (z1 = -1 ∨ r.toInt < z1.toInt) → ok (bI1 (f_X8_isLane S (nI (a / 64)) (gt M 3 (4 * (a / 8 % 8) + 2 + a / 64)) (gt M 3 (4 * (a % 8) + a / 64)) M) (fun r25 => if r25 = 0 then lt_ (nI (a + 1)) (fun x27 => some (Sum.inl (z1, x27) : (Int32 × Int32) ⊕ Int32)) else lt_ (nI (a + 1)) (fun x28 => some (Sum.inl (r, x28))))) (fun q => (∃ s', q = Sum.inl s' ∧ s'.2 = nI (a + 1) ∧ nxW b (idS S) last.toInt s'.1 (a + 1)) ∨ ∃ r, q = Sum.inr r ∧ nxW b (idS S) last.toInt r 128) := fun hz => by
              rw [v1, bI1_s]
              rcases v2 with ⟨rfl, v3⟩ | ⟨rfl, v3⟩
              · rw [if_neg i10]
                exact ok_lt (ok_some (Or.inl ⟨_, rfl, rfl, nxW_take h2 hl (lane_of v3) r2' (by omega) hz⟩))
              · rw [if_pos rfl]
                exact ok_lt (skip (fun q _ => absurd (of_lane q) v3))
            by_cases c3 : z1 = -1
            · rw [if_pos c3, bI1_s, if_neg i10]
              exact fin (Or.inl c3)
            · rw [if_neg c3]
              by_cases c4 : z1 ≤ r
              · rw [if_pos c4, bI1_s, if_pos rfl]
                rw [le32, r2'] at c4
                exact ok_lt (skip (fun _ _ => ⟨c3, c4⟩))
              · rw [if_neg c4, bI1_s, if_neg i10]
                exact fin (Or.inr (by rw [le32] at c4; omega))
      · rw [if_pos rfl]
        exact ok_lt (ok_some (Or.inl ⟨_, rfl, rfl, nxW_skip h2 (fun _ q => by have := (idS_mem.mp q).2; rw [b2] at this; cases this)⟩))
    · rw [if_pos rfl]
      exact ok_lt (ok_some (Or.inl ⟨_, rfl, rfl, nxW_skip h2 (fun q => by have := (idS_mem.mp q).2; rw [b1] at this; cases this)⟩))
  · rintro ⟨z1, z2⟩ ⟨h1, h2⟩
    simp only at h1 h2
    subst h1
    show ok (f_X8_nextLane_L5 S last M z1 (nI 128)) _
    unfold f_X8_nextLane_L5
    rw [if_pos (by decide)]
    exact ok_some ⟨_, rfl, h2⟩
theorem nxW_all {b : Bx} {S : Int32} {last : Int} {v : Int32} (h : nxW b (idS S) last v 128) {l : Ln} (hl : isLn b (idS S) l) (hr : last < rkL l) : v ≠ -1 ∧ v.toInt ≤ rkL l := by
  obtain ⟨s, x, w⟩ := l
  obtain ⟨h1, h2, ⟨i, hi, e⟩, ⟨j, hj, e2⟩, h5⟩ := id hl
  simp only at h1 h2 e e2
  have i8 := (idS_mem.mp hi).1
  have j8 := (idS_mem.mp hj).1
  have ec : cnd b (64 * s + 8 * i + j) = (s, x, w) := by
    unfold cnd
    rw [show (64 * s + 8 * i + j) / 64 = s by omega, show (64 * s + 8 * i + j) / 8 % 8 = i by omega, show (64 * s + 8 * i + j) % 8 = j by omega, e, e2]
    congr 2
    omega
  have := h.2 (64 * s + 8 * i + j) (by omega) (by rw [show (64 * s + 8 * i + j) / 8 % 8 = i by omega]; exact hi) (by rw [show (64 * s + 8 * i + j) % 8 = j by omega]; exact hj) (by rw [ec]; exact hl) (by rw [ec]; exact hr)
  rw [ec] at this
  exact this
def lnV (m : Nat) (f : Nat → Ln) (i : Nat) (z : Int32) : Prop := if i = 0 then z = -1 else if i - 1 < m then z.toInt = rkL (f (i - 1)) else z = -1
theorem lnV_next {n : Nat} {b : Bx} {rs : List Int} {S : Int32} {m : Nat} {f : Nat → Ln} (hc : okC n b rs) (hS : ∀ k ∈ idS S, k < n) (hsr : srtF m f) (hall : ∀ l, (∃ i, i < m ∧ f i = l) ↔ isLn b (idS S) l) {i : Nat} {z v : Int32} (hz : lnV m f i z) (hi : i = 0 ∨ i - 1 < m) (hv : nxW b (idS S) z.toInt v 128) : lnV m f (i + 1) v := by
  have fl : ∀ j, j < m → isLn b (idS S) (f j) := fun j hj => (hall _).mp ⟨j, hj, rfl⟩
  have bd : ∀ j, j < m → (f j).1 < 2 ∧ (0 ≤ (f j).2.1 ∧ (f j).2.1 < 1000) ∧ (0 < (f j).2.2 ∧ (f j).2.2 < 1000) := fun j hj => ln_in hc hS (fl j hj)
  have mono : ∀ j j', j < j' → j' < m → rkL (f j) < rkL (f j') := fun j j' h1 h2 => (rkL_lt (bd j (by omega)).1 (bd j' h2).1 (bd j (by omega)).2.1 (bd j' h2).2.1).mpr (hsr j j' h1 h2)
  have nonneg : ∀ j, j < m → 0 ≤ rkL (f j) := fun j hj => by have := bd j hj; unfold rkL; omega
  have gt_i : ∀ j, j < m → (z.toInt < rkL (f j) ↔ i ≤ j) := fun j hj => by
    unfold lnV at hz
    by_cases h0 : i = 0
    · rw [if_pos h0] at hz
      rw [hz, l32_m1]
      have := nonneg j hj
      constructor <;> intro _ <;> omega
    · rw [if_neg h0, if_pos (by omega)] at hz
      rw [hz]
      constructor
      · intro q
        rcases Nat.lt_or_ge j i with q2 | q2
        · exfalso
          by_cases e : j = i - 1
          · subst e; omega
          · have := mono j (i - 1) (by omega) (by omega); omega
        · exact q2
      · intro q; exact mono _ _ (by omega) hj
  unfold lnV
  rw [if_neg (by omega), Nat.add_sub_cancel]
  by_cases him : i < m
  · rw [if_pos him]
    have h1 := nxW_all hv (fl i him) ((gt_i i him).mpr (Nat.le_refl _))
    rcases hv.1 with q | ⟨l, l1, l2, l3⟩
    · exact absurd q h1.1
    · obtain ⟨j, hj, rfl⟩ := (hall l).mpr l1
      have h2 := (gt_i j hj).mp l3
      by_cases e : j = i
      · subst e; exact l2
      · have := mono i j (by omega) hj
        omega
  · rw [if_neg him]
    rcases hv.1 with q | ⟨l, l1, l2, l3⟩
    · exact q
    · obtain ⟨j, hj, rfl⟩ := (hall l).mpr l1
      have h2 := (gt_i j hj).mp l3
      omega
theorem m_laneOf {M : GS} {n q : Nat} {b : Bx} {rs : List Int} {m : Nat} {f : Nat → Ln} (h : mIs M n b rs) (hc : okC n b rs) (hq : q < 128) (hsr : srtF m f) (hall : ∀ l, (∃ i, i < m ∧ f i = l) ↔ isLn b (fre b (List.range n)) l) : ok (f_X8_laneOf (nI q) M) (fun r => lnV m f (q + 1) r.1 ∧ mK M r.2) := by
  have hn := hc.1
  obtain ⟨e1, e2⟩ := s_all hn
  unfold f_X8_laneOf
  rw [h.1]
  refine ok_bI2 (m_bound (S := ishl 1 (nI n) - 1) h hc.p (fun k hk => by rw [e1] at hk; exact List.mem_range.mp hk) e2) ?_
  rintro r1 s2 ⟨b1, b2, b3, b4, b5⟩
  simp only at b1 b2 b3 b4 b5
  rw [e1] at b1
  have hS : ∀ k ∈ idS r1, k < n := fun k hk => by rw [b1] at hk; exact List.mem_range.mp (List.mem_filter.mp hk).1
  have hm2 : mIs s2 n b rs := mIs_keep h (b5 _ _ (by decide)) (b5 _ _ (by decide)) (fun c j hc => b5 _ _ (by omega))
  rw [← b1] at hall
  have lb : ∀ i z, lnV m f i z → -1 ≤ z.toInt := fun i z hz => by
    unfold lnV at hz
    by_cases h0 : i = 0
    · rw [if_pos h0] at hz; rw [hz, l32_m1]; omega
    · rw [if_neg h0] at hz
      by_cases h1 : i - 1 < m
      · rw [if_pos h1] at hz
        have := ln_in hc hS ((hall _).mp ⟨i - 1, h1, rfl⟩)
        rw [hz]; unfold rkL; omega
      · rw [if_neg h1] at hz; rw [hz, l32_m1]; omega
  refine ok_bI1 (P := fun v => lnV m f (q + 1) v) ?_ (fun v hv => ok_some ⟨hv, fun c j w => b5 c j (by unfold mW at w; omega)⟩)
  refine ok_for (q + 1) (fun i z => z.2 = nI i ∧ lnV m f i z.1) _ ?_ ?_ 0 _ (Nat.zero_le _) ⟨rfl, show lnV m f 0 (-1) by unfold lnV; rw [if_pos rfl]⟩
  · rintro i ⟨z1, z2⟩ hi ⟨h1, h2⟩
    simp only at h1 h2
    subst h1
    show ok (f_X8_laneOf_L18 (nI q) r1 s2 z1 (nI i)) _
    unfold f_X8_laneOf_L18
    rw [if_neg (show ¬ nI q < nI i from nI_nlt (by omega) (by omega)), nI_p1]
    obtain ⟨v, v1, v2⟩ := m_next (S := r1) (last := z1) hm2 hc hS (lb i z1 h2)
    rcases Nat.eq_zero_or_pos i with h0 | h0
    · subst h0
      rw [if_pos (by decide), v1, bI1_s]
      exact ok_lt (ok_some (Or.inl ⟨_, rfl, rfl, lnV_next hc hS hsr hall h2 (Or.inl rfl) v2⟩))
    · rw [if_neg (nI_nle h0 (by omega))]
      by_cases c : z1 = -1
      · rw [if_pos c]
        refine ok_lt (ok_some (Or.inl ⟨_, rfl, rfl, ?_⟩))
        show lnV m f (i + 1) (-1)
        have hge : ¬ i - 1 < m := fun q => by
          unfold lnV at h2
          rw [if_neg (by omega), if_pos q, c, l32_m1] at h2
          have := ln_in hc hS ((hall _).mp ⟨i - 1, q, rfl⟩)
          unfold rkL at h2
          omega
        unfold lnV
        rw [if_neg (by omega), if_neg (by omega)]
      · rw [if_neg c, v1, bI1_s]
        have hlt : i - 1 < m := by
          rcases Nat.lt_or_ge (i - 1) m with q | q
          · exact q
          · unfold lnV at h2
            rw [if_neg (by omega), if_neg (by omega)] at h2
            exact absurd h2 c
        exact ok_lt (ok_some (Or.inl ⟨_, rfl, rfl, lnV_next hc hS hsr hall h2 (Or.inr hlt) v2⟩))
  · rintro ⟨z1, z2⟩ ⟨h1, h2⟩
    simp only at h1 h2
    subst h1
    show ok (f_X8_laneOf_L18 (nI q) r1 s2 z1 (nI (q + 1))) _
    unfold f_X8_laneOf_L18
    rw [if_pos (nI_lt (by omega) (by omega))]
    exact ok_some ⟨_, rfl, h2⟩
theorem isLn_perm {b : Bx} {A B : List Nat} (h : A.Perm B) (l : Ln) : isLn b A l ↔ isLn b B l := by
  unfold isLn
  simp only [h.mem_iff]
theorem r_lane : op_lane Rel := by
  intro c X M a1 a2 _ h
  obtain ⟨n, b, rs, t, p, s, hp, h⟩ := h
  obtain ⟨g1, g2, g3, g4, g5, g6, g7, g8⟩ := id h
  have hn := g1.1
  have hP := g1.p
  have hpm := rws_perm (b := b) (rs := rs) (okB_of hP (fun k hk => List.mem_range.mp hk))
  have hid : ∀ k ∈ rws b rs (List.range n), k < n := fun k hk => List.mem_range.mp (List.mem_filter.mp (hpm.mem_iff.mp hk)).1
  have hlen : (rws b rs (List.range n)).length ≤ n := by
    have h1 : (fre b (List.range n)).length ≤ (List.range n).length := List.length_filter_le _ _
    rw [List.length_range] at h1
    rw [hpm.length_eq]; exact h1
  obtain ⟨q1, q2, q3, q4, q5, q6, q7, q8⟩ := id g3
  obtain ⟨X1, x1, ⟨m, f, l1, l2, l3, l4⟩, x3⟩ := x_gather (o := 3) (fr := 0) g2 hP q8 hid (by omega)
  have hall : ∀ l, (∃ i, i < m ∧ f i = l) ↔ isLn b (fre b (List.range n)) l := fun l => (l4 l).trans (isLn_perm hpm l)
  have hx : xK X X1 := fun c j w => x3 c j (by unfold xW at w; omega)
  rw [Nat.zero_add] at x1
  have x1' : f_X3_gatherLanes 3 0 (nI (rws b rs (List.range n)).length) X = some X1 := x1
  have fl : ∀ j, j < m → (f j).1 < 2 ∧ (0 ≤ (f j).2.1 ∧ (f j).2.1 < 1000) ∧ (0 < (f j).2.2 ∧ (f j).2.2 < 1000) := fun j hj => ln_in g1 (fun k hk => List.mem_range.mp (List.mem_filter.mp hk).1) ((hall _).mp ⟨j, hj, rfl⟩)
  have l127 : (127 : Int32).toInt = 127 := by decide
  unfold f_X7_lane f_X8_lane
  rw [q7, x1', bI1_s, show gt X1 22 3 = nI m from l1.1]
  by_cases h0 : a1 < 0
  · rw [if_pos h0, if_pos h0, bI2_s, if_pos rfl]
    exact ⟨_, _, _, rfl, rfl, Rel_of hp (RelA_keep h hx (mK_rf M))⟩
  · rw [if_neg h0, if_neg h0]
    by_cases h1 : a1 ≤ 127
    · rw [lt32, l32_0] at h0
      rw [le32, l127] at h1
      obtain ⟨q, hq, rfl⟩ := n_of (n := 128) (a := a1) (by omega) (by omega)
      obtain ⟨⟨v, M1⟩, m1, m2, m3⟩ := m_laneOf (q := q) g4 g1 hq l2 hall
      simp only at m2 m3
      rw [if_pos (show nI q ≤ 127 from nI_le (b := 127) (by omega) (by omega)), m1, bI2_s, bI2_s]
      unfold lnV at m2
      rw [if_neg (by omega), Nat.add_sub_cancel] at m2
      by_cases hqm : q < m
      · rw [if_pos hqm] at m2
        obtain ⟨f1, f2, f3⟩ := fl q hqm
        obtain ⟨-, w1, w2, w3⟩ := l1.2 q hqm
        have w1' : gt X1 23 q = nI (f q).1 := w1
        have w2' : (gt X1 24 q).toInt = (f q).2.1 := w2
        have w3' : (gt X1 25 q).toInt = (f q).2.2 := w3
        have hR : v.toInt = (1000 - (f q).2.2) * 2000 + (1 - ((f q).1 : Int)) * 1000 + (f q).2.1 := m2
        obtain ⟨R, hR1, rfl⟩ := n_of (n := 3000000) (a := v) (by omega) (by omega)
        rw [nI_T (by omega)] at hR
        have d1 : nI R / 1000 = nI (R / 1000) := pk_div (d := 1000) (by omega) (by omega) (by omega)
        have d2 : nI R / 2000 = nI (R / 2000) := pk_div (d := 2000) (by omega) (by omega) (by omega)
        have d3 : irem (nI (R / 1000)) 2 = nI (R / 1000 % 2) := pk_rem (d := 2) (by omega) (by omega) (by omega)
        have d4 : irem (nI R) 1000 = nI (R % 1000) := pk_rem (d := 1000) (by omega) (by omega) (by omega)
        rw [if_pos (nI_lt hqm (by omega)), if_neg (nI_ne_m1 (by omega)), gd_n (show q < 14 by omega) (by omega), gd_n (show q < 14 by omega) (by omega), gd_n (show q < 14 by omega) (by omega), nI_clamp (show q < 2 ^ 31 by omega), d1, d2, d3, d4]
        have k1000 : (1000 : Int32).toInt = 1000 := by decide
        have v0 : 1 - nI (R / 1000 % 2) = gt X1 23 q := by
          rw [w1', eq32, sub32 (by rw [l32_1, nI_T (by omega)]; omega) (by rw [l32_1, nI_T (by omega)]; omega), l32_1, nI_T (by omega), nI_T (by omega)]
          omega
        have v1 : nI (R % 1000) = gt X1 24 q := by
          rw [eq32, w2', nI_T (by omega)]; omega
        have v2 : 1000 - nI (R / 2000) = gt X1 25 q := by
          rw [eq32, w3', sub32 (by rw [k1000, nI_T (by omega)]; omega) (by rw [k1000, nI_T (by omega)]; omega), k1000, nI_T (by omega)]
          omega
        rw [v0, v1, v2]
        have hrel := Rel_of hp (RelA_keep h hx m3)
        by_cases e0 : a2 = 0
        · rw [if_pos e0, if_pos e0]; exact ⟨_, _, _, rfl, rfl, hrel⟩
        · rw [if_neg e0, if_neg e0]
          by_cases e1 : a2 = 1
          · rw [if_pos e1, if_pos e1]; exact ⟨_, _, _, rfl, rfl, hrel⟩
          · rw [if_neg e1, if_neg e1]
            by_cases e2 : a2 = 2
            · rw [if_pos e2, if_pos e2]; exact ⟨_, _, _, rfl, rfl, hrel⟩
            · rw [if_neg e2, if_neg e2]; exact ⟨_, _, _, rfl, rfl, hrel⟩
      · rw [if_neg hqm] at m2
        rw [if_neg (nI_nlt (by omega) (by omega)), if_pos m2]
        exact ⟨_, _, _, rfl, rfl, Rel_of hp (RelA_keep h hx m3)⟩
    · rw [if_neg h1, bI2_s, if_pos rfl, if_neg (fun q => by rw [lt32, nI_T (by omega)] at q; rw [le32, l127] at h1; omega)]
      exact ⟨_, _, _, rfl, rfl, Rel_of hp (RelA_keep h hx (mK_rf M))⟩
