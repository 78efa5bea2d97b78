-- WHAT WOULD BE: pages on trial
theorem xk_sh {X st : GS} {n : Nat} {b : Bx} {rs : List Int} (h : shIs X 4 n b rs) (hk : xK X st) : shIs st 4 n b rs := shIs_keep h (fun c j q1 q2 => hk _ _ (by unfold xW; omega))
theorem xk_rd {X st : GS} {n : Nat} {b : Bx} {rs : List Int} (h : reads X 3 n b rs) (hk : xK X st) : reads st 3 n b rs := reads_keep h (fun c j q1 q2 q3 => hk _ _ (by unfold xW; omega))
theorem xk_of {X st : GS} (h : ∀ c j, c < 41 → gt st c j = gt X c j) : xK X st := fun c j w => h c j (by unfold xW at w; omega)
theorem list_eq {A B : List Nat} (hl : A.length = B.length) (h : ∀ i, i < A.length → A.getD i 0 = B.getD i 0) : A = B := by
  apply List.ext_getElem hl
  intro i h1 h2
  have := h i h1
  rw [List.getD_eq_getElem?_getD, List.getD_eq_getElem?_getD, List.getElem?_eq_getElem h1, List.getElem?_eq_getElem h2] at this
  exact this
theorem x_like {st : GS} {o a : Nat} {A B : List Nat} (hA : orS st o A) (hB : orS st a B) (hl : A.length = B.length) (h8 : A.length ≤ 8) (kA : ∀ k ∈ A, k < 8) (kB : ∀ k ∈ B, k < 8) : f_X3_isOrderedLike o a st = some (if A = B then 1 else 0) := by
  unfold f_X3_isOrderedLike
  rw [hA.1, hB.1, hl, if_pos rfl]
  apply ok_is
  refine ok_for A.length (fun i z => z = nI i ∧ ∀ j, j < i → A.getD j 0 = B.getD j 0) _ ?_ ?_ 0 _ (Nat.zero_le _) ⟨rfl, fun j hj => absurd hj (Nat.not_lt_zero _)⟩
  · rintro i z hi ⟨rfl, h2⟩
    show ok (f_X3_isOrderedLike_L15 o a st (nI i)) _
    unfold f_X3_isOrderedLike_L15
    have e1 := hA.2.1 i hi
    have e2 := hB.2.1 i (by omega)
    rw [Nat.zero_add] at e1 e2
    rw [hA.1, if_neg (nI_ge hi (by omega)), gd_n (show i < 8 by omega) (by omega), gd_n (show i < 8 by omega) (by omega), nI_clamp (show i < 2 ^ 31 by omega), e1, e2]
    have q1 := kA _ (getD_mem hi)
    have q2 := kB _ (getD_mem (show i < B.length by omega))
    refine ok_if (fun c => ?_) (fun c => ?_)
    · have c' := nI_inj (by omega) (by omega) c
      refine ok_lt (ok_some (Or.inl ⟨_, rfl, nI_p1 i, fun j hj => ?_⟩))
      by_cases e : j = i
      · rw [e]; exact c'
      · exact h2 j (by omega)
    · refine ok_some (Or.inr ⟨_, rfl, ?_⟩)
      rw [if_neg (fun q => c (by rw [q]))]
  · rintro z ⟨rfl, h2⟩
    show ok (f_X3_isOrderedLike_L15 o a st (nI A.length)) _
    unfold f_X3_isOrderedLike_L15
    rw [hA.1, if_pos (nI_le (Nat.le_refl _) (by omega))]
    exact ok_some ⟨_, rfl, by rw [if_pos (list_eq hl h2)]⟩
theorem m_like {st : GS} {n : Nat} {A B : List Nat} (h5 : gt st 0 5 = nI n) (hA : sg st 6 0 A) (hB : sg st 12 0 B) (lA : A.length = n) (lB : B.length = n) (h8 : n ≤ 8) (kA : ∀ k ∈ A, k < 8) (kB : ∀ k ∈ B, k < 8) : f_X8_isSameOrder st = some (if A = B then 1 else 0) := by
  unfold f_X8_isSameOrder
  apply ok_is
  refine ok_for n (fun i z => z = nI i ∧ ∀ j, j < i → A.getD j 0 = B.getD j 0) _ ?_ ?_ 0 _ (Nat.zero_le _) ⟨rfl, fun j hj => absurd hj (Nat.not_lt_zero _)⟩
  · rintro i z hi ⟨rfl, h2⟩
    show ok (f_X8_isSameOrder_L2 st (nI i)) _
    unfold f_X8_isSameOrder_L2
    have e1 := hA i (by omega)
    have e2 := hB i (by omega)
    rw [Nat.zero_add] at e1 e2
    rw [h5, if_neg (nI_ge hi (by omega)), gd_n (show i < 8 by omega) (by omega), gd_n (show i < 8 by omega) (by omega), nI_clamp (show i < 2 ^ 31 by omega), e1, e2]
    have q1 := kA _ (getD_mem (show i < A.length by omega))
    have q2 := kB _ (getD_mem (show i < B.length by omega))
    refine ok_if (fun c => ?_) (fun c => ?_)
    · have c' := nI_inj (by omega) (by omega) c
      refine ok_lt (ok_some (Or.inl ⟨_, rfl, nI_p1 i, fun j hj => ?_⟩))
      by_cases e : j = i
      · rw [e]; exact c'
      · exact h2 j (by omega)
    · refine ok_some (Or.inr ⟨_, rfl, ?_⟩)
      rw [if_neg (fun q => c (by rw [q]))]
  · rintro z ⟨rfl, h2⟩
    show ok (f_X8_isSameOrder_L2 st (nI n)) _
    unfold f_X8_isSameOrder_L2
    rw [h5, if_pos (nI_le (Nat.le_refl _) (by omega))]
    exact ok_some ⟨_, rfl, by rw [if_pos (list_eq (by omega) (by rw [lA]; exact h2))]⟩
/-- what a trial of the model leaves as it was -/
def tK (M M' : GS) : Prop := gl M' = gl M ∧ mK M M'
theorem tK_rf (M : GS) : tK M M := ⟨rfl, mK_rf M⟩
theorem tK_tr {a b c : GS} (h : tK a b) (h2 : tK b c) : tK a c := ⟨h2.1.trans h.1, mK_tr h.2 h2.2⟩
theorem oK_tK {a b : GS} (h : oK a b) : tK a b := ⟨h.1, oK_mK h⟩
theorem m_keep {M : GS} {n : Nat} {b : Bx} {rs : List Int} (h : mIs M n b rs) (hp : okP n b rs) : ok (f_X8_keepOrder M) (fun M' => sg M' 12 0 (ords b rs (List.range n)) ∧ mIs M' n b rs ∧ tK M M' ∧ ∀ c j, (c = 0 ∨ c = 2 ∨ c = 3 ∨ c = 4 ∨ c = 13) → (c ≠ 0 ∨ j = 5 ∨ j = 10) → gt M' c j = gt M c j) := by
  have hn := hp.1
  unfold f_X8_keepOrder
  refine ok_bI1 (m_all h hp) ?_
  rintro M1 ⟨m1, m2⟩
  refine ok_bI1 (m_copy (st := M1) (a := 6) (N := 8) (q := 12) (by omega) (by decide)) ?_
  rintro M2 ⟨k1, k2, k3⟩
  have hl := ords_len hp
  have hm := oK_m m2 h
  refine ok_some ⟨fun i hi => ?_, mIs_keep hm (k3 _ _ (by decide)) (k3 _ _ (by decide)) (fun c j hc => k3 _ _ (by omega)), ⟨k2.trans m2.1, fun c j w => ?_⟩, fun c j hc hj => ?_⟩
  · rw [Nat.zero_add, k1 i (by omega)]
    have := m1.1.2 i hi
    rw [Nat.zero_add] at this
    exact this
  · rw [k3 c j (by unfold mW at w; omega)]; exact oK_mK m2 c j w
  · rw [k3 c j (by omega)]
    exact m2.2 c j (by omega) (by omega) (by omega) (by omega) (by omega) (by omega) (by omega) (by omega)
-- CALM
theorem w4 : ∀ w : Fin 4, (-1 ≤ (stR w.val).toInt ∧ (stR w.val).toInt ≤ 1) ∧ (-1 ≤ (stD w.val).toInt ∧ (stD w.val).toInt ≤ 1) ∧ (0 - stR w.val).toInt = -(stR w.val).toInt ∧ (0 - stD w.val).toInt = -(stD w.val).toInt ∧ (if nI w.val = 0 then some (-1 : Int32) else if nI w.val = 2 then some 1 else some 0) = some (stR w.val) ∧ (if nI w.val = 1 then some (-1 : Int32) else if nI w.val = 3 then some 1 else some 0) = some (stD w.val) := by decide +kernel
theorem ok_sh {n k : Nat} {b : Bx} {rs : List Int} (h : okC n b rs) {dx dy : Int} (hx : -1 ≤ dx ∧ dx ≤ 1) (hy : -1 ≤ dy ∧ dy ≤ 1) : okP n (bSh b k dx dy) rs := by
  refine ⟨h.1, h.2.1, h.2.2.1, fun j hj => ?_⟩
  have := h.2.2.2 j hj
  by_cases ej : j = k
  · subst ej
    obtain ⟨s0, s1, s2, s3, s4⟩ := bSh_v b j dx dy
    rw [s0, s1, s2, s3, s4]
    omega
  · rw [bSh_n ej, bSh_n ej, bSh_n ej, bSh_n ej, bSh_n ej]
    omega
theorem bSh_back (b : Bx) (k : Nat) (dx dy : Int) : bSh (bSh b k dx dy) k (-dx) (-dy) = b := by
  funext j c
  unfold bSh
  by_cases e : j = k
  · rw [if_pos e, if_pos e]
    by_cases e1 : c = 1 ∨ c = 3
    · rw [if_pos e1, if_pos e1]; omega
    · rw [if_neg e1, if_neg e1]
      by_cases e2 : c = 2 ∨ c = 4
      · rw [if_pos e2, if_pos e2]; omega
      · rw [if_neg e2, if_neg e2]
  · rw [if_neg e, if_neg e]
noncomputable def cmV (n : Nat) (b : Bx) (rs : List Int) : Nat → Nat
  | 0 => 0
  | i + 1 => cmV n b rs i + if ords (bSh b (i / 4) (stR (i % 4)).toInt (stD (i % 4)).toInt) rs (List.range n) = ords b rs (List.range n) then 1 else 0
theorem x_calm {X : GS} {n : Nat} {b : Bx} {rs : List Int} (g1 : okC n b rs) (g2 : shIs X 4 n b rs) (g3 : reads X 3 n b rs) : ok (lpx (uc3 f_X7_calm_L14) (0, 0, X)) (fun r => r.1 = nI (cmV n b rs (4 * n)) ∧ xK X r.2) := by
  have hn := g1.1
  have hp := g1.p
  refine ok_for n (fun k z => z.2.1 = nI k ∧ z.1 = nI (cmV n b rs (4 * k)) ∧ xK X z.2.2) _ ?_ ?_ 0 _ (Nat.zero_le _) ⟨rfl, rfl, xK_rf X⟩
  · rintro k ⟨z1, z2, s⟩ hk ⟨h1, h2, h3⟩
    simp only at h1 h2 h3
    subst h1; subst h2
    show ok (f_X7_calm_L14 _ (nI k) s) _
    unfold f_X7_calm_L14
    rw [(xk_sh g2 h3).1, if_neg (nI_ge hk (by omega))]
    refine ok_bI2 (P := fun r => r.1 = nI (cmV n b rs (4 * (k + 1))) ∧ xK X r.2) ?_ (fun a c hac => ok_lt (ok_some (Or.inl ⟨_, rfl, nI_p1 k, hac⟩)))
    refine ok_for 4 (fun w z => z.2.1 = nI w ∧ z.1 = nI (cmV n b rs (4 * k + w)) ∧ xK X z.2.2) _ ?_ ?_ 0 _ (Nat.zero_le _) ⟨rfl, rfl, h3⟩
    · rintro w ⟨y1, y2, s9⟩ hw ⟨k1, k2, k3⟩
      simp only at k1 k2 k3
      subst k1; subst k2
      show ok (f_X7_calm_L30 (nI k) _ (nI w) s9) _
      unfold f_X7_calm_L30
      obtain ⟨w1, w2, -⟩ := w4 ⟨w, hw⟩
      simp only at w1 w2
      rw [if_neg (show ¬ (4 : Int32) ≤ nI w from nI_ge (b := 4) hw (by omega))]
      refine ok_bI1 (x_copy (o := 42) (xk_sh g2 k3) hn g1.2.1 (by omega)) ?_
      rintro s11 ⟨a1, a2⟩
      rw [gd_n hw (by omega), gd_n hw (by omega), nI_clamp (show w < 2 ^ 31 by omega)]
      refine ok_bI1 (x_shift a1 hp hk (d := stR w) (e := stD w) (by omega) (by omega)) ?_
      rintro s14 ⟨a3, a4⟩
      have hp' := ok_sh (k := k) g1 w1 w2
      refine ok_bI1 (x_renew (o := 41) a3 hp') ?_
      rintro s15 ⟨a5, a6⟩
      have hx : xK X s15 := xK_tr k3 (xk_of (fun c j hc => by rw [a6 c j (by omega), a4 c j (by omega), a2 c j (by omega)]))
      have hl1 := ords_len hp'
      have hl2 := ords_len hp
      rw [x_like a5.1 (xk_rd g3 hx).1 (by omega) (by omega) (fun k hk => by have := ords_lt hp' k hk; omega) (fun k hk => by have := ords_lt hp k hk; omega), bI1_s]
      have hc : cmV n b rs (4 * k + (w + 1)) = cmV n b rs (4 * k + w) + if ords (bSh b k (stR w).toInt (stD w).toInt) rs (List.range n) = ords b rs (List.range n) then 1 else 0 := by
        have hc0 : cmV n b rs (4 * k + w + 1) = cmV n b rs (4 * k + w) + if ords (bSh b ((4 * k + w) / 4) (stR ((4 * k + w) % 4)).toInt (stD ((4 * k + w) % 4)).toInt) rs (List.range n) = ords b rs (List.range n) then 1 else 0 := rfl
        rw [show (4 * k + w) / 4 = k by omega, show (4 * k + w) % 4 = w by omega] at hc0
        exact hc0
      by_cases q : ords (bSh b k (stR w).toInt (stD w).toInt) rs (List.range n) = ords b rs (List.range n)
      · rw [if_pos q] at hc
        rw [if_pos q, if_neg i10]
        refine ok_lt (ok_lt (ok_some (Or.inl ⟨_, rfl, nI_p1 w, ?_, hx⟩)))
        rw [hc]; exact nI_p1 _
      · rw [if_neg q] at hc
        rw [if_neg q, if_pos rfl]
        refine ok_lt (ok_some (Or.inl ⟨_, rfl, nI_p1 w, ?_, hx⟩))
        rw [hc]; rfl
    · rintro ⟨y1, y2, s9⟩ ⟨k1, k2, k3⟩
      simp only at k1 k2 k3
      subst k1; subst k2
      show ok (f_X7_calm_L30 (nI k) _ (nI 4) s9) _
      unfold f_X7_calm_L30
      rw [if_pos (by decide)]
      exact ok_some ⟨_, rfl, rfl, k3⟩
  · rintro ⟨z1, z2, s⟩ ⟨h1, h2, h3⟩
    simp only at h1 h2 h3
    subst h1; subst h2
    show ok (f_X7_calm_L14 _ (nI n) s) _
    unfold f_X7_calm_L14
    rw [(xk_sh g2 h3).1, if_pos (nI_le (Nat.le_refl _) (by omega))]
    exact ok_some ⟨_, rfl, rfl, h3⟩
theorem rel_m {n : Nat} {b : Bx} {rs : List Int} {t p s : Nat} {X M X' M' : GS} (h : RelA n b rs t p s X M) (hx : xK X X') (hm : mIs M' n b rs) (hk : ∀ c j, mW c j → c ≠ 2 → c ≠ 3 → c ≠ 4 → (c ≠ 0 ∨ (j ≠ 5 ∧ j ≠ 10)) → gt M' c j = gt M c j) : RelA n b rs t p s X' M' := by
  obtain ⟨g1, g2, g3, g4, g5, ⟨g6, g6'⟩, g7, g8⟩ := h
  have x1 : ∀ c j, (c < 22 ∨ (25 < c ∧ c < 41)) → gt X' c j = gt X c j := hx
  have k1 : ∀ c j, ((c = 0 ∧ (j = 1 ∨ j = 6 ∨ j = 26 ∨ j = 31 ∨ j = 32 ∨ j = 33 ∨ j = 34)) ∨ c = 1 ∨ c = 14 ∨ 17 ≤ c) → gt M' c j = gt M c j := fun c j w => hk c j (by unfold mW; omega) (by omega) (by omega) (by omega) (by omega)
  exact ⟨g1, xk_sh g2 hx, xk_rd g3 hx, hm, txR_keep g5 (fun c j hc => x1 _ _ (by omega)) (fun j => k1 _ _ (by omega)) (k1 _ _ (by omega)), ⟨by rw [x1 _ _ (by omega)]; exact g6, by rw [k1 _ _ (by omega)]; exact g6'⟩, snR_keep g7 (fun c j q1 q2 => x1 _ _ (by omega)) (fun j => k1 _ _ (by omega)) (k1 _ _ (by omega)), ktR_keep g8 (x1 _ _ (by omega)) (fun c j q1 q2 => x1 _ _ (by omega)) (fun c j q => k1 _ _ (by omega)) (fun j hj => k1 _ _ (by omega))⟩
theorem rem4 {i : Nat} (h : i < 1000) : irem (nI i) 4 = nI (i % 4) := pk_rem (d := 4) (by omega) (by omega) (by omega)
theorem div4 {i : Nat} (h : i < 1000) : nI i / 4 = nI (i / 4) := pk_div (d := 4) (by omega) (by omega) (by omega)
theorem m_calm {M : GS} {n : Nat} {b : Bx} {rs : List Int} (g1 : okC n b rs) (g4 : mIs M n b rs) : ok (bI1 (f_X8_keepOrder M) (fun st3 => bI2 (lpx (uc3 f_X8_calm_L18) (0, 0, st3)) (fun x22 st23 => some (x22, st23)))) (fun r => r.1 = nI (cmV n b rs (4 * n)) ∧ mIs r.2 n b rs ∧ ∀ c j, mW c j → c ≠ 3 → gt r.2 c j = gt M c j) := by
  have hn := g1.1
  have hp := g1.p
  refine ok_bI1 (m_keep g4 hp) ?_
  rintro M3 ⟨q1, q2, q3, -⟩
  refine ok_bI2 (P := fun r => r.1 = nI (cmV n b rs (4 * n)) ∧ mIs r.2 n b rs ∧ ∀ c j, mW c j → c ≠ 3 → gt r.2 c j = gt M c j) ?_ (fun a c hac => ok_some hac)
  refine ok_for (4 * n) (fun i z => z.2.1 = nI i ∧ z.1 = nI (cmV n b rs i) ∧ mIs z.2.2 n b rs ∧ sg z.2.2 12 0 (ords b rs (List.range n)) ∧ ∀ c j, mW c j → c ≠ 3 → gt z.2.2 c j = gt M c j) _ ?_ ?_ 0 _ (Nat.zero_le _) ⟨rfl, rfl, q2, q1, fun c j w _ => q3.2 c j w⟩
  · rintro i ⟨z1, z2, s⟩ hi ⟨h1, h2, h3, h4, h5⟩
    simp only at h1 h2 h3 h4 h5
    subst h1; subst h2
    show ok (f_X8_calm_L18 _ (nI i) s) _
    unfold f_X8_calm_L18
    obtain ⟨w1, w2, w3, w5, w6, w7⟩ := w4 ⟨i % 4, by omega⟩
    simp only at w1 w2 w3 w5 w6 w7
    rw [h3.1, n4, if_neg (nI_ge hi (by omega)), rem4 (by omega), div4 (by omega), w6, w7, bI1_s, bI1_s]
    have hk : i / 4 < n := by omega
    refine ok_bI1 (m_shift h3 hp hk (d := stR (i % 4)) (e := stD (i % 4)) (by omega) (by omega)) ?_
    rintro s14 ⟨a1, a2, a3⟩
    have hp' := ok_sh (k := i / 4) g1 w1 w2
    refine ok_bI1 (m_all a1 hp') ?_
    rintro s15 ⟨b1, b2⟩
    have b3 := oK_m b2 a1
    have h4' : sg s15 12 0 (ords b rs (List.range n)) := sg_same h4 (fun j _ _ => by rw [b2.2 _ _ (by decide) (by decide) (by decide) (by decide) (by decide) (by decide) (by decide) (Or.inl (by decide)), a3 _ _ (by decide)])
    have hl1 := ords_len hp'
    have hl2 := ords_len hp
    rw [m_like b3.1 b1.1.2 h4' hl1 hl2 hn (fun k hk => by have := ords_lt hp' k hk; omega) (fun k hk => by have := ords_lt hp k hk; omega), bI1_s]
    have hc : cmV n b rs (i + 1) = cmV n b rs i + if ords (bSh b (i / 4) (stR (i % 4)).toInt (stD (i % 4)).toInt) rs (List.range n) = ords b rs (List.range n) then 1 else 0 := rfl
    have ev : ∃ v : Nat, (if (if ords (bSh b (i / 4) (stR (i % 4)).toInt (stD (i % 4)).toInt) rs (List.range n) = ords b rs (List.range n) then (1 : Int32) else 0) = 0 then some (0 : Int32) else some 1) = some (nI v) ∧ cmV n b rs (i + 1) = cmV n b rs i + v := by
      rw [hc]
      by_cases q : ords (bSh b (i / 4) (stR (i % 4)).toInt (stD (i % 4)).toInt) rs (List.range n) = ords b rs (List.range n)
      · rw [if_pos q, if_pos q, if_neg i10]; exact ⟨1, rfl, rfl⟩
      · rw [if_neg q, if_neg q, if_pos rfl]; exact ⟨0, rfl, rfl⟩
    obtain ⟨v, ev1, ev2⟩ := ev
    rw [ev1, bI1_s]
    refine ok_lt ?_
    refine ok_bI1 (m_shift b3 hp' hk (d := 0 - stR (i % 4)) (e := 0 - stD (i % 4)) (by rw [w3]; omega) (by rw [w5]; omega)) ?_
    rintro s20 ⟨c1, c2, c3⟩
    rw [w3, w5, bSh_back] at c1
    refine ok_lt (ok_some (Or.inl ⟨_, rfl, nI_p1 i, ?_, c1, ?_, fun c j w hc3 => ?_⟩))
    · show nI _ + nI v = _
      rw [nadd, ev2]
    · exact sg_same h4' (fun j _ _ => c3 _ _ (by decide))
    · show gt s20 c j = _
      rw [c3 c j hc3, oK_mK b2 c j w, a3 c j hc3]; exact h5 c j w hc3
  · rintro ⟨z1, z2, s⟩ ⟨h1, h2, h3, h4, h5⟩
    simp only at h1 h2 h3 h4 h5
    subst h1; subst h2
    show ok (f_X8_calm_L18 _ (nI (4 * n)) s) _
    unfold f_X8_calm_L18
    rw [h3.1, n4, if_pos (nI_le (Nat.le_refl _) (by omega))]
    exact ok_some ⟨_, rfl, rfl, h3, h5⟩
theorem r_calm : op_calm Rel := by
  intro c X M _ h
  obtain ⟨n, b, rs, t, p, s, hp, h⟩ := h
  obtain ⟨g1, g2, g3, g4, g5, g6, g7, g8⟩ := id h
  have hn := g1.1
  unfold f_X7_calm f_X8_calm
  rcases page_or g2.1 g4.1 hn with ⟨_, e1, e2⟩ | ⟨h0, e1, e2⟩
  · rw [e1, e2, bI1_s, bI1_s, if_neg i10, if_neg i10]
    exact ⟨_, _, _, rfl, rfl, Rel_of hp h⟩
  · rw [e1, e2, bI1_s, bI1_s, if_pos rfl, if_pos rfl]
    obtain ⟨⟨x, X1⟩, a1, a2, a3⟩ := x_calm g1 g2 g3
    obtain ⟨⟨y, M1⟩, b1, b2, b3, b4⟩ := m_calm g1 g4
    simp only at a2 a3 b2 b3 b4
    subst a2; subst b2
    rw [a1, bI2_s, b1]
    exact ⟨_, _, _, rfl, rfl, Rel_of hp (rel_m h a3 b3 (fun c j w _ c3 _ _ => b4 c j w c3))⟩
