-- A PAGE is read
theorem x_rplace {X : GS} {l : Nat → Nat} {t : Nat} (ht : t ≤ 54) (hX : gt X 1 1 = nI t) (lX : ∀ j, j < t → gt X 2 j = nI (l j) ∧ l j < 127) : (f_X6_rulesPlace X = some (-1) ∧ ∀ j, j < t → l j ≠ 59) ∨ (∃ e, e < t ∧ l e = 59 ∧ (∀ j, j < e → l j ≠ 59) ∧ f_X6_rulesPlace X = some (nI (e + 1))) := by
  have key : ok (f_X6_rulesPlace X) (fun r => (r = -1 ∧ ∀ j, j < t → l j ≠ 59) ∨ (∃ e, e < t ∧ l e = 59 ∧ (∀ j, j < e → l j ≠ 59) ∧ r = nI (e + 1))) := by
    unfold f_X6_rulesPlace
    refine ok_for t (fun i z => z = nI i ∧ ∀ j, j < i → l j ≠ 59) _ ?_ ?_ 0 _ (Nat.zero_le _) ⟨rfl, fun j hj => absurd hj (Nat.not_lt_zero _)⟩
    · rintro i z hi ⟨rfl, h2⟩
      show ok (f_X6_rulesPlace_L2 X (nI i)) _
      unfold f_X6_rulesPlace_L2
      obtain ⟨e1, e2⟩ := lX i hi
      rw [hX, if_neg (nI_ge hi (by omega)), gd_n (show i < 54 by omega) (by omega), nI_clamp (show i < 2 ^ 31 by omega), e1]
      refine ok_if (fun c => ?_) (fun c => ?_)
      · exact ok_some (Or.inr ⟨_, rfl, Or.inr ⟨i, hi, nI_inj (b := 59) (by omega) (by omega) c, h2, nI_p1 i⟩⟩)
      · refine ok_lt (ok_some (Or.inl ⟨_, rfl, nI_p1 i, fun j hj => ?_⟩))
        by_cases ej : j = i
        · rw [ej]; exact fun q => c (by rw [q]; rfl)
        · exact h2 j (by omega)
    · rintro z ⟨rfl, h2⟩
      show ok (f_X6_rulesPlace_L2 X (nI t)) _
      unfold f_X6_rulesPlace_L2
      rw [hX, if_pos (nI_le (Nat.le_refl _) (by omega))]
      exact ok_some ⟨_, rfl, Or.inl ⟨rfl, h2⟩⟩
  obtain ⟨r, r1, r2⟩ := key
  rcases r2 with ⟨rfl, q⟩ | ⟨e, q1, q2, q3, rfl⟩
  · exact Or.inl ⟨r1, q⟩
  · exact Or.inr ⟨e, q1, q2, q3, r1⟩
def pB (l : Nat → Nat) : Bx := fun k c => if c = 0 then kdI (l (6 * k)) else (l (6 * k + c) : Int) - 48
def rL (l : Nat → Nat) (a n : Nat) : List Int := (List.range n).map (fun i => (l (a + i) : Int) - 48)
theorem rL_len (l : Nat → Nat) (a n : Nat) : (rL l a n).length = n := by unfold rL; rw [List.length_map, List.length_range]
theorem rL_get {l : Nat → Nat} {a n i : Nat} (h : i < n) : (rL l a n).getD i 0 = (l (a + i) : Int) - 48 := by
  unfold rL
  rw [List.getD_eq_getElem?_getD, List.getElem?_map, List.getElem?_range h]; rfl
theorem rL_step (l : Nat → Nat) (a n : Nat) : rL l a (n + 1) = rL l a n ++ [(l (a + n) : Int) - 48] := by
  unfold rL
  rw [List.range_succ, List.map_append]; rfl
theorem shIs_ext {st : GS} {o n : Nat} {b b' : Bx} {rs : List Int} (h : shIs st o n b rs) (he : ∀ k, k < n → ∀ c, c < 5 → b k c = b' k c) : shIs st o n b' rs := ⟨h.1, h.2.1, fun k hk c hc => by rw [← he k hk c hc]; exact h.2.2.1 k hk c hc, h.2.2.2⟩
theorem sub48 {m : Nat} (h : m < 127) : (nI m - 48).toInt = (m : Int) - 48 := by
  have k : (48 : Int32).toInt = 48 := by decide
  rw [sub32 (by rw [nI_T (by omega), k]; omega) (by rw [nI_T (by omega), k]; omega), nI_T (by omega), k]
theorem x_dig {st : GS} {l : Nat → Nat} {t i : Nat} (ht : t ≤ 54) (h1 : gt st 1 1 = nI t) (lX : ∀ j, j < t → gt st 2 j = nI (l j) ∧ l j < 127) (hi : i < t) : f_X6_digitAt (nI i) st = some (nI (l i) - 48) := by
  unfold f_X6_digitAt
  rw [h1, if_neg (nI_ge hi (by omega)), gd_n (show i < 54 by omega) (by omega), nI_clamp (show i < 2 ^ 31 by omega), (lX i hi).1]
theorem x_write {X : GS} {l : Nat → Nat} {t e m : Nat} (ht : t ≤ 54) (hX : gt X 1 1 = nI t) (lX : ∀ j, j < t → gt X 2 j = nI (l j) ∧ l j < 127) (he : e + 1 = 6 * m) (hm : m ≤ 8) (het : e < t) (hr : t - (e + 1) ≤ 4) (hp : f_X6_rulesPlace X = some (nI (e + 1))) : ok (f_X6_writeTo 4 X) (fun X' => shIs X' 4 m (pB l) (rL l (e + 1) (t - (e + 1))) ∧ ∀ c j, (c < 4 ∨ 10 < c) → gt X' c j = gt X c j) := by
  unfold f_X6_writeTo f_X5_clear
  rw [hp, bI1_s]
  simp only [lt_, bI1_s]
  generalize h0 : sv (sv X 4 5 0) 4 7 0 = s0
  have z0 : shIs s0 4 0 (pB l) [] := ⟨by rw [← h0, gt_sv_j (by decide), gt_sv_same]; rfl, by rw [← h0, gt_sv_same]; rfl, fun k hk => absurd hk (Nat.not_lt_zero _), fun i hi => absurd hi (Nat.not_lt_zero _)⟩
  have zk : ∀ c j, (c < 4 ∨ 10 < c) → gt s0 c j = gt X c j := fun c j hc => by rw [← h0, gt_sv_o (by omega), gt_sv_o (by omega)]
  clear h0
  refine ok_bI1 (P := fun s => shIs s 4 m (pB l) [] ∧ ∀ c j, (c < 4 ∨ 10 < c) → gt s c j = gt X c j) ?_ ?_
  · refine ok_for m (fun k z => z.1 = nI (6 * k) ∧ shIs z.2 4 k (pB l) [] ∧ ∀ c j, (c < 4 ∨ 10 < c) → gt z.2 c j = gt X c j) _ ?_ ?_ 0 _ (Nat.zero_le _) ⟨rfl, z0, zk⟩
    · rintro k ⟨z, s⟩ hk ⟨h1, h2, h3⟩
      simp only at h1 h2 h3
      subst h1
      show ok (f_X6_writeTo_L11 4 (nI (e + 1)) (nI (6 * k)) s) _
      unfold f_X6_writeTo_L11
      have q1 : gt s 1 1 = nI t := by rw [h3 _ _ (by omega)]; exact hX
      have q2 : ∀ j, j < t → gt s 2 j = nI (l j) ∧ l j < 127 := fun j hj => by rw [h3 _ _ (by omega)]; exact lX j hj
      have a1 : nI (6 * k) + 1 = nI (6 * k + 1) := nI_add _ 1
      have a2 : nI (6 * k) + 2 = nI (6 * k + 2) := nI_add _ 2
      have a3 : nI (6 * k) + 3 = nI (6 * k + 3) := nI_add _ 3
      have a4 : nI (6 * k) + 4 = nI (6 * k + 4) := nI_add _ 4
      have a6 : nI (6 * k) + 6 = nI (6 * k + 6) := nI_add _ 6
      obtain ⟨v, v1, -, v3⟩ := kind_of (q2 (6 * k) (by omega)).2
      rw [a6, if_neg (nI_nlt (show 6 * k + 6 ≤ e + 1 by omega) (by omega)), gd_n (show 6 * k < 54 by omega) (by omega), nI_clamp (show 6 * k < 2 ^ 31 by omega), (q2 (6 * k) (by omega)).1, v1, bI1_s, a1, a2, a3, a4, x_dig ht q1 q2 (show 6 * k + 1 < t by omega), bI1_s, x_dig ht q1 q2 (show 6 * k + 2 < t by omega), bI1_s, x_dig ht q1 q2 (show 6 * k + 3 < t by omega), bI1_s, x_dig ht q1 q2 (show 6 * k + 4 < t by omega), bI1_s]
      refine ok_bI1 (x_add h2 (show k < 8 by omega) _ _ _ _ _) ?_
      rintro s5 ⟨b1, -, -, b4⟩
      refine ok_lt (ok_some (Or.inl ⟨_, rfl, ?_, shIs_ext b1 (fun k' hk' c hc => ?_), fun c j hc => ?_⟩))
      · show nI (6 * k + 6) = nI (6 * (k + 1)); rfl
      · unfold bAdd
        by_cases ek : k' = k
        · subst ek
          rw [if_pos rfl]
          match c, hc with
          | 0, _ => exact v3
          | 1, _ => exact sub48 (q2 _ (by omega)).2
          | 2, _ => exact sub48 (q2 _ (by omega)).2
          | 3, _ => exact sub48 (q2 _ (by omega)).2
          | 4, _ => exact sub48 (q2 _ (by omega)).2
        · rw [if_neg ek]
      · show gt s5 c j = _
        rw [b4 _ _ (by omega)]; exact h3 c j hc
    · rintro ⟨z, s⟩ ⟨h1, h2, h3⟩
      simp only at h1 h2 h3
      subst h1
      show ok (f_X6_writeTo_L11 4 (nI (e + 1)) (nI (6 * m)) s) _
      unfold f_X6_writeTo_L11
      have a6 : nI (6 * m) + 6 = nI (6 * m + 6) := nI_add _ 6
      rw [a6, if_pos (nI_lt (by omega) (by omega))]
      exact ok_some ⟨_, rfl, h2, h3⟩
  · rintro s ⟨h2, h3⟩
    have em : imax (nI (e + 1)) 0 = nI (e + 1) := by
      unfold imax; rw [if_neg (nI_pos (by omega))]
    rw [em]
    refine ok_bI1 (P := fun X' => shIs X' 4 m (pB l) (rL l (e + 1) (t - (e + 1))) ∧ ∀ c j, (c < 4 ∨ 10 < c) → gt X' c j = gt X c j) ?_ (fun r hr => ok_some hr)
    refine ok_for t (fun i z => z.1 = nI i ∧ e + 1 ≤ i ∧ shIs z.2 4 m (pB l) (rL l (e + 1) (i - (e + 1))) ∧ ∀ c j, (c < 4 ∨ 10 < c) → gt z.2 c j = gt X c j) _ ?_ ?_ (e + 1) _ (by omega) ⟨rfl, Nat.le_refl _, by rw [Nat.sub_self]; exact h2, h3⟩
    · rintro i ⟨z, s2⟩ hi ⟨k1, k2, k3, k4⟩
      simp only at k1 k2 k3 k4
      subst k1
      show ok (f_X6_writeTo_L72 4 (nI i) s2) _
      unfold f_X6_writeTo_L72
      have q1 : gt s2 1 1 = nI t := by rw [k4 _ _ (by omega)]; exact hX
      have q2 : ∀ j, j < t → gt s2 2 j = nI (l j) ∧ l j < 127 := fun j hj => by rw [k4 _ _ (by omega)]; exact lX j hj
      rw [q1, if_neg (nI_ge hi (by omega)), x_dig ht q1 q2 hi, bI1_s]
      refine ok_bI1 (x_addRule k3 (by rw [rL_len]; omega) _) ?_
      rintro s5 ⟨b1, b2⟩
      refine ok_lt (ok_some (Or.inl ⟨_, rfl, nI_p1 i, by omega, ?_, fun c j hc => ?_⟩))
      · show shIs s5 4 m (pB l) (rL l (e + 1) (i + 1 - (e + 1)))
        rw [sub48 (q2 i hi).2] at b1
        rw [show i + 1 - (e + 1) = i - (e + 1) + 1 by omega, rL_step, show e + 1 + (i - (e + 1)) = i by omega]
        exact b1
      · show gt s5 c j = _
        rw [b2 _ _ (by omega)]; exact k4 c j hc
    · rintro ⟨z, s2⟩ ⟨k1, k2, k3, k4⟩
      simp only at k1 k2 k3 k4
      subst k1
      show ok (f_X6_writeTo_L72 4 (nI t) s2) _
      unfold f_X6_writeTo_L72
      have q1 : gt s2 1 1 = nI t := by rw [k4 _ _ (by omega)]; exact hX
      rw [q1, if_pos (nI_le (Nat.le_refl _) (by omega))]
      exact ok_some ⟨_, rfl, k3, k4⟩
theorem n6 (k : Nat) : (6 : Int32) * nI k = nI (6 * k) := pk_mul 6 k
theorem m_four {st : GS} {l : Nat → Nat} {t k : Nat} (hk : k < 8) (hkt : 6 * k + 4 < t) (ht : t ≤ 54) (lM : ∀ j, j < t → gt st 1 j = nI (l j)) : ok (lpx (uc2 (f_X8_page_L64 (nI k))) (0, st)) (fun s => (∀ c, c < 4 → gt s 3 (4 * k + c) = nI (l (6 * k + 1 + c)) - 48) ∧ (∀ j, (j < 4 * k ∨ 4 * k + 4 ≤ j) → gt s 3 j = gt st 3 j) ∧ ∀ c j, c ≠ 3 → gt s c j = gt st c j) := by
  refine ok_for 4 (fun n z => z.1 = nI n ∧ (∀ c, c < n → gt z.2 3 (4 * k + c) = nI (l (6 * k + 1 + c)) - 48) ∧ (∀ j, (j < 4 * k ∨ 4 * k + 4 ≤ j) → gt z.2 3 j = gt st 3 j) ∧ ∀ c j, c ≠ 3 → gt z.2 c j = gt st c j) _ ?_ ?_ 0 _ (Nat.zero_le _) ⟨rfl, fun c hc => absurd hc (Nat.not_lt_zero _), fun _ _ => rfl, fun _ _ _ => rfl⟩
  · rintro n ⟨z, s⟩ hn ⟨h1, h2, h3, h4⟩
    simp only at h1 h2 h3 h4
    subst h1
    show ok (f_X8_page_L64 (nI k) (nI n) s) _
    unfold f_X8_page_L64
    have a1 : nI (6 * k) + 1 = nI (6 * k + 1) := nI_add _ 1
    rw [if_neg (show ¬ (4 : Int32) ≤ nI n from nI_ge (b := 4) hn (by omega)), n6, a1, nadd, n4s, gd_n (show 6 * k + 1 + n < 54 by omega) (by omega), gd_n (show 4 * k + n < 32 by omega) (by omega), nI_clamp (show 6 * k + 1 + n < 2 ^ 31 by omega), nI_clamp (show 4 * k + n < 2 ^ 31 by omega), h4 1 _ (by decide), lM _ (show 6 * k + 1 + n < t by omega)]
    refine ok_lt (ok_lt (ok_some (Or.inl ⟨_, rfl, nI_p1 n, fun c hc => ?_, fun j hj => ?_, fun c j hc => ?_⟩)))
    · show gt (sv s 3 (4 * k + n) (nI (l (6 * k + 1 + n)) - 48)) 3 (4 * k + c) = _
      by_cases e : c = n
      · subst e; rw [gt_sv_same]
      · rw [gt_sv_j (by omega)]; exact h2 c (by omega)
    · show gt (sv s 3 (4 * k + n) (nI (l (6 * k + 1 + n)) - 48)) 3 j = _
      rw [gt_sv_j (by omega)]; exact h3 j hj
    · show gt (sv s 3 (4 * k + n) (nI (l (6 * k + 1 + n)) - 48)) c j = _
      rw [gt_sv_o hc]; exact h4 c j hc
  · rintro ⟨z, s⟩ ⟨h1, h2, h3, h4⟩
    simp only at h1 h2 h3 h4
    subst h1
    show ok (f_X8_page_L64 (nI k) (nI 4) s) _
    unfold f_X8_page_L64
    rw [if_pos (by decide)]
    exact ok_some ⟨_, rfl, h2, h3, h4⟩
theorem m_pboxes {st : GS} {l : Nat → Nat} {t m : Nat} (hm : m ≤ 8) (hmt : 6 * m ≤ t) (ht : t ≤ 54) (h5 : gt st 0 5 = nI m) (lM : ∀ j, j < t → gt st 1 j = nI (l j) ∧ l j < 127) : ok (lpx (uc2 f_X8_page_L36) (0, st)) (fun s => (∀ k, k < m → (gt s 2 k).toInt = pB l k 0 ∧ ∀ c, c < 4 → (gt s 3 (4 * k + c)).toInt = pB l k (1 + c)) ∧ ∀ c j, c ≠ 2 → c ≠ 3 → gt s c j = gt st c j) := by
  refine ok_for m (fun i z => z.1 = nI i ∧ (∀ k, k < i → (gt z.2 2 k).toInt = pB l k 0 ∧ ∀ c, c < 4 → (gt z.2 3 (4 * k + c)).toInt = pB l k (1 + c)) ∧ ∀ c j, c ≠ 2 → c ≠ 3 → gt z.2 c j = gt st c j) _ ?_ ?_ 0 _ (Nat.zero_le _) ⟨rfl, fun k hk => absurd hk (Nat.not_lt_zero _), fun _ _ _ _ => rfl⟩
  · rintro i ⟨z, s⟩ hi ⟨h1, h2, h3⟩
    simp only at h1 h2 h3
    subst h1
    show ok (f_X8_page_L36 (nI i) s) _
    unfold f_X8_page_L36
    obtain ⟨v, -, v1, v3⟩ := kind_of (lM (6 * i) (by omega)).2
    rw [h3 _ _ (by decide) (by decide), h5, if_neg (nI_ge hi (by omega)), n6, gd_n (show 6 * i < 54 by omega) (by omega), nI_clamp (show 6 * i < 2 ^ 31 by omega), h3 1 _ (by decide) (by decide), (lM (6 * i) (by omega)).1, v1, bI1_s, gd_n (show i < 8 by omega) (by omega), nI_clamp (show i < 2 ^ 31 by omega)]
    refine ok_lt ?_
    refine ok_bI1 (m_four (l := l) (t := t) (k := i) (by omega) (by omega) ht (fun j hj => by rw [gt_sv_o (by decide), h3 1 _ (by decide) (by decide)]; exact (lM j hj).1)) ?_
    rintro s20 ⟨a1, a2, a3⟩
    refine ok_lt (ok_some (Or.inl ⟨_, rfl, nI_p1 i, fun k hk => ?_, fun c j c1 c2 => ?_⟩))
    · show (gt s20 2 k).toInt = _ ∧ ∀ c, c < 4 → (gt s20 3 (4 * k + c)).toInt = _
      by_cases e : k = i
      · subst e
        refine ⟨by rw [a3 _ _ (by decide), gt_sv_same]; exact v3, fun c hc => ?_⟩
        rw [a1 c hc, sub48 (lM _ (by omega)).2]
        unfold pB
        rw [if_neg (by omega), show 6 * k + 1 + c = 6 * k + (1 + c) by omega]
      · refine ⟨by rw [a3 _ _ (by decide), gt_sv_j e]; exact (h2 k (by omega)).1, fun c hc => ?_⟩
        rw [a2 _ (by omega), gt_sv_o (by decide)]; exact (h2 k (by omega)).2 c hc
    · show gt s20 c j = _
      rw [a3 c j c2, gt_sv_o c1]; exact h3 c j c1 c2
  · rintro ⟨z, s⟩ ⟨h1, h2, h3⟩
    simp only at h1 h2 h3
    subst h1
    show ok (f_X8_page_L36 (nI m) s) _
    unfold f_X8_page_L36
    rw [h3 _ _ (by decide) (by decide), h5, if_pos (nI_le (Nat.le_refl _) (by omega))]
    exact ok_some ⟨_, rfl, h2, h3⟩
theorem m_prules {st : GS} {l : Nat → Nat} {t e r : Nat} (hr : r ≤ 4) (her : e + 1 + r ≤ t) (ht : t ≤ 54) (h2 : gt st 0 2 = nI e) (h10 : gt st 0 10 = nI r) (lM : ∀ j, j < t → gt st 1 j = nI (l j) ∧ l j < 127) : ok (lpx (uc2 f_X8_page_L117) (0, st)) (fun s => (∀ i, i < r → (gt s 4 i).toInt = (l (e + 1 + i) : Int) - 48) ∧ ∀ c j, c ≠ 4 → gt s c j = gt st c j) := by
  refine ok_for r (fun n z => z.1 = nI n ∧ (∀ i, i < n → (gt z.2 4 i).toInt = (l (e + 1 + i) : Int) - 48) ∧ ∀ c j, c ≠ 4 → gt z.2 c j = gt st c j) _ ?_ ?_ 0 _ (Nat.zero_le _) ⟨rfl, fun k hk => absurd hk (Nat.not_lt_zero _), fun _ _ _ => rfl⟩
  · rintro n ⟨z, s⟩ hn ⟨h3, h4, h5⟩
    simp only at h3 h4 h5
    subst h3
    show ok (f_X8_page_L117 (nI n) s) _
    unfold f_X8_page_L117
    rw [h5 0 10 (by decide), h10, if_neg (nI_ge hn (by omega)), h5 0 2 (by decide), h2, nI_p1, nadd, gd_n (show e + 1 + n < 54 by omega) (by omega), gd_n (show n < 4 by omega) (by omega), nI_clamp (show e + 1 + n < 2 ^ 31 by omega), nI_clamp (show n < 2 ^ 31 by omega), h5 1 _ (by decide), (lM (e + 1 + n) (by omega)).1]
    refine ok_lt (ok_lt (ok_some (Or.inl ⟨_, rfl, nI_p1 n, fun i hi => ?_, fun c j hc => ?_⟩)))
    · show (gt (sv s 4 n (nI (l (e + 1 + n)) - 48)) 4 i).toInt = _
      by_cases ei : i = n
      · subst ei; rw [gt_sv_same, sub48 (lM _ (by omega)).2]
      · rw [gt_sv_j ei]; exact h4 i (by omega)
    · show gt (sv s 4 n (nI (l (e + 1 + n)) - 48)) c j = _
      rw [gt_sv_o hc]; exact h5 c j hc
  · rintro ⟨z, s⟩ ⟨h3, h4, h5⟩
    simp only at h3 h4 h5
    subst h3
    show ok (f_X8_page_L117 (nI r) s) _
    unfold f_X8_page_L117
    rw [h5 0 10 (by decide), h10, if_pos (nI_le (Nat.le_refl _) (by omega))]
    exact ok_some ⟨_, rfl, h4, h5⟩
theorem pB_ok {l : Nat → Nat} {e m k : Nat} (he : e + 1 = 6 * m) (hk : k < m) (hf : ∀ j, j < e → fbx l j ∧ l j ≠ 59) : (0 ≤ pB l k 0 ∧ pB l k 0 ≤ 4) ∧ (0 ≤ pB l k 1 ∧ pB l k 1 < pB l k 3 ∧ pB l k 3 ≤ 999) ∧ (0 ≤ pB l k 2 ∧ pB l k 2 < pB l k 4 ∧ pB l k 4 ≤ 999) := by
  have f0 := (hf (6 * k) (by omega)).1
  have f1 := (hf (6 * k + 1) (by omega)).1
  have f2 := (hf (6 * k + 2) (by omega)).1
  have f3 := (hf (6 * k + 3) (by omega)).1
  have f4 := (hf (6 * k + 4) (by omega)).1
  unfold fbx at f0 f1 f2 f3 f4
  rw [show 6 * k + 3 - 2 = 6 * k + 1 by omega] at f3
  rw [show 6 * k + 4 - 2 = 6 * k + 2 by omega] at f4
  have e0 : pB l k 0 = kdI (l (6 * k)) := rfl
  have e1 : pB l k 1 = (l (6 * k + 1) : Int) - 48 := rfl
  have e2 : pB l k 2 = (l (6 * k + 2) : Int) - 48 := rfl
  have e3 : pB l k 3 = (l (6 * k + 3) : Int) - 48 := rfl
  have e4 : pB l k 4 = (l (6 * k + 4) : Int) - 48 := rfl
  rw [e0, e1, e2, e3, e4]
  have hkd : kdI (l (6 * k)) = -1 ∨ (0 ≤ kdI (l (6 * k)) ∧ kdI (l (6 * k)) ≤ 4) := by
    unfold kdI
    repeat' split
    all_goals omega
  generalize kdI (l (6 * k)) = K at f0 hkd
  omega
theorem r_page : op_page Rel := by
  intro c X M hc h
  obtain ⟨n, b, rs, t, p, s, hp, h⟩ := h
  obtain ⟨g1, g2, g3, g4, g5, g6, g7, g8⟩ := id h
  obtain ⟨l, f, M1, lX, lM, f1, f2, f3, f4, f5⟩ := fault_tell g5
  obtain ⟨t1, t2, t3, t4⟩ := id g5
  have hT : gt M1 0 1 = nI t := by rw [f3 _ _ (Or.inr (by decide))]; exact t3
  have hrel := RelA_keep h (xK_rf X) (ftK_mK f3)
  unfold f_X7_page f_X8_page f_X6_isPage
  rw [f1, f2, bI2_s, hT, t2]
  rcases Nat.lt_or_ge f t with hft | hft
  · rw [if_pos (nI_lt hft (by omega))]
    refine ⟨-103, X, M1, ?_, rfl, Rel_of hp hrel⟩
    have hne : ¬ nI f = nI t := fun q => by have := nI_inj (by omega) (by omega) q; omega
    rcases x_rplace t1 t2 lX with ⟨r1, -⟩ | ⟨e, -, -, -, r1⟩
    · rw [r1, bI1_s, if_pos rfl, bI1_s, if_pos rfl]
    · rw [r1, bI1_s]
      by_cases q1 : nI (e + 1) = -1
      · rw [if_pos q1, bI1_s, if_pos rfl]
      · rw [if_neg q1]
        by_cases q2 : nI t ≤ nI (e + 1)
        · rw [if_pos q2, bI1_s, if_pos rfl]
        · rw [if_neg q2, bI1_s, if_neg hne, bI1_s, if_pos rfl]
  · have eft : f = t := by omega
    subst eft
    rw [if_neg (nI_nlt (Nat.le_refl _) (by omega))]
    obtain ⟨ra, hph⟩ := f5 rfl
    rcases hph with ⟨-, b2, b3, b4, b5, b6⟩ | ⟨e, r1, r2, r3, r4, r5, r6, r7, r8, r9, r10⟩
    · rw [if_pos b4]
      refine ⟨-103, X, M1, ?_, rfl, Rel_of hp hrel⟩
      rcases x_rplace t1 t2 lX with ⟨r1, -⟩ | ⟨e, e1, e2, -, -⟩
      · rw [r1, bI1_s, if_pos rfl, bI1_s, if_pos rfl]
      · exact absurd e2 (b6 e e1).2
    · have hpl : f_X6_rulesPlace X = some (nI (e + 1)) := by
        rcases x_rplace t1 t2 lX with ⟨_, q⟩ | ⟨e', e1, e2, e3, e4⟩
        · exact absurd r4 (q e r3)
        · have : e' = e := by
            rcases Nat.lt_trichotomy e' e with z | z | z
            · exact absurd e2 (r5 e' z).2
            · exact z
            · exact absurd r4 (e3 e z)
          rw [e4, this]
      rw [hpl, bI1_s, if_neg (nI_ne_m1 (by omega))]
      by_cases q0 : f = e + 1
      · rw [if_pos (nI_le (by omega) (by omega)), bI1_s, if_pos rfl, r8, if_pos (show nI (f - (e + 1)) = 0 by rw [q0, Nat.sub_self]; rfl)]
        exact ⟨_, _, _, rfl, rfl, Rel_of hp hrel⟩
      · obtain ⟨m, hm⟩ : ∃ m, e + 1 = 6 * m := ⟨(e + 1) / 6, by omega⟩
        have hr4 : f - (e + 1) ≤ 4 := by rw [← r10.2]; exact cnt4_le _
        rw [if_neg (nI_ge (by omega) (by omega)), bI1_s, if_pos rfl, bI1_s, if_neg i10, r8, if_neg (nI_ne0 (by omega) (by omega))]
        obtain ⟨X3, x1, x2, x3⟩ := x_write t1 t2 lX hm (by omega) r3 hr4 hpl
        have hok : okC m (pB l) (rL l (e + 1) (f - (e + 1))) := by
          refine ⟨by omega, by rw [rL_len]; exact hr4, fun r hr => ?_, fun k hk => pB_ok hm hk r5⟩
          unfold rL at hr
          rw [List.mem_map] at hr
          obtain ⟨i, hi, rfl⟩ := hr
          have hi' := List.mem_range.mp hi
          have := r9 (e + 1 + i) (by omega) (by omega)
          omega
        obtain ⟨X4, y1, y2, y3⟩ := x_renew (o := 3) x2 hok.p
        rw [x1, bI1_s, y1, bI1_s]
        unfold f_X6_clear f_X4_clear
        simp only [lt_, bI1_s]
        have X4k : ∀ c j, (c < 3 ∨ 27 < c) → gt X4 c j = gt X c j := fun c j hc => by rw [y3 c j (by omega), x3 c j (by omega)]
        have e06 : gt (sv (sv (sv X4 1 1 0) 28 2 0) 0 5 0) 0 6 = nI p := by rw [gt_sv_j (by decide), gt_sv_o (by decide), gt_sv_o (by decide), X4k _ _ (by omega)]; exact g6.1
        rw [e06, nI_p1]
        generalize hZ : sv (sv (sv (sv X4 1 1 0) 28 2 0) 0 5 0) 0 6 (nI (p + 1)) = Z
        have Zk : ∀ c j, c ≠ 0 → (c ≠ 1 ∨ j ≠ 1) → (c ≠ 28 ∨ j ≠ 2) → gt Z c j = gt X4 c j := fun c j c0 c1 c2 => by
          rw [← hZ, gt_sv_o c0, gt_sv_o c0]
          have z28 : ∀ y : GS, gt (sv y 28 2 0) c j = gt y c j := fun y => by
            rcases c2 with r | r
            · exact gt_sv_o r
            · exact gt_sv_j r
          rw [z28]
          rcases c1 with r | r
          · exact gt_sv_o r
          · exact gt_sv_j r
        have Z6 : gt Z 0 6 = nI (p + 1) := by rw [← hZ, gt_sv_same]
        have Z5 : gt Z 0 5 = 0 := by rw [← hZ, gt_sv_j (by decide), gt_sv_same]
        have Z28 : gt Z 28 2 = 0 := by rw [← hZ, gt_sv_o (by decide), gt_sv_o (by decide), gt_sv_same]
        have Z11 : gt Z 1 1 = 0 := by rw [← hZ, gt_sv_o (by decide), gt_sv_o (by decide), gt_sv_o (by decide), gt_sv_same]
        have shZ : shIs Z 4 m (pB l) (rL l (e + 1) (f - (e + 1))) := shIs_keep x2 (fun c j q1 q2 => by rw [Zk _ _ (by omega) (by omega) (by omega), y3 _ _ (by omega)])
        have rdZ : reads Z 3 m (pB l) (rL l (e + 1) (f - (e + 1))) := reads_keep y2 (fun c j q1 q2 q3 => Zk _ _ (by omega) (by omega) (by omega))
        -- the model
        have em : (gt M1 0 2 + 1) / 6 = nI m := by
          rw [r7, nI_p1, div6 (by omega)]; congr 1; omega
        rw [em]
        have k5 : gt (sv M1 0 5 (nI m)) 0 5 = nI m := gt_sv_same _ _ _ _
        have k1 : ∀ j, j < f → gt (sv M1 0 5 (nI m)) 1 j = nI (l j) ∧ l j < 127 := fun j hj => by
          rw [gt_sv_o (by decide), f3 _ _ (Or.inl (by decide))]; exact ⟨lM j hj, (lX j hj).2⟩
        obtain ⟨M22, m1, m2, m3⟩ := m_pboxes (m := m) (t := f) (by omega) (by omega) t1 k5 k1
        rw [m1, bI1_s]
        have e4 : gt M22 0 4 = nI (f - (e + 1)) := by rw [m3 _ _ (by decide) (by decide), gt_sv_j (by decide)]; exact r8
        rw [e4]
        generalize hS : sv M22 0 10 (nI (f - (e + 1))) = S
        have Sk : ∀ c j, (c ≠ 0 ∨ j ≠ 10) → gt S c j = gt M22 c j := fun c j hc => by
          rw [← hS]
          rcases hc with r | r
          · exact gt_sv_o r
          · exact gt_sv_j r
        have S10 : gt S 0 10 = nI (f - (e + 1)) := by rw [← hS, gt_sv_same]
        have S2 : gt S 0 2 = nI e := by rw [Sk _ _ (Or.inr (by decide)), m3 _ _ (by decide) (by decide), gt_sv_j (by decide)]; exact r7
        obtain ⟨M31, p1, p2, p3⟩ := m_prules (st := S) (l := l) (t := f) (e := e) (r := f - (e + 1)) hr4 (by omega) t1 S2 S10 (fun j hj => by rw [Sk _ _ (Or.inl (by decide)), m3 _ _ (by decide) (by decide)]; exact k1 j hj)
        rw [p1, bI1_s]
        have q6 : gt (sv M31 0 26 0) 0 6 = nI p := by
          rw [gt_sv_j (by decide), p3 _ _ (by decide), Sk _ _ (Or.inr (by decide)), m3 _ _ (by decide) (by decide), gt_sv_j (by decide), f3 _ _ (Or.inr (by decide))]; exact g6.2
        rw [q6, nI_p1]
        generalize hW : sv (sv (sv M31 0 26 0) 0 6 (nI (p + 1))) 0 1 0 = W
        have Wk : ∀ c j, (c ≠ 0 ∨ (j ≠ 1 ∧ j ≠ 6 ∧ j ≠ 26)) → gt W c j = gt M31 c j := fun c j hc => by
          rw [← hW]
          rcases hc with r | r
          · rw [gt_sv_o r, gt_sv_o r, gt_sv_o r]
          · rw [gt_sv_j r.1, gt_sv_j r.2.1, gt_sv_j r.2.2]
        have W1 : gt W 0 1 = 0 := by rw [← hW, gt_sv_same]
        have W6 : gt W 0 6 = nI (p + 1) := by rw [← hW, gt_sv_j (by decide), gt_sv_same]
        have W26 : gt W 0 26 = 0 := by rw [← hW, gt_sv_j (by decide), gt_sv_j (by decide), gt_sv_same]
        have hMI : mIs W m (pB l) (rL l (e + 1) (f - (e + 1))) := by
          refine ⟨?_, ?_, fun k hk => ⟨?_, fun c hc => ?_⟩, fun i hi => ?_⟩
          · rw [Wk _ _ (Or.inr (by decide)), p3 _ _ (by decide), Sk _ _ (Or.inr (by decide)), m3 _ _ (by decide) (by decide)]; exact k5
          · rw [Wk _ _ (Or.inr (by decide)), p3 _ _ (by decide), S10, rL_len]
          · rw [Wk _ _ (Or.inl (by decide)), p3 _ _ (by decide), Sk _ _ (Or.inl (by decide))]; exact (m2 k hk).1
          · rw [Wk _ _ (Or.inl (by decide)), p3 _ _ (by decide), Sk _ _ (Or.inl (by decide))]; exact (m2 k hk).2 c hc
          · rw [rL_len] at hi
            rw [Wk _ _ (Or.inl (by decide)), p2 i hi, rL_get hi]
        have W31 : gt W 0 31 = gt M 0 31 := by
          rw [Wk _ _ (Or.inr (by decide)), p3 _ _ (by decide), Sk _ _ (Or.inr (by decide)), m3 _ _ (by decide) (by decide), gt_sv_j (by decide), f3 _ _ (Or.inr (by decide))]
        rw [shZ.1, hMI.1]
        refine ⟨_, _, _, rfl, rfl, m, pB l, rL l (e + 1) (f - (e + 1)), 0, p + 1, 0, by omega, hok, shZ, rdZ, hMI, ⟨by omega, Z11, W1, fun i hi => absurd hi (Nat.not_lt_zero _)⟩, ⟨Z6, W6⟩, ⟨by omega, Z28, W26, fun i hi => absurd hi (Nat.not_lt_zero _)⟩, Or.inl ⟨Z5, ?_⟩⟩
        rw [W31]
        rcases g8 with ⟨_, a⟩ | ⟨_, a, _⟩
        · omega
        · rw [a, nI_T (by omega)]; omega
