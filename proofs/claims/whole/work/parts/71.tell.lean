theorem i10 : ¬ (1 : Int32) = 0 := by decide
theorem rel_side {n : Nat} {b : Bx} {rs : List Int} {t p s t' p' s' : Nat} {X M X' M' : GS} (h : RelA n b rs t p s X M) (hX : ∀ c j, 3 ≤ c → c < 28 → gt X' c j = gt X c j) (hM : ∀ c j, (c = 2 ∨ c = 3 ∨ c = 4 ∨ (c = 0 ∧ (j = 5 ∨ j = 10))) → gt M' c j = gt M c j) (k5 : txR X' M' t') (k6 : gt X' 0 6 = nI p' ∧ gt M' 0 6 = nI p') (k7 : snR X' 28 M' 14 26 s') (k8 : ktR X' M' p') : RelA n b rs t' p' s' X' M' := by
  obtain ⟨g1, g2, g3, g4, -⟩ := h
  exact ⟨g1, shIs_keep g2 (fun c j q1 q2 => hX _ _ (by omega) (by omega)), reads_keep g3 (fun c j q1 q2 q3 => hX _ _ (by omega) (by omega)), mIs_keep g4 (hM _ _ (by omega)) (hM _ _ (by omega)) (fun c j hc => hM _ _ (by omega)), k5, k6, k7, k8⟩
theorem r_letter : op_letter Rel := by
  intro c X M a _ h
  obtain ⟨n, b, rs, t, p, s, hp, h⟩ := h
  obtain ⟨g1, g2, g3, g4, g5, g6, g7, g8⟩ := id h
  obtain ⟨t1, t2, t3, t4⟩ := g5
  have l126 : (126 : Int32).toInt = 126 := by decide
  unfold f_X7_letter f_X8_letter
  by_cases h1 : 1 ≤ a.toInt ∧ a.toInt ≤ 126
  · rw [if_neg (by rw [lt32, l32_1]; omega), if_pos (by rw [le32, l126]; omega), in_1 (l := 1) (h := 126) (by decide) (by decide) h1, bI1_s, if_neg i10, t2, t3]
    have c54 : (54 : Int32) = nI 54 := rfl
    rcases Nat.lt_or_ge t 54 with q | q
    · have e1 : nI t < 54 := by rw [c54]; exact nI_lt q (by omega)
      have e2 : ¬ (54 : Int32) ≤ nI t := by rw [c54]; exact nI_ge q (by omega)
      have e3 : ¬ nI t = 54 := by rw [c54]; exact fun z => by have := nI_inj (by omega) (by omega) z; omega
      rw [if_pos e1, if_neg e3]
      unfold f_X6_add
      rw [t2, if_neg e2, gd_n q (by omega), gd_n q (by omega), nI_clamp (show t < 2 ^ 31 by omega)]
      refine ⟨nI (t + 1), sv (sv X 2 t a) 1 1 (nI (t + 1)), sv (sv M 1 t a) 0 1 (nI (t + 1)), ?_, ?_, Rel_of hp (rel_side (t' := t + 1) (p' := p) (s' := s) h (fun c j q1 q2 => ?_) (fun c j hc => ?_) ?_ ?_ ?_ ?_)⟩
      · simp only [lt_, bI1_s, gt_sv_same, gt_sv_o (show (1 : Nat) ≠ 2 by decide), t2, nI_p1]
      · simp only [lt_, bI1_s, gt_sv_same, gt_sv_o (show (0 : Nat) ≠ 1 by decide), t3, nI_p1]
      · rw [gt_sv_o (by omega), gt_sv_o (by omega)]
      · have : ∀ (y : GS) v, gt (sv y 0 1 v) c j = gt y c j := fun y v => by
          rcases hc with r | r | r | ⟨r, r2⟩
          · exact gt_sv_o (by omega)
          · exact gt_sv_o (by omega)
          · exact gt_sv_o (by omega)
          · exact gt_sv_j (by omega)
        rw [this, gt_sv_o (by omega)]
      · refine ⟨by omega, gt_sv_same _ _ _ _, gt_sv_same _ _ _ _, fun i hi => ?_⟩
        rw [show gt (sv (sv X 2 t a) 1 1 (nI (t + 1))) 2 i = gt (sv X 2 t a) 2 i from gt_sv_o (by decide), show gt (sv (sv M 1 t a) 0 1 (nI (t + 1))) 1 i = gt (sv M 1 t a) 1 i from gt_sv_o (by decide)]
        by_cases e : i = t
        · subst e; rw [gt_sv_same, gt_sv_same]; exact ⟨rfl, h1⟩
        · rw [gt_sv_j e, gt_sv_j e]; exact t4 i (by omega)
      · refine ⟨?_, ?_⟩
        · rw [gt_sv_o (by decide), gt_sv_o (by decide)]; exact g6.1
        · rw [gt_sv_j (by decide), gt_sv_o (by decide)]; exact g6.2
      · exact snR_keep g7 (fun c j q1 q2 => by rw [gt_sv_o (by omega), gt_sv_o (by omega)]) (fun j => by rw [gt_sv_o (by decide), gt_sv_o (by decide)]) (by rw [gt_sv_j (by decide), gt_sv_o (by decide)])
      · exact ktR_keep g8 (by rw [gt_sv_o (by decide), gt_sv_o (by decide)]) (fun c j q1 q2 => by rw [gt_sv_o (by omega), gt_sv_o (by omega)]) (fun c j q => by rw [gt_sv_o (by omega), gt_sv_o (by omega)]) (fun j hj => by rw [gt_sv_j (by omega), gt_sv_o (by decide)])
    · have e4 : t = 54 := by omega
      subst e4
      rw [if_neg (by decide), if_pos (by decide)]
      exact ⟨_, _, _, rfl, rfl, Rel_of hp h⟩
  · refine ⟨-102, X, M, ?_, ?_, Rel_of hp h⟩
    · by_cases q : a < 1
      · rw [if_pos q]
      · rw [if_neg q, if_neg (by rw [lt32, l32_1] at q; rw [le32, l126]; omega)]
    · rw [in_0 (l := 1) (h := 126) (by decide) (by decide) h1, bI1_s, if_pos rfl]
theorem r_blank : op_blank Rel := by
  intro c X M _ h
  obtain ⟨n, b, rs, t, p, s, hp, h⟩ := h
  obtain ⟨g1, g2, g3, g4, g5, g6, g7, g8⟩ := id h
  obtain ⟨t1, t2, t3, t4⟩ := g5
  unfold f_X7_blank f_X8_blank f_X6_clear
  simp only [lt_, bI1_s, t2, t3]
  refine ⟨_, _, _, rfl, rfl, Rel_of hp (rel_side (t' := 0) (p' := p) (s' := s) h (fun c j q1 q2 => ?_) (fun c j hc => ?_) ?_ ?_ ?_ ?_)⟩
  · rw [gt_sv_o (by omega)]
  · rcases hc with r | r | r | ⟨r, r2⟩
    · exact gt_sv_o (by omega)
    · exact gt_sv_o (by omega)
    · exact gt_sv_o (by omega)
    · exact gt_sv_j (by omega)
  · exact ⟨by omega, gt_sv_same _ _ _ _, gt_sv_same _ _ _ _, fun i hi => absurd hi (Nat.not_lt_zero _)⟩
  · exact ⟨by rw [gt_sv_o (by decide)]; exact g6.1, by rw [gt_sv_j (by decide)]; exact g6.2⟩
  · exact snR_keep g7 (fun c j q1 q2 => by rw [gt_sv_o (by omega)]) (fun j => by rw [gt_sv_o (by decide)]) (by rw [gt_sv_j (by decide)])
  · exact ktR_keep g8 (by rw [gt_sv_o (by decide)]) (fun c j q1 q2 => by rw [gt_sv_o (by omega)]) (fun c j q => by rw [gt_sv_o (by omega)]) (fun j hj => by rw [gt_sv_j (by omega)])
theorem r_forget : op_forget Rel := by
  intro c X M _ h
  obtain ⟨n, b, rs, t, p, s, hp, h⟩ := h
  obtain ⟨g1, g2, g3, g4, g5, g6, g7, g8⟩ := id h
  obtain ⟨t1, t2, t3, t4⟩ := id g7
  unfold f_X7_forget f_X8_forget f_X4_clear
  simp only [lt_, bI1_s, t2, t3]
  refine ⟨_, _, _, rfl, rfl, Rel_of hp (rel_side (t' := t) (p' := p) (s' := 0) h (fun c j q1 q2 => ?_) (fun c j hc => ?_) ?_ ?_ ?_ ?_)⟩
  · rw [gt_sv_o (by omega)]
  · rcases hc with r | r | r | ⟨r, r2⟩
    · exact gt_sv_o (by omega)
    · exact gt_sv_o (by omega)
    · exact gt_sv_o (by omega)
    · exact gt_sv_j (by omega)
  · exact txR_keep g5 (fun c j hc => by rw [gt_sv_o (by omega)]) (fun j => by rw [gt_sv_o (by decide)]) (by rw [gt_sv_j (by decide)])
  · exact ⟨by rw [gt_sv_o (by decide)]; exact g6.1, by rw [gt_sv_j (by decide)]; exact g6.2⟩
  · exact ⟨by omega, gt_sv_same _ _ _ _, gt_sv_same _ _ _ _, fun i hi => absurd hi (Nat.not_lt_zero _)⟩
  · exact ktR_keep g8 (by rw [gt_sv_o (by decide)]) (fun c j q1 q2 => by rw [gt_sv_o (by omega)]) (fun c j q => by rw [gt_sv_o (by omega)]) (fun j hj => by rw [gt_sv_j (by omega)])
theorem k_so : ∀ w : Fin 4, f_X4_kindsSo (nI w.val) = some (soK w.val) := by decide +kernel
theorem k_by : ∀ w : Fin 4, f_X8_sortsBy (nI w.val) = some (soK w.val) := by decide +kernel
theorem k_not : ∀ w : Fin 4, 31 &&& (soK w.val ^^^ (-1)) = 31 - soK w.val := by decide +kernel
theorem kso {w : Nat} (h : w < 4) : f_X4_kindsSo (nI w) = some (soK w) := k_so ⟨w, h⟩
theorem kby {w : Nat} (h : w < 4) : f_X8_sortsBy (nI w) = some (soK w) := k_by ⟨w, h⟩
theorem knot {w : Nat} (h : w < 4) : 31 &&& (soK w ^^^ (-1)) = 31 - soK w := k_not ⟨w, h⟩
theorem n3 (k : Nat) : (3 : Int32) * nI k = nI (3 * k) := pk_mul 3 k
theorem n3_1 (k : Nat) : nI (3 * k) + 1 = nI (3 * k + 1) := nI_add _ 1
theorem n3_2 (k : Nat) : nI (3 * k) + 2 = nI (3 * k + 2) := nI_add _ 2
theorem n3_3 (k : Nat) : nI (3 * k) + 3 = nI (3 * (k + 1)) := nI_add _ 3
theorem r_see : op_see Rel := by
  intro c X M a1 a2 a3 _ h3 h
  obtain ⟨n, b, rs, t, p, s, hp, h⟩ := h
  obtain ⟨g1, g2, g3, g4, g5, g6, g7, g8⟩ := id h
  obtain ⟨t1, t2, t3, t4⟩ := id g7
  unfold f_X7_see f_X8_see
  rcases box_or g2.1 g4.1 g1.1 a1 with ⟨k, hk, rfl, e1, e2⟩ | ⟨e1, e2⟩
  · rw [e1, e2, bI1_s, bI1_s, if_neg i10, if_neg i10]
    by_cases h2 : 0 ≤ a2.toInt ∧ a2.toInt ≤ 3
    · obtain ⟨w, hw, rfl⟩ := n_of (n := 4) h2.1 (by omega)
      rw [if_neg (nI_pos (by omega)), if_pos (show nI w < 4 from nI_lt (b := 4) hw (by omega)), in_1 (l := 0) (h := 3) (by decide) (by decide) h2, bI1_s, if_neg i10, t2, t3]
      rcases Nat.lt_or_ge s 6 with q | q
      · have e3 : ¬ nI s = 6 := fun z => by have := nI_inj (b := 6) (by omega) (by omega) z; omega
        rw [if_pos (show nI s < 6 from nI_lt (b := 6) q (by omega)), if_neg e3]
        unfold f_X4_add
        have ev : ∃ v : Int32, (if a3 = 0 then bI1 (f_X4_kindsSo (nI w)) (fun r6 => some (31 &&& (r6 ^^^ (-1)))) else bI1 (f_X4_kindsSo (nI w)) (fun r7 => some r7)) = some v ∧ ((a3 = 1 ∧ v = soK w) ∨ (a3 = 0 ∧ v = 31 - soK w)) := by
          rcases h3 with rfl | rfl
          · exact ⟨_, by rw [if_pos rfl, kso hw, bI1_s], Or.inr ⟨rfl, knot hw⟩⟩
          · exact ⟨_, by rw [if_neg i10, kso hw, bI1_s], Or.inl ⟨rfl, rfl⟩⟩
        obtain ⟨v, ev1, ev2⟩ := ev
        have e11 : (if a3 = 0 then some (0 : Int32) else some 1) = some a3 := by
          rcases h3 with rfl | rfl
          · rfl
          · rfl
        rw [ev1, e11, t2, if_neg (show ¬ (6 : Int32) ≤ nI s from nI_ge (b := 6) q (by omega))]
        have gs : ∀ {β : Type} (z : Option β), gd (nI s) 6 z = z := fun z => gd_n q (by omega)
        have g0 : ∀ {β : Type} (z : Option β), gd (nI (3 * s)) 18 z = z := fun z => gd_n (by omega) (by omega)
        have g1' : ∀ {β : Type} (z : Option β), gd (nI (3 * s + 1)) 18 z = z := fun z => gd_n (by omega) (by omega)
        have g2' : ∀ {β : Type} (z : Option β), gd (nI (3 * s + 2)) 18 z = z := fun z => gd_n (by omega) (by omega)
        have c0 : (nI s).toNatClampNeg = s := nI_clamp (by omega)
        have c1 : (nI (3 * s)).toNatClampNeg = 3 * s := nI_clamp (by omega)
        have c2 : (nI (3 * s + 1)).toNatClampNeg = 3 * s + 1 := nI_clamp (by omega)
        have c3 : (nI (3 * s + 2)).toNatClampNeg = 3 * s + 2 := nI_clamp (by omega)
        have u1 : ∀ (x : GS) j v i, gt (sv x (28 + 1) j v) 28 i = gt x 28 i := fun x j v i => gt_sv_o (by decide)
        have u2 : ∀ (x : GS) j v i, gt (sv x (28 + 2) j v) 28 i = gt x 28 i := fun x j v i => gt_sv_o (by decide)
        have u3 : ∀ (x : GS) j v i, gt (sv x 14 j v) 0 i = gt x 0 i := fun x j v i => gt_sv_o (by decide)
        refine ⟨nI (s + 1), sv (sv (sv X 29 s (nI k)) 30 s v) 28 2 (nI (s + 1)), sv (sv (sv (sv M 14 (3 * s) (nI k)) 14 (3 * s + 1) (nI w)) 14 (3 * s + 2) a3) 0 26 (nI (s + 1)), ?_, ?_, Rel_of hp (rel_side (t' := t) (p' := p) (s' := s + 1) h (fun c j q1 q2 => ?_) (fun c j hc => ?_) ?_ ?_ ?_ ?_)⟩
        · simp only [lt_, bI1_s, gs, c0, u1, u2, t2, gt_sv_same, nI_p1]
        · simp only [lt_, bI1_s, n3, n3_1, n3_2, g0, g1', g2', c1, c2, c3, u3, t3, gt_sv_same, nI_p1]
        · rw [gt_sv_o (by omega), gt_sv_o (by omega), gt_sv_o (by omega)]
        · have : ∀ (y : GS) v, gt (sv y 0 26 v) c j = gt y c j := fun y v => by
            rcases hc with r | r | r | ⟨r, r2⟩
            · exact gt_sv_o (by omega)
            · exact gt_sv_o (by omega)
            · exact gt_sv_o (by omega)
            · exact gt_sv_j (by omega)
          rw [this, gt_sv_o (by omega), gt_sv_o (by omega), gt_sv_o (by omega)]
        · exact txR_keep g5 (fun c j hc => by rw [gt_sv_o (by omega), gt_sv_o (by omega), gt_sv_o (by omega)]) (fun j => by rw [gt_sv_o (by decide), gt_sv_o (by decide), gt_sv_o (by decide), gt_sv_o (by decide)]) (by rw [gt_sv_j (by decide), gt_sv_o (by decide), gt_sv_o (by decide), gt_sv_o (by decide)])
        · exact ⟨by rw [gt_sv_o (by decide), gt_sv_o (by decide), gt_sv_o (by decide)]; exact g6.1, by rw [gt_sv_j (by decide), gt_sv_o (by decide), gt_sv_o (by decide), gt_sv_o (by decide)]; exact g6.2⟩
        · refine ⟨by omega, gt_sv_same _ _ _ _, gt_sv_same _ _ _ _, fun i hi => ?_⟩
          by_cases e : i = s
          · subst e
            have y1 : gt (sv (sv (sv X 29 i (nI k)) 30 i v) 28 2 (nI (i + 1))) 29 i = nI k := by rw [gt_sv_o (by decide), gt_sv_o (by decide), gt_sv_same]
            have y2 : gt (sv (sv (sv X 29 i (nI k)) 30 i v) 28 2 (nI (i + 1))) 30 i = v := by rw [gt_sv_o (by decide), gt_sv_same]
            have y3 : gt (sv (sv (sv (sv M 14 (3 * i) (nI k)) 14 (3 * i + 1) (nI w)) 14 (3 * i + 2) a3) 0 26 (nI (i + 1))) 14 (3 * i) = nI k := by rw [gt_sv_o (by decide), gt_sv_j (by omega), gt_sv_j (by omega), gt_sv_same]
            have y4 : gt (sv (sv (sv (sv M 14 (3 * i) (nI k)) 14 (3 * i + 1) (nI w)) 14 (3 * i + 2) a3) 0 26 (nI (i + 1))) 14 (3 * i + 1) = nI w := by rw [gt_sv_o (by decide), gt_sv_j (by omega), gt_sv_same]
            have y5 : gt (sv (sv (sv (sv M 14 (3 * i) (nI k)) 14 (3 * i + 1) (nI w)) 14 (3 * i + 2) a3) 0 26 (nI (i + 1))) 14 (3 * i + 2) = a3 := by rw [gt_sv_o (by decide), gt_sv_same]
            rw [show (28 : Nat) + 1 = 29 from rfl, show (28 : Nat) + 2 = 30 from rfl, y1, y2, y3, y4, y5]
            exact ⟨rfl, w, hw, rfl, ev2⟩
          · rw [gt_sv_o (by decide), gt_sv_o (by decide), gt_sv_j e, gt_sv_o (by decide), gt_sv_j (by omega), gt_sv_j (by omega), gt_sv_j (by omega), gt_sv_o (by decide), gt_sv_j (by omega), gt_sv_j (by omega), gt_sv_j (by omega), gt_sv_o (by decide), gt_sv_j (by omega), gt_sv_j (by omega), gt_sv_j (by omega), gt_sv_o (by decide), gt_sv_j e, gt_sv_o (by decide)]
            exact t4 i (by omega)
        · exact ktR_keep g8 (by rw [gt_sv_o (by decide), gt_sv_o (by decide), gt_sv_o (by decide)]) (fun c j q1 q2 => by rw [gt_sv_o (by omega), gt_sv_o (by omega), gt_sv_o (by omega)]) (fun c j q => by rw [gt_sv_o (by omega), gt_sv_o (by omega), gt_sv_o (by omega), gt_sv_o (by omega)]) (fun j hj => by rw [gt_sv_j (by omega), gt_sv_o (by decide), gt_sv_o (by decide), gt_sv_o (by decide)])
      · have e4 : s = 6 := by omega
        subst e4
        rw [if_neg (by decide), if_pos (by decide)]
        exact ⟨_, _, _, rfl, rfl, Rel_of hp h⟩
    · refine ⟨-102, X, M, ?_, ?_, Rel_of hp h⟩
      · by_cases q : a2 < 0
        · rw [if_pos q]
        · rw [if_neg q, if_neg (by rw [lt32, l32_0] at q; rw [lt32, l32_4]; omega)]
      · rw [in_0 (l := 0) (h := 3) (by decide) (by decide) h2, bI1_s, if_pos rfl]
  · rw [e1, e2, bI1_s, bI1_s, if_pos rfl, if_pos rfl]
    exact ⟨_, _, _, rfl, rfl, Rel_of hp h⟩
