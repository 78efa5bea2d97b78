theorem mW_keep {c j : Nat} {M M' : GS} (h : ∀ c j, c ≠ 2 → c ≠ 3 → (c ≠ 0 ∨ j ≠ 5) → gt M' c j = gt M c j) : mW c j → c ≠ 2 → c ≠ 3 → c ≠ 4 → (c ≠ 0 ∨ (j ≠ 5 ∧ j ≠ 10)) → gt M' c j = gt M c j := fun _ a1 a2 _ a4 => h c j a1 a2 (by omega)
theorem r_put : op_put Rel := by
  intro c X M a1 a2 _ h
  obtain ⟨n, b, rs, t, p, s, hp, h⟩ := h
  obtain ⟨g1, g2, g3, g4, g5, g6, g7, g8⟩ := id h
  have hn := g1.1
  have l900 : (900 : Int32).toInt = 900 := by decide
  unfold f_X7_put f_X8_put
  by_cases h1 : 0 ≤ a1.toInt ∧ a1.toInt ≤ 900
  · rw [if_neg (by rw [lt32, l32_0]; omega), if_neg (by rw [lt32, l900]; omega), in_1 (l := 0) (h := 900) (by decide) (by decide) h1, bI1_s, if_neg i10]
    by_cases h2 : 0 ≤ a2.toInt ∧ a2.toInt ≤ 900
    · rw [if_neg (by rw [lt32, l32_0]; omega), if_pos (by rw [le32, l900]; omega), in_1 (l := 0) (h := 900) (by decide) (by decide) h2, bI1_s, if_neg i10]
      rcases page_or g2.1 g4.1 hn with ⟨_, e1, e2⟩ | ⟨h0, e1, e2⟩
      · rw [e1, e2, bI1_s, bI1_s, if_neg i10, if_neg i10]
        exact ⟨_, _, _, rfl, rfl, Rel_of hp h⟩
      · rw [e1, e2, bI1_s, bI1_s, if_pos rfl, if_pos rfl, g2.1, g4.1]
        rcases Nat.lt_or_ge n 8 with q | q
        · have e3 : ¬ nI n = 8 := fun z => by have := nI_inj (b := 8) (by omega) (by omega) z; omega
          rw [if_pos (show nI n < 8 from nI_lt (b := 8) q (by omega)), if_neg e3]
          have ad1 : (a1 + 2).toInt = a1.toInt + 2 := by rw [add32 (by rw [l32_2]; omega) (by rw [l32_2]; omega), l32_2]
          have ad2 : (a2 + 2).toInt = a2.toInt + 2 := by rw [add32 (by rw [l32_2]; omega) (by rw [l32_2]; omega), l32_2]
          have hb' : ∀ k, k = n → bAdd b n (v5 0 a1 a2 (a1 + 2) (a2 + 2)) k 0 = 0 ∧ bAdd b n (v5 0 a1 a2 (a1 + 2) (a2 + 2)) k 1 = a1.toInt ∧ bAdd b n (v5 0 a1 a2 (a1 + 2) (a2 + 2)) k 2 = a2.toInt ∧ bAdd b n (v5 0 a1 a2 (a1 + 2) (a2 + 2)) k 3 = a1.toInt + 2 ∧ bAdd b n (v5 0 a1 a2 (a1 + 2) (a2 + 2)) k 4 = a2.toInt + 2 := fun k hk => by
            unfold bAdd
            rw [if_pos hk, if_pos hk, if_pos hk, if_pos hk, if_pos hk]
            exact ⟨l32_0, rfl, rfl, ad1, ad2⟩
          have hb2 : ∀ k c, k ≠ n → bAdd b n (v5 0 a1 a2 (a1 + 2) (a2 + 2)) k c = b k c := fun k c hk => by unfold bAdd; rw [if_neg hk]
          have hok : okC (n + 1) (bAdd b n (v5 0 a1 a2 (a1 + 2) (a2 + 2))) rs := by
            refine ⟨by omega, g1.2.1, g1.2.2.1, fun k hk => ?_⟩
            by_cases e : k = n
            · obtain ⟨z0, z1, z2, z3, z4⟩ := hb' k e
              rw [z0, z1, z2, z3, z4]; omega
            · rw [hb2 k _ e, hb2 k _ e, hb2 k _ e, hb2 k _ e, hb2 k _ e]
              exact g1.2.2.2 k (by omega)
          obtain ⟨X2, x1, x2, x3, x4, x5⟩ := x_add g2 q 0 a1 a2 (a1 + 2) (a2 + 2)
          rw [x1, bI1_s]
          -- the model
          have g0 : ∀ {β : Type} (z : Option β), gd (nI n) 8 z = z := fun z => gd_n q (by omega)
          have g40 : ∀ {β : Type} (z : Option β), gd (nI (4 * n)) 32 z = z := fun z => gd_n (by omega) (by omega)
          have g41 : ∀ {β : Type} (z : Option β), gd (nI (4 * n + 1)) 32 z = z := fun z => gd_n (by omega) (by omega)
          have g42 : ∀ {β : Type} (z : Option β), gd (nI (4 * n + 2)) 32 z = z := fun z => gd_n (by omega) (by omega)
          have g43 : ∀ {β : Type} (z : Option β), gd (nI (4 * n + 3)) 32 z = z := fun z => gd_n (by omega) (by omega)
          have c : (nI n).toNatClampNeg = n := nI_clamp (by omega)
          have c0 : (nI (4 * n)).toNatClampNeg = 4 * n := nI_clamp (by omega)
          have c1 : (nI (4 * n + 1)).toNatClampNeg = 4 * n + 1 := nI_clamp (by omega)
          have c2 : (nI (4 * n + 2)).toNatClampNeg = 4 * n + 2 := nI_clamp (by omega)
          have c3 : (nI (4 * n + 3)).toNatClampNeg = 4 * n + 3 := nI_clamp (by omega)
          have q1 : nI (4 * n) + 1 = nI (4 * n + 1) := nI_add _ 1
          have q2 : nI (4 * n) + 2 = nI (4 * n + 2) := nI_add _ 2
          have q3 : nI (4 * n) + 3 = nI (4 * n + 3) := nI_add _ 3
          have u2 : ∀ (x : GS) j v i, gt (sv x 2 j v) 0 i = gt x 0 i := fun x j v i => gt_sv_o (by decide)
          have u3 : ∀ (x : GS) j v i, gt (sv x 3 j v) 0 i = gt x 0 i := fun x j v i => gt_sv_o (by decide)
          simp only [lt_, u2, u3, g4.1, n4, q1, q2, q3, g0, g40, g41, g42, g43, c, c0, c1, c2, c3, nI_p1, gt_sv_same]
          generalize hY : sv (sv (sv (sv (sv (sv M 2 n 0) 3 (4 * n) a1) 3 (4 * n + 1) a2) 3 (4 * n + 2) (a1 + 2)) 3 (4 * n + 3) (a2 + 2)) 0 5 (nI (n + 1)) = Y
          have y5 : gt Y 0 5 = nI (n + 1) := by rw [← hY, gt_sv_same]
          have yk : ∀ c j, c ≠ 2 → c ≠ 3 → (c ≠ 0 ∨ j ≠ 5) → gt Y c j = gt M c j := fun c j a1 a2 a3 => by
            rw [← hY]
            have : ∀ (y : GS) v, gt (sv y 0 5 v) c j = gt y c j := fun y v => by
              rcases a3 with r | r
              · exact gt_sv_o r
              · exact gt_sv_j r
            rw [this, gt_sv_o a2, gt_sv_o a2, gt_sv_o a2, gt_sv_o a2, gt_sv_o a1]
          have y2 : ∀ k, gt Y 2 k = if k = n then 0 else gt M 2 k := fun k => by
            rw [← hY, gt_sv_o (by decide), gt_sv_o (by decide), gt_sv_o (by decide), gt_sv_o (by decide), gt_sv_o (by decide)]
            by_cases e : k = n
            · subst e; rw [gt_sv_same, if_pos rfl]
            · rw [gt_sv_j e, if_neg e]
          have y3 : ∀ j, j < 4 * n → gt Y 3 j = gt M 3 j := fun j hj => by
            rw [← hY, gt_sv_o (by decide), gt_sv_j (by omega), gt_sv_j (by omega), gt_sv_j (by omega), gt_sv_j (by omega), gt_sv_o (by decide)]
          have y40 : gt Y 3 (4 * n) = a1 := by rw [← hY, gt_sv_o (by decide), gt_sv_j (by omega), gt_sv_j (by omega), gt_sv_j (by omega), gt_sv_same]
          have y41 : gt Y 3 (4 * n + 1) = a2 := by rw [← hY, gt_sv_o (by decide), gt_sv_j (by omega), gt_sv_j (by omega), gt_sv_same]
          have y42 : gt Y 3 (4 * n + 2) = a1 + 2 := by rw [← hY, gt_sv_o (by decide), gt_sv_j (by omega), gt_sv_same]
          have y43 : gt Y 3 (4 * n + 3) = a2 + 2 := by rw [← hY, gt_sv_o (by decide), gt_sv_same]
          have hMI : mIs Y (n + 1) (bAdd b n (v5 0 a1 a2 (a1 + 2) (a2 + 2))) rs := by
            refine ⟨y5, by rw [yk _ _ (by decide) (by decide) (Or.inr (by decide))]; exact g4.2.1, fun k hk => ?_, fun i hi => by rw [yk _ _ (by decide) (by decide) (Or.inl (by decide))]; exact g4.2.2.2 i hi⟩
            by_cases e : k = n
            · obtain ⟨z0, z1, z2, z3, z4⟩ := hb' k e
              subst e
              refine ⟨by rw [y2, if_pos rfl, z0]; exact l32_0, fun c hc => ?_⟩
              match c, hc with
              | 0, _ => rw [Nat.add_zero, y40]; exact z1.symm
              | 1, _ => rw [y41]; exact z2.symm
              | 2, _ => rw [y42, ad1]; exact z3.symm
              | 3, _ => rw [y43, ad2]; exact z4.symm
            · rw [hb2 k _ e, y2, if_neg e]
              refine ⟨g4.c0 (by omega), fun c hc => ?_⟩
              rw [hb2 k _ e, y3 _ (by omega)]
              exact (g4.2.2.1 k (by omega)).2 c hc
          obtain ⟨X3, r1, r2⟩ := rel_upd h hok x2 (fun c j hc => by
            rcases hc with hc | hc
            · exact x5 c j (by omega)
            · exact x5 c j (by omega)) hMI (fun c j => mW_keep yk)
          rw [r1, bI1_s, r2.2.1.1]
          exact ⟨_, _, _, rfl, rfl, Rel_of hp r2⟩
        · have e4 : n = 8 := by omega
          subst e4
          rw [if_neg (by decide), if_pos (by decide)]
          exact ⟨_, _, _, rfl, rfl, Rel_of hp h⟩
    · refine ⟨-102, X, M, ?_, ?_, Rel_of hp h⟩
      · by_cases q : a2 < 0
        · rw [if_pos q]
        · rw [if_neg q, if_neg (by rw [lt32, l32_0] at q; rw [le32, l900]; omega)]
      · rw [in_0 (l := 0) (h := 900) (by decide) (by decide) h2, bI1_s, if_pos rfl]
  · refine ⟨-102, X, M, ?_, ?_, Rel_of hp h⟩
    · by_cases q : a1 < 0
      · rw [if_pos q]
      · rw [if_neg q, if_pos (by rw [lt32, l32_0] at q; rw [lt32, l900]; omega)]
    · rw [in_0 (l := 0) (h := 900) (by decide) (by decide) h1, bI1_s, if_pos rfl]
/-- the page of the model without a box -/
theorem m_take4 {st : GS} {i : Nat} (hi : i < 7) : ok (lpx (uc2 (f_X8_take_L58 (nI i))) (0, st)) (fun s => (∀ j, gt s 3 j = if 4 * i ≤ j ∧ j < 4 * i + 4 then gt st 3 (j + 4) else gt st 3 j) ∧ gl s = gl st ∧ ∀ c j, c ≠ 3 → gt s c j = gt st c j) := by
  refine ok_for 4 (fun m z => z.1 = nI m ∧ (∀ j, gt z.2 3 j = if 4 * i ≤ j ∧ j < 4 * i + m then gt st 3 (j + 4) else gt st 3 j) ∧ gl z.2 = gl st ∧ ∀ c j, c ≠ 3 → gt z.2 c j = gt st c j) _ ?_ ?_ 0 _ (Nat.zero_le _) ⟨rfl, fun j => by rw [if_neg (by omega)], rfl, fun c j _ => rfl⟩
  · rintro m ⟨z, s⟩ hm ⟨k1, k2, k3, k4⟩
    simp only at k1 k2 k3 k4
    subst k1
    show ok (f_X8_take_L58 (nI i) (nI m) s) _
    unfold f_X8_take_L58
    have q4 : nI (4 * i) + 4 = nI (4 * i + 4) := nI_add _ 4
    rw [if_neg (show ¬ (4 : Int32) ≤ nI m from nI_ge (b := 4) hm (by omega)), n4, q4, nadd, nadd, gd_n (show 4 * i + 4 + m < 32 by omega) (by omega), gd_n (show 4 * i + m < 32 by omega) (by omega), nI_clamp (show 4 * i + 4 + m < 2 ^ 31 by omega), nI_clamp (show 4 * i + m < 2 ^ 31 by omega)]
    refine ok_lt (ok_lt (ok_some (Or.inl ⟨_, rfl, nI_p1 m, fun j => ?_, k3, fun c j hc => ?_⟩)))
    · show gt (sv s 3 (4 * i + m) (gt s 3 (4 * i + 4 + m))) 3 j = _
      by_cases e : j = 4 * i + m
      · subst e
        rw [gt_sv_same, k2, if_neg (by omega), if_pos (by omega)]
        congr 1; omega
      · rw [gt_sv_j e, k2]
        by_cases e2 : 4 * i ≤ j ∧ j < 4 * i + m
        · rw [if_pos e2, if_pos (by omega)]
        · rw [if_neg e2, if_neg (by omega)]
    · show gt (sv s 3 (4 * i + m) (gt s 3 (4 * i + 4 + m))) c j = _
      rw [gt_sv_o hc]; exact k4 c j hc
  · rintro ⟨z, s⟩ ⟨k1, k2, k3, k4⟩
    simp only at k1 k2 k3 k4
    subst k1
    show ok (f_X8_take_L58 (nI i) (nI 4) s) _
    unfold f_X8_take_L58
    rw [if_pos (by decide)]
    exact ok_some ⟨_, rfl, k2, k3, k4⟩
theorem r_take : op_take Rel := by
  intro c X M a1 _ h
  obtain ⟨n, b, rs, t, p, s, hp, h⟩ := h
  obtain ⟨g1, g2, g3, g4, g5, g6, g7, g8⟩ := id h
  have hn := g1.1
  unfold f_X7_take f_X8_take
  rcases box_or g2.1 g4.1 g1.1 a1 with ⟨k, hk, rfl, e1, e2⟩ | ⟨e1, e2⟩
  · rw [e1, e2, bI1_s, bI1_s, if_neg i10, if_neg i10, g2.1, g4.1]
    by_cases h1 : n = 1
    · subst h1
      rw [if_pos (by decide), if_pos (by decide)]
      exact ⟨_, _, _, rfl, rfl, Rel_of hp h⟩
    · have e3 : ¬ nI n = 1 := fun z => h1 (nI_inj (b := 1) (by omega) (by omega) z)
      rw [if_neg e3, if_neg e3]
      obtain ⟨X2, x1, x2, x3⟩ := x_remove g2 hn hk
      rw [x1, bI1_s]
      have e4 : nI n - 1 = nI (n - 1) := by
        obtain ⟨m, rfl⟩ : ∃ m, n = m + 1 := ⟨n - 1, by omega⟩
        rw [nI_pred]; rfl
      rw [e4]
      generalize hM0 : sv M 0 5 (nI (n - 1)) = M0
      have m5 : gt M0 0 5 = nI (n - 1) := by rw [← hM0, gt_sv_same]
      have m6 : ∀ c j, (c ≠ 0 ∨ j ≠ 5) → gt M0 c j = gt M c j := fun c j hc => by
        rw [← hM0]
        rcases hc with r | r
        · exact gt_sv_o r
        · exact gt_sv_j r
      have hloop : ok (lpx (uc2 f_X8_take_L34) (nI k, M0)) (fun Y => (∀ j, j < n - 1 → gt Y 2 j = gt M 2 (upk k j) ∧ ∀ c, c < 4 → gt Y 3 (4 * j + c) = gt M 3 (4 * upk k j + c)) ∧ ∀ c j, c ≠ 2 → c ≠ 3 → gt Y c j = gt M0 c j) := by
        refine ok_for (n - 1) (fun i z => k ≤ i ∧ z.1 = nI i ∧ (∀ j, gt z.2 2 j = gt M 2 (if k ≤ j ∧ j < i then j + 1 else j)) ∧ (∀ j, gt z.2 3 j = gt M 3 (if 4 * k ≤ j ∧ j < 4 * i then j + 4 else j)) ∧ ∀ c j, c ≠ 2 → c ≠ 3 → gt z.2 c j = gt M0 c j) _ ?_ ?_ k _ (by omega) ⟨Nat.le_refl _, rfl, fun j => by rw [if_neg (by omega)]; exact m6 _ _ (Or.inl (by decide)), fun j => by rw [if_neg (by omega)]; exact m6 _ _ (Or.inl (by decide)), fun c j _ _ => rfl⟩
        · rintro i ⟨z, s⟩ hi ⟨k0, k1, k2, k3, k4⟩
          simp only at k0 k1 k2 k3 k4
          subst k1
          show ok (f_X8_take_L34 (nI i) s) _
          unfold f_X8_take_L34
          rw [k4 _ _ (by decide) (by decide), m5, if_neg (nI_ge hi (by omega)), nI_p1, gd_n (show i + 1 < 8 by omega) (by omega), gd_n (show i < 8 by omega) (by omega), nI_clamp (show i < 2 ^ 31 by omega), nI_clamp (show i + 1 < 2 ^ 31 by omega)]
          refine ok_lt ?_
          refine ok_bI1 (m_take4 (by omega)) ?_
          rintro s2 ⟨y1, y2, y3⟩
          refine ok_lt (ok_some (Or.inl ⟨_, rfl, by omega, rfl, fun j => ?_, fun j => ?_, fun c j c2 c3 => ?_⟩))
          · show gt s2 2 j = _
            rw [y3 _ _ (by decide)]
            by_cases e : j = i
            · subst e
              rw [gt_sv_same, k2, if_neg (by omega), if_pos (by omega)]
            · rw [gt_sv_j e, k2]
              by_cases e2 : k ≤ j ∧ j < i
              · rw [if_pos e2, if_pos (by omega)]
              · rw [if_neg e2, if_neg (by omega)]
          · show gt s2 3 j = _
            rw [y1]
            by_cases e : 4 * i ≤ j ∧ j < 4 * i + 4
            · rw [if_pos e, gt_sv_o (by decide), k3, if_neg (by omega), if_pos (by omega)]
            · rw [if_neg e, gt_sv_o (by decide), k3]
              by_cases e2 : 4 * k ≤ j ∧ j < 4 * i
              · rw [if_pos e2, if_pos (by omega)]
              · rw [if_neg e2, if_neg (by omega)]
          · show gt s2 c j = _
            rw [y3 _ _ c3, gt_sv_o c2]; exact k4 c j c2 c3
        · rintro ⟨z, s⟩ ⟨k0, k1, k2, k3, k4⟩
          simp only at k0 k1 k2 k3 k4
          subst k1
          show ok (f_X8_take_L34 (nI (n - 1)) s) _
          unfold f_X8_take_L34
          rw [k4 _ _ (by decide) (by decide), m5, if_pos (nI_le (Nat.le_refl _) (by omega))]
          refine ok_some ⟨_, rfl, fun j hj => ⟨?_, fun c hc => ?_⟩, k4⟩
          · rw [k2]; congr 1; unfold upk
            by_cases e : j < k
            · rw [if_pos e, if_neg (by omega)]
            · rw [if_neg e, if_pos (by omega)]
          · rw [k3]; congr 1; unfold upk
            by_cases e : j < k
            · rw [if_pos e, if_neg (by omega)]
            · rw [if_neg e, if_pos (by omega)]; omega
      obtain ⟨Y, y1, y2, y3⟩ := hloop
      have hup : ∀ j, j < n - 1 → upk k j < n := fun j hj => by unfold upk; split <;> omega
      have hMI : mIs Y (n - 1) (ren b (upk k)) rs := by
        refine ⟨by rw [y3 _ _ (by decide) (by decide)]; exact m5, by rw [y3 _ _ (by decide) (by decide), m6 _ _ (by decide)]; exact g4.2.1, fun j hj => ⟨?_, fun c hc => ?_⟩, fun i hi => by rw [y3 _ _ (by decide) (by decide), m6 _ _ (Or.inl (by decide))]; exact g4.2.2.2 i hi⟩
        · rw [(y2 j hj).1]; exact g4.c0 (hup j hj)
        · rw [(y2 j hj).2 c hc]; exact (g4.2.2.1 _ (hup j hj)).2 c hc
      obtain ⟨X3, r1, r2⟩ := rel_upd h (n' := n - 1) (b' := ren b (upk k)) ⟨by omega, g1.2.1, g1.2.2.1, fun j hj => g1.2.2.2 _ (hup j hj)⟩ x2 (fun c j hc => x3 c j (by omega)) hMI (fun c j => mW_keep (fun c j a1 a2 a3 => by rw [y3 c j a1 a2]; exact m6 c j a3))
      rw [r1, bI1_s, r2.2.1.1]
      simp only [lt_]
      rw [y1, bI1_s, hMI.1]
      exact ⟨_, _, _, rfl, rfl, Rel_of hp r2⟩
  · rw [e1, e2, bI1_s, bI1_s, if_pos rfl, if_pos rfl]
    exact ⟨_, _, _, rfl, rfl, Rel_of hp h⟩
theorem bSh_v (b : Bx) (k : Nat) (dx dy : Int) : bSh b k dx dy k 0 = b k 0 ∧ bSh b k dx dy k 1 = b k 1 + dx ∧ bSh b k dx dy k 2 = b k 2 + dy ∧ bSh b k dx dy k 3 = b k 3 + dx ∧ bSh b k dx dy k 4 = b k 4 + dy := by
  refine ⟨?_, ?_, ?_, ?_, ?_⟩ <;> simp [bSh]
theorem bSh_n {b : Bx} {j k c : Nat} {dx dy : Int} (h : j ≠ k) : bSh b k dx dy j c = b j c := by
  unfold bSh; rw [if_neg h]
theorem r_move : op_move Rel := by
  intro c X M a1 a2 a3 _ h
  obtain ⟨n, b, rs, t, p, s, hp, h⟩ := h
  obtain ⟨g1, g2, g3, g4, g5, g6, g7, g8⟩ := id h
  have hn := g1.1
  have l9 : (-9 : Int32).toInt = -9 := by decide
  have l999 : (999 : Int32).toInt = 999 := by decide
  unfold f_X7_move f_X8_move f_X7_isStep
  rcases box_or g2.1 g4.1 g1.1 a1 with ⟨k, hk, rfl, e1, e2⟩ | ⟨e1, e2⟩
  · rw [e1, e2, bI1_s, bI1_s, if_neg i10, if_neg i10]
    by_cases h2 : -9 ≤ a2.toInt ∧ a2.toInt ≤ 9
    · rw [in_1 (l := -9) (h := 9) (by decide) (by decide) h2, bI1_s, if_neg (show ¬ (1 : Int32) = 0 by decide), if_neg (show ¬ a2 < -9 by rw [lt32, l9]; omega), if_neg (show ¬ 9 < a2 by rw [lt32, l32_9]; omega), bI1_s, if_neg (show ¬ (1 : Int32) = 0 by decide)]
      by_cases h3 : -9 ≤ a3.toInt ∧ a3.toInt ≤ 9
      · rw [in_1 (l := -9) (h := 9) (by decide) (by decide) h3, bI1_s, if_neg (show ¬ (1 : Int32) = 0 by decide), if_neg (show ¬ a3 < -9 by rw [lt32, l9]; omega), if_neg (show ¬ 9 < a3 by rw [lt32, l32_9]; omega), bI1_s, if_neg (show ¬ (1 : Int32) = 0 by decide)]
        unfold f_X5_staysInside
        obtain ⟨_, p1, p2⟩ := g1.2.2.2 k hk
        have x1 : (gt X 6 k).toInt = b k 1 := g2.c1 hk
        have x2 : (gt X 7 k).toInt = b k 2 := g2.c2 hk
        have x3 : (gt X 8 k).toInt = b k 3 := g2.c3 hk
        have x4 : (gt X 9 k).toInt = b k 4 := g2.c4 hk
        obtain ⟨-, e5⟩ := g4.2.2.1 k hk
        have m1 : (gt M 3 (4 * k)).toInt = b k 1 := e5 0 (by decide)
        have m2 : (gt M 3 (4 * k + 1)).toInt = b k 2 := e5 1 (by decide)
        have m3 : (gt M 3 (4 * k + 2)).toInt = b k 3 := e5 2 (by decide)
        have m4 : (gt M 3 (4 * k + 3)).toInt = b k 4 := e5 3 (by decide)
        have g8' : ∀ {β : Type} (z : Option β), gd (nI k) 8 z = z := fun z => gd_n (by omega) (by omega)
        have g0 : ∀ {β : Type} (z : Option β), gd (nI (4 * k)) 32 z = z := fun z => gd_n (by omega) (by omega)
        have g1' : ∀ {β : Type} (z : Option β), gd (nI (4 * k + 1)) 32 z = z := fun z => gd_n (by omega) (by omega)
        have g2' : ∀ {β : Type} (z : Option β), gd (nI (4 * k + 2)) 32 z = z := fun z => gd_n (by omega) (by omega)
        have g3' : ∀ {β : Type} (z : Option β), gd (nI (4 * k + 3)) 32 z = z := fun z => gd_n (by omega) (by omega)
        have ck : (nI k).toNatClampNeg = k := nI_clamp (by omega)
        have c0 : (nI (4 * k)).toNatClampNeg = 4 * k := nI_clamp (by omega)
        have c1 : (nI (4 * k + 1)).toNatClampNeg = 4 * k + 1 := nI_clamp (by omega)
        have c2 : (nI (4 * k + 2)).toNatClampNeg = 4 * k + 2 := nI_clamp (by omega)
        have c3 : (nI (4 * k + 3)).toNatClampNeg = 4 * k + 3 := nI_clamp (by omega)
        have q1 : nI (4 * k) + 1 = nI (4 * k + 1) := nI_add _ 1
        have q2 : nI (4 * k) + 2 = nI (4 * k + 2) := nI_add _ 2
        have q3 : nI (4 * k) + 3 = nI (4 * k + 3) := nI_add _ 3
        simp only [n4, q1, q2, q3, g8', g0, g1', g2', g3', ck, c0, c1, c2, c3]
        rw [show (4 : Nat) + 2 = 6 from rfl, show (4 : Nat) + 4 = 8 from rfl, show (4 : Nat) + 3 = 7 from rfl, show (4 : Nat) + 5 = 9 from rfl]
        simp only [lt32, add32 (a := gt X 6 k) (b := a2) (by omega) (by omega), add32 (a := gt X 8 k) (b := a2) (by omega) (by omega), add32 (a := gt X 7 k) (b := a3) (by omega) (by omega), add32 (a := gt X 9 k) (b := a3) (by omega) (by omega), add32 (a := gt M 3 (4 * k)) (b := a2) (by omega) (by omega), add32 (a := gt M 3 (4 * k + 2)) (b := a2) (by omega) (by omega), add32 (a := gt M 3 (4 * k + 1)) (b := a3) (by omega) (by omega), add32 (a := gt M 3 (4 * k + 3)) (b := a3) (by omega) (by omega), x1, x2, x3, x4, m1, m2, m3, m4, l32_0, l999]
        have ev : ∀ (A B C D : Prop) [Decidable A] [Decidable B] [Decidable C] [Decidable D], ((if A then some (0 : Int32) else if B then some 0 else if C then some 0 else if D then some 0 else some 1) = some (if A ∨ B ∨ C ∨ D then 0 else 1)) := fun A B C D => by
          by_cases a : A
          · simp [a]
          · by_cases b : B
            · simp [a, b]
            · by_cases c : C
              · simp [a, b, c]
              · by_cases d : D
                · simp [a, b, c, d]
                · simp [a, b, c, d]
        rw [ev, ev, bI1_s, bI1_s]
        by_cases hin : b k 1 + a2.toInt < 0 ∨ 999 < b k 3 + a2.toInt ∨ b k 2 + a3.toInt < 0 ∨ 999 < b k 4 + a3.toInt
        · rw [if_pos hin, if_pos (show b k 1 + a2.toInt < 0 ∨ b k 2 + a3.toInt < 0 ∨ 999 < b k 3 + a2.toInt ∨ 999 < b k 4 + a3.toInt by omega), if_pos rfl, if_pos rfl]
          exact ⟨_, _, _, rfl, rfl, Rel_of hp h⟩
        · rw [if_neg hin, if_neg (show ¬ (b k 1 + a2.toInt < 0 ∨ b k 2 + a3.toInt < 0 ∨ 999 < b k 3 + a2.toInt ∨ 999 < b k 4 + a3.toInt) by omega), if_neg (show ¬ (1 : Int32) = 0 by decide), if_neg (show ¬ (1 : Int32) = 0 by decide)]
          obtain ⟨X2, y1, y2, y3⟩ := x_shift g2 g1.p hk h2 h3
          obtain ⟨M2, z1, z2, z3, z4⟩ := m_shift g4 g1.p hk h2 h3
          rw [y1, z1, bI1_s, bI1_s]
          have hok : okC n (bSh b k a2.toInt a3.toInt) rs := by
            refine ⟨hn, g1.2.1, g1.2.2.1, fun j hj => ?_⟩
            have := g1.2.2.2 j hj
            by_cases ej : j = k
            · subst ej
              obtain ⟨s0, s1, s2, s3, s4⟩ := bSh_v b j a2.toInt a3.toInt
              rw [s0, s1, s2, s3, s4]
              omega
            · rw [bSh_n ej, bSh_n ej, bSh_n ej, bSh_n ej, bSh_n ej]
              exact this
          obtain ⟨X3, r1, r2⟩ := rel_upd h hok y2 (fun c j hc => y3 c j (by omega)) z2 (fun c j => mW_keep (fun c j _ a2 _ => z4 c j a2))
          rw [r1, bI1_s]
          obtain ⟨M3, w1, w2, w3⟩ := m_all z2 hok.p
          have e1 : gt X3 16 5 = nI (cts (bSh b k a2.toInt a3.toInt) rs (List.range n)).length := r2.2.2.1.2.2.2.2.2.1.1
          rw [w1, bI1_s, e1, w2.2.1.1]
          exact ⟨_, _, _, rfl, rfl, Rel_of hp (RelA_keep r2 (xK_rf _) (oK_mK w3))⟩
      · refine ⟨-102, X, M, ?_, ?_, Rel_of hp h⟩
        · by_cases q : a3 < -9
          · rw [if_pos q, bI1_s, if_pos rfl]
          · rw [if_neg q, if_pos (by rw [lt32, l9] at q; rw [lt32, l32_9]; omega), bI1_s, if_pos rfl]
        · rw [in_0 (l := -9) (h := 9) (by decide) (by decide) h3, bI1_s, if_pos rfl]
    · refine ⟨-102, X, M, ?_, ?_, Rel_of hp h⟩
      · by_cases q : a2 < -9
        · rw [if_pos q, bI1_s, if_pos rfl]
        · rw [if_neg q, if_pos (by rw [lt32, l9] at q; rw [lt32, l32_9]; omega), bI1_s, if_pos rfl]
      · rw [in_0 (l := -9) (h := 9) (by decide) (by decide) h2, bI1_s, if_pos rfl]
  · rw [e1, e2, bI1_s, bI1_s, if_pos rfl, if_pos rfl]
    exact ⟨_, _, _, rfl, rfl, Rel_of hp h⟩
def bKd (b : Bx) (k : Nat) (v : Int) : Bx := fun j c => if j = k ∧ c = 0 then v else b j c
theorem r_change : op_change Rel := by
  intro c X M a1 a2 _ h
  obtain ⟨n, b, rs, t, p, s, hp, h⟩ := h
  obtain ⟨g1, g2, g3, g4, g5, g6, g7, g8⟩ := id h
  have hn := g1.1
  unfold f_X7_change f_X8_change f_X7_isKind
  rcases box_or g2.1 g4.1 g1.1 a1 with ⟨k, hk, rfl, e1, e2⟩ | ⟨e1, e2⟩
  · rw [e1, e2, bI1_s, bI1_s, if_neg i10, if_neg i10]
    by_cases h2 : 0 ≤ a2.toInt ∧ a2.toInt ≤ 4
    · rw [in_1 (l := 0) (h := 4) (by decide) (by decide) h2, bI1_s, if_neg (show ¬ (1 : Int32) = 0 by decide), if_neg (show ¬ a2 < 0 by rw [lt32, l32_0]; omega), if_neg (show ¬ 5 ≤ a2 by rw [le32, l32_5]; omega), bI1_s, if_neg (show ¬ (1 : Int32) = 0 by decide)]
      have g8' : ∀ {β : Type} (z : Option β), gd (nI k) 8 z = z := fun z => gd_n (by omega) (by omega)
      have ck : (nI k).toNatClampNeg = k := nI_clamp (by omega)
      simp only [g8', ck, lt_]
      have e0 : gt X 5 k = gt M 2 k := i_eq (g2.c0 hk) (g4.c0 hk)
      have hok : okC n (bKd b k a2.toInt) rs := by
        refine ⟨hn, g1.2.1, g1.2.2.1, fun j hj => ?_⟩
        have := g1.2.2.2 j hj
        unfold bKd
        rw [if_neg (show ¬ (j = k ∧ (1 : Nat) = 0) by omega), if_neg (show ¬ (j = k ∧ (2 : Nat) = 0) by omega), if_neg (show ¬ (j = k ∧ (3 : Nat) = 0) by omega), if_neg (show ¬ (j = k ∧ (4 : Nat) = 0) by omega)]
        by_cases ej : j = k
        · rw [if_pos ⟨ej, rfl⟩]; omega
        · rw [if_neg (fun q => ej q.1)]; exact this
      have hsh : shIs (sv X 5 k a2) 4 n (bKd b k a2.toInt) rs := by
        refine ⟨by rw [gt_sv_o (by decide)]; exact g2.1, by rw [gt_sv_o (by decide)]; exact g2.2.1, fun j hj c hc => ?_, fun i hi => by rw [gt_sv_o (by decide)]; exact g2.2.2.2 i hi⟩
        unfold bKd
        by_cases e : j = k ∧ c = 0
        · obtain ⟨rfl, rfl⟩ := e
          rw [if_pos ⟨rfl, rfl⟩, gt_sv_same]
        · rw [if_neg e]
          have : gt (sv X 5 k a2) (4 + 1 + c) j = gt X (4 + 1 + c) j := by
            by_cases ej : j = k
            · exact gt_sv_o (by omega)
            · exact gt_sv_j ej
          rw [this]; exact g2.2.2.1 j hj c hc
      have hM : mIs (sv M 2 k a2) n (bKd b k a2.toInt) rs := by
        refine ⟨by rw [gt_sv_o (by decide)]; exact g4.1, by rw [gt_sv_o (by decide)]; exact g4.2.1, fun j hj => ⟨?_, fun c hc => ?_⟩, fun i hi => by rw [gt_sv_o (by decide)]; exact g4.2.2.2 i hi⟩
        · unfold bKd
          by_cases e : j = k
          · subst e; rw [if_pos ⟨rfl, rfl⟩, gt_sv_same]
          · rw [if_neg (fun q => e q.1), gt_sv_j e]; exact g4.c0 hj
        · unfold bKd
          rw [if_neg (show ¬ (j = k ∧ 1 + c = 0) by omega), gt_sv_o (by decide)]
          exact (g4.2.2.1 j hj).2 c hc
      obtain ⟨X3, r1, r2⟩ := rel_upd h hok hsh (fun c j hc => gt_sv_o (by omega)) hM (fun c j => mW_keep (fun c j a1 _ _ => gt_sv_o a1))
      rw [r1, bI1_s, e0]
      exact ⟨_, _, _, rfl, rfl, Rel_of hp r2⟩
    · refine ⟨-102, X, M, ?_, ?_, Rel_of hp h⟩
      · by_cases q : a2 < 0
        · rw [if_pos q, bI1_s, if_pos rfl]
        · rw [if_neg q, if_pos (by rw [lt32, l32_0] at q; rw [le32, l32_5]; omega), bI1_s, if_pos rfl]
      · rw [in_0 (l := 0) (h := 4) (by decide) (by decide) h2, bI1_s, if_pos rfl]
  · rw [e1, e2, bI1_s, bI1_s, if_pos rfl, if_pos rfl]
    exact ⟨_, _, _, rfl, rfl, Rel_of hp h⟩
theorem x_scopy {st : GS} {o a : Nat} (hd : o + 2 < a ∨ a + 2 < o) : ok (f_X4_copy o a st) (fun st' => gt st' o 2 = gt st a 2 ∧ (∀ j, j < 6 → gt st' (o + 1) j = gt st (a + 1) j ∧ gt st' (o + 2) j = gt st (a + 2) j) ∧ ∀ c j, (c < o ∨ o + 2 < c) → gt st' c j = gt st c j) := by
  unfold f_X4_copy
  simp only [cl_0, cl_6]
  refine ok_gq (by decide) (ok_lt ?_)
  obtain ⟨a1, b1⟩ := cp1 st (a + 1) (o + 1) 6
  generalize sc st (a + 1) (o + 1) 0 0 6 = st1 at a1 b1 ⊢
  refine ok_gq (by decide) (ok_lt ?_)
  obtain ⟨a2, b2⟩ := cp1 st1 (a + 2) (o + 2) 6
  generalize sc st1 (a + 2) (o + 2) 0 0 6 = st2 at a2 b2 ⊢
  refine ok_lt (ok_some ⟨?_, fun j hj => ⟨?_, ?_⟩, fun c j hc => ?_⟩)
  · rw [gt_sv_same, b2 _ _ (by omega), b1 _ _ (by omega)]
  · rw [gt_sv_o (by omega), b2 _ _ (by omega)]; exact a1 j hj
  · rw [gt_sv_o (by omega), a2 j hj]; exact b1 _ _ (by omega)
  · rw [gt_sv_o (by omega), b2 _ _ (by omega)]; exact b1 _ _ (by omega)
theorem r_image : op_image Rel := by
  intro c X M _ h
  obtain ⟨n, b, rs, t, p, s, hp, h⟩ := h
  obtain ⟨g1, g2, g3, g4, g5, g6, g7, g8⟩ := id h
  have hn := g1.1
  unfold f_X7_image f_X8_image
  rcases page_or g2.1 g4.1 hn with ⟨_, e1, e2⟩ | ⟨h0, e1, e2⟩
  · rw [e1, e2, bI1_s, bI1_s, if_neg i10, if_neg i10]
    exact ⟨_, _, _, rfl, rfl, Rel_of hp h⟩
  · rw [e1, e2, bI1_s, bI1_s, if_pos rfl, if_pos rfl]
    obtain ⟨X1, x1, x2, x3⟩ := x_copy (o := 31) g2 hn g1.2.1 (by omega)
    rw [x1, bI1_s]
    obtain ⟨X2, y1, y2, y3, y4⟩ := x_scopy (st := X1) (o := 38) (a := 28) (by omega)
    rw [y1, bI1_s]
    obtain ⟨M1, m1, m2, m3, m4⟩ := m_copy (st := M) (a := 2) (N := 8) (q := 17) (by omega) (by decide)
    rw [m1, bI1_s]
    obtain ⟨M2, p1, p2, p3, p4⟩ := m_copy (st := M1) (a := 3) (N := 32) (q := 18) (by omega) (by decide)
    rw [p1, bI1_s]
    obtain ⟨M3, q1, q2, q3, q4⟩ := m_copy (st := M2) (a := 4) (N := 4) (q := 19) (by omega) (by decide)
    rw [q1, bI1_s]
    obtain ⟨M4, w1, w2, w3, w4⟩ := m_copy (st := M3) (a := 14) (N := 18) (q := 20) (by omega) (by decide)
    rw [w1, bI1_s]
    have mk : ∀ c j, c < 17 → gt M4 c j = gt M c j := fun c j hc => by rw [w4 c j (by omega), q4 c j (by omega), p4 c j (by omega), m4 c j (by omega)]
    simp only [lt_]
    have f5 : gt M4 0 5 = nI n := by rw [mk _ _ (by decide)]; exact g4.1
    have f10 : gt M4 0 10 = nI rs.length := by rw [mk _ _ (by decide)]; exact g4.2.1
    have f26 : gt M4 0 26 = nI s := by rw [mk _ _ (by decide)]; exact g7.2.2.1
    have f6 : gt M4 0 6 = nI p := by rw [mk _ _ (by decide)]; exact g6.2
    have u : ∀ (x : GS) (j i : Nat) v, i ≠ j → gt (sv x 0 j v) 0 i = gt x 0 i := fun x j i v hij => gt_sv_j hij
    rw [u _ 32 10 _ (by decide), u _ 33 26 _ (by decide), u _ 32 26 _ (by decide), u _ 34 6 _ (by decide), u _ 33 6 _ (by decide), u _ 32 6 _ (by decide), u _ 31 5 _ (by decide), u _ 34 5 _ (by decide), u _ 33 5 _ (by decide), u _ 32 5 _ (by decide), f5, f10, f26, f6]
    generalize hY : sv (sv (sv (sv M4 0 32 (nI n)) 0 33 (nI rs.length)) 0 34 (nI s)) 0 31 (nI p) = Y
    have Y1 : ∀ c j, (c ≠ 0 ∨ (j ≠ 31 ∧ j ≠ 32 ∧ j ≠ 33 ∧ j ≠ 34)) → gt Y c j = gt M4 c j := fun c j hc => by
      rw [← hY]
      rcases hc with r | r
      · rw [gt_sv_o r, gt_sv_o r, gt_sv_o r, gt_sv_o r]
      · rw [gt_sv_j r.1, gt_sv_j r.2.2.2, gt_sv_j r.2.2.1, gt_sv_j r.2.1]
    have Y31 : gt Y 0 31 = nI p := by rw [← hY, gt_sv_same]
    have Y34 : gt Y 0 34 = nI s := by rw [← hY, gt_sv_j (by decide), gt_sv_same]
    have Y33 : gt Y 0 33 = nI rs.length := by rw [← hY, gt_sv_j (by decide), gt_sv_j (by decide), gt_sv_same]
    have Y32 : gt Y 0 32 = nI n := by rw [← hY, gt_sv_j (by decide), gt_sv_j (by decide), gt_sv_j (by decide), gt_sv_same]
    generalize hZ : sv X2 0 5 1 = Z
    have Z5 : gt Z 0 5 = 1 := by rw [← hZ, gt_sv_same]
    have Z1 : ∀ c j, (c ≠ 0 ∨ j ≠ 5) → gt Z c j = gt X2 c j := fun c j hc => by
      rw [← hZ]
      rcases hc with r | r
      · exact gt_sv_o r
      · exact gt_sv_j r
    have Z2 : ∀ c j, c < 31 → (c ≠ 0 ∨ j ≠ 5) → gt Z c j = gt X c j := fun c j hc hj => by rw [Z1 c j hj, y4 c j (by omega), x3 c j (by omega)]
    have Y2 : ∀ c j, c < 17 → (c ≠ 0 ∨ (j ≠ 31 ∧ j ≠ 32 ∧ j ≠ 33 ∧ j ≠ 34)) → gt Y c j = gt M c j := fun c j hc hj => by rw [Y1 c j hj, mk c j hc]
    have shZ : shIs Z 31 n b rs := shIs_keep x2 (fun c j q1 q2 => by rw [Z1 _ _ (by omega), y4 _ _ (by omega)])
    rw [shZ.1]
    refine ⟨_, _, _, rfl, rfl, Rel_of hp (rel_side (t' := t) (p' := p) (s' := s) h (fun c j q1 q2 => Z2 _ _ (by omega) (by omega)) (fun c j hc => Y2 _ _ (by omega) (by omega)) (txR_keep g5 (fun c j hc => Z2 _ _ (by omega) (by omega)) (fun j => Y2 _ _ (by omega) (by omega)) (Y2 _ _ (by omega) (by omega))) ⟨by rw [Z2 _ _ (by omega) (by omega)]; exact g6.1, by rw [Y2 _ _ (by omega) (by omega)]; exact g6.2⟩ (snR_keep g7 (fun c j q1 q2 => Z2 _ _ (by omega) (by omega)) (fun j => Y2 _ _ (by omega) (by omega)) (Y2 _ _ (by omega) (by omega))) (Or.inr ⟨Z5, Y31, n, b, rs, s, g1, h0, shZ, ⟨Y32, Y33, fun k hk => ⟨?_, fun c hc => ?_⟩, fun i hi => ?_⟩, ⟨g7.1, ?_, Y34, fun i hi => ?_⟩⟩))⟩
    · rw [Y1 _ _ (by omega), w4 _ _ (by omega), q4 _ _ (by omega), p4 _ _ (by omega), m2 k (by omega)]; exact g4.c0 hk
    · rw [Y1 _ _ (by omega), w4 _ _ (by omega), q4 _ _ (by omega), p2 _ (by omega), m4 _ _ (by omega)]; exact (g4.2.2.1 k hk).2 c hc
    · have := g1.2.1
      rw [Y1 _ _ (by omega), w4 _ _ (by omega), q2 _ (by omega), p4 _ _ (by omega), m4 _ _ (by omega)]; exact g4.2.2.2 i hi
    · rw [Z1 _ _ (by omega), y2, x3 _ _ (by omega)]; exact g7.2.1
    · have := g7.1
      have z1 : gt Z (38 + 1) i = gt X (28 + 1) i := by rw [Z1 _ _ (by omega), (y3 i (by omega)).1, x3 _ _ (by omega)]
      have z2 : gt Z (38 + 2) i = gt X (28 + 2) i := by rw [Z1 _ _ (by omega), (y3 i (by omega)).2, x3 _ _ (by omega)]
      have z3 : ∀ j, j < 18 → gt Y 20 j = gt M 14 j := fun j hj => by rw [Y1 _ _ (by omega), w2 j hj, q4 _ _ (by omega), p4 _ _ (by omega), m4 _ _ (by omega)]
      rw [z1, z2, z3 _ (by omega), z3 _ (by omega), z3 _ (by omega)]
      exact g7.2.2.2 i hi
theorem r_restore : op_restore Rel := by
  intro c X M hc h
  obtain ⟨n, b, rs, t, p, s, hp, h⟩ := h
  obtain ⟨g1, g2, g3, g4, g5, g6, g7, g8⟩ := id h
  have hn := g1.1
  unfold f_X7_restore f_X8_restore
  rcases id g8 with ⟨k1, k2⟩ | ⟨k1, k2, n', b', rs', s', k3, k4, k5, k6, k7⟩
  · rw [if_pos k1, if_neg (fun q => by
      rw [q, g6.2, nI_T (by omega)] at k2
      omega)]
    exact ⟨_, _, _, rfl, rfl, Rel_of hp h⟩
  · rw [if_neg (by rw [k1]; decide), if_pos (by rw [k2, g6.2])]
    have hn' := k3.1
    obtain ⟨X1, x1, x2, x3⟩ := x_copy (o := 4) k5 hn' k3.2.1 (by omega)
    rw [x1, bI1_s]
    obtain ⟨M1, m1, m2, m3, m4⟩ := m_copy (st := M) (a := 17) (N := 8) (q := 2) (by omega) (by decide)
    rw [m1, bI1_s]
    obtain ⟨M2, p1, p2, p3, p4⟩ := m_copy (st := M1) (a := 18) (N := 32) (q := 3) (by omega) (by decide)
    rw [p1, bI1_s]
    obtain ⟨M3, q1, q2, q3, q4⟩ := m_copy (st := M2) (a := 19) (N := 4) (q := 4) (by omega) (by decide)
    rw [q1, bI1_s]
    obtain ⟨M4, w1, w2, w3, w4⟩ := m_copy (st := M3) (a := 20) (N := 18) (q := 14) (by omega) (by decide)
    rw [w1, bI1_s]
    have mk : ∀ c j, c ≠ 2 → c ≠ 3 → c ≠ 4 → c ≠ 14 → gt M4 c j = gt M c j := fun c j c1 c2 c3 c4 => by rw [w4 c j (by omega), q4 c j (by omega), p4 c j (by omega), m4 c j (by omega)]
    simp only [lt_]
    have f5 : gt M4 0 32 = nI n' := by rw [mk _ _ (by decide) (by decide) (by decide) (by decide)]; exact k6.1
    have f10 : gt M4 0 33 = nI rs'.length := by rw [mk _ _ (by decide) (by decide) (by decide) (by decide)]; exact k6.2.1
    have f26 : gt M4 0 34 = nI s' := by rw [mk _ _ (by decide) (by decide) (by decide) (by decide)]; exact k7.2.2.1
    have u : ∀ (x : GS) (j i : Nat) v, i ≠ j → gt (sv x 0 j v) 0 i = gt x 0 i := fun x j i v hij => gt_sv_j hij
    rw [u _ 5 33 _ (by decide), u _ 10 34 _ (by decide), u _ 5 34 _ (by decide), f5, f10, f26]
    generalize hY : sv (sv (sv M4 0 5 (nI n')) 0 10 (nI rs'.length)) 0 26 (nI s') = Y
    have Y1 : ∀ c j, (c ≠ 0 ∨ (j ≠ 5 ∧ j ≠ 10 ∧ j ≠ 26)) → gt Y c j = gt M4 c j := fun c j hc => by
      rw [← hY]
      rcases hc with r | r
      · rw [gt_sv_o r, gt_sv_o r, gt_sv_o r]
      · rw [gt_sv_j r.2.2, gt_sv_j r.2.1, gt_sv_j r.1]
    have Y5 : gt Y 0 5 = nI n' := by rw [← hY, gt_sv_j (by decide), gt_sv_j (by decide), gt_sv_same]
    have Y10 : gt Y 0 10 = nI rs'.length := by rw [← hY, gt_sv_j (by decide), gt_sv_same]
    have Y26 : gt Y 0 26 = nI s' := by rw [← hY, gt_sv_same]
    have Y2 : ∀ c j, c ≠ 2 → c ≠ 3 → c ≠ 4 → c ≠ 14 → (c ≠ 0 ∨ (j ≠ 5 ∧ j ≠ 10 ∧ j ≠ 26)) → gt Y c j = gt M c j := fun c j c1 c2 c3 c4 hj => by rw [Y1 c j hj, mk c j c1 c2 c3 c4]
    have hMI : mIs Y n' b' rs' := by
      refine ⟨Y5, Y10, fun k hk => ⟨?_, fun c hc => ?_⟩, fun i hi => ?_⟩
      · rw [Y1 _ _ (by omega), w4 _ _ (by omega), q4 _ _ (by omega), p4 _ _ (by omega), m2 k (by omega)]; exact (k6.2.2.1 k hk).1
      · rw [Y1 _ _ (by omega), w4 _ _ (by omega), q4 _ _ (by omega), p2 _ (by omega), m4 _ _ (by omega)]; exact (k6.2.2.1 k hk).2 c hc
      · have := k3.2.1
        rw [Y1 _ _ (by omega), w4 _ _ (by omega), q2 _ (by omega), p4 _ _ (by omega), m4 _ _ (by omega)]; exact k6.2.2.2 i hi
    obtain ⟨X2, r1, r2, r3⟩ := x_renew x2 k3.p
    rw [r1, bI1_s]
    obtain ⟨X3, y1, y2, y3, y4⟩ := x_scopy (st := X2) (o := 28) (a := 38) (by omega)
    rw [y1, bI1_s]
    have X1' : ∀ c j, (c < 3 ∨ 30 < c) → gt X3 c j = gt X c j := fun c j hc => by rw [y4 c j (by omega), r3 c j (by omega), x3 c j (by omega)]
    have shZ : shIs X3 4 n' b' rs' := shIs_keep x2 (fun c j q1 q2 => by rw [y4 _ _ (by omega), r3 _ _ (by omega)])
    rw [shZ.1, Y5]
    refine ⟨_, _, _, rfl, rfl, Rel_of hp ⟨k3, shZ, reads_keep r2 (fun c j q1 q2 q3 => y4 _ _ (by omega)), hMI, txR_keep g5 (fun c j hc => X1' _ _ (by omega)) (fun j => Y2 _ _ (by decide) (by decide) (by decide) (by decide) (Or.inl (by decide))) (Y2 _ _ (by decide) (by decide) (by decide) (by decide) (by decide)), ⟨by rw [X1' _ _ (by omega)]; exact g6.1, by rw [Y2 _ _ (by decide) (by decide) (by decide) (by decide) (by decide)]; exact g6.2⟩, ⟨k7.1, ?_, Y26, fun i hi => ?_⟩, ktR_keep g8 (X1' _ _ (by omega)) (fun c j q1 q2 => X1' _ _ (by omega)) (fun c j q => Y2 _ _ (by omega) (by omega) (by omega) (by omega) (by omega)) (fun j hj => Y2 _ _ (by decide) (by decide) (by decide) (by decide) (by omega))⟩⟩
    · rw [y2, r3 _ _ (by omega), x3 _ _ (by omega)]; exact k7.2.1
    · have := k7.1
      have z1 : gt X3 (28 + 1) i = gt X (38 + 1) i := by rw [(y3 i (by omega)).1, r3 _ _ (by omega), x3 _ _ (by omega)]
      have z2 : gt X3 (28 + 2) i = gt X (38 + 2) i := by rw [(y3 i (by omega)).2, r3 _ _ (by omega), x3 _ _ (by omega)]
      have z3 : ∀ j, j < 18 → gt Y 14 j = gt M 20 j := fun j hj => by rw [Y1 _ _ (by omega), w2 j hj, q4 _ _ (by omega), p4 _ _ (by omega), m4 _ _ (by omega)]
      rw [z1, z2, z3 _ (by omega), z3 _ (by omega), z3 _ (by omega)]
      exact k7.2.2.2 i hi
