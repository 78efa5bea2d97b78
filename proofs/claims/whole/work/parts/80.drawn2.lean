theorem bI3_s {α β γ δ : Type} (a : α) (b : β) (c : γ) (k : α → β → γ → Option δ) : bI3 (some (a, b, c)) k = k a b c := rfl
noncomputable def dA (x : Int32) : Nat → Nat × Nat × Int32
  | 0 => (0, 0, x)
  | i + 1 => ((dA x i).1 + (cts (dB (dA x i).2.2 5).1 [2, 3] (List.range 5)).length, (dA x i).2.1 + (if ords (dB (dA x i).2.2 5).1 [2, 3] (List.range 5) = List.range 5 then 1 else 0), (dB (dA x i).2.2 5).2)
theorem x_drawn {X st : GS} {x : Int32} {q : Nat} (hq : q ≤ 20) (hx : gt st 66 0 = x) (hk : xK X st) : ok (lpx (uc4 (f_X7_drawn_L44 (nI q))) (0, 0, 0, st)) (fun r => r.1 = nI (dA x q).1 ∧ r.2.1 = nI (dA x q).2.1 ∧ gt r.2.2 66 0 = (dA x q).2.2 ∧ xK X r.2.2) := by
  refine ok_for q (fun i z => z.2.2.1 = nI i ∧ z.1 = nI (dA x i).1 ∧ z.2.1 = nI (dA x i).2.1 ∧ gt z.2.2.2 66 0 = (dA x i).2.2 ∧ xK X z.2.2.2) _ ?_ ?_ 0 _ (Nat.zero_le _) ⟨rfl, rfl, rfl, hx, hk⟩
  · rintro i ⟨z1, z2, z3, s⟩ hi ⟨h1, h2, h3, h4, h5⟩
    simp only at h1 h2 h3 h4 h5
    subst h1; subst h2; subst h3
    show ok (f_X7_drawn_L44 (nI q) _ _ (nI i) s) _
    unfold f_X7_drawn_L44
    rw [if_neg (nI_ge hi (by omega))]
    refine ok_bI1 (x_drawTo h4) ?_
    rintro s12 ⟨a1, a2, a3⟩
    have hp := dB_okP (dA x i).2.2
    refine ok_bI1 (x_renew (o := 41) a1 hp) ?_
    rintro s13 ⟨b1, b2⟩
    have hx' : xK X s13 := xK_tr h5 (xk_of (fun c j hc => by rw [b2 c j (by omega), a3 c j (by omega)]))
    have hl := ords_len hp
    have ec : gt s13 54 5 = nI (cts (dB (dA x i).2.2 5).1 [2, 3] (List.range 5)).length := b1.2.2.2.2.2.1.1
    have es : gt s13 66 0 = (dB (dA x i).2.2 5).2 := by rw [b2 _ _ (by omega)]; exact a2
    rw [ec, x_byNum b1.1 hl (by omega) (fun k hk => by have := ords_lt hp k hk; omega), nadd]
    refine ok_lt ?_
    rw [bI1_s]
    have hd : dA x (i + 1) = ((dA x i).1 + (cts (dB (dA x i).2.2 5).1 [2, 3] (List.range 5)).length, (dA x i).2.1 + (if ords (dB (dA x i).2.2 5).1 [2, 3] (List.range 5) = List.range 5 then 1 else 0), (dB (dA x i).2.2 5).2) := rfl
    by_cases c : ords (dB (dA x i).2.2 5).1 [2, 3] (List.range 5) = List.range 5
    · rw [if_pos c] at hd
      rw [if_pos c, if_neg i10]
      exact ok_lt (ok_lt (ok_some (Or.inl ⟨_, rfl, nI_p1 i, by rw [hd], by rw [hd]; exact nI_p1 _, by rw [hd]; exact es, hx'⟩)))
    · rw [if_neg c] at hd
      rw [if_neg c, if_pos rfl]
      exact ok_lt (ok_some (Or.inl ⟨_, rfl, nI_p1 i, by rw [hd], by rw [hd]; rfl, by rw [hd]; exact es, hx'⟩))
  · rintro ⟨z1, z2, z3, s⟩ ⟨h1, h2, h3, h4, h5⟩
    simp only at h1 h2 h3 h4 h5
    subst h1; subst h2; subst h3
    show ok (f_X7_drawn_L44 (nI q) _ _ (nI q) s) _
    unfold f_X7_drawn_L44
    rw [if_pos (nI_le (Nat.le_refl _) (by omega))]
    exact ok_some ⟨_, rfl, rfl, rfl, h4, h5⟩
theorem m_boxes {st : GS} {x : Int32} (hx : gt st 0 28 = x) : ok (lpx (uc2 f_X8_drawn_L126) (0, st)) (fun s => gt s 0 28 = (dB x 5).2 ∧ (∀ k, k < 5 → (gt s 2 k).toInt = (dB x 5).1 k 0 ∧ ∀ c, c < 4 → (gt s 3 (4 * k + c)).toInt = (dB x 5).1 k (1 + c)) ∧ ∀ c j, c ≠ 2 → c ≠ 3 → (c ≠ 0 ∨ j ≠ 28) → gt s c j = gt st c j) := by
  refine ok_for 5 (fun i z => z.1 = nI i ∧ gt z.2 0 28 = (dB x i).2 ∧ (∀ k, k < i → (gt z.2 2 k).toInt = (dB x i).1 k 0 ∧ ∀ c, c < 4 → (gt z.2 3 (4 * k + c)).toInt = (dB x i).1 k (1 + c)) ∧ ∀ c j, c ≠ 2 → c ≠ 3 → (c ≠ 0 ∨ j ≠ 28) → gt z.2 c j = gt st c j) _ ?_ ?_ 0 _ (Nat.zero_le _) ⟨rfl, hx, fun k hk => absurd hk (Nat.not_lt_zero _), fun _ _ _ _ _ => rfl⟩
  · rintro i ⟨z, s⟩ hi ⟨h1, h2, h3, h4⟩
    simp only at h1 h2 h3 h4
    subst h1
    show ok (f_X8_drawn_L126 (nI i) s) _
    unfold f_X8_drawn_L126
    rw [if_neg (show ¬ (5 : Int32) ≤ nI i from nI_ge (b := 5) hi (by omega))]
    refine ok_bI1 (m_drawBox (show i < 8 by omega) h2) ?_
    rintro s24 ⟨a1, a2, a3, a4, -, a5⟩
    refine ok_lt (ok_some (Or.inl ⟨_, rfl, nI_p1 i, a1, fun k hk => ?_, fun c j q1 q2 q3 => by rw [show gt (nI i + 1, s24).2 c j = gt s24 c j from rfl, a5 c j q1 q2 q3]; exact h4 c j q1 q2 q3⟩))
    show (gt s24 2 k).toInt = bAdd (dB x i).1 i (dV (dB x i).2) k 0 ∧ ∀ c, c < 4 → (gt s24 3 (4 * k + c)).toInt = bAdd (dB x i).1 i (dV (dB x i).2) k (1 + c)
    unfold bAdd
    by_cases e : k = i
    · subst e
      refine ⟨by rw [a2, if_pos rfl, if_pos rfl], fun c hc => by rw [a3 c hc, if_pos rfl]⟩
    · refine ⟨by rw [a2, if_neg e, if_neg e]; exact (h3 k (by omega)).1, fun c hc => by rw [a4 _ (by omega), if_neg e]; exact (h3 k (by omega)).2 c hc⟩
  · rintro ⟨z, s⟩ ⟨h1, h2, h3, h4⟩
    simp only at h1 h2 h3 h4
    subst h1
    show ok (f_X8_drawn_L126 (nI 5) s) _
    unfold f_X8_drawn_L126
    rw [if_pos (by decide)]
    exact ok_some ⟨_, rfl, h2, h3, h4⟩
/-- what holds while pages are drawn -/
def dI (S st : GS) : Prop := gt st 0 5 = 5 ∧ gt st 0 10 = 2 ∧ gt st 4 0 = 2 ∧ gt st 4 1 = 3 ∧ (∀ c j, (c = 13 ∨ c = 15 ∨ c = 16) → gt st c j = gt S c j) ∧ ∀ c j, mW c j → c ≠ 2 → c ≠ 3 → c ≠ 4 → (c ≠ 0 ∨ (j ≠ 5 ∧ j ≠ 10)) → gt st c j = gt S c j
theorem m_drawn {S st : GS} {x : Int32} {q : Nat} (hq : q ≤ 20) (hx : gt st 0 28 = x) (hk : dI S st) : ok (lpx (uc4 (f_X8_drawn_L114 (nI q))) (0, 0, 0, st)) (fun r => r.1 = nI (dA x q).1 ∧ r.2.1 = nI (dA x q).2.1 ∧ gt r.2.2 0 28 = (dA x q).2.2 ∧ dI S r.2.2) := by
  refine ok_for q (fun i z => z.2.2.1 = nI i ∧ z.1 = nI (dA x i).1 ∧ z.2.1 = nI (dA x i).2.1 ∧ gt z.2.2.2 0 28 = (dA x i).2.2 ∧ dI S z.2.2.2) _ ?_ ?_ 0 _ (Nat.zero_le _) ⟨rfl, rfl, rfl, hx, hk⟩
  · rintro i ⟨z1, z2, z3, s⟩ hi ⟨h1, h2, h3, h4, h5⟩
    simp only at h1 h2 h3 h4 h5
    subst h1; subst h2; subst h3
    show ok (f_X8_drawn_L114 (nI q) _ _ (nI i) s) _
    unfold f_X8_drawn_L114
    rw [if_neg (nI_ge hi (by omega))]
    refine ok_bI1 (m_boxes h4) ?_
    rintro s26 ⟨a1, a2, a3⟩
    obtain ⟨d1, d2, d3, d4, d5, d6⟩ := h5
    have hm : mIs s26 5 (dB (dA x i).2.2 5).1 [2, 3] := by
      refine ⟨by rw [a3 _ _ (by decide) (by decide) (Or.inr (by decide))]; exact d1, by rw [a3 _ _ (by decide) (by decide) (Or.inr (by decide))]; exact d2, a2, fun j hj => ?_⟩
      have hj2 : j < 2 := hj
      match j, hj2 with
      | 0, _ => rw [a3 _ _ (by decide) (by decide) (Or.inl (by decide)), d3]; exact l32_2
      | 1, _ => rw [a3 _ _ (by decide) (by decide) (Or.inl (by decide)), d4]; exact l32_3
    have hp := dB_okP (dA x i).2.2
    refine ok_bI1 (m_all hm hp) ?_
    rintro s27 ⟨b1, b2⟩
    have hl := ords_len hp
    have kk : ∀ c j, (c = 2 ∨ c = 3 ∨ c = 4 ∨ c = 13 ∨ c = 15 ∨ c = 16 ∨ (c = 0 ∧ (j = 5 ∨ j = 10 ∨ j = 28))) → gt s27 c j = gt s26 c j := fun c j hc => b2.2 c j (by omega) (by omega) (by omega) (by omega) (by omega) (by omega) (by omega) (by omega)
    have hI : dI S s27 := ⟨by rw [kk _ _ (by omega), a3 _ _ (by decide) (by decide) (Or.inr (by decide))]; exact d1, by rw [kk _ _ (by omega), a3 _ _ (by decide) (by decide) (Or.inr (by decide))]; exact d2, by rw [kk _ _ (by omega), a3 _ _ (by decide) (by decide) (Or.inl (by decide))]; exact d3, by rw [kk _ _ (by omega), a3 _ _ (by decide) (by decide) (Or.inl (by decide))]; exact d4, fun c j hc => by rw [kk _ _ (by omega), a3 _ _ (by omega) (by omega) (by omega)]; exact d5 c j hc, fun c j w q1 q2 q3 q4 => by rw [oK_mK b2 c j w, a3 c j q1 q2 (by unfold mW at w; omega)]; exact d6 c j w q1 q2 q3 q4⟩
    have es : gt s27 0 28 = (dB (dA x i).2.2 5).2 := by rw [kk _ _ (by omega)]; exact a1
    rw [b1.2.1.1, nadd, m_byNum b1.1.2 hl (fun k hk => by have := ords_lt hp k hk; omega)]
    refine ok_lt ?_
    rw [bI1_s]
    have hd : dA x (i + 1) = ((dA x i).1 + (cts (dB (dA x i).2.2 5).1 [2, 3] (List.range 5)).length, (dA x i).2.1 + (if ords (dB (dA x i).2.2 5).1 [2, 3] (List.range 5) = List.range 5 then 1 else 0), (dB (dA x i).2.2 5).2) := rfl
    by_cases c : ords (dB (dA x i).2.2 5).1 [2, 3] (List.range 5) = List.range 5
    · rw [if_pos c] at hd
      rw [if_pos c, if_neg i10]
      exact ok_lt (ok_lt (ok_some (Or.inl ⟨_, rfl, nI_p1 i, by rw [hd], by rw [hd]; exact nI_p1 _, by rw [hd]; exact es, hI⟩)))
    · rw [if_neg c] at hd
      rw [if_neg c, if_pos rfl]
      exact ok_lt (ok_lt (ok_some (Or.inl ⟨_, rfl, nI_p1 i, by rw [hd], by rw [hd]; exact nI_add _ 0, by rw [hd]; exact es, hI⟩)))
  · rintro ⟨z1, z2, z3, s⟩ ⟨h1, h2, h3, h4, h5⟩
    simp only at h1 h2 h3 h4 h5
    subst h1; subst h2; subst h3
    show ok (f_X8_drawn_L114 (nI q) _ _ (nI q) s) _
    unfold f_X8_drawn_L114
    rw [if_pos (nI_le (Nat.le_refl _) (by omega))]
    exact ok_some ⟨_, rfl, rfl, rfl, h4, h5⟩
theorem r_drawn : op_drawn Rel := by
  intro c X M a1 a2 a3 _ h
  obtain ⟨n, b, rs, t, p, s, hp, h⟩ := h
  obtain ⟨g1, g2, g3, g4, g5, g6, g7, g8⟩ := id h
  have hn := g1.1
  have hr := g1.2.1
  have l20 : (20 : Int32).toInt = 20 := by decide
  unfold f_X7_drawn f_X8_drawn
  by_cases h1 : 1 ≤ a1.toInt ∧ a1.toInt ≤ 20
  · rw [if_neg (show ¬ a1 < 1 by rw [lt32, l32_1]; omega), if_neg (show ¬ 20 < a1 by rw [lt32, l20]; omega), in_1 (l := 1) (h := 20) (by decide) (by decide) h1, bI1_s, if_neg i10]
    by_cases h2 : a2 < 0
    · rw [if_pos h2, if_pos h2]
      exact ⟨_, _, _, rfl, rfl, Rel_of hp h⟩
    · rw [if_neg h2, if_neg h2]
      by_cases h3 : 0 ≤ a3.toInt ∧ a3.toInt ≤ 2
      · rw [if_neg (show ¬ a3 < 0 by rw [lt32, l32_0]; omega), if_pos (show a3 ≤ 2 by rw [le32, l32_2]; omega), in_1 (l := 0) (h := 2) (by decide) (by decide) h3, bI1_s, if_neg i10]
        obtain ⟨q, hq, rfl⟩ := n_of (n := 21) (a := a1) (by omega) (by omega)
        simp only [lt_]
        obtain ⟨⟨x, y, X1⟩, x1, x2, x3, x4, x5⟩ := x_drawn (X := X) (st := sv X 66 0 a2) (x := a2) (q := q) (by omega) (gt_sv_same _ _ _ _) (fun c j w => gt_sv_o (by unfold xW at w; omega))
        simp only at x2 x3 x4 x5
        subst x2; subst x3
        rw [x1]
        obtain ⟨M6, k1, k2, -, k4⟩ := m_copy (st := M) (a := 2) (N := 8) (q := 15) (by omega) (by decide)
        rw [k1, bI1_s]
        obtain ⟨M7, p1, p2, -, p4⟩ := m_copy (st := M6) (a := 3) (N := 32) (q := 16) (by omega) (by decide)
        rw [p1, bI1_s]
        obtain ⟨M8, w1, w2, -, w4⟩ := m_copy (st := M7) (a := 4) (N := 4) (q := 13) (by omega) (by decide)
        rw [w1, bI1_s]
        have K8 : ∀ c j, c ≠ 13 → c ≠ 15 → c ≠ 16 → gt M8 c j = gt M c j := fun c j c1 c2 c3 => by rw [w4 c j c1, p4 c j c3, k4 c j c2]
        have e5 : gt M8 0 5 = nI n := by rw [K8 _ _ (by decide) (by decide) (by decide)]; exact g4.1
        have e10 : gt M8 0 10 = nI rs.length := by rw [K8 _ _ (by decide) (by decide) (by decide)]; exact g4.2.1
        rw [e5, e10]
        generalize hS : sv (sv (sv (sv (sv M8 0 5 5) 0 10 2) 4 0 2) 4 1 3) 0 28 a2 = S0
        have s28 : gt S0 0 28 = a2 := by rw [← hS, gt_sv_same]
        have hI : dI M8 S0 := by
          refine ⟨?_, ?_, ?_, ?_, fun c j hc => ?_, fun c j w q1 q2 q3 q4 => ?_⟩
          · rw [← hS, gt_sv_j (by decide), gt_sv_o (by decide), gt_sv_o (by decide), gt_sv_j (by decide), gt_sv_same]
          · rw [← hS, gt_sv_j (by decide), gt_sv_o (by decide), gt_sv_o (by decide), gt_sv_same]
          · rw [← hS, gt_sv_o (by decide), gt_sv_j (by decide), gt_sv_same]
          · rw [← hS, gt_sv_o (by decide), gt_sv_same]
          · rw [← hS, gt_sv_o (by omega), gt_sv_o (by omega), gt_sv_o (by omega), gt_sv_o (by omega), gt_sv_o (by omega)]
          · have z : ∀ (y : GS) v i, (i = 5 ∨ i = 10 ∨ i = 28) → gt (sv y 0 i v) c j = gt y c j := fun y v i hi => by
              rcases q4 with r | r
              · exact gt_sv_o r
              · by_cases e : c = 0
                · exact gt_sv_j (by unfold mW at w; omega)
                · exact gt_sv_o e
            rw [← hS, z _ _ _ (by omega), gt_sv_o q3, gt_sv_o q3, z _ _ _ (by omega), z _ _ _ (by omega)]
        obtain ⟨⟨x', y', M46⟩, m1, m2, m3, m4, m5⟩ := m_drawn (S := M8) (st := S0) (x := a2) (q := q) (by omega) s28 hI
        simp only at m2 m3 m4 m5
        subst m2; subst m3
        rw [m1, bI3_s, bI3_s]
        obtain ⟨-, -, -, -, d5, d6⟩ := m5
        obtain ⟨M49, r1, r2, -, r4⟩ := m_copy (st := sv (sv M46 0 5 (nI n)) 0 10 (nI rs.length)) (a := 15) (N := 8) (q := 2) (by omega) (by decide)
        rw [r1, bI1_s]
        obtain ⟨M50, u1, u2, -, u4⟩ := m_copy (st := M49) (a := 16) (N := 32) (q := 3) (by omega) (by decide)
        rw [u1, bI1_s]
        obtain ⟨M51, v1, v2, -, v4⟩ := m_copy (st := M50) (a := 13) (N := 4) (q := 4) (by omega) (by decide)
        rw [v1, bI1_s]
        have K : ∀ c j, c ≠ 2 → c ≠ 3 → c ≠ 4 → gt M51 c j = gt (sv (sv M46 0 5 (nI n)) 0 10 (nI rs.length)) c j := fun c j c1 c2 c3 => by rw [v4 c j c3, u4 c j c2, r4 c j c1]
        have K2 : ∀ c j, c ≠ 2 → c ≠ 3 → c ≠ 4 → (c ≠ 0 ∨ (j ≠ 5 ∧ j ≠ 10)) → gt M51 c j = gt M46 c j := fun c j c1 c2 c3 c4 => by
          rw [K c j c1 c2 c3]
          rcases c4 with r | r
          · rw [gt_sv_o r, gt_sv_o r]
          · rw [gt_sv_j r.2, gt_sv_j r.1]
        have hM : mIs M51 n b rs := by
          refine ⟨?_, ?_, fun k hk => ⟨?_, fun c hc => ?_⟩, fun i hi => ?_⟩
          · rw [K _ _ (by decide) (by decide) (by decide), gt_sv_j (by decide), gt_sv_same]
          · rw [K _ _ (by decide) (by decide) (by decide), gt_sv_same]
          · rw [v4 _ _ (by decide), u4 _ _ (by decide), r2 k (by omega), gt_sv_o (by decide), gt_sv_o (by decide), d5 _ _ (by omega), w4 _ _ (by decide), p4 _ _ (by decide), k2 k (by omega)]
            exact g4.c0 hk
          · rw [v4 _ _ (by decide), u2 _ (by omega), r4 _ _ (by decide), gt_sv_o (by decide), gt_sv_o (by decide), d5 _ _ (by omega), w4 _ _ (by decide), p2 _ (by omega), k4 _ _ (by decide)]
            exact (g4.2.2.1 k hk).2 c hc
          · rw [v2 i (by omega), u4 _ _ (by decide), r4 _ _ (by decide), gt_sv_o (by decide), gt_sv_o (by decide), d5 _ _ (by omega), w2 i (by omega), p4 _ _ (by decide), k4 _ _ (by decide)]
            exact g4.2.2.2 i hi
        have hrel : Rel (c + 1) X1 M51 := Rel_of hp (rel_m h x5 hM (fun c j w c1 c2 c3 c4 => by
          rw [K2 c j c1 c2 c3 c4, d6 c j w c1 c2 c3 c4]
          exact K8 c j (by unfold mW at w; omega) (by unfold mW at w; omega) (by unfold mW at w; omega)))
        have f28 : gt M51 0 28 = (dA a2 q).2.2 := by rw [K2 _ _ (by decide) (by decide) (by decide) (Or.inr (by decide))]; exact m4
        rw [f28, x4]
        by_cases c0 : a3 = 0
        · rw [if_pos c0, if_pos c0]; exact ⟨_, _, _, rfl, rfl, hrel⟩
        · rw [if_neg c0, if_neg c0]
          by_cases c1 : a3 = 1
          · rw [if_pos c1, if_pos c1]; exact ⟨_, _, _, rfl, rfl, hrel⟩
          · rw [if_neg c1, if_neg c1]; exact ⟨_, _, _, rfl, rfl, hrel⟩
      · refine ⟨-102, X, M, ?_, ?_, Rel_of hp h⟩
        · by_cases q : a3 < 0
          · rw [if_pos q]
          · rw [if_neg q, if_neg (by rw [lt32, l32_0] at q; rw [le32, l32_2]; omega)]
        · rw [in_0 (l := 0) (h := 2) (by decide) (by decide) h3, bI1_s, if_pos rfl]
  · refine ⟨-102, X, M, ?_, ?_, Rel_of hp h⟩
    · by_cases q : a1 < 1
      · rw [if_pos q]
      · rw [if_neg q, if_pos (by rw [lt32, l32_1] at q; rw [lt32, l20]; omega)]
    · rw [in_0 (l := 1) (h := 20) (by decide) (by decide) h1, bI1_s, if_pos rfl]
