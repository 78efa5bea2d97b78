-- RULES
theorem and_bit {x : Int32} {d : Nat} (hd : d < 8) : (x &&& ishl 1 (nI d) = 0) ↔ bt x d = false := by
  constructor
  · intro h
    have := congrArg (fun y => bt y d) h
    simp only [b_and, b_0, bt_shl hd] at this
    simpa using this
  · intro h
    apply b_ext
    intro i hi
    rw [b_and, b_0, bt_shl hd]
    by_cases e : i = d
    · subst e; rw [h]; rfl
    · simp [e]
theorem rem10 {m : Nat} (h : m < 10000) : irem (nI m) 10 = nI (m % 10) := pk_rem (d := 10) (by omega) (by omega) (by omega)
theorem div10 {m : Nat} (h : m < 10000) : nI m / 10 = nI (m / 10) := pk_div (d := 10) (by omega) (by omega) (by omega)
theorem rules_loop : ∀ (m : Nat), m < 10000 → ∀ told : Int32, ∃ r : Int32, (r = 0 ∨ r = 1) ∧ lpx (uc2 f_X7_areRules_L18) (told, nI m) = some r ∧ lpx (uc3 f_X8_isRules_L21) (told, nI m, 1) = some r := by
  intro m
  induction m using Nat.strongRecOn with
  | ind m ih =>
    intro hm told
    have stop : ∀ (x y : Int32), lpx (uc3 f_X8_isRules_L21) (x, y, 0) = some 0 := fun x y => by
      refine lpx_end ?_
      show f_X8_isRules_L21 x y 0 = _
      unfold f_X8_isRules_L21
      rw [if_pos rfl]
    rcases Nat.eq_zero_or_pos m with h0 | h0
    · subst h0
      refine ⟨1, Or.inr rfl, lpx_end ?_, lpx_end ?_⟩
      · show f_X7_areRules_L18 told (nI 0) = _
        unfold f_X7_areRules_L18
        rw [if_pos (by decide)]
      · show f_X8_isRules_L21 told (nI 0) 1 = _
        unfold f_X8_isRules_L21
        rw [if_neg i10, if_pos (by decide)]
    · have hx : f_X7_areRules_L18 told (nI m) = (if nI (m % 10) < 1 then some (.inr 0) else (if 4 < nI (m % 10) then some (.inr 0) else (if (told &&& ishl 1 (nI (m % 10))) = 0 then some (.inl (told ||| ishl 1 (nI (m % 10)), nI (m / 10))) else some (.inr 0)))) := by
        unfold f_X7_areRules_L18
        rw [if_neg (nI_nle h0 (by omega)), rem10 hm, div10 hm]
        rfl
      have hy : f_X8_isRules_L21 told (nI m) 1 = (bI1 (f_X8_in (nI (m % 10)).toInt64 1 4) (fun r9 => bI1 (if r9 = 0 then some (0 : Int32) else bI1 (f_X8_has told (nI (m % 10))) (fun r12 => if r12 = 0 then some 1 else some 0)) (fun x11 => some (.inl (told ||| ishl 1 (nI (m % 10)), nI (m / 10), x11))))) := by
        unfold f_X8_isRules_L21
        rw [if_neg i10, if_neg (nI_nle h0 (by omega)), rem10 hm, div10 hm]
        rfl
      have hd : m % 10 < 10 := Nat.mod_lt _ (by omega)
      have hT : (nI (m % 10)).toInt = ((m % 10 : Nat) : Int) := nI_T (by omega)
      by_cases hin : 1 ≤ m % 10 ∧ m % 10 ≤ 4
      · rw [in_1 (l := 1) (h := 4) (by decide) (by decide) (by rw [hT]; omega), bI1_s, if_neg i10, m_has (show m % 10 < 8 by omega), bI1_s] at hy
        rw [if_neg (by rw [lt32, hT, l32_1]; omega), if_neg (by rw [lt32, hT, l32_4]; omega)] at hx
        cases hb : bt told (m % 10) with
        | false =>
          rw [hb, if_neg (show ¬ false = true by decide), if_pos rfl, bI1_s] at hy
          rw [if_pos ((and_bit (by omega)).mpr hb)] at hx
          obtain ⟨r, h1, h2, h3⟩ := ih (m / 10) (by omega) (by omega) (told ||| ishl 1 (nI (m % 10)))
          refine ⟨r, h1, ?_, ?_⟩
          · rw [lpx_go (s' := (told ||| ishl 1 (nI (m % 10)), nI (m / 10))) hx]; exact h2
          · rw [lpx_go (s' := (told ||| ishl 1 (nI (m % 10)), nI (m / 10), 1)) hy]; exact h3
        | true =>
          rw [hb, if_pos rfl, if_neg i10, bI1_s] at hy
          rw [if_neg (fun q => by rw [(and_bit (by omega)).mp q] at hb; cases hb)] at hx
          refine ⟨0, Or.inl rfl, lpx_end hx, ?_⟩
          rw [lpx_go (s' := (told ||| ishl 1 (nI (m % 10)), nI (m / 10), 0)) hy]; exact stop _ _
      · rw [in_0 (l := 1) (h := 4) (by decide) (by decide) (by rw [hT]; omega), bI1_s, if_pos rfl, bI1_s] at hy
        refine ⟨0, Or.inl rfl, lpx_end (?_ : f_X7_areRules_L18 told (nI m) = _), ?_⟩
        · rw [hx]
          by_cases q : nI (m % 10) < 1
          · rw [if_pos q]
          · rw [if_neg q, if_pos (by rw [lt32, hT, l32_1] at q; rw [lt32, hT, l32_4]; omega)]
        · rw [lpx_go (s' := (told ||| ishl 1 (nI (m % 10)), nI (m / 10), 0)) hy]; exact stop _ _
theorem rules_or (a : Int32) : (f_X7_areRules a = some 0 ∧ f_X8_isRules a = some 0) ∨ (∃ m, m < 10000 ∧ a = nI m ∧ f_X7_areRules a = some 1 ∧ f_X8_isRules a = some 1) := by
  have l9 : (9999 : Int32).toInt = 9999 := by decide
  have l10 : (10000 : Int32).toInt = 10000 := by decide
  unfold f_X7_areRules f_X8_isRules
  by_cases h : 1 ≤ a.toInt ∧ a.toInt < 10000
  · obtain ⟨m, hm, rfl⟩ := n_of (n := 10000) (by omega) h.2
    rw [if_neg (show ¬ nI m < 1 by rw [lt32, l32_1]; omega), if_pos (show nI m ≤ 9999 by rw [le32, l9]; omega), if_neg (show ¬ nI m ≤ 0 by rw [le32, l32_0]; omega), if_neg (show ¬ 10000 ≤ nI m by rw [le32, l10]; omega), bI1_s]
    obtain ⟨r, h1, h2, h3⟩ := rules_loop m hm 0
    rw [h2, h3, bI1_s]
    unfold gq
    rw [if_pos h1]
    rcases h1 with rfl | rfl
    · exact Or.inl ⟨rfl, rfl⟩
    · exact Or.inr ⟨m, hm, rfl, rfl, rfl⟩
  · left
    have e0 : lpx (uc3 f_X8_isRules_L21) (0, a, 0) = some 0 := by
      refine lpx_end ?_
      show f_X8_isRules_L21 0 a 0 = _
      unfold f_X8_isRules_L21
      rw [if_pos rfl]
    have e1 : (if a ≤ 0 then some (0 : Int32) else if 10000 ≤ a then some 0 else some 1) = some 0 := by
      by_cases q : a ≤ 0
      · rw [if_pos q]
      · rw [if_neg q, if_pos (by rw [le32, l32_0] at q; rw [le32, l10]; omega)]
    refine ⟨?_, ?_⟩
    · by_cases q : a < 1
      · rw [if_pos q]
      · rw [if_neg q, if_neg (by rw [lt32, l32_1] at q; rw [le32, l9]; omega)]
    · rw [e1, bI1_s, e0, bI1_s]
      rfl
theorem gI_app1 {l m : List Int} {i : Nat} (h : i < l.length) : (l ++ m).getD i 0 = l.getD i 0 := by
  rw [List.getD_eq_getElem?_getD, List.getD_eq_getElem?_getD, List.getElem?_append_left h]
theorem gI_app2 {l : List Int} {x : Int} : (l ++ [x]).getD l.length 0 = x := by
  rw [List.getD_eq_getElem?_getD, List.getElem?_append_right (Nat.le_refl _), Nat.sub_self]; rfl
theorem x_addRule {st : GS} {o n : Nat} {b : Bx} {rs : List Int} (h : shIs st o n b rs) (hr : rs.length < 4) (v : Int32) : ok (f_X5_addRule o v st) (fun st' => shIs st' o n b (rs ++ [v.toInt]) ∧ ∀ c j, (c < o ∨ o + 6 < c) → gt st' c j = gt st c j) := by
  obtain ⟨h1, h2, h3, h4⟩ := h
  unfold f_X5_addRule
  rw [h2, if_neg (show ¬ (4 : Int32) ≤ nI rs.length from nI_ge (b := 4) hr (by omega)), gd_n hr (by omega), nI_clamp (show rs.length < 2 ^ 31 by omega)]
  refine ok_lt ?_
  rw [gt_sv_o (show o ≠ o + 6 by omega), h2, nI_p1]
  refine ok_lt (ok_some ⟨⟨?_, ?_, fun k hk c hc => ?_, fun i hi => ?_⟩, fun c j hc => ?_⟩)
  · rw [gt_sv_j (by decide), gt_sv_o (by omega)]; exact h1
  · rw [gt_sv_same, List.length_append]; rfl
  · rw [gt_sv_o (by omega), gt_sv_o (by omega)]; exact h3 k hk c hc
  · rw [List.length_append] at hi
    have hi' : i < rs.length + 1 := hi
    rw [gt_sv_o (by omega)]
    by_cases e : i = rs.length
    · subst e; rw [gt_sv_same, gI_app2]
    · rw [gt_sv_j e, gI_app1 (by omega)]; exact h4 i (by omega)
  · rw [gt_sv_o (by omega), gt_sv_o (by omega)]
theorem m_addRule {st : GS} {n : Nat} {b : Bx} {rs : List Int} (h : mIs st n b rs) (v : Int32) : mIs (sv (sv st 4 rs.length v) 0 10 (nI (rs.length + 1))) n b (rs ++ [v.toInt]) := by
  obtain ⟨h1, h2, h3, h4⟩ := h
  refine ⟨?_, ?_, fun k hk => ⟨?_, fun c hc => ?_⟩, fun i hi => ?_⟩
  · rw [gt_sv_j (by decide), gt_sv_o (by decide)]; exact h1
  · rw [gt_sv_same, List.length_append]; rfl
  · rw [gt_sv_o (by decide), gt_sv_o (by decide)]; exact (h3 k hk).1
  · rw [gt_sv_o (by decide), gt_sv_o (by decide)]; exact (h3 k hk).2 c hc
  · rw [List.length_append] at hi
    have hi' : i < rs.length + 1 := hi
    rw [gt_sv_o (by decide)]
    by_cases e : i = rs.length
    · subst e; rw [gt_sv_same, gI_app2]
    · rw [gt_sv_j e, gI_app1 (by omega)]; exact h4 i (by omega)
/-- the rule that a digit tells -/
def dgR (m u : Nat) : List Int := if m / u % 10 = 0 then [] else [((m / u % 10 % 4 : Nat) : Int)]
theorem dgR_len (m u : Nat) : (dgR m u).length ≤ 1 := by unfold dgR; split <;> simp
theorem dgR_in {m u : Nat} {r : Int} (h : r ∈ dgR m u) : 0 ≤ r ∧ r ≤ 3 := by
  unfold dgR at h
  split at h
  · cases h
  · rw [List.mem_singleton] at h
    have : m / u % 10 % 4 < 4 := Nat.mod_lt _ (by omega)
    omega
theorem dig {m u : Nat} (hm : m < 10000) (h0 : 0 < u) (hu : u ≤ 1000) : irem (nI m / nI u) 10 = nI (m / u % 10) := by
  have h1 : m / u ≤ m := Nat.div_le_self _ _
  rw [pk_div (show m < 2 ^ 31 by omega) h0 (by omega)]
  exact pk_rem (d := 10) (by omega) (by omega) (by omega)
theorem dig4 {d : Nat} (h : d < 10) : irem (nI d) 4 = nI (d % 4) := pk_rem (d := 4) (by omega) (by omega) (by omega)
theorem udiv {u : Nat} (hu : u ≤ 1000) : nI u / 10 = nI (u / 10) := pk_div (d := 10) (by omega) (by omega) (by omega)
theorem x_digit {st : GS} {o n m u : Nat} {b : Bx} {rs : List Int} (h : shIs st o n b rs) (hr : rs.length < 4) (hm : m < 10000) (h0 : 0 < u) (hu : u ≤ 1000) : ∃ st', lpx (uc2 (f_X5_takeRules_L9 o (nI m))) (nI u, st) = lpx (uc2 (f_X5_takeRules_L9 o (nI m))) (nI (u / 10), st') ∧ shIs st' o n b (rs ++ dgR m u) ∧ ∀ c j, (c < o ∨ o + 6 < c) → gt st' c j = gt st c j := by
  have key : ∃ st', f_X5_takeRules_L9 o (nI m) (nI u) st = some (.inl (nI (u / 10), st')) ∧ shIs st' o n b (rs ++ dgR m u) ∧ ∀ c j, (c < o ∨ o + 6 < c) → gt st' c j = gt st c j := by
    unfold f_X5_takeRules_L9 gq
    have hd : m / u % 10 < 10 := Nat.mod_lt _ (by omega)
    rw [if_neg (nI_nle h0 (by omega)), if_pos (nI_ne0 h0 (by omega)), dig hm h0 hu, udiv hu]
    simp only [lt_]
    unfold dgR
    by_cases e : m / u % 10 = 0
    · rw [if_pos e, e, if_pos (show nI 0 = 0 from rfl), List.append_nil]
      exact ⟨st, rfl, h, fun _ _ _ => rfl⟩
    · rw [if_neg e, if_neg (nI_ne0 (by omega) (by omega)), dig4 hd]
      obtain ⟨s', e1, e2, e3⟩ := x_addRule h hr (nI (m / u % 10 % 4))
      have : m / u % 10 % 4 < 4 := Nat.mod_lt _ (by omega)
      rw [nI_T (by omega)] at e2
      rw [e1, bI1_s]
      exact ⟨s', rfl, e2, e3⟩
  obtain ⟨s', e1, e2, e3⟩ := key
  exact ⟨s', lpx_go e1, e2, e3⟩
theorem m_digit {st : GS} {n m u : Nat} {b : Bx} {rs : List Int} (h : mIs st n b rs) (hr : rs.length < 4) (hm : m < 10000) (h0 : 0 < u) (hu : u ≤ 1000) : ∃ st', lpx (uc2 (f_X8_rules_L29 (nI m))) (nI u, st) = lpx (uc2 (f_X8_rules_L29 (nI m))) (nI (u / 10), st') ∧ mIs st' n b (rs ++ dgR m u) ∧ ∀ c j, c ≠ 4 → (c ≠ 0 ∨ j ≠ 10) → gt st' c j = gt st c j := by
  have key : ∃ st', f_X8_rules_L29 (nI m) (nI u) st = some (.inl (nI (u / 10), st')) ∧ mIs st' n b (rs ++ dgR m u) ∧ ∀ c j, c ≠ 4 → (c ≠ 0 ∨ j ≠ 10) → gt st' c j = gt st c j := by
    unfold f_X8_rules_L29 gq
    have hd : m / u % 10 < 10 := Nat.mod_lt _ (by omega)
    rw [if_neg (nI_nle h0 (by omega)), if_pos (nI_ne0 h0 (by omega)), dig hm h0 hu, udiv hu]
    simp only [lt_]
    unfold dgR
    by_cases e : m / u % 10 = 0
    · rw [if_pos e, e, if_pos (show nI 0 ≤ 0 by decide), List.append_nil]
      exact ⟨st, rfl, h, fun _ _ _ _ => rfl⟩
    · have : m / u % 10 % 4 < 4 := Nat.mod_lt _ (by omega)
      rw [if_neg e, if_neg (nI_nle (by omega) (by omega)), dig4 hd, h.2.1, gd_n hr (by omega), nI_clamp (show rs.length < 2 ^ 31 by omega), gt_sv_o (show (0 : Nat) ≠ 4 by decide), h.2.1, nI_p1]
      have e2 := m_addRule h (nI (m / u % 10 % 4))
      rw [nI_T (show m / u % 10 % 4 < 2147483648 by omega)] at e2
      refine ⟨_, rfl, e2, fun c j c1 c2 => ?_⟩
      have : ∀ (y : GS) v, gt (sv y 0 10 v) c j = gt y c j := fun y v => by
        rcases c2 with r | r
        · exact gt_sv_o r
        · exact gt_sv_j r
      rw [this, gt_sv_o c1]
  obtain ⟨s', e1, e2, e3⟩ := key
  exact ⟨s', lpx_go e1, e2, e3⟩
theorem r_rules : op_rules Rel := by
  intro c X M a1 _ h
  obtain ⟨n, b, rs, t, p, s, hp, h⟩ := h
  obtain ⟨g1, g2, g3, g4, g5, g6, g7, g8⟩ := id h
  have hn := g1.1
  unfold f_X7_rules f_X8_rules
  rcases rules_or a1 with ⟨e1, e2⟩ | ⟨m, hm, rfl, e1, e2⟩
  · rw [e1, e2, bI1_s, bI1_s, if_pos rfl, if_pos rfl]
    exact ⟨_, _, _, rfl, rfl, Rel_of hp h⟩
  · rw [e1, e2, bI1_s, bI1_s, if_neg i10, if_neg i10]
    rcases page_or g2.1 g4.1 hn with ⟨_, e1, e2⟩ | ⟨h0, e1, e2⟩
    · rw [e1, e2, bI1_s, bI1_s, if_neg i10, if_neg i10]
      exact ⟨_, _, _, rfl, rfl, Rel_of hp h⟩
    · rw [e1, e2, bI1_s, bI1_s, if_pos rfl, if_pos rfl]
      unfold f_X5_takeRules
      simp only [lt_]
      have a1 := dgR_len m 1000
      have a2 := dgR_len m 100
      have a3 := dgR_len m 10
      have a4 := dgR_len m 1
      have x0 : shIs (sv X 4 7 0) 4 n b [] := ⟨by rw [gt_sv_j (by decide)]; exact g2.1, gt_sv_same _ _ _ _, fun k hk c hc => by rw [gt_sv_o (by omega)]; exact g2.2.2.1 k hk c hc, fun i hi => absurd hi (Nat.not_lt_zero _)⟩
      have m0 : mIs (sv M 0 10 0) n b [] := ⟨by rw [gt_sv_j (by decide)]; exact g4.1, gt_sv_same _ _ _ _, fun k hk => ⟨by rw [gt_sv_o (by decide)]; exact g4.c0 hk, fun c hc => by rw [gt_sv_o (by decide)]; exact (g4.2.2.1 k hk).2 c hc⟩, fun i hi => absurd hi (Nat.not_lt_zero _)⟩
      obtain ⟨X1, x1, x2, x3⟩ := x_digit (m := m) (u := 1000) x0 (by simp) hm (by omega) (by omega)
      obtain ⟨X2, y1, y2, y3⟩ := x_digit (m := m) (u := 100) x2 (by simp; omega) hm (by omega) (by omega)
      obtain ⟨X3, z1, z2, z3⟩ := x_digit (m := m) (u := 10) y2 (by simp; omega) hm (by omega) (by omega)
      obtain ⟨X4, w1, w2, w3⟩ := x_digit (m := m) (u := 1) z2 (by simp; omega) hm (by omega) (by omega)
      obtain ⟨M1, x1', x2', x3'⟩ := m_digit (m := m) (u := 1000) m0 (by simp) hm (by omega) (by omega)
      obtain ⟨M2, y1', y2', y3'⟩ := m_digit (m := m) (u := 100) x2' (by simp; omega) hm (by omega) (by omega)
      obtain ⟨M3, z1', z2', z3'⟩ := m_digit (m := m) (u := 10) y2' (by simp; omega) hm (by omega) (by omega)
      obtain ⟨M4, w1', w2', w3'⟩ := m_digit (m := m) (u := 1) z2' (by simp; omega) hm (by omega) (by omega)
      have eX : lpx (uc2 (f_X5_takeRules_L9 4 (nI m))) (1000, sv X 4 7 0) = some X4 := by
        refine x1.trans (y1.trans (z1.trans (w1.trans (lpx_end ?_))))
        show f_X5_takeRules_L9 4 (nI m) (nI 0) X4 = _
        unfold f_X5_takeRules_L9
        rw [if_pos (by decide)]
      have eM : lpx (uc2 (f_X8_rules_L29 (nI m))) (1000, sv M 0 10 0) = some M4 := by
        refine x1'.trans (y1'.trans (z1'.trans (w1'.trans (lpx_end ?_))))
        show f_X8_rules_L29 (nI m) (nI 0) M4 = _
        unfold f_X8_rules_L29
        rw [if_pos (by decide)]
      rw [eX, eM, bI1_s, bI1_s, bI1_s]
      have hok : okC n b ([] ++ dgR m 1000 ++ dgR m 100 ++ dgR m 10 ++ dgR m 1) := by
        refine ⟨hn, by simp; omega, fun r hr => ?_, g1.2.2.2⟩
        simp only [List.mem_append, List.not_mem_nil, false_or] at hr
        rcases hr with ((hr | hr) | hr) | hr <;> exact dgR_in hr
      obtain ⟨X5, r1, r2⟩ := rel_upd h hok w2 (fun c j hc => by
        rw [w3 c j (by omega), z3 c j (by omega), y3 c j (by omega), x3 c j (by omega), gt_sv_o (by omega)]) w2' (fun c j _ c2 c3 c4 c5 => by
        have : (c ≠ 0 ∨ j ≠ 10) := by omega
        rw [w3' c j c4 this, z3' c j c4 this, y3' c j c4 this, x3' c j c4 this]
        rcases this with r | r
        · exact gt_sv_o r
        · exact gt_sv_j r)
      rw [r1, bI1_s, r2.2.1.2.1, w2'.2.1]
      exact ⟨_, _, _, rfl, rfl, Rel_of hp r2⟩
-- SCALE
def grN (b : Bx) : Nat → Int
  | 0 => 0
  | k + 1 => max (grN b k) (max (b k 3) (b k 4))
def grM (b : Bx) : Nat → Int
  | 0 => 0
  | i + 1 => max (grM b i) (b (i / 4) (1 + i % 4))
theorem grM_N {n : Nat} {b : Bx} {rs : List Int} (h : okC n b rs) : ∀ k, k ≤ n → grM b (4 * k) = grN b k := by
  intro k
  induction k with
  | zero => intro _; rfl
  | succ k ih =>
    intro hk
    obtain ⟨-, p1, p2⟩ := h.2.2.2 k (by omega)
    have e0 : grM b (4 * k + 1) = max (grM b (4 * k)) (b k 1) := by
      show max _ (b (4 * k / 4) (1 + 4 * k % 4)) = _
      rw [show 4 * k / 4 = k by omega, show 4 * k % 4 = 0 by omega]
    have e1 : grM b (4 * k + 2) = max (grM b (4 * k + 1)) (b k 2) := by
      show max _ (b ((4 * k + 1) / 4) (1 + (4 * k + 1) % 4)) = _
      rw [show (4 * k + 1) / 4 = k by omega, show (4 * k + 1) % 4 = 1 by omega]
    have e2 : grM b (4 * k + 3) = max (grM b (4 * k + 2)) (b k 3) := by
      show max _ (b ((4 * k + 2) / 4) (1 + (4 * k + 2) % 4)) = _
      rw [show (4 * k + 2) / 4 = k by omega, show (4 * k + 2) % 4 = 2 by omega]
    have e3 : grM b (4 * k + 4) = max (grM b (4 * k + 3)) (b k 4) := by
      show max _ (b ((4 * k + 3) / 4) (1 + (4 * k + 3) % 4)) = _
      rw [show (4 * k + 3) / 4 = k by omega, show (4 * k + 3) % 4 = 3 by omega]
    rw [show 4 * (k + 1) = 4 * k + 4 by omega, e3, e2, e1, e0, ih (by omega)]
    show _ = max (grN b k) (max (b k 3) (b k 4))
    omega
theorem grN_le {n : Nat} {b : Bx} {rs : List Int} (h : okC n b rs) : ∀ k, k ≤ n → 0 ≤ grN b k ∧ grN b k ≤ 999 := by
  intro k
  induction k with
  | zero => intro _; exact ⟨Int.le_refl _, by show (0 : Int) ≤ 999; omega⟩
  | succ k ih =>
    intro hk
    have := h.2.2.2 k (by omega)
    have := ih (by omega)
    show 0 ≤ max (grN b k) (max (b k 3) (b k 4)) ∧ max (grN b k) (max (b k 3) (b k 4)) ≤ 999
    omega
theorem grN_all {b : Bx} : ∀ n k, k < n → b k 3 ≤ grN b n ∧ b k 4 ≤ grN b n := by
  intro n
  induction n with
  | zero => intro k hk; omega
  | succ n ih =>
    intro k hk
    show b k 3 ≤ max (grN b n) (max (b n 3) (b n 4)) ∧ b k 4 ≤ max (grN b n) (max (b n 3) (b n 4))
    by_cases e : k = n
    · subst e; omega
    · have := ih k (by omega); omega
theorem x_great {st : GS} {o n : Nat} {b : Bx} {rs : List Int} (h : shIs st o n b rs) (hn : n ≤ 8) : ∃ v, f_X5_greatestNumber o st = some v ∧ v.toInt = grN b n := by
  show ok (f_X5_greatestNumber o st) _
  unfold f_X5_greatestNumber
  refine ok_bI1 (P := fun v => v.toInt = grN b n) ?_ (fun r hr => ok_some hr)
  refine ok_for n (fun i z => z.2 = nI i ∧ z.1.toInt = grN b i) _ ?_ ?_ 0 _ (Nat.zero_le _) ⟨rfl, l32_0⟩
  · rintro i ⟨z1, z2⟩ hi ⟨h3, h4⟩
    simp only at h3 h4
    subst h3
    show ok (f_X5_greatestNumber_L4 o st z1 (nI i)) _
    unfold f_X5_greatestNumber_L4
    rw [h.1, if_neg (nI_ge hi (by omega)), gd_n (show i < 8 by omega) (by omega), gd_n (show i < 8 by omega) (by omega), nI_clamp (show i < 2 ^ 31 by omega)]
    refine ok_lt (ok_lt (ok_some (Or.inl ⟨_, rfl, nI_p1 i, ?_⟩)))
    show (imax z1 (imax (gt st (o + 4) i) (gt st (o + 5) i))).toInt = max (grN b i) (max (b i 3) (b i 4))
    rw [imax_T, imax_T, h4, h.c3 hi, h.c4 hi]
  · rintro ⟨z1, z2⟩ ⟨h3, h4⟩
    simp only at h3 h4
    subst h3
    show ok (f_X5_greatestNumber_L4 o st z1 (nI n)) _
    unfold f_X5_greatestNumber_L4
    rw [h.1, if_pos (nI_le (Nat.le_refl _) (by omega))]
    exact ok_some ⟨_, rfl, h4⟩
theorem mIs.cs {st : GS} {n : Nat} {b : Bx} {rs : List Int} (h : mIs st n b rs) {i : Nat} (hi : i < 4 * n) : (gt st 3 i).toInt = b (i / 4) (1 + i % 4) := by
  have := (h.2.2.1 (i / 4) (by omega)).2 (i % 4) (by omega)
  rw [show 4 * (i / 4) + i % 4 = i by omega] at this
  exact this
theorem m_great {st : GS} {n : Nat} {b : Bx} {rs : List Int} (h : mIs st n b rs) (hn : n ≤ 8) : ∃ v, f_X8_greatest st = some v ∧ v.toInt = grM b (4 * n) := by
  show ok (f_X8_greatest st) _
  unfold f_X8_greatest
  refine ok_bI1 (P := fun v => v.toInt = grM b (4 * n)) ?_ (fun r hr => ok_some hr)
  refine ok_for (4 * n) (fun i z => z.2 = nI i ∧ z.1.toInt = grM b i) _ ?_ ?_ 0 _ (Nat.zero_le _) ⟨rfl, l32_0⟩
  · rintro i ⟨z1, z2⟩ hi ⟨h3, h4⟩
    simp only at h3 h4
    subst h3
    show ok (f_X8_greatest_L4 st z1 (nI i)) _
    unfold f_X8_greatest_L4
    have e := h.cs hi
    have hg : grM b (i + 1) = max (grM b i) (b (i / 4) (1 + i % 4)) := rfl
    rw [h.1, n4, if_neg (nI_ge hi (by omega)), gd_n (show i < 32 by omega) (by omega), gd_n (show i < 32 by omega) (by omega), nI_clamp (show i < 2 ^ 31 by omega)]
    refine ok_if (fun c => ?_) (fun c => ?_)
    · rw [le32, h4, e] at c
      exact ok_lt (ok_some (Or.inl ⟨_, rfl, nI_p1 i, by show z1.toInt = _; rw [h4, hg]; omega⟩))
    · rw [le32, h4, e] at c
      exact ok_lt (ok_lt (ok_some (Or.inl ⟨_, rfl, nI_p1 i, by show (gt st 3 i).toInt = _; rw [e, hg]; omega⟩)))
  · rintro ⟨z1, z2⟩ ⟨h3, h4⟩
    simp only at h3 h4
    subst h3
    show ok (f_X8_greatest_L4 st z1 (nI (4 * n))) _
    unfold f_X8_greatest_L4
    rw [h.1, n4, if_pos (nI_le (Nat.le_refl _) (by omega))]
    exact ok_some ⟨_, rfl, h4⟩
def bSc (b : Bx) (m : Int) : Bx := fun k c => if c = 0 then b k 0 else b k c * m
theorem mulS {x a : Int32} {v : Int} (hx : x.toInt = v) (hv : 0 ≤ v ∧ v ≤ 999) (ha : 1 ≤ a.toInt ∧ a.toInt ≤ 5) : (x * a).toInt = v * a.toInt := by
  have h : a.toInt = 1 ∨ a.toInt = 2 ∨ a.toInt = 3 ∨ a.toInt = 4 ∨ a.toInt = 5 := by omega
  rcases h with h | h | h | h | h <;> rw [mul32 (by rw [hx, h]; omega) (by rw [hx, h]; omega), hx]
theorem x_stretch {st : GS} {o n : Nat} {b : Bx} {rs : List Int} (h : shIs st o n b rs) (hc : okC n b rs) {a : Int32} (ha : 1 ≤ a.toInt ∧ a.toInt ≤ 5) : ok (f_X5_stretch o a st) (fun st' => shIs st' o n (bSc b a.toInt) rs ∧ ∀ c j, (c < o ∨ o + 6 < c) → gt st' c j = gt st c j) := by
  have hn := hc.1
  unfold f_X5_stretch
  refine ok_bI1 (P := fun st' => shIs st' o n (bSc b a.toInt) rs ∧ ∀ c j, (c < o ∨ o + 6 < c) → gt st' c j = gt st c j) ?_ (fun r hr => ok_some hr)
  refine ok_for n (fun i z => z.1 = nI i ∧ (∀ k, k < n → ∀ c, c < 5 → (gt z.2 (o + 1 + c) k).toInt = if k < i then bSc b a.toInt k c else b k c) ∧ ∀ c j, (c < o + 2 ∨ o + 5 < c) → gt z.2 c j = gt st c j) _ ?_ ?_ 0 _ (Nat.zero_le _) ⟨rfl, fun k hk c hc => by rw [if_neg (Nat.not_lt_zero _)]; exact h.2.2.1 k hk c hc, fun c j _ => rfl⟩
  · rintro i ⟨z, s⟩ hi ⟨k1, k2, k3⟩
    simp only at k1 k2 k3
    subst k1
    show ok (f_X5_stretch_L2 o a (nI i) s) _
    unfold f_X5_stretch_L2
    have e5 : gt s o 5 = nI n := by rw [k3 _ _ (by omega)]; exact h.1
    have g8 : ∀ {β : Type} (z : Option β), gd (nI i) 8 z = z := fun z => gd_n (by omega) (by omega)
    have c0 : (nI i).toNatClampNeg = i := nI_clamp (by omega)
    have u23 : ∀ (x : GS) j v i, gt (sv x (o + 2) j v) (o + 3) i = gt x (o + 3) i := fun x j v i => gt_sv_o (by omega)
    have u24 : ∀ (x : GS) j v i, gt (sv x (o + 2) j v) (o + 4) i = gt x (o + 4) i := fun x j v i => gt_sv_o (by omega)
    have u25 : ∀ (x : GS) j v i, gt (sv x (o + 2) j v) (o + 5) i = gt x (o + 5) i := fun x j v i => gt_sv_o (by omega)
    have u34 : ∀ (x : GS) j v i, gt (sv x (o + 3) j v) (o + 4) i = gt x (o + 4) i := fun x j v i => gt_sv_o (by omega)
    have u35 : ∀ (x : GS) j v i, gt (sv x (o + 3) j v) (o + 5) i = gt x (o + 5) i := fun x j v i => gt_sv_o (by omega)
    have u45 : ∀ (x : GS) j v i, gt (sv x (o + 4) j v) (o + 5) i = gt x (o + 5) i := fun x j v i => gt_sv_o (by omega)
    rw [e5, if_neg (nI_ge hi (by omega))]
    simp only [lt_, g8, c0, u23, u24, u25, u34, u35, u45, nI_p1]
    generalize hX : sv (sv (sv (sv s (o + 2) i (gt s (o + 2) i * a)) (o + 3) i (gt s (o + 3) i * a)) (o + 4) i (gt s (o + 4) i * a)) (o + 5) i (gt s (o + 5) i * a) = X
    have R : ∀ c j, (c < o + 2 ∨ o + 5 < c) → gt X c j = gt s c j := fun c j hc => by
      rw [← hX, gt_sv_o (by omega), gt_sv_o (by omega), gt_sv_o (by omega), gt_sv_o (by omega)]
    have R2 : ∀ c j, j ≠ i → gt X c j = gt s c j := fun c j hj => by
      rw [← hX, gt_sv_j hj, gt_sv_j hj, gt_sv_j hj, gt_sv_j hj]
    obtain ⟨-, p1, p2⟩ := hc.2.2.2 i hi
    have f : ∀ c, c < 5 → (gt s (o + 1 + c) i).toInt = b i c := fun c hc => by rw [k2 i hi c hc, if_neg (Nat.lt_irrefl _)]
    refine ok_some (Or.inl ⟨_, rfl, rfl, fun k hk c hc5 => ?_, fun c j hc => by rw [R c j hc]; exact k3 c j hc⟩)
    show (gt X (o + 1 + c) k).toInt = _
    by_cases e : k = i
    · subst e
      rw [if_pos (by omega)]
      unfold bSc
      match c, hc5 with
      | 0, _ => rw [if_pos rfl, R _ _ (by omega)]; exact f 0 (by decide)
      | 1, _ =>
        rw [if_neg (by decide), show o + 1 + 1 = o + 2 from rfl, ← hX, gt_sv_o (by omega), gt_sv_o (by omega), gt_sv_o (by omega), gt_sv_same]
        exact mulS (f 1 (by decide)) (by omega) ha
      | 2, _ =>
        rw [if_neg (by decide), show o + 1 + 2 = o + 3 from rfl, ← hX, gt_sv_o (by omega), gt_sv_o (by omega), gt_sv_same]
        exact mulS (f 2 (by decide)) (by omega) ha
      | 3, _ =>
        rw [if_neg (by decide), show o + 1 + 3 = o + 4 from rfl, ← hX, gt_sv_o (by omega), gt_sv_same]
        exact mulS (f 3 (by decide)) (by omega) ha
      | 4, _ =>
        rw [if_neg (by decide), show o + 1 + 4 = o + 5 from rfl, ← hX, gt_sv_same]
        exact mulS (f 4 (by decide)) (by omega) ha
    · rw [R2 _ _ e, k2 k hk c hc5]
      by_cases e2 : k < i
      · rw [if_pos e2, if_pos (by omega)]
      · rw [if_neg e2, if_neg (by omega)]
  · rintro ⟨z, s⟩ ⟨k1, k2, k3⟩
    simp only at k1 k2 k3
    subst k1
    show ok (f_X5_stretch_L2 o a (nI n) s) _
    unfold f_X5_stretch_L2
    have e5 : gt s o 5 = nI n := by rw [k3 _ _ (by omega)]; exact h.1
    rw [e5, if_pos (nI_le (Nat.le_refl _) (by omega))]
    refine ok_some ⟨_, rfl, ⟨e5, by rw [k3 _ _ (by omega)]; exact h.2.1, fun k hk c hc => ?_, fun i hi => by rw [k3 _ _ (by omega)]; exact h.2.2.2 i hi⟩, fun c j hc => k3 c j (by omega)⟩
    rw [k2 k hk c hc, if_pos hk]
theorem m_stretch {st : GS} {n : Nat} {b : Bx} {rs : List Int} (h : mIs st n b rs) (hc : okC n b rs) {a : Int32} (ha : 1 ≤ a.toInt ∧ a.toInt ≤ 5) : ok (lpx (uc2 (f_X8_scale_L39 a)) (0, st)) (fun st' => mIs st' n (bSc b a.toInt) rs ∧ ∀ c j, c ≠ 3 → gt st' c j = gt st c j) := by
  have hn := hc.1
  refine ok_for (4 * n) (fun i z => z.1 = nI i ∧ (∀ j, j < 4 * n → (gt z.2 3 j).toInt = if j < i then b (j / 4) (1 + j % 4) * a.toInt else b (j / 4) (1 + j % 4)) ∧ ∀ c j, c ≠ 3 → gt z.2 c j = gt st c j) _ ?_ ?_ 0 _ (Nat.zero_le _) ⟨rfl, fun j hj => by rw [if_neg (Nat.not_lt_zero _)]; exact h.cs hj, fun c j _ => rfl⟩
  · rintro i ⟨z, s⟩ hi ⟨k1, k2, k3⟩
    simp only at k1 k2 k3
    subst k1
    show ok (f_X8_scale_L39 a (nI i) s) _
    unfold f_X8_scale_L39
    have e5 : gt s 0 5 = nI n := by rw [k3 _ _ (by decide)]; exact h.1
    rw [e5, n4, if_neg (nI_ge hi (by omega)), gd_n (show i < 32 by omega) (by omega), gd_n (show i < 32 by omega) (by omega), nI_clamp (show i < 2 ^ 31 by omega)]
    refine ok_lt (ok_lt (ok_some (Or.inl ⟨_, rfl, nI_p1 i, fun j hj => ?_, fun c j hc => ?_⟩)))
    · show (gt (sv s 3 i (gt s 3 i * a)) 3 j).toInt = _
      by_cases e : j = i
      · subst e
        rw [gt_sv_same, if_pos (by omega)]
        have e1 := k2 j hj
        rw [if_neg (Nat.lt_irrefl _)] at e1
        refine mulS e1 ?_ ha
        obtain ⟨-, p1, p2⟩ := hc.2.2.2 (j / 4) (by omega)
        have : j % 4 = 0 ∨ j % 4 = 1 ∨ j % 4 = 2 ∨ j % 4 = 3 := by omega
        rcases this with q | q | q | q <;> rw [q]
        · show 0 ≤ b (j / 4) 1 ∧ b (j / 4) 1 ≤ 999; omega
        · show 0 ≤ b (j / 4) 2 ∧ b (j / 4) 2 ≤ 999; omega
        · show 0 ≤ b (j / 4) 3 ∧ b (j / 4) 3 ≤ 999; omega
        · show 0 ≤ b (j / 4) 4 ∧ b (j / 4) 4 ≤ 999; omega
      · rw [gt_sv_j e, k2 j hj]
        by_cases e2 : j < i
        · rw [if_pos e2, if_pos (by omega)]
        · rw [if_neg e2, if_neg (by omega)]
    · show gt (sv s 3 i (gt s 3 i * a)) c j = _
      rw [gt_sv_o hc]; exact k3 c j hc
  · rintro ⟨z, s⟩ ⟨k1, k2, k3⟩
    simp only at k1 k2 k3
    subst k1
    show ok (f_X8_scale_L39 a (nI (4 * n)) s) _
    unfold f_X8_scale_L39
    have e5 : gt s 0 5 = nI n := by rw [k3 _ _ (by decide)]; exact h.1
    rw [e5, n4, if_pos (nI_le (Nat.le_refl _) (by omega))]
    refine ok_some ⟨_, rfl, ⟨e5, by rw [k3 _ _ (by decide)]; exact h.2.1, fun k hk => ⟨?_, fun c hc4 => ?_⟩, fun i hi => by rw [k3 _ _ (by decide)]; exact h.2.2.2 i hi⟩, k3⟩
    · rw [k3 _ _ (by decide)]; exact h.c0 hk
    · have := k2 (4 * k + c) (by omega)
      rw [if_pos (by omega), show (4 * k + c) / 4 = k by omega, show (4 * k + c) % 4 = c by omega] at this
      rw [this]
      unfold bSc
      rw [if_neg (by omega)]
theorem r_scale : op_scale Rel := by
  intro c X M a1 _ h
  obtain ⟨n, b, rs, t, p, s, hp, h⟩ := h
  obtain ⟨g1, g2, g3, g4, g5, g6, g7, g8⟩ := id h
  have hn := g1.1
  have l999 : (999 : Int32).toInt = 999 := by decide
  unfold f_X7_scale f_X8_scale
  by_cases h1 : 1 ≤ a1.toInt ∧ a1.toInt ≤ 5
  · obtain ⟨v, v1, v2⟩ := x_great g2 hn
    obtain ⟨w, w1, w2⟩ := m_great g4 hn
    have gl := grN_le g1 n (Nat.le_refl _)
    rw [grM_N g1 n (Nat.le_refl _)] at w2
    have e : w = v := i_eq w2 v2
    subst e
    rw [if_neg (by rw [lt32, l32_1]; omega), if_neg (by rw [lt32, l32_5]; omega), in_1 (l := 1) (h := 5) (by decide) (by decide) h1, bI1_s, if_neg i10, v1, w1, bI1_s, bI1_s, Int32.mul_comm a1 w]
    by_cases h2 : w * a1 ≤ 999
    · rw [if_pos h2, if_pos h2]
      rcases page_or g2.1 g4.1 hn with ⟨_, e1, e2⟩ | ⟨h0, e1, e2⟩
      · rw [e1, e2, bI1_s, bI1_s, if_neg i10, if_neg i10]
        exact ⟨_, _, _, rfl, rfl, Rel_of hp h⟩
      · rw [e1, e2, bI1_s, bI1_s, if_pos rfl, if_pos rfl]
        obtain ⟨X2, x1, x2, x3⟩ := x_stretch g2 g1 h1
        obtain ⟨M2, m1, m2, m3⟩ := m_stretch g4 g1 h1
        rw [x1, m1, bI1_s, bI1_s]
        rw [le32, mulS w2 gl h1, l999] at h2
        have hok : okC n (bSc b a1.toInt) rs := by
          refine ⟨hn, g1.2.1, g1.2.2.1, fun k hk => ?_⟩
          have q1 := g1.2.2.2 k hk
          have q2 := grN_all (b := b) n k hk
          unfold bSc
          rw [if_pos rfl, if_neg (show ¬ (1 : Nat) = 0 by decide), if_neg (show ¬ (2 : Nat) = 0 by decide), if_neg (show ¬ (3 : Nat) = 0 by decide), if_neg (show ¬ (4 : Nat) = 0 by decide)]
          have h3 : a1.toInt = 1 ∨ a1.toInt = 2 ∨ a1.toInt = 3 ∨ a1.toInt = 4 ∨ a1.toInt = 5 := by omega
          rcases h3 with h3 | h3 | h3 | h3 | h3 <;> rw [h3] at h2 ⊢ <;> omega
        obtain ⟨X3, r1, r2⟩ := rel_upd h hok x2 (fun c j hc => x3 c j (by omega)) m2 (fun c j => mW_keep (fun c j _ a2 _ => m3 c j a2))
        rw [r1, bI1_s]
        obtain ⟨v', v1', v2'⟩ := x_great r2.2.1 hn
        obtain ⟨w', w1', w2'⟩ := m_great m2 hn
        rw [grM_N hok n (Nat.le_refl _)] at w2'
        have e : w' = v' := i_eq w2' v2'
        subst e
        rw [v1', w1', bI1_s, bI1_s]
        exact ⟨_, _, _, rfl, rfl, Rel_of hp r2⟩
    · rw [if_neg h2, if_neg h2]
      exact ⟨_, _, _, rfl, rfl, Rel_of hp h⟩
  · refine ⟨-102, X, M, ?_, ?_, Rel_of hp h⟩
    · by_cases q : a1 < 1
      · rw [if_pos q]
      · rw [if_neg q, if_pos (by rw [lt32, l32_1] at q; rw [lt32, l32_5]; omega)]
    · rw [in_0 (l := 1) (h := 5) (by decide) (by decide) h1, bI1_s, if_pos rfl]
