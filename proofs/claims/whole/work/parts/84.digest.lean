-- THE DIGEST: both sides go together
theorem m_say (v : Int64) (st : GS) : f_X8_say v st = some (sl st (31 * gl st + v)) := rfl
theorem joint {A : Int64 → Int32 → Option ((Int64 × Int32) ⊕ Int64)} {B : Int32 → GS → Option ((Int32 × GS) ⊕ GS)} (N : Nat) (P : GS → Prop) (hs : ∀ i M, i < N → P M → ∃ M1, A (gl M) (nI i) = some (.inl (gl M1, nI (i + 1))) ∧ B (nI i) M = some (.inl (nI (i + 1), M1)) ∧ P M1) (he : ∀ M, P M → A (gl M) (nI N) = some (.inr (gl M)) ∧ B (nI N) M = some (.inr M)) : ∀ m i M, m = N - i → i ≤ N → P M → ∃ M2, lpx (uc2 A) (gl M, nI i) = some (gl M2) ∧ lpx (uc2 B) (nI i, M) = some M2 ∧ P M2 := by
  intro m
  induction m with
  | zero =>
    intro i M hm hi hP
    have e : i = N := by omega
    subst e
    obtain ⟨h1, h2⟩ := he M hP
    exact ⟨M, lpx_end h1, lpx_end h2, hP⟩
  | succ m ih =>
    intro i M hm hi hP
    obtain ⟨M1, h1, h2, h3⟩ := hs i M (by omega) hP
    obtain ⟨M2, k1, k2, k3⟩ := ih (i + 1) M1 (by omega) (by omega) h3
    exact ⟨M2, (lpx_go (s' := (gl M1, nI (i + 1))) h1).trans k1, (lpx_go (s' := (nI (i + 1), M1)) h2).trans k2, k3⟩
theorem joint0 {A : Int64 → Int32 → Option ((Int64 × Int32) ⊕ Int64)} {B : Int32 → GS → Option ((Int32 × GS) ⊕ GS)} (N : Nat) (P : GS → Prop) (hs : ∀ i M, i < N → P M → ∃ M1, A (gl M) (nI i) = some (.inl (gl M1, nI (i + 1))) ∧ B (nI i) M = some (.inl (nI (i + 1), M1)) ∧ P M1) (he : ∀ M, P M → A (gl M) (nI N) = some (.inr (gl M)) ∧ B (nI N) M = some (.inr M)) {M : GS} (hP : P M) : ∃ M2, lpx (uc2 A) (gl M, 0) = some (gl M2) ∧ lpx (uc2 B) (0, M) = some M2 ∧ P M2 := joint N P hs he N 0 M rfl (Nat.zero_le _) hP
theorem dg_boxes {n : Nat} {b : Bx} {rs : List Int} {t p s : Nat} {X M : GS} (h : RelA n b rs t p s X M) : ∃ M2, lpx (uc2 (f_X7_digest_L6 X)) (gl M, 0) = some (gl M2) ∧ lpx (uc2 f_X8_sayPage_L2) (0, M) = some M2 ∧ RelA n b rs t p s X M2 := by
  have hn := h.1.1
  refine joint0 n (RelA n b rs t p s X) (fun k M hk hM => ?_) (fun M hM => ⟨?_, ?_⟩) h
  · have hin : ∃ M2, lpx (uc2 (f_X7_digest_L23 X (nI k))) (gl M, 0) = some (gl M2) ∧ lpx (uc2 (f_X8_sayPage_L12 (nI k))) (0, M) = some M2 ∧ RelA n b rs t p s X M2 := by
      refine joint0 10 (RelA n b rs t p s X) (fun w M hw hM => ?_) (fun M hM => ⟨?_, ?_⟩) hM
      · obtain ⟨r, M1, x1, x2, x3⟩ := box_tell hM hk (nI w)
        refine ⟨sl M1 (31 * gl M + Int32.toInt64 r), ?_, ?_, RelA_keep hM (xK_rf X) (fun c j w => oK_mK x3 c j w)⟩
        · unfold f_X7_digest_L23
          rw [if_neg (show ¬ 9 < nI w from nI_nlt (b := 9) (a := 9) (by omega) (by omega) |> fun _ => by rw [lt32, l32_9, nI_T (by omega)]; omega), x1, bI1_s]
          simp only [lt_, nI_p1, gl_sl]
        · unfold f_X8_sayPage_L12
          rw [if_neg (show ¬ (10 : Int32) ≤ nI w from nI_ge (b := 10) hw (by omega)), x2, bI2_s, m_say, bI1_s, x3.1]
          simp only [lt_, nI_p1]
      · unfold f_X7_digest_L23
        rw [if_pos (by decide)]
      · unfold f_X8_sayPage_L12
        rw [if_pos (by decide)]
    obtain ⟨M2, x1, x2, x3⟩ := hin
    refine ⟨M2, ?_, ?_, x3⟩
    · unfold f_X7_digest_L6
      rw [h.2.1.1, if_neg (nI_ge hk (by omega)), x1, bI1_s]
      simp only [lt_, nI_p1]
    · unfold f_X8_sayPage_L2
      rw [hM.2.2.2.1.1, if_neg (nI_ge hk (by omega)), x2, bI1_s]
      simp only [lt_, nI_p1]
  · unfold f_X7_digest_L6
    rw [h.2.1.1, if_pos (nI_le (Nat.le_refl _) (by omega))]
  · unfold f_X8_sayPage_L2
    rw [hM.2.2.2.1.1, if_pos (nI_le (Nat.le_refl _) (by omega))]
theorem mreads_sl {M : GS} {n : Nat} {b : Bx} {rs : List Int} {ids : List Nat} {v : Int64} (h : mreads M n b rs ids) : mreads (sl M v) n b rs ids := h
theorem dg_order {n : Nat} {b : Bx} {rs : List Int} {t p s : Nat} {X M : GS} (h : RelA n b rs t p s X M) (hm : mreads M n b rs (List.range n)) : ∃ M2, lpx (uc2 (f_X7_digest_L59 X)) (gl M, 0) = some (gl M2) ∧ lpx (uc2 f_X8_sayPage_L47) (0, M) = some M2 ∧ (RelA n b rs t p s X M2 ∧ mreads M2 n b rs (List.range n)) := by
  have hn := h.1.1
  have hp := h.1.p
  have hl := ords_len hp
  have e3 : gt X 3 2 = nI n := by rw [h.2.2.1.1.1, hl]
  refine joint0 n (fun M => RelA n b rs t p s X M ∧ mreads M n b rs (List.range n)) (fun k M hk hM => ?_) (fun M hM => ⟨?_, ?_⟩) ⟨h, hm⟩
  · obtain ⟨o1, o2⟩ := order_at hp h.2.2.1 hM.2 hk
    refine ⟨sl M (31 * gl M + Int32.toInt64 (gt M 6 k)), ?_, ?_, RelA_keep hM.1 (xK_rf X) (fun c j w => rfl), mreads_sl hM.2⟩
    · unfold f_X7_digest_L59 f_X7_order
      rw [e3, if_neg (nI_ge hk (by omega)), if_neg (nI_pos (by omega)), if_neg (nI_ge hk (by omega)), gd_n (show k < 8 by omega) (by omega), nI_clamp (show k < 2 ^ 31 by omega), bI1_s, o1, o2]
      simp only [lt_, nI_p1, gl_sl]
    · unfold f_X8_sayPage_L47
      rw [hM.1.2.2.2.1.1, if_neg (nI_ge hk (by omega)), gd_n (show k < 8 by omega) (by omega), nI_clamp (show k < 2 ^ 31 by omega), m_say, bI1_s]
      simp only [lt_, nI_p1]
  · unfold f_X7_digest_L59
    rw [e3, if_pos (nI_le (Nat.le_refl _) (by omega))]
  · unfold f_X8_sayPage_L47
    rw [hM.1.2.2.2.1.1, if_pos (nI_le (Nat.le_refl _) (by omega))]
theorem cut_at {n : Nat} {b : Bx} {rs : List Int} {X M : GS} (hp : okP n b rs) (hr : reads X 3 n b rs) (hm : mreads M n b rs (List.range n)) {i w : Nat} (hi : i < (cts b rs (List.range n)).length) (hw : w < 5) : f_X7_cut (nI i) (nI w) X = some (gt M 7 (5 * i + w)) := by
  have hl := cts_len hp
  obtain ⟨v0, v1, v2, v3, v4⟩ := cut_vals hr hm hi
  have e1 : gt X 16 5 = nI (cts b rs (List.range n)).length := hr.2.2.2.2.2.1.1
  unfold f_X7_cut
  rw [if_neg (nI_pos (by omega)), e1, if_pos (nI_lt hi (by omega))]
  simp only [gd_n (show i < 7 by omega) (show 7 < 2147483648 by omega), nI_clamp (show i < 2 ^ 31 by omega)]
  match w, hw with
  | 0, _ => rw [if_pos (by decide), Nat.add_zero, v0]
  | 1, _ => rw [if_neg (by decide), if_pos (by decide), v1]
  | 2, _ => rw [if_neg (by decide), if_neg (by decide), if_pos (by decide), v2]
  | 3, _ => rw [if_neg (by decide), if_neg (by decide), if_neg (by decide), if_pos (by decide), v3]
  | 4, _ => rw [if_neg (by decide), if_neg (by decide), if_neg (by decide), if_neg (by decide), if_pos (by decide), v4]
theorem dg_cut1 {n : Nat} {b : Bx} {rs : List Int} {t p s : Nat} {X : GS} {i : Nat} (hi : i < (cts b rs (List.range n)).length) : ∀ (m w : Nat) (M : GS), m = 5 - w → w ≤ 5 → RelA n b rs t p s X M → mreads M n b rs (List.range n) → ∃ M2, lpx (uc2 (f_X7_digest_L108 X (nI i))) (gl M, nI w) = some (gl M2) ∧ lpx (uc2 f_X8_sayPage_L74) (nI (5 * i + w), M) = lpx (uc2 f_X8_sayPage_L74) (nI (5 * (i + 1)), M2) ∧ RelA n b rs t p s X M2 ∧ mreads M2 n b rs (List.range n) := by
  intro m
  induction m with
  | zero =>
    intro w M hm hw h1 h2
    have e : w = 5 := by omega
    subst e
    refine ⟨M, lpx_end ?_, rfl, h1, h2⟩
    show f_X7_digest_L108 X (nI i) (gl M) (nI 5) = _
    unfold f_X7_digest_L108
    rw [if_pos (by decide)]
  | succ m ih =>
    intro w M hm hw h1 h2
    have hl := cts_len h1.1.p
    have ec := cut_at h1.1.p h1.2.2.1 h2 hi (show w < 5 by omega)
    have a1 : f_X7_digest_L108 X (nI i) (gl M) (nI w) = some (.inl (gl (sl M (31 * gl M + Int32.toInt64 (gt M 7 (5 * i + w)))), nI (w + 1))) := by
      unfold f_X7_digest_L108
      rw [if_neg (show ¬ 4 < nI w by rw [lt32, l32_4, nI_T (by omega)]; omega), ec, bI1_s]
      simp only [lt_, nI_p1, gl_sl]
    have a2 : f_X8_sayPage_L74 (nI (5 * i + w)) M = some (.inl (nI (5 * i + (w + 1)), sl M (31 * gl M + Int32.toInt64 (gt M 7 (5 * i + w))))) := by
      unfold f_X8_sayPage_L74
      rw [h2.2.1.1, n5, if_neg (nI_ge (by omega) (by omega)), gd_n (show 5 * i + w < 40 by omega) (by omega), nI_clamp (show 5 * i + w < 2 ^ 31 by omega), m_say, bI1_s]
      simp only [lt_, nI_p1]
      rfl
    obtain ⟨M2, k1, k2, k3, k4⟩ := ih (w + 1) (sl M (31 * gl M + Int32.toInt64 (gt M 7 (5 * i + w)))) (by omega) (by omega) (RelA_keep h1 (xK_rf X) (fun c j w => rfl)) (mreads_sl h2)
    exact ⟨M2, (lpx_go a1).trans k1, (lpx_go a2).trans k2, k3, k4⟩
theorem dg_cuts {n : Nat} {b : Bx} {rs : List Int} {t p s : Nat} {X : GS} : ∀ (m i : Nat) (M : GS), m = (cts b rs (List.range n)).length - i → i ≤ (cts b rs (List.range n)).length → RelA n b rs t p s X M → mreads M n b rs (List.range n) → ∃ M2, lpx (uc2 (f_X7_digest_L91 X)) (gl M, nI i) = some (gl M2) ∧ lpx (uc2 f_X8_sayPage_L74) (nI (5 * i), M) = some M2 ∧ RelA n b rs t p s X M2 := by
  intro m
  induction m with
  | zero =>
    intro i M hm hi h1 h2
    have hl := cts_len h1.1.p
    have e : i = (cts b rs (List.range n)).length := by omega
    have e1 : gt X 16 5 = nI (cts b rs (List.range n)).length := h1.2.2.1.2.2.2.2.2.1.1
    refine ⟨M, lpx_end ?_, lpx_end ?_, h1⟩
    · show f_X7_digest_L91 X (gl M) (nI i) = _
      unfold f_X7_digest_L91
      rw [e1, if_pos (nI_le (by omega) (by omega))]
    · show f_X8_sayPage_L74 (nI (5 * i)) M = _
      unfold f_X8_sayPage_L74
      rw [h2.2.1.1, n5, if_pos (nI_le (by omega) (by omega))]
  | succ m ih =>
    intro i M hm hi h1 h2
    have hl := cts_len h1.1.p
    have e1 : gt X 16 5 = nI (cts b rs (List.range n)).length := h1.2.2.1.2.2.2.2.2.1.1
    obtain ⟨M2, k1, k2, k3, k4⟩ := dg_cut1 (i := i) (by omega) 5 0 M rfl (by omega) h1 h2
    obtain ⟨M3, j1, j2, j3⟩ := ih (i + 1) M2 (by omega) (by omega) k3 k4
    refine ⟨M3, (lpx_go (s' := (gl M2, nI (i + 1))) ?_).trans j1, k2.trans j2, j3⟩
    show f_X7_digest_L91 X (gl M) (nI i) = _
    unfold f_X7_digest_L91
    have k1' : lpx (uc2 (f_X7_digest_L108 X (nI i))) (gl M, 0) = some (gl M2) := k1
    rw [e1, if_neg (nI_ge (by omega) (by omega)), k1', bI1_s]
    simp only [lt_, nI_p1]
theorem dg_text {n : Nat} {b : Bx} {rs : List Int} {t p s : Nat} {X M : GS} (h : RelA n b rs t p s X M) : ∃ M2, lpx (uc2 (f_X7_digest_L174 X)) (gl M, 0) = some (gl M2) ∧ lpx (uc2 f_X8_digest_L20) (0, M) = some M2 ∧ RelA n b rs t p s X M2 := by
  have ht := h.2.2.2.2.1.1
  have h11 := h.2.2.2.2.1.2.1
  refine joint0 t (RelA n b rs t p s X) (fun k M hk hM => ?_) (fun M hM => ⟨?_, ?_⟩) h
  · have h01 := hM.2.2.2.2.1.2.2.1
    have he := (hM.2.2.2.2.1.2.2.2 k hk).1
    refine ⟨sl M (31 * gl M + Int32.toInt64 (gt M 1 k)), ?_, ?_, RelA_keep hM (xK_rf X) (fun c j w => rfl)⟩
    · unfold f_X7_digest_L174
      rw [h11, if_neg (nI_ge hk (by omega)), gd_n (show k < 54 by omega) (by omega), nI_clamp (show k < 2 ^ 31 by omega), he]
      simp only [lt_, nI_p1, gl_sl]
    · unfold f_X8_digest_L20
      rw [h01, if_neg (nI_ge hk (by omega)), gd_n (show k < 54 by omega) (by omega), nI_clamp (show k < 2 ^ 31 by omega), m_say, bI1_s]
      simp only [lt_, nI_p1]
  · unfold f_X7_digest_L174
    rw [h11, if_pos (nI_le (Nat.le_refl _) (by omega))]
  · unfold f_X8_digest_L20
    rw [hM.2.2.2.2.1.2.2.1, if_pos (nI_le (Nat.le_refl _) (by omega))]
theorem dg_count {n : Nat} {b : Bx} {rs : List Int} {t p s : Nat} {X M : GS} (h : RelA n b rs t p s X M) : ∃ M2, lpx (uc2 (f_X7_digest_L210 X)) (gl M, 0) = some (gl M2) ∧ lpx (uc2 f_X8_digest_L47) (0, M) = some M2 ∧ RelA n b rs t p s X M2 := by
  refine joint0 8 (RelA n b rs t p s X) (fun w M hw hM => ?_) (fun M hM => ⟨?_, ?_⟩) h
  · obtain ⟨r, M1, x1, x2, x3⟩ := count_tell hM (nI w)
    refine ⟨sl M1 (31 * gl M + Int32.toInt64 r), ?_, ?_, RelA_keep hM (xK_rf X) (fun c j w => oK_mK x3 c j w)⟩
    · unfold f_X7_digest_L210
      rw [if_neg (show ¬ 7 < nI w by rw [lt32, l32_7, nI_T (by omega)]; omega), x1, bI1_s]
      simp only [lt_, nI_p1, gl_sl]
    · unfold f_X8_digest_L47
      rw [if_neg (show ¬ (8 : Int32) ≤ nI w from nI_ge (b := 8) hw (by omega)), x2, bI2_s, m_say, bI1_s, x3.1]
      simp only [lt_, nI_p1]
  · unfold f_X7_digest_L210
    rw [if_pos (by decide)]
  · unfold f_X8_digest_L47
    rw [if_pos (by decide)]
theorem r_digest : op_digest Rel := by
  intro c X M _ h
  obtain ⟨n, b, rs, t, p, s, hp, h⟩ := h
  have h0 : RelA n b rs t p s X (sl M 1429) := RelA_keep h (xK_rf X) (fun c j w => rfl)
  obtain ⟨g1, g2, g3, g4, g5, g6, g7, g8⟩ := id h0
  have hn := g1.1
  have hP := g1.p
  -- up to the letters
  have first : ∃ (h1 : Int64) (X5 M5 : GS), bI1 (lpx (uc2 (f_X7_digest_L6 X)) (1429, 0)) (fun x12 => bI1 (lpx (uc2 (f_X7_digest_L59 X)) (x12, 0)) (fun x19 => bI1 (lpx (uc2 (f_X7_digest_L91 X)) (x19, 0)) (fun x31 => bI1 (f_X7_hasNoPage X) (fun r32 => if r32 = 0 then bI2 (f_X7_idle X) (fun r36 st37 => lt_ ((31 * x31) + (Int32.toInt64 r36)) (fun x38 => bI2 (f_X7_free st37) (fun r39 st40 => lt_ ((31 * x38) + (Int32.toInt64 r39)) (fun x41 => some (x41, st40))))) else some (x31, X))))) = some (h1, X5) ∧ bI1 (f_X8_lacks (sl M 1429)) (fun r2 => if r2 = 0 then bI1 (f_X8_sayPage (sl M 1429)) (fun st5 => some st5) else some (sl M 1429)) = some M5 ∧ RelA n b rs t p s X5 M5 ∧ gl M5 = h1 := by
    rcases page_or g2.1 g4.1 hn with ⟨n0, e1, e2⟩ | ⟨hpos, e1, e2⟩
    · subst n0
      refine ⟨1429, X, sl M 1429, ?_, by rw [e2, bI1_s, if_neg i10], h0, rfl⟩
      have c0 : (cts b rs (List.range 0)) = [] := by
        unfold cts; rw [if_pos (show fre b (List.range 0) = [] from rfl)]
      have z1 : lpx (uc2 (f_X7_digest_L6 X)) (1429, 0) = some 1429 := by
        refine lpx_end ?_
        show f_X7_digest_L6 X 1429 0 = _
        unfold f_X7_digest_L6
        rw [g2.1, if_pos (by decide)]
      have z2 : lpx (uc2 (f_X7_digest_L59 X)) (1429, 0) = some 1429 := by
        refine lpx_end ?_
        show f_X7_digest_L59 X 1429 0 = _
        unfold f_X7_digest_L59
        rw [g3.1.1, ords_len hP, if_pos (by decide)]
      have z3 : lpx (uc2 (f_X7_digest_L91 X)) (1429, 0) = some 1429 := by
        refine lpx_end ?_
        show f_X7_digest_L91 X 1429 0 = _
        unfold f_X7_digest_L91
        have e1 : gt X 16 5 = nI (cts b rs (List.range 0)).length := g3.2.2.2.2.2.1.1
        rw [e1, c0, if_pos (by decide)]
      rw [z1, bI1_s, z2, bI1_s, z3, bI1_s, e1, bI1_s, if_neg i10]
    · obtain ⟨M2, a1, a2, a3⟩ := dg_boxes h0
      obtain ⟨M3, b1, b2, b3⟩ := m_all a3.2.2.2.1 hP
      have r3 : RelA n b rs t p s X M3 := RelA_keep a3 (xK_rf X) (oK_mK b3)
      obtain ⟨M4, c1, c2, c3, c4⟩ := dg_order r3 b2
      obtain ⟨M5, d1, d2, d3⟩ := dg_cuts (cts b rs (List.range n)).length 0 M4 rfl (Nat.zero_le _) c3 c4
      obtain ⟨r, X6, M6, i1, i2, i3, i4⟩ := idle_tell d3 hpos
      have r6 : RelA n b rs t p s X6 (sl M6 (31 * gl M6 + Int32.toInt64 r)) := RelA_keep i3 (xK_rf X6) (fun c j w => rfl)
      obtain ⟨r', X7, M7, j1, j2, j3, j4⟩ := free_tell r6 hpos
      have r7 : RelA n b rs t p s X7 (sl M7 (31 * gl M7 + Int32.toInt64 r')) := RelA_keep j3 (xK_rf X7) (fun c j w => rfl)
      have a1' : lpx (uc2 (f_X7_digest_L6 X)) (1429, 0) = some (gl M2) := a1
      have d1' : lpx (uc2 (f_X7_digest_L91 X)) (gl M4, 0) = some (gl M5) := d1
      have d2' : lpx (uc2 f_X8_sayPage_L74) (0, M4) = some M5 := d2
      rw [b3.1] at c1
      refine ⟨_, X7, sl M7 (31 * gl M7 + Int32.toInt64 r'), ?_, ?_, r7, rfl⟩
      · rw [a1', bI1_s, c1, bI1_s, d1', bI1_s, e1, bI1_s, if_pos rfl, i1, bI2_s]
        simp only [lt_]
        rw [j1, bI2_s, j4, gl_sl, i4]
        rfl
      · unfold f_X8_sayPage
        rw [e2, bI1_s, if_pos rfl, a2, bI1_s, b1, bI1_s, c2, bI1_s, d2', bI1_s, i2, bI2_s, m_say, bI1_s, j2, bI2_s, m_say, bI1_s, bI1_s]
  obtain ⟨h1, X5, M5, f1, f2, f3, f4⟩ := first
  subst f4
  obtain ⟨M6, k1, k2, k3⟩ := dg_text f3
  obtain ⟨M7, l1, l2, l3⟩ := dg_count k3
  refine ⟨gl M7, X5, M7, ?_, ?_, Rel_of hp l3⟩
  · unfold f_X7_digest
    have assoc : ∀ {α β γ : Type} (x : Option α) (f : α → Option β) (g : β → Option γ), bI1 x (fun a => bI1 (f a) g) = bI1 (bI1 x f) g := fun x f g => by cases x <;> rfl
    have assoc2 : ∀ {α β β' γ : Type} (x : Option α) (f : α → Option (β × β')) (g : β → β' → Option γ), bI1 x (fun a => bI2 (f a) g) = bI2 (bI1 x f) g := fun x f g => by cases x <;> rfl
    simp only [assoc2]
    rw [f1, bI2_s, k1, bI1_s, l1, bI1_s]
  · unfold f_X8_digest
    simp only [lt_]
    have assoc : ∀ {α β γ : Type} (x : Option α) (f : α → Option β) (g : β → Option γ), bI1 x (fun a => bI1 (f a) g) = bI1 (bI1 x f) g := fun x f g => by cases x <;> rfl
    rw [assoc, f2, bI1_s, k2, bI1_s, l2, bI1_s]
