theorem shIs_keep {st st' : GS} {o n : Nat} {b : Bx} {rs : List Int} (h : shIs st o n b rs) (hk : ∀ c j, o ≤ c → c ≤ o + 6 → gt st' c j = gt st c j) : shIs st' o n b rs := by
  obtain ⟨q1, q2, q3, q4⟩ := h
  exact ⟨by rw [hk _ _ (by omega) (by omega)]; exact q1, by rw [hk _ _ (by omega) (by omega)]; exact q2, fun k hk2 c hc => by rw [hk _ _ (by omega) (by omega)]; exact q3 k hk2 c hc, fun i hi => by rw [hk _ _ (by omega) (by omega)]; exact q4 i hi⟩
/-- the cuts' rows hold a list -/
def ctS (st : GS) (q : Nat) (C : List Ct) : Prop := gt st q 5 = nI C.length ∧ ∀ i c, C[i]? = some c → gt st (q + 1) i = nI c.1.1 ∧ (gt st (q + 2) i).toInt = c.1.2.1 ∧ (gt st (q + 3) i).toInt = c.1.2.2 ∧ gt st (q + 4) i = nI c.2.1 ∧ gt st (q + 5) i = nI c.2.2
theorem ctS_keep {st st' : GS} {q : Nat} {C : List Ct} (h : ctS st q C) (hk : ∀ c j, q ≤ c → c ≤ q + 5 → gt st' c j = gt st c j) : ctS st' q C := by
  obtain ⟨h1, h2⟩ := h
  refine ⟨by rw [hk _ _ (by omega) (by omega)]; exact h1, fun i c hc => ?_⟩
  rw [hk _ _ (by omega) (by omega), hk _ _ (by omega) (by omega), hk _ _ (by omega) (by omega), hk _ _ (by omega) (by omega), hk _ _ (by omega) (by omega)]
  exact h2 i c hc
theorem x_cadd {st : GS} {q : Nat} {C : List Ct} (h : ctS st q C) (hl : C.length < 7) {c : Ct} {a2 a3 : Int32} (e2 : a2.toInt = c.1.2.1) (e3 : a3.toInt = c.1.2.2) :
    ok (f_X0_add q (nI c.1.1) a2 a3 (nI c.2.1) (nI c.2.2) st) (fun st' => ctS st' q (C ++ [c]) ∧ kpt q (q + 5) st st') := by
  unfold f_X0_add
  have n1 : ¬ (7 : Int32) ≤ nI C.length := by rw [show (7 : Int32) = nI 7 from rfl, nI_leI (by omega) (by omega)]; omega
  rw [h.1, if_neg n1]
  have d : ∀ (s : GS) (o j : Nat) (v : Int32), o ≠ q → gt (sv s o j v) q 5 = gt s q 5 := fun s o j v ho => gt_sv_o (Ne.symm ho)
  simp only [lt_, d _ (q + 1) _ _ (by omega), d _ (q + 2) _ _ (by omega), d _ (q + 3) _ _ (by omega), d _ (q + 4) _ _ (by omega), d _ (q + 5) _ _ (by omega), h.1, gd_n hl (show 7 < 2147483648 by omega), nI_clamp (show C.length < 2 ^ 31 by omega)]
  refine ok_some ⟨⟨?_, fun i c' hc => ?_⟩, ?_⟩
  · rw [gt_sv_same, List.length_append]; exact nI_p1 _
  · rcases Nat.lt_or_ge i C.length with hi | hi
    · rw [List.getElem?_append_left hi] at hc
      have := h.2 i c' hc
      simp only [gt_sv_o (show q + 1 ≠ q by omega), gt_sv_o (show q + 2 ≠ q by omega), gt_sv_o (show q + 3 ≠ q by omega), gt_sv_o (show q + 4 ≠ q by omega), gt_sv_o (show q + 5 ≠ q by omega), gt_sv_j (show i ≠ C.length by omega)]
      exact this
    · have hi2 : i = C.length := by
        have := (List.getElem?_eq_some_iff.mp hc).1
        rw [List.length_append] at this
        simp at this; omega
      subst hi2
      rw [List.getElem?_append_right (Nat.le_refl _), Nat.sub_self] at hc
      cases hc
      refine ⟨?_, ?_, ?_, ?_, ?_⟩
      · rw [gt_sv_o (by omega), gt_sv_o (by omega), gt_sv_o (by omega), gt_sv_o (by omega), gt_sv_o (by omega), gt_sv_same]
      · rw [gt_sv_o (by omega), gt_sv_o (by omega), gt_sv_o (by omega), gt_sv_o (by omega), gt_sv_same]; exact e2
      · rw [gt_sv_o (by omega), gt_sv_o (by omega), gt_sv_o (by omega), gt_sv_same]; exact e3
      · rw [gt_sv_o (by omega), gt_sv_o (by omega), gt_sv_same]
      · rw [gt_sv_o (by omega), gt_sv_same]
  · exact kpt_sv (kpt_sv (kpt_sv (kpt_sv (kpt_sv (kpt_sv (kpt_rf _ _ _) (by omega) (by omega)) (by omega) (by omega)) (by omega) (by omega)) (by omega) (by omega)) (by omega) (by omega)) (by omega) (by omega)
theorem rdf_len {b : Bx} {rs : List Int} : ∀ (n : Nat) (ids : List Nat) (d : Nat), ids.length ≤ n → ids ≠ [] → okB b ids → (rdf b rs ids d).1.length + 1 = (rdf b rs ids d).2.length ∧ (rdf b rs ids d).2.length ≤ ids.length := by
  intro n
  induction n with
  | zero => intro ids d h hne _; exact absurd (List.eq_nil_of_length_eq_zero (by omega)) hne
  | succ n ih =>
    intro ids d h hne hb
    have hpos : 0 < ids.length := List.length_pos_iff.mpr hne
    cases hq : best b ids with
    | none => rw [rdf_none hq]; simp; omega
    | some l =>
      have hl := (best_spec hq).1
      have e := sd_len b l ids
      have p1 := fsd_pos hl
      have p2 := ssd_pos hb hl
      rw [rdf_some hb hq]
      have i1 := ih (fsd b l ids) (d + 1) (by omega) (List.length_pos_iff.mp p1) (okB_sub hb fsd_sub)
      have i2 := ih (ssd b l ids) (d + 1) (by omega) (List.length_pos_iff.mp p2) (okB_sub hb ssd_sub)
      simp only [List.length_cons, List.length_append]
      omega
/-- what a part's reading leaves as it was -/
def prK (o fr : Nat) (ids : List Nat) (st st' : GS) : Prop := (∀ c j, (c < o ∨ (o < c ∧ c < o + 11) ∨ o + 24 < c) → gt st' c j = gt st c j) ∧ (∀ j, j ≠ 7 → gt st' o j = gt st o j) ∧ (∀ k, k ∉ ids → gt st' (o + 11) k = gt st (o + 11) k ∧ gt st' (o + 12) k = gt st (o + 12) k) ∧ (∀ j, (j < fr ∨ fr + ids.length ≤ j) → gt st' (o + 23) j = gt st (o + 23) j)
def lvS (st : GS) (o L : Nat) (ls : List (List Nat × Nat)) : Prop := ∀ i p, ls[i]? = some p → ∀ k ∈ p.1, gt st (o + 12) k = nI (L + i) ∧ gt st (o + 11) k = nI p.2
theorem okB_of {n : Nat} {b : Bx} {rs : List Int} (hp : okP n b rs) {ids : List Nat} (hid : ∀ k ∈ ids, k < n) : okB b ids := fun k hk s hs => by
  obtain ⟨-, h1, h2⟩ := hp.2.2.2 k (hid k hk)
  match s, hs with
  | 0, _ => exact h1.2.1
  | 1, _ => exact h2.2.1
theorem x_part {o n : Nat} {b : Bx} {rs : List Int} (hp : okP n b rs) : ∀ (F : Nat) (ids : List Nat) (fr d L : Nat) (C : List Ct) (st : GS), shIs st (o + 1) n b rs → (∀ k ∈ ids, k < n) → ids.Nodup → ids ≠ [] → fr + ids.length ≤ 8 → d + ids.length ≤ 8 → ids.length ≤ F → C.length + ids.length ≤ 8 → sg st (o + 23) fr ids → gt st o 7 = nI L → ctS st (o + 13) C →
    ok (f_X3_readPart F o (nI fr) (nI (fr + ids.length)) (nI d) st) (fun st' => sg st' (o + 23) fr ((rdf b rs ids d).2.flatMap (fun p => p.1)) ∧ gt st' o 7 = nI (L + (rdf b rs ids d).2.length) ∧ ctS st' (o + 13) (C ++ (rdf b rs ids d).1) ∧ lvS st' o L (rdf b rs ids d).2 ∧ prK o fr ids st st') := by
  intro F
  induction F with
  | zero => intro ids fr d L C st _ _ _ hne _ _ hF; exact absurd (List.eq_nil_of_length_eq_zero (by omega)) hne
  | succ F ih =>
    intro ids fr d L C st hsh hid hnd hne hle hd hF hC hsg hL hct
    have hn := hp.1
    have hok := okB_of hp hid
    unfold f_X3_readPart
    refine ok_bI1 (x_gather hsh hp hsg hid hle) ?_
    rintro s1 ⟨⟨m, f, hlan⟩, hk1⟩
    have hbest := lanes_best hlan
    have hsh1 : shIs s1 (o + 1) n b rs := shIs_keep hsh (fun c j h1 h2 => hk1 _ _ (by omega))
    have hsg1 : sg s1 (o + 23) fr ids := sg_same hsg (fun j _ _ => hk1 _ _ (by omega))
    have hL1 : gt s1 o 7 = nI L := by rw [hk1 _ _ (by omega)]; exact hL
    have hct1 : ctS s1 (o + 13) C := ctS_keep hct (fun c j h1 h2 => hk1 _ _ (by omega))
    have leafcase : best b ids = none → ok (bI1 (f_X3_readLeaf o (nI fr) (nI (fr + ids.length)) (nI d) s1) (fun st3 => some st3)) (fun st' => sg st' (o + 23) fr ((rdf b rs ids d).2.flatMap (fun p => p.1)) ∧ gt st' o 7 = nI (L + (rdf b rs ids d).2.length) ∧ ctS st' (o + 13) (C ++ (rdf b rs ids d).1) ∧ lvS st' o L (rdf b rs ids d).2 ∧ prK o fr ids st st') := by
      intro hb0
      refine ok_bI1 (x_leaf (d := d) hsh1 hp hid hnd hle hsg1 hL1) ?_
      rintro s3 ⟨g1, g2, g3, g4, g5, g6, g7⟩
      rw [rdf_none hb0]
      refine ok_some ⟨?_, ?_, ?_, ?_, ?_, ?_, ?_, ?_⟩
      · simpa using g1
      · exact g2
      · rw [List.append_nil]; exact ctS_keep hct1 (fun c j h1 h2 => g7 _ _ (by omega))
      · intro i p hi k hk
        have hi0 : i = 0 := by
          have := (List.getElem?_eq_some_iff.mp hi).1
          simp at this; exact this
        subst hi0
        cases hi
        have := g3 k ((srt_perm b rs ids).mem_iff.mp hk)
        exact ⟨this.2, this.1⟩
      · intro c j hc; rw [g7 _ _ (by omega)]; exact hk1 _ _ (by omega)
      · intro j hj; rw [g6 j hj]; exact hk1 _ _ (by omega)
      · intro k hk; rw [(g4 k hk).1, (g4 k hk).2]; exact ⟨hk1 _ _ (by omega), hk1 _ _ (by omega)⟩
      · intro j hj; rw [g5 j hj]; exact hk1 _ _ (by omega)
    obtain ⟨l1, l2, l3, l4⟩ := hlan
    rw [l1.1]
    by_cases hm : m = 0
    · subst hm
      rw [if_pos (show nI 0 = 0 from rfl)]
      exact leafcase (by rw [hbest]; rfl)
    · have hm0 : ¬ nI m = 0 := nI_ne0 (by omega) (by omega)
      rw [if_neg hm0]
      rw [if_neg hm] at hbest
      have hl := (best_spec hbest).1
      have e := sd_len b (f 0) ids
      have p1 := fsd_pos hl
      have p2 := ssd_pos hok hl
      have hd7 : nI d < 7 := nI_lt (b := 7) (by omega) (by omega)
      rw [if_pos hd7]
      obtain ⟨a1, a2, a3, a4⟩ := l1.2 0 (by omega)
      refine ok_bI2 (x_divide hsh1 hn hsg1 hid hle a1 a2 a3) ?_
      rintro r5 s6 ⟨h1, h2, h3, h4⟩
      simp only at h1 h2 h3 h4
      subst h1
      have hct6 : ctS s6 (o + 13) C := ctS_keep hct1 (fun c j h1 h2 => h3 _ _ (by omega))
      have w1 : nI (fr + (fsd b (f 0) ids).length) - nI fr = nI (fsd b (f 0) ids).length := by
        rw [pk_sub (by omega)]; congr 1; omega
      have w2 : nI (fr + ids.length) - nI (fr + (fsd b (f 0) ids).length) = nI (ssd b (f 0) ids).length := by
        rw [pk_sub (by omega)]; congr 1; omega
      rw [w1, w2]
      have b1 : gt s6 (o + 20) 0 = nI (f 0).1 := by rw [h3 _ _ (by omega)]; exact a2
      have b2 : (gt s6 (o + 21) 0).toInt = (f 0).2.1 := by rw [h3 _ _ (by omega)]; exact a3
      have b3 : (gt s6 (o + 22) 0).toInt = (f 0).2.2 := by rw [h3 _ _ (by omega)]; exact a4
      rw [b1]
      refine ok_bI1 (x_cadd (c := (f 0, (fsd b (f 0) ids).length, (ssd b (f 0) ids).length)) hct6 (by omega) b2 b3) ?_
      rintro s7 ⟨hct7, h7⟩
      obtain ⟨sgA, sgB⟩ := sg_app.mp h2
      have hsh7 : shIs s7 (o + 1) n b rs := shIs_keep hsh1 (fun c j q1 q2 => by rw [h7 _ _ (by omega), h3 _ _ (by omega)])
      have ndA : (fsd b (f 0) ids).Nodup := List.Nodup.sublist List.filter_sublist hnd
      have ndB : (ssd b (f 0) ids).Nodup := List.Nodup.sublist List.filter_sublist hnd
      have dj : ∀ k, k ∈ fsd b (f 0) ids → k ∉ ssd b (f 0) ids := fun k hk hk2 => by
        have q1 := (List.mem_filter.mp hk).2
        have q2 := (List.mem_filter.mp hk2).2
        rw [q1] at q2; exact absurd q2 (by decide)
      have hL7 : gt s7 o 7 = nI L := by rw [h7 _ _ (by omega), h3 _ _ (by omega)]; exact hL1
      rw [nI_p1 d]
      refine ok_bI1 (ih (fsd b (f 0) ids) fr (d + 1) L (C ++ [(f 0, (fsd b (f 0) ids).length, (ssd b (f 0) ids).length)]) s7 hsh7 (fun k hk => hid k (fsd_sub k hk)) ndA (List.length_pos_iff.mp p1) (by omega) (by omega) (by omega) (by rw [List.length_append]; simp; omega) (sg_same sgA (fun j _ _ => h7 _ _ (by omega))) hL7 hct7) ?_
      rintro s8 ⟨i1, i2, i3, i4, i5, i6, i7, i8⟩
      have hsh8 : shIs s8 (o + 1) n b rs := shIs_keep hsh7 (fun c j q1 q2 => i5 _ _ (by omega))
      have lenA : ((rdf b rs (fsd b (f 0) ids) (d + 1)).2.flatMap (fun p => p.1)).length = (fsd b (f 0) ids).length := (rdf_perm _ _ _ (Nat.le_refl _) (okB_sub hok fsd_sub)).length_eq
      have lenB : ((rdf b rs (ssd b (f 0) ids) (d + 1)).2.flatMap (fun p => p.1)).length = (ssd b (f 0) ids).length := (rdf_perm _ _ _ (Nat.le_refl _) (okB_sub hok ssd_sub)).length_eq
      have rlA := rdf_len (rs := rs) _ _ (d + 1) (Nat.le_refl _) (List.length_pos_iff.mp p1) (okB_sub hok (fsd_sub (b := b) (l := f 0)))
      have ek : nI (fr + ids.length) = nI (fr + (fsd b (f 0) ids).length + (ssd b (f 0) ids).length) := by congr 1; omega
      rw [ek]
      refine ok_bI1 (ih (ssd b (f 0) ids) (fr + (fsd b (f 0) ids).length) (d + 1) (L + (rdf b rs (fsd b (f 0) ids) (d + 1)).2.length) (C ++ [(f 0, (fsd b (f 0) ids).length, (ssd b (f 0) ids).length)] ++ (rdf b rs (fsd b (f 0) ids) (d + 1)).1) s8 hsh8 (fun k hk => hid k (ssd_sub k hk)) ndB (List.length_pos_iff.mp p2) (by omega) (by omega) (by omega) (by rw [List.length_append, List.length_append]; simp; omega) (sg_same sgB (fun j q1 q2 => by rw [i8 _ (Or.inr q1), h7 _ _ (by omega)])) i2 i3) ?_
      rintro s9 ⟨j1, j2, j3, j4, j5, j6, j7, j8⟩
      rw [rdf_some hok hbest]
      refine ok_some ⟨?_, ?_, ?_, ?_, ?_, ?_, ?_, ?_⟩
      · rw [List.flatMap_append]
        refine sg_app.mpr ⟨sg_same i1 (fun j q1 q2 => j8 _ (by rw [lenA] at q2; omega)), ?_⟩
        rw [lenA]; exact j1
      · rw [j2, List.length_append]; congr 1; omega
      · have : C ++ ((f 0, (fsd b (f 0) ids).length, (ssd b (f 0) ids).length) :: ((rdf b rs (fsd b (f 0) ids) (d + 1)).1 ++ (rdf b rs (ssd b (f 0) ids) (d + 1)).1)) = C ++ [(f 0, (fsd b (f 0) ids).length, (ssd b (f 0) ids).length)] ++ (rdf b rs (fsd b (f 0) ids) (d + 1)).1 ++ (rdf b rs (ssd b (f 0) ids) (d + 1)).1 := by simp
        rw [this]; exact j3
      · intro i p hi k hk
        rcases Nat.lt_or_ge i (rdf b rs (fsd b (f 0) ids) (d + 1)).2.length with q | q
        · rw [List.getElem?_append_left q] at hi
          have hkA : k ∈ fsd b (f 0) ids := (rdf_perm _ _ (d + 1) (Nat.le_refl _) (okB_sub hok fsd_sub)).mem_iff.mp (List.mem_flatMap.mpr ⟨p, List.mem_of_getElem? hi, hk⟩)
          rw [(j7 k (dj k hkA)).1, (j7 k (dj k hkA)).2]
          exact i4 i p hi k hk
        · rw [List.getElem?_append_right q] at hi
          have := j4 _ p hi k hk
          rw [show L + (rdf b rs (fsd b (f 0) ids) (d + 1)).2.length + (i - (rdf b rs (fsd b (f 0) ids) (d + 1)).2.length) = L + i by omega] at this
          exact this
      · intro c j hc
        rw [j5 _ _ hc, i5 _ _ hc, h7 _ _ (by omega), h3 _ _ (by omega)]; exact hk1 _ _ (by omega)
      · intro j hj
        rw [j6 _ hj, i6 _ hj, h7 _ _ (by omega), h3 _ _ (by omega)]; exact hk1 _ _ (by omega)
      · intro k hk
        have kA : k ∉ fsd b (f 0) ids := fun q => hk (fsd_sub k q)
        have kB : k ∉ ssd b (f 0) ids := fun q => hk (ssd_sub k q)
        rw [(j7 k kB).1, (j7 k kB).2, (i7 k kA).1, (i7 k kA).2]
        constructor
        · rw [h7 _ _ (by omega), h3 _ _ (by omega)]; exact hk1 _ _ (by omega)
        · rw [h7 _ _ (by omega), h3 _ _ (by omega)]; exact hk1 _ _ (by omega)
      · intro j hj
        rw [j8 _ (by omega), i8 _ (by omega), h7 _ _ (by omega), h4 _ hj]; exact hk1 _ _ (by omega)
