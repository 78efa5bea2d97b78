theorem nI_pm1 {k : Nat} (h : k < 1000) : nI (k + 1) + (-1) = nI k := by
  rw [eq32, add32 (by rw [nI_T (by omega), l32_m1]; omega) (by rw [nI_T (by omega), l32_m1]; omega), nI_T (by omega), nI_T (by omega), l32_m1]
  omega
theorem n5 (k : Nat) : (5 : Int32) * nI k = nI (5 * k) := pk_mul 5 k
theorem n5s (k s : Nat) : nI (5 * k) + nI s = nI (5 * k + s) := nI_add _ _
-- the cuts, the leaves, the stack of the model
def ctM (st : GS) (C : List Ct) : Prop := gt st 0 18 = nI C.length ∧ ∀ i c, C[i]? = some c → gt st 7 (5 * i) = nI c.1.1 ∧ (gt st 7 (5 * i + 1)).toInt = c.1.2.1 ∧ (gt st 7 (5 * i + 2)).toInt = c.1.2.2 ∧ gt st 7 (5 * i + 3) = nI c.2.1 ∧ gt st 7 (5 * i + 4) = nI c.2.2
def lvM (st : GS) (Lv : List (List Nat × Nat)) : Prop := gt st 0 19 = nI Lv.length ∧ (∀ i p, Lv[i]? = some p → ∀ k ∈ p.1, gt st 8 k = nI i ∧ gt st 9 k = nI p.2) ∧ ∀ k, k < 8 → (∀ p ∈ Lv, k ∉ p.1) → gt st 8 k = -1 ∧ gt st 9 k = -1
def stk (st : GS) : List (Int32 × Nat) → Prop
  | [] => True
  | p :: T => gt st 10 T.length = p.1 ∧ gt st 11 T.length = nI p.2 ∧ stk st T
theorem stk_keep {st st' : GS} : ∀ (T : List (Int32 × Nat)), stk st T → (∀ j, j < T.length → gt st' 10 j = gt st 10 j ∧ gt st' 11 j = gt st 11 j) → stk st' T := by
  intro T
  induction T with
  | nil => intro _ _; trivial
  | cons p T ih =>
    intro h hk
    obtain ⟨k1, k2⟩ := hk T.length (by simp)
    exact ⟨by rw [k1]; exact h.1, by rw [k2]; exact h.2.1, ih h.2.2 (fun j hj => hk j (by simp; omega))⟩
theorem stk_len {b : Bx} {rs : List Int} : ∀ (T : List (Int32 × Nat)), (∀ p ∈ T, idS p.1 ≠ [] ∧ okB b (idS p.1)) → T.length ≤ (T.flatMap (fun p => (rdf b rs (idS p.1) p.2).2)).length := by
  intro T
  induction T with
  | nil => intro _; exact Nat.zero_le _
  | cons p T ih =>
    intro h
    have h1 := h p List.mem_cons_self
    have h2 := rdf_len (b := b) (rs := rs) _ (idS p.1) p.2 (Nat.le_refl _) h1.1 h1.2
    have h3 := ih (fun q hq => h q (List.mem_cons_of_mem _ hq))
    rw [List.flatMap_cons, List.length_append, List.length_cons]
    omega
theorem get_app1 {α : Type} {l : List α} {a : α} {i : Nat} {x : α} (h : (l ++ [a])[i]? = some x) : (i < l.length ∧ l[i]? = some x) ∨ (i = l.length ∧ x = a) := by
  rcases Nat.lt_or_ge i l.length with q | q
  · left; rw [List.getElem?_append_left q] at h; exact ⟨q, h⟩
  · right
    rw [List.getElem?_append_right q] at h
    rcases Nat.eq_zero_or_pos (i - l.length) with e | e
    · rw [e] at h; simp at h; exact ⟨by omega, h.symm⟩
    · rw [List.getElem?_eq_none (by simp; omega)] at h; cases h
/-- what laying an order leaves as it was -/
def oK (st st' : GS) : Prop := gl st' = gl st ∧ ∀ c j, c ≠ 5 → c ≠ 6 → c ≠ 7 → c ≠ 8 → c ≠ 9 → c ≠ 10 → c ≠ 11 → (c ≠ 0 ∨ (j ≠ 12 ∧ j ≠ 13 ∧ j ≠ 14 ∧ j ≠ 16 ∧ j ≠ 18 ∧ j ≠ 19)) → gt st' c j = gt st c j
theorem oK_rf (st : GS) : oK st st := ⟨rfl, fun _ _ _ _ _ _ _ _ _ _ => rfl⟩
theorem oK_tr {a b c : GS} (h : oK a b) (h2 : oK b c) : oK a c := ⟨h2.1.trans h.1, fun x j a1 a2 a3 a4 a5 a6 a7 a8 => (h2.2 x j a1 a2 a3 a4 a5 a6 a7 a8).trans (h.2 x j a1 a2 a3 a4 a5 a6 a7 a8)⟩
theorem oK_m {st st' : GS} {n : Nat} {b : Bx} {rs : List Int} (hk : oK st st') (h : mIs st n b rs) : mIs st' n b rs := mIs_keep h (hk.2 _ _ (by decide) (by decide) (by decide) (by decide) (by decide) (by decide) (by decide) (Or.inr (by decide))) (hk.2 _ _ (by decide) (by decide) (by decide) (by decide) (by decide) (by decide) (by decide) (Or.inr (by decide))) (fun c j hc => hk.2 _ _ (by omega) (by omega) (by omega) (by omega) (by omega) (by omega) (by omega) (by omega))
/-- the walk over the stack: what holds at each turn -/
def ordI (n : Nat) (b : Bx) (rs : List Int) (ids : List Nat) (s0 : GS) (m : Nat) (z : Int32 × GS) : Prop := ∃ T C Lv, z.1 = nI (List.length T) ∧ stk z.2 T ∧ (∀ p ∈ T, sml p.1 ∧ idS p.1 ≠ [] ∧ ∀ k ∈ idS p.1, k < n) ∧ ctM z.2 C ∧ lvM z.2 Lv ∧ orM z.2 ((Lv.flatMap (fun p => p.1)).flatMap (fun x => x :: caps b ids x)) ∧ C ++ T.flatMap (fun p => (rdf b rs (idS p.1) p.2).1) = cts b rs ids ∧ Lv ++ T.flatMap (fun p => (rdf b rs (idS p.1) p.2).2) = lvs b rs ids ∧ m = (T.flatMap (fun p => (rdf b rs (idS p.1) p.2).1)).length + (T.flatMap (fun p => (rdf b rs (idS p.1) p.2).2)).length ∧ (∀ k, gt z.2 5 k = gt s0 5 k) ∧ oK s0 z.2
theorem ord_leaf {n : Nat} {b : Bx} {rs : List Int} {S : Int32} {s0 s s2 : GS} {p : Int32 × Nat} {T : List (Int32 × Nat)} {C : List Ct} {Lv : List (List Nat × Nat)} (hm : mIs s0 n b rs) (hp : okP n b rs) (hS : ∀ k ∈ idS S, k < n) (hB : ∀ k, k < n → gt s0 5 k = if k ∈ idS S then eO (bnd b (idS S) k) else -1)
    (h2 : stk s (p :: T)) (h3 : ∀ q ∈ p :: T, sml q.1 ∧ idS q.1 ≠ [] ∧ ∀ k ∈ idS q.1, k < n) (h4 : ctM s C) (h5 : lvM s Lv) (h6 : orM s ((Lv.flatMap (fun p => p.1)).flatMap (fun x => x :: caps b (idS S) x))) (h7 : C ++ (p :: T).flatMap (fun p => (rdf b rs (idS p.1) p.2).1) = cts b rs (idS S)) (h8 : Lv ++ (p :: T).flatMap (fun p => (rdf b rs (idS p.1) p.2).2) = lvs b rs (idS S)) (h10 : ∀ k, gt s 5 k = gt s0 5 k) (h11 : oK s0 s)
    (hbest : best b (idS p.1) = none) (hk : lnK s s2) :
    ok (f_X8_layLeaf p.1 (nI p.2) s2) (fun s3 => ∃ m', m' < ((p :: T).flatMap (fun p => (rdf b rs (idS p.1) p.2).1)).length + ((p :: T).flatMap (fun p => (rdf b rs (idS p.1) p.2).2)).length ∧ ordI n b rs (idS S) s0 m' (nI T.length, s3)) := by
  have hn := hp.1
  have hokS := okB_of hp hS
  obtain ⟨q1, q2, q3⟩ := h3 p List.mem_cons_self
  have hrd := rdf_none (rs := rs) (d := p.2) hbest
  rw [List.flatMap_cons, hrd] at h7 h8
  have hk2 : ∀ c j, c ≠ 0 → gt s2 c j = gt s c j := fun c j hc => hk.2 c j (Or.inl hc)
  have hO : (Lv.flatMap (fun p => p.1)).flatMap (fun x => x :: caps b (idS S) x) ++ ((srt b rs (idS p.1)).flatMap (fun x => x :: caps b (idS S) x) ++ ((T.flatMap (fun p => (rdf b rs (idS p.1) p.2).2)).flatMap (fun p => p.1)).flatMap (fun x => x :: caps b (idS S) x)) = ords b rs (idS S) := by
    unfold ords rws
    rw [← h8]
    simp [List.flatMap_append]
  have hol : (ords b rs (idS S)).length ≤ 8 := by
    rw [(ords_perm (rs := rs) hokS (idS_nd S)).length_eq]
    have := List.length_filter_le (fun k => bt S k) (List.range 8)
    rw [List.length_range] at this
    exact this
  have hol2 := hol
  rw [← hO, List.length_append, List.length_append] at hol2
  have hrn : (rws b rs (idS S)).Nodup := (rws_perm (rs := rs) hokS).nodup_iff.mpr (List.Nodup.sublist List.filter_sublist (idS_nd S))
  have hdis : ∀ (i : Nat) (q : List Nat × Nat), Lv[i]? = some q → ∀ k ∈ q.1, k ∉ idS p.1 := fun i q hi k hk1 hk3 => by
    have hr : rws b rs (idS S) = Lv.flatMap (fun p => p.1) ++ (srt b rs (idS p.1) ++ (T.flatMap (fun p => (rdf b rs (idS p.1) p.2).2)).flatMap (fun p => p.1)) := by
      unfold rws; rw [← h8]; simp [List.flatMap_append]
    rw [hr] at hrn
    exact (List.nodup_append.mp hrn).2.2 k (List.mem_flatMap.mpr ⟨q, List.mem_of_getElem? hi, hk1⟩) k (List.mem_append_left _ ((srt_perm b rs _).mem_iff.mpr hk3)) rfl
  have hm2 : mIs s2 n b rs := lnK_m hk (oK_m h11 hm)
  refine ok_mono (m_leaf (S := S) (T := p.1) (L := Lv.length) (d := p.2) hm2 hp hS q1 q3 (fun k hkn => by rw [hk2 _ _ (by decide), h10]; exact hB k hkn) ⟨by rw [hk.2 _ _ (Or.inr (by decide))]; exact h6.1, sg_same h6.2 (fun j _ _ => hk2 _ _ (by decide))⟩ (by rw [hk.2 _ _ (Or.inr (by decide))]; exact h5.1) (by omega)) ?_
  rintro s3 ⟨g1, g2, g3, g4, g5, g6⟩
  have g6' : ∀ c j, c ≠ 6 → c ≠ 8 → c ≠ 9 → (c ≠ 0 ∨ (j ≠ 12 ∧ j ≠ 13 ∧ j ≠ 14 ∧ j ≠ 16 ∧ j ≠ 19)) → gt s3 c j = gt s c j := fun c j a1 a2 a3 a4 => (g6 c j a1 a2 a3 (by omega)).trans (hk.2 c j (by omega))
  refine ⟨_, ?_, T, C, Lv ++ [(srt b rs (idS p.1), p.2)], rfl, ?_, fun q hq => h3 q (List.mem_cons_of_mem _ hq), ⟨?_, fun i c hi => ?_⟩, ⟨?_, fun i q hi k hk1 => ?_, fun k hk8 hno => ?_⟩, ?_, ?_, ?_, rfl, fun k => ?_, ⟨?_, fun c j a1 a2 a3 a4 a5 a6 a7 a8 => ?_⟩⟩
  · rw [List.flatMap_cons, List.flatMap_cons, hrd]; simp
  · exact stk_keep T h2.2.2 (fun j _ => ⟨g6' _ _ (by decide) (by decide) (by decide) (Or.inl (by decide)), g6' _ _ (by decide) (by decide) (by decide) (Or.inl (by decide))⟩)
  · show gt s3 0 18 = _
    rw [g6' _ _ (by decide) (by decide) (by decide) (Or.inr (by decide))]; exact h4.1
  · have e7 : ∀ j, gt s3 7 j = gt s 7 j := fun j => g6' _ _ (by decide) (by decide) (by decide) (Or.inl (by decide))
    show gt s3 7 _ = _ ∧ (gt s3 7 _).toInt = _ ∧ (gt s3 7 _).toInt = _ ∧ gt s3 7 _ = _ ∧ gt s3 7 _ = _
    rw [e7, e7, e7, e7, e7]; exact h4.2 i c hi
  · show gt s3 0 19 = _
    rw [g2, List.length_append]; rfl
  · show gt s3 8 k = _ ∧ gt s3 9 k = _
    rcases get_app1 hi with ⟨_, e⟩ | ⟨rfl, rfl⟩
    · have := hdis i q e k hk1
      rw [(g4 k this).1, (g4 k this).2, hk2 _ _ (by decide), hk2 _ _ (by decide)]
      exact h5.2.1 i q e k hk1
    · exact g3 k ((srt_perm b rs _).mem_iff.mp hk1)
  · show gt s3 8 k = _ ∧ gt s3 9 k = _
    have n1 : k ∉ idS p.1 := fun q => hno _ (List.mem_append_right _ List.mem_cons_self) ((srt_perm b rs _).mem_iff.mpr q)
    rw [(g4 k n1).1, (g4 k n1).2, hk2 _ _ (by decide), hk2 _ _ (by decide)]
    exact h5.2.2 k hk8 (fun q hq => hno q (List.mem_append_left _ hq))
  · show orM s3 _
    rw [List.flatMap_append, List.flatMap_append]
    simpa using g1
  · simpa using h7
  · simpa using h8
  · show gt s3 5 k = _
    rw [g6' _ _ (by decide) (by decide) (by decide) (Or.inl (by decide))]; exact h10 k
  · show gl s3 = _
    rw [g5, hk.1, h11.1]
  · show gt s3 c j = _
    rw [g6' c j a2 a4 a5 (by omega)]
    exact h11.2 c j a1 a2 a3 a4 a5 a6 a7 a8
