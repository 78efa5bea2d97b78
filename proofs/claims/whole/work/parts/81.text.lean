-- THE TEXT
def kdI (m : Nat) : Int := if m = 98 then 0 else if m = 99 then 4 else if m = 102 then 3 else if m = 110 then 2 else if m = 116 then 1 else -1
theorem c126 : ∀ m : Fin 127, i2c (nI m.val) = nI m.val ∧ i2b (nI m.val) = nI m.val := by decide +kernel
theorem x_idx {m i : Nat} (hm : m < 127) (hi : i < 5) : f_J1_indexOfChar_4cfef_L7 5 (nI m) (nI i) = if byS i = nI m then some (.inr (nI i)) else some (.inl (nI (i + 1))) := by
  unfold f_J1_indexOfChar_4cfef_L7
  rw [if_neg (show ¬ (5 : Int32) ≤ nI i from nI_ge (b := 5) hi (by omega)), gd_n hi (by omega), nI_clamp (show i < 2 ^ 31 by omega), nI_p1]
  rfl
theorem kind_of {m : Nat} (hm : m < 127) : ∃ v, f_X6_kindOf (nI m) = some v ∧ f_X8_kindBy (nI m) = some v ∧ v.toInt = kdI m := by
  obtain ⟨h1, h2⟩ := c126 ⟨m, hm⟩
  simp only at h1 h2
  have ex : f_X6_kindOf (nI m) = lpx (uc1 (f_J1_indexOfChar_4cfef_L7 5 (nI m))) (nI 0) := by
    unfold f_X6_kindOf f_J0_indexOf_0f7a4 f_J0_indexOf_7cf53 f_J0_length_8abf5 f_J0_coder_7d493 f_J1_indexOf_4cfef f_J1_canEncode_9a6ad f_J1_indexOfChar_4cfef
    have e5 : ishr 5 0 = 5 := by decide
    have l255 : (255 : Int32).toInt = 255 := by decide
    rw [h1]
    simp only [bI1_s, e5, lt_, h2]
    rw [if_neg (nI_pos (by omega)), if_neg (show ¬ 255 < nI m by rw [lt32, l255, nI_T (by omega)]; omega), bI1_s, if_neg i10, if_neg (show ¬ (5 : Int32) < 5 by decide), show imax 0 0 = 0 from by decide, if_pos (show (0 : Int32) < 5 by decide)]
    show bI1 (bI1 (bI1 (bI1 (lpx (uc1 (f_J1_indexOfChar_4cfef_L7 5 (nI m))) (nI 0)) _) _) _) _ = _
    cases lpx (uc1 (f_J1_indexOfChar_4cfef_L7 5 (nI m))) (nI 0) <;> rfl
  have em : f_X8_kindBy (nI m) = (if m = 98 then some 0 else if m = 99 then some 4 else if m = 102 then some 3 else if m = 110 then some 2 else if m = 116 then some 1 else some (-1)) := by
    unfold f_X8_kindBy
    have q : ∀ a : Nat, a < 1000 → (nI m = nI a ↔ m = a) := fun a ha => ⟨fun z => nI_inj (by omega) (by omega) z, fun z => by rw [z]⟩
    simp only [show (98 : Int32) = nI 98 from rfl, show (99 : Int32) = nI 99 from rfl, show (102 : Int32) = nI 102 from rfl, show (110 : Int32) = nI 110 from rfl, show (116 : Int32) = nI 116 from rfl, q 98 (by omega), q 99 (by omega), q 102 (by omega), q 110 (by omega), q 116 (by omega)]
  have no : ∀ (i a : Nat), i < 5 → a < 1000 → byS i = nI a → m ≠ a → lpx (uc1 (f_J1_indexOfChar_4cfef_L7 5 (nI m))) (nI i) = lpx (uc1 (f_J1_indexOfChar_4cfef_L7 5 (nI m))) (nI (i + 1)) := fun i a hi ha hb hne => lpx_go (by
    show f_J1_indexOfChar_4cfef_L7 5 (nI m) (nI i) = _
    rw [x_idx hm hi, if_neg (by rw [hb]; exact fun z => hne (nI_inj (by omega) (by omega) z).symm)])
  have yes : ∀ (i a : Nat), i < 5 → byS i = nI a → m = a → lpx (uc1 (f_J1_indexOfChar_4cfef_L7 5 (nI m))) (nI i) = some (nI i) := fun i a hi hb he => lpx_end (by
    show f_J1_indexOfChar_4cfef_L7 5 (nI m) (nI i) = _
    rw [x_idx hm hi, if_pos (by rw [hb, he])])
  have b0 : byS 0 = nI 98 := rfl
  have b1 : byS 1 = nI 116 := rfl
  have b2 : byS 2 = nI 110 := rfl
  have b3 : byS 3 = nI 102 := rfl
  have b4 : byS 4 = nI 99 := rfl
  rw [ex, em]
  unfold kdI
  by_cases h98 : m = 98
  · rw [yes 0 98 (by omega) b0 h98, if_pos h98, if_pos h98]; exact ⟨_, rfl, rfl, by decide⟩
  · rw [no 0 98 (by omega) (by omega) b0 h98, if_neg h98, if_neg h98]
    by_cases h116 : m = 116
    · rw [yes 1 116 (by omega) b1 h116, if_neg (by omega), if_neg (by omega), if_neg (by omega), if_pos h116, if_neg (by omega), if_neg (by omega), if_neg (by omega), if_pos h116]; exact ⟨_, rfl, rfl, by decide⟩
    · rw [no 1 116 (by omega) (by omega) b1 h116]
      by_cases h110 : m = 110
      · rw [yes 2 110 (by omega) b2 h110, if_neg (by omega), if_neg (by omega), if_pos h110, if_neg (by omega), if_neg (by omega), if_pos h110]; exact ⟨_, rfl, rfl, by decide⟩
      · rw [no 2 110 (by omega) (by omega) b2 h110]
        by_cases h102 : m = 102
        · rw [yes 3 102 (by omega) b3 h102, if_neg (by omega), if_pos h102, if_neg (by omega), if_pos h102]; exact ⟨_, rfl, rfl, by decide⟩
        · rw [no 3 102 (by omega) (by omega) b3 h102]
          by_cases h99 : m = 99
          · rw [yes 4 99 (by omega) b4 h99, if_pos h99, if_pos h99]; exact ⟨_, rfl, rfl, by decide⟩
          · rw [no 4 99 (by omega) (by omega) b4 h99, if_neg h99, if_neg h102, if_neg h110, if_neg h116, if_neg h99, if_neg h102, if_neg h110, if_neg h116]
            refine ⟨-1, lpx_end ?_, rfl, by decide⟩
            show f_J1_indexOfChar_4cfef_L7 5 (nI m) (nI 5) = _
            unfold f_J1_indexOfChar_4cfef_L7
            rw [if_pos (by decide)]
/-- whether a letter may stand at a place ahead of the rules -/
def fbx (l : Nat → Nat) (i : Nat) : Prop := (i % 6 = 0 ∧ kdI (l i) ≠ -1) ∨ ((i % 6 = 1 ∨ i % 6 = 2) ∧ 48 ≤ l i ∧ l i ≤ 56) ∨ ((i % 6 = 3 ∨ i % 6 = 4) ∧ l i ≤ 57 ∧ l (i - 2) < l i) ∨ (i % 6 = 5 ∧ (l i = 59 ∨ (l i = 44 ∧ i < 47)))
theorem rem6 {i : Nat} (h : i < 1000) : irem (nI i) 6 = nI (i % 6) := pk_rem (d := 6) (by omega) (by omega) (by omega)
theorem div6 {i : Nat} (h : i < 1000) : nI i / 6 = nI (i / 6) := pk_div (d := 6) (by omega) (by omega) (by omega)
theorem nq {a b : Nat} (ha : a < 1000) (hb : b < 1000) : (nI a = nI b) ↔ a = b := ⟨fun z => nI_inj (by omega) (by omega) z, fun z => by rw [z]⟩
theorem x_fb {X : GS} {l : Nat → Nat} {i : Nat} (hi : i < 54) (hl : ∀ j, j ≤ i → gt X 2 j = nI (l j) ∧ l j < 127) : (fbx l i ∧ f_X6_fitsBoxes (nI i) X = some 1) ∨ (¬ fbx l i ∧ f_X6_fitsBoxes (nI i) X = some 0) := by
  obtain ⟨e, hli⟩ := hl i (Nat.le_refl _)
  have key : ∀ (P : Prop) [Decidable P] (v : Option Int32), (P ↔ fbx l i) → v = (if P then some 1 else some 0) → (fbx l i ∧ v = some 1) ∨ (¬ fbx l i ∧ v = some 0) := fun P _ v h1 h2 => by
    by_cases h : P
    · left; exact ⟨h1.mp h, by rw [h2, if_pos h]⟩
    · right; exact ⟨fun q => h (h1.mpr q), by rw [h2, if_neg h]⟩
  unfold f_X6_fitsBoxes
  rw [gd_n hi (by omega), nI_clamp (show i < 2 ^ 31 by omega), e]
  simp only [lt_]
  rw [rem6 (by omega)]
  have h6 : i % 6 < 6 := Nat.mod_lt _ (by omega)
  have n0 : (nI (i % 6) = 0) ↔ i % 6 = 0 := nq (b := 0) (by omega) (by omega)
  have n1 : (nI (i % 6) = 1) ↔ i % 6 = 1 := nq (b := 1) (by omega) (by omega)
  have n2 : (nI (i % 6) = 2) ↔ i % 6 = 2 := nq (b := 2) (by omega) (by omega)
  have n3 : (nI (i % 6) = 3) ↔ i % 6 = 3 := nq (b := 3) (by omega) (by omega)
  have n4 : (nI (i % 6) = 4) ↔ i % 6 = 4 := nq (b := 4) (by omega) (by omega)
  have m48 : (nI (l i) < 48) ↔ l i < 48 := nI_ltI (b := 48) (by omega) (by omega)
  have m56 : (56 < nI (l i)) ↔ 56 < l i := nI_ltI (a := 56) (by omega) (by omega)
  have m57 : (57 < nI (l i)) ↔ 57 < l i := nI_ltI (a := 57) (by omega) (by omega)
  have m59 : (nI (l i) = 59) ↔ l i = 59 := nq (b := 59) (by omega) (by omega)
  have m44 : (nI (l i) = 44) ↔ l i = 44 := nq (b := 44) (by omega) (by omega)
  by_cases c0 : i % 6 = 0
  · rw [if_pos (n0.mpr c0)]
    obtain ⟨v, v1, -, v3⟩ := kind_of hli
    rw [v1, bI1_s]
    refine key (kdI (l i) ≠ -1) _ ⟨fun q => Or.inl ⟨c0, q⟩, fun q => by unfold fbx at q; omega⟩ ?_
    by_cases q : kdI (l i) = -1
    · rw [if_pos (show v = -1 from i_eq (v3.trans q) l32_m1), if_neg (show ¬ kdI (l i) ≠ -1 from fun z => z q)]
    · rw [if_pos q, if_neg (fun z => q (by rw [← v3, z]; exact l32_m1))]
  rw [if_neg (fun q => c0 (n0.mp q))]
  have dig : ∀ v : Option Int32, v = (if nI (l i) < 48 then some 0 else if 56 < nI (l i) then some 0 else some 1) → (i % 6 = 1 ∨ i % 6 = 2) → (fbx l i ∧ v = some 1) ∨ (¬ fbx l i ∧ v = some 0) := fun v hv hc => by
    refine key (48 ≤ l i ∧ l i ≤ 56) _ ⟨fun q => Or.inr (Or.inl ⟨hc, q⟩), fun q => by unfold fbx at q; omega⟩ ?_
    rw [hv]
    by_cases q1 : l i < 48
    · rw [if_pos (m48.mpr q1), if_neg (by omega)]
    · rw [if_neg (fun q => q1 (m48.mp q))]
      by_cases q2 : 56 < l i
      · rw [if_pos (m56.mpr q2), if_neg (by omega)]
      · rw [if_neg (fun q => q2 (m56.mp q)), if_pos (by omega)]
  by_cases c1 : i % 6 = 1
  · rw [if_pos (n1.mpr c1)]; exact dig _ rfl (Or.inl c1)
  rw [if_neg (fun q => c1 (n1.mp q))]
  by_cases c2 : i % 6 = 2
  · rw [if_pos (n2.mpr c2)]; exact dig _ rfl (Or.inr c2)
  rw [if_neg (fun q => c2 (n2.mp q))]
  have big : ∀ v : Option Int32, v = (if 57 < nI (l i) then some 0 else gd (nI i - 2) 54 (if nI (l i) ≤ gt X 2 ((nI i - 2).toNatClampNeg) then some 0 else some 1)) → (i % 6 = 3 ∨ i % 6 = 4) → (fbx l i ∧ v = some 1) ∨ (¬ fbx l i ∧ v = some 0) := fun v hv hc => by
    obtain ⟨e2, hl2⟩ := hl (i - 2) (by omega)
    refine key (l i ≤ 57 ∧ l (i - 2) < l i) _ ⟨fun q => Or.inr (Or.inr (Or.inl ⟨hc, q⟩)), fun q => by unfold fbx at q; omega⟩ ?_
    have es : nI i - 2 = nI (i - 2) := nI_sub (c := 2) (by omega) (by omega)
    rw [hv, es, gd_n (show i - 2 < 54 by omega) (by omega), nI_clamp (show i - 2 < 2 ^ 31 by omega), e2]
    by_cases q1 : 57 < l i
    · rw [if_pos (m57.mpr q1), if_neg (by omega)]
    · rw [if_neg (fun q => q1 (m57.mp q))]
      by_cases q2 : l i ≤ l (i - 2)
      · rw [if_pos (nI_le q2 (by omega)), if_neg (by omega)]
      · rw [if_neg (nI_ge (by omega) (by omega)), if_pos (by omega)]
  by_cases c3 : i % 6 = 3
  · rw [if_pos (n3.mpr c3)]; exact big _ rfl (Or.inl c3)
  rw [if_neg (fun q => c3 (n3.mp q))]
  by_cases c4 : i % 6 = 4
  · rw [if_pos (n4.mpr c4)]; exact big _ rfl (Or.inr c4)
  rw [if_neg (fun q => c4 (n4.mp q))]
  have c5 : i % 6 = 5 := by omega
  refine key (l i = 59 ∨ (l i = 44 ∧ i < 47)) _ ⟨fun q => Or.inr (Or.inr (Or.inr ⟨c5, q⟩)), fun q => by unfold fbx at q; omega⟩ ?_
  by_cases q1 : l i = 59
  · rw [if_pos (m59.mpr q1), if_pos (Or.inl q1)]
  · rw [if_neg (fun q => q1 (m59.mp q))]
    by_cases q2 : l i = 44
    · rw [if_pos (m44.mpr q2), div6 (by omega), nI_p1]
      by_cases q3 : i < 47
      · rw [if_neg (show ¬ (8 : Int32) ≤ nI (i / 6 + 1) from nI_ge (b := 8) (by omega) (by omega)), if_pos (Or.inr ⟨q2, q3⟩)]
      · rw [if_pos (show (8 : Int32) ≤ nI (i / 6 + 1) from nI_le (a := 8) (by omega) (by omega)), if_neg (by omega)]
    · rw [if_neg (fun q => q2 (m44.mp q)), if_neg (by omega)]
theorem m_fb {M : GS} {l : Nat → Nat} {i : Nat} (hi : i < 54) (hl : ∀ j, j ≤ i → gt M 1 j = nI (l j) ∧ l j < 127) : ∃ M', ((fbx l i ∧ f_X8_isBoxSign (nI i) M = some (1, M')) ∨ (¬ fbx l i ∧ f_X8_isBoxSign (nI i) M = some (0, M'))) ∧ M' = (if i % 6 = 5 then sv M 0 2 (if l i = 59 then nI i else 0) else M) := by
  obtain ⟨e, hli⟩ := hl i (Nat.le_refl _)
  refine ⟨_, ?_, rfl⟩
  generalize hM' : (if i % 6 = 5 then sv M 0 2 (if l i = 59 then nI i else 0) else M) = M'
  have key : ∀ (P : Prop) [Decidable P] (v : Option (Int32 × GS)), (P ↔ fbx l i) → v = (if P then some (1, M') else some (0, M')) → (fbx l i ∧ v = some (1, M')) ∨ (¬ fbx l i ∧ v = some (0, M')) := fun P _ v h1 h2 => by
    by_cases h : P
    · left; exact ⟨h1.mp h, by rw [h2, if_pos h]⟩
    · right; exact ⟨fun q => h (h1.mpr q), by rw [h2, if_neg h]⟩
  unfold f_X8_isBoxSign
  rw [gd_n hi (by omega), nI_clamp (show i < 2 ^ 31 by omega), e]
  simp only [lt_]
  rw [rem6 (by omega)]
  have h6 : i % 6 < 6 := Nat.mod_lt _ (by omega)
  have n0 : (nI (i % 6) = 0) ↔ i % 6 = 0 := nq (b := 0) (by omega) (by omega)
  have n1 : (nI (i % 6) = 1) ↔ i % 6 = 1 := nq (b := 1) (by omega) (by omega)
  have n2 : (nI (i % 6) = 2) ↔ i % 6 = 2 := nq (b := 2) (by omega) (by omega)
  have n3 : (nI (i % 6) = 3) ↔ i % 6 = 3 := nq (b := 3) (by omega) (by omega)
  have n4 : (nI (i % 6) = 4) ↔ i % 6 = 4 := nq (b := 4) (by omega) (by omega)
  have m59 : (nI (l i) = 59) ↔ l i = 59 := nq (b := 59) (by omega) (by omega)
  have m44 : (nI (l i) = 44) ↔ l i = 44 := nq (b := 44) (by omega) (by omega)
  have hT : (nI (l i)).toInt = (l i : Int) := nI_T (by omega)
  by_cases c0 : i % 6 = 0
  · rw [if_neg (by omega)] at hM'
    subst hM'
    rw [if_pos (n0.mpr c0)]
    obtain ⟨v, -, v1, v3⟩ := kind_of hli
    rw [v1, bI1_s]
    refine key (kdI (l i) ≠ -1) _ ⟨fun q => Or.inl ⟨c0, q⟩, fun q => by unfold fbx at q; omega⟩ ?_
    by_cases q : kdI (l i) = -1
    · rw [if_pos (show v = -1 from i_eq (v3.trans q) l32_m1), if_neg (show ¬ kdI (l i) ≠ -1 from fun z => z q)]
    · rw [if_pos q, if_neg (fun z => q (by rw [← v3, z]; exact l32_m1))]
  rw [if_neg (fun q => c0 (n0.mp q))]
  have dig : ∀ v : Option (Int32 × GS), M = M' → v = bI1 (f_X8_in (nI (l i)).toInt64 48 56) (fun r6 => gq (r6 = 0 ∨ r6 = 1) (some (r6, M))) → (i % 6 = 1 ∨ i % 6 = 2) → (fbx l i ∧ v = some (1, M')) ∨ (¬ fbx l i ∧ v = some (0, M')) := fun v hM hv hc => by
    subst hM
    refine key (48 ≤ l i ∧ l i ≤ 56) _ ⟨fun q => Or.inr (Or.inl ⟨hc, q⟩), fun q => by unfold fbx at q; omega⟩ ?_
    rw [hv]
    unfold gq
    by_cases q1 : 48 ≤ l i ∧ l i ≤ 56
    · rw [in_1 (l := 48) (h := 56) (by decide) (by decide) (by omega), bI1_s, if_pos (Or.inr rfl), if_pos q1]
    · rw [in_0 (l := 48) (h := 56) (by decide) (by decide) (by omega), bI1_s, if_pos (Or.inl rfl), if_neg q1]
  by_cases c1 : i % 6 = 1
  · rw [if_neg (by omega)] at hM'
    rw [if_pos (n1.mpr c1)]; exact dig _ hM' rfl (Or.inl c1)
  rw [if_neg (fun q => c1 (n1.mp q))]
  by_cases c2 : i % 6 = 2
  · rw [if_neg (by omega)] at hM'
    rw [if_pos (n2.mpr c2)]; exact dig _ hM' rfl (Or.inr c2)
  rw [if_neg (fun q => c2 (n2.mp q))]
  have big : ∀ v : Option (Int32 × GS), M = M' → v = gd (nI i - 2) 54 (bI1 (f_X8_in (nI (l i)).toInt64 (Int32.toInt64 ((gt M 1 ((nI i - 2).toNatClampNeg)) + 1)) 57) (fun r9 => gq (r9 = 0 ∨ r9 = 1) (some (r9, M)))) → (i % 6 = 3 ∨ i % 6 = 4) → (fbx l i ∧ v = some (1, M')) ∨ (¬ fbx l i ∧ v = some (0, M')) := fun v hM hv hc => by
    subst hM
    obtain ⟨e2, hl2⟩ := hl (i - 2) (by omega)
    refine key (l i ≤ 57 ∧ l (i - 2) < l i) _ ⟨fun q => Or.inr (Or.inr (Or.inl ⟨hc, q⟩)), fun q => by unfold fbx at q; omega⟩ ?_
    have es : nI i - 2 = nI (i - 2) := nI_sub (c := 2) (by omega) (by omega)
    have el : (nI (l (i - 2) + 1)).toInt64.toInt = ((l (i - 2) + 1 : Nat) : Int) := n_small (by omega)
    rw [hv, es, gd_n (show i - 2 < 54 by omega) (by omega), nI_clamp (show i - 2 < 2 ^ 31 by omega), e2, nI_p1]
    unfold gq
    by_cases q1 : l i ≤ 57 ∧ l (i - 2) < l i
    · rw [in_1 (h := 57) el (by decide) (by omega), bI1_s, if_pos (Or.inr rfl), if_pos q1]
    · rw [in_0 (h := 57) el (by decide) (by omega), bI1_s, if_pos (Or.inl rfl), if_neg q1]
  by_cases c3 : i % 6 = 3
  · rw [if_neg (by omega)] at hM'
    rw [if_pos (n3.mpr c3)]; exact big _ hM' rfl (Or.inl c3)
  rw [if_neg (fun q => c3 (n3.mp q))]
  by_cases c4 : i % 6 = 4
  · rw [if_neg (by omega)] at hM'
    rw [if_pos (n4.mpr c4)]; exact big _ hM' rfl (Or.inr c4)
  rw [if_neg (fun q => c4 (n4.mp q))]
  have c5 : i % 6 = 5 := by omega
  rw [if_pos c5] at hM'
  refine key (l i = 59 ∨ (l i = 44 ∧ i < 47)) _ ⟨fun q => Or.inr (Or.inr (Or.inr ⟨c5, q⟩)), fun q => by unfold fbx at q; omega⟩ ?_
  by_cases q1 : l i = 59
  · rw [if_pos q1] at hM'
    subst hM'
    rw [if_pos (m59.mpr q1), bI1_s, if_pos (m59.mpr q1), if_pos (Or.inl q1)]
  · rw [if_neg q1] at hM'
    subst hM'
    rw [if_neg (fun q => q1 (m59.mp q)), bI1_s, if_neg (fun q => q1 (m59.mp q))]
    by_cases q2 : l i = 44
    · rw [if_pos (m44.mpr q2)]
      by_cases q3 : i < 47
      · rw [if_neg (show ¬ (47 : Int32) ≤ nI i from nI_ge (b := 47) (by omega) (by omega)), if_pos (Or.inr ⟨q2, q3⟩)]
      · rw [if_pos (show (47 : Int32) ≤ nI i from nI_le (a := 47) (by omega) (by omega)), if_neg (by omega)]
    · rw [if_neg (fun q => q2 (m44.mp q)), if_neg (by omega)]
/-- whether a letter may stand at a place among the rules -/
def frl (l : Nat → Nat) (e i : Nat) : Prop := (48 ≤ l i ∧ l i ≤ 51) ∧ ∀ j, e < j → j < i → l j ≠ l i
theorem x_fr {X : GS} {l : Nat → Nat} {e i : Nat} (hei : e < i) (hi : i < 54) (hl : ∀ j, j ≤ i → gt X 2 j = nI (l j) ∧ l j < 127) : (frl l e i ∧ f_X6_fitsRules (nI i) (nI (e + 1)) X = some 1) ∨ (¬ frl l e i ∧ f_X6_fitsRules (nI i) (nI (e + 1)) X = some 0) := by
  obtain ⟨ei, hli⟩ := hl i (Nat.le_refl _)
  unfold f_X6_fitsRules
  rw [gd_n hi (by omega), gd_n hi (by omega), nI_clamp (show i < 2 ^ 31 by omega), ei]
  by_cases q1 : l i < 48
  · rw [if_pos (show nI (l i) < 48 from nI_lt (b := 48) q1 (by omega))]
    exact Or.inr ⟨fun q => by have := q.1; omega, rfl⟩
  · rw [if_neg (show ¬ nI (l i) < 48 from nI_nlt (b := 48) (by omega) (by omega))]
    by_cases q2 : l i ≤ 51
    · rw [if_pos (show nI (l i) ≤ 51 from nI_le (b := 51) q2 (by omega))]
      have hk : ok (lpx (uc1 (f_X6_fitsRules_L26 (nI i) X)) (nI (e + 1))) (fun r => (frl l e i ∧ r = 1) ∨ (¬ frl l e i ∧ r = 0)) := by
        refine ok_for i (fun j z => z = nI j ∧ e < j ∧ ∀ j', e < j' → j' < j → l j' ≠ l i) _ ?_ ?_ (e + 1) _ (by omega) ⟨rfl, by omega, fun j' h1 h2 => by omega⟩
        · rintro j z hj ⟨rfl, h1, h2⟩
          show ok (f_X6_fitsRules_L26 (nI i) X (nI j)) _
          unfold f_X6_fitsRules_L26
          obtain ⟨ej, hlj⟩ := hl j (by omega)
          rw [if_neg (nI_ge hj (by omega)), gd_n (show j < 54 by omega) (by omega), gd_n hi (by omega), nI_clamp (show j < 2 ^ 31 by omega), nI_clamp (show i < 2 ^ 31 by omega), ei, ej]
          refine ok_if (fun c => ?_) (fun c => ?_)
          · exact ok_some (Or.inr ⟨_, rfl, Or.inr ⟨fun q => q.2 j h1 hj (nI_inj (by omega) (by omega) c), rfl⟩⟩)
          · refine ok_lt (ok_some (Or.inl ⟨_, rfl, nI_p1 j, by omega, fun j' a1 a2 => ?_⟩))
            by_cases ee : j' = j
            · rw [ee]; exact fun z => c (by rw [z])
            · exact h2 j' a1 (by omega)
        · rintro z ⟨rfl, h1, h2⟩
          show ok (f_X6_fitsRules_L26 (nI i) X (nI i)) _
          unfold f_X6_fitsRules_L26
          rw [if_pos (nI_le (Nat.le_refl _) (by omega))]
          exact ok_some ⟨_, rfl, Or.inl ⟨⟨by omega, h2⟩, rfl⟩⟩
      obtain ⟨r, r1, r2⟩ := hk
      rw [r1]
      rcases r2 with ⟨a, rfl⟩ | ⟨a, rfl⟩
      · exact Or.inl ⟨a, rfl⟩
      · exact Or.inr ⟨a, rfl⟩
    · rw [if_neg (show ¬ nI (l i) ≤ 51 from nI_ge (a := 51) (by omega) (by omega))]
      exact Or.inr ⟨fun q => by have := q.1; omega, rfl⟩
def cnt4 (R : Int32) : Nat := (bt R 0).toNat + (bt R 1).toNat + (bt R 2).toNat + (bt R 3).toNat
theorem cnt4_le (R : Int32) : cnt4 R ≤ 4 := by
  unfold cnt4
  cases bt R 0 <;> cases bt R 1 <;> cases bt R 2 <;> cases bt R 3 <;> decide
theorem cnt4_add {R : Int32} {d : Nat} (hd : d < 4) (hb : bt R d = false) : cnt4 (R ||| ishl 1 (nI d)) = cnt4 R + 1 := by
  unfold cnt4
  simp only [b_or, bt_shl (show d < 8 by omega)]
  match d, hd with
  | 0, _ => rw [hb]; simp; omega
  | 1, _ => rw [hb]; simp; omega
  | 2, _ => rw [hb]; simp; omega
  | 3, _ => rw [hb]; simp
def ruB (l : Nat → Nat) (e i : Nat) (R : Int32) : Prop := (∀ d, d < 4 → (bt R d = true ↔ ∃ j, e < j ∧ j < i ∧ l j = 48 + d)) ∧ cnt4 R = i - (e + 1)
theorem m_fr {M : GS} {l : Nat → Nat} {e i : Nat} (hei : e < i) (hi : i < 54) (hli : l i < 127) (hR : ruB l e i (gt M 0 3)) (h4 : gt M 0 4 = nI (i - (e + 1))) : ∃ M', ((frl l e i ∧ f_X8_isRuleSign (nI (l i)) M = some (1, M') ∧ ruB l e (i + 1) (gt M' 0 3) ∧ gt M' 0 4 = nI (i + 1 - (e + 1))) ∨ (¬ frl l e i ∧ f_X8_isRuleSign (nI (l i)) M = some (0, M'))) ∧ ∀ c j, (c ≠ 0 ∨ (j ≠ 3 ∧ j ≠ 4)) → gt M' c j = gt M c j := by
  have hT : (nI (l i)).toInt = (l i : Int) := nI_T (by omega)
  unfold f_X8_isRuleSign
  by_cases q : 48 ≤ l i ∧ l i ≤ 51
  · have es : nI (l i) - 48 = nI (l i - 48) := nI_sub (c := 48) (by omega) (by omega)
    have hd : l i - 48 < 4 := by omega
    rw [in_1 (l := 48) (h := 51) (by decide) (by decide) (by omega), bI1_s, if_neg i10, es, m_has (show l i - 48 < 8 by omega), bI1_s]
    cases hb : bt (gt M 0 3) (l i - 48) with
    | true =>
      rw [if_pos rfl, if_neg i10]
      obtain ⟨j, j1, j2, j3⟩ := (hR.1 _ hd).mp hb
      exact ⟨M, Or.inr ⟨fun z => z.2 j j1 j2 (by omega), rfl⟩, fun _ _ _ => rfl⟩
    | false =>
      rw [if_neg (show ¬ false = true by decide), if_pos rfl]
      simp only [lt_]
      have hne : ∀ j, e < j → j < i → l j ≠ l i := fun j j1 j2 z => by
        have := (hR.1 _ hd).mpr ⟨j, j1, j2, by omega⟩
        rw [hb] at this; cases this
      have e3 : gt (sv (sv M 0 3 (gt M 0 3 ||| ishl 1 (nI (l i - 48)))) 0 4 (gt (sv M 0 3 (gt M 0 3 ||| ishl 1 (nI (l i - 48)))) 0 4 + 1)) 0 3 = gt M 0 3 ||| ishl 1 (nI (l i - 48)) := by rw [gt_sv_j (by decide), gt_sv_same]
      refine ⟨_, Or.inl ⟨⟨q, hne⟩, rfl, ?_, ?_⟩, fun c j hc => ?_⟩
      · rw [e3]
        refine ⟨fun d hd4 => ?_, by rw [cnt4_add hd hb, hR.2]; omega⟩
        rw [b_or, bt_shl (show l i - 48 < 8 by omega), Bool.or_eq_true, hR.1 d hd4, decide_eq_true_eq]
        constructor
        · rintro (⟨j, j1, j2, j3⟩ | z)
          · exact ⟨j, j1, by omega, j3⟩
          · exact ⟨i, hei, by omega, by omega⟩
        · rintro ⟨j, j1, j2, j3⟩
          by_cases ee : j = i
          · right; subst ee; omega
          · left; exact ⟨j, j1, by omega, j3⟩
      · rw [gt_sv_same, gt_sv_j (by decide), h4, nI_p1]; congr 1; omega
      · rcases hc with r | r
        · rw [gt_sv_o r, gt_sv_o r]
        · rw [gt_sv_j r.2, gt_sv_j r.1]
  · rw [in_0 (l := 48) (h := 51) (by decide) (by decide) (by omega), bI1_s, if_pos rfl]
    exact ⟨M, Or.inr ⟨fun z => q z.1, rfl⟩, fun _ _ _ => rfl⟩
