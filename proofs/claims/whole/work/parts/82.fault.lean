-- THE FIRST FAULT: both sides go together
def phB (l : Nat → Nat) (i : Nat) (ra : Int32) (s : GS) : Prop := ra = -1 ∧ gt s 0 2 = 0 ∧ gt s 0 3 = 0 ∧ gt s 0 4 = 0 ∧ i ≤ 47 ∧ ∀ j, j < i → fbx l j ∧ l j ≠ 59
def phR (l : Nat → Nat) (i : Nat) (ra : Int32) (s : GS) (e : Nat) : Prop := e % 6 = 5 ∧ e ≤ 47 ∧ e < i ∧ l e = 59 ∧ (∀ j, j < e → fbx l j ∧ l j ≠ 59) ∧ ra = nI (e + 1) ∧ gt s 0 2 = nI e ∧ gt s 0 4 = nI (i - (e + 1)) ∧ (∀ j, e < j → j < i → 48 ≤ l j ∧ l j ≤ 51) ∧ ruB l e i (gt s 0 3)
def ftK (M s : GS) : Prop := ∀ c j, (c ≠ 0 ∨ (j ≠ 2 ∧ j ≠ 3 ∧ j ≠ 4)) → gt s c j = gt M c j
theorem fault_go {X M : GS} {l : Nat → Nat} {t : Nat} (ht : t ≤ 54) (hX : gt X 1 1 = nI t) (hM : gt M 0 1 = nI t) (lX : ∀ j, j < t → gt X 2 j = nI (l j) ∧ l j < 127) (lM : ∀ j, j < t → gt M 1 j = nI (l j)) : ∀ (m i : Nat) (ra : Int32) (s : GS), m = t - i → i ≤ t → (phB l i ra s ∨ ∃ e, phR l i ra s e) → ftK M s → ∃ f s', lpx (uc2 (f_X6_firstFault_L4 X)) (ra, nI i) = some (nI f) ∧ lpx (uc2 f_X8_faultOf_L17) (nI i, s) = some (nI f, s') ∧ ftK M s' ∧ f ≤ t ∧ (f = t → ∃ ra', phB l t ra' s' ∨ ∃ e, phR l t ra' s' e) := by
  intro m
  induction m with
  | zero =>
    intro i ra s hm hi hph hk
    have e : i = t := by omega
    subst e
    refine ⟨i, s, lpx_end ?_, lpx_end ?_, hk, Nat.le_refl _, fun _ => ⟨ra, hph⟩⟩
    · show f_X6_firstFault_L4 X ra (nI i) = _
      unfold f_X6_firstFault_L4
      rw [hX, if_pos (nI_le (Nat.le_refl _) (by omega))]
    · show f_X8_faultOf_L17 (nI i) s = _
      unfold f_X8_faultOf_L17
      rw [hk _ _ (Or.inr (by decide)), hM, if_pos (nI_le (Nat.le_refl _) (by omega))]
  | succ m ih =>
    intro i ra s hm hi hph hk
    have hit : i < t := by omega
    have h1 : gt s 0 1 = nI t := by rw [hk _ _ (Or.inr (by decide))]; exact hM
    have ls : ∀ j, j ≤ i → gt s 1 j = nI (l j) ∧ l j < 127 := fun j hj => ⟨by rw [hk _ _ (Or.inl (by decide))]; exact lM j (by omega), (lX j (by omega)).2⟩
    have eX : f_X6_firstFault_L4 X ra (nI i) = bI1 (if ra = -1 then bI1 (f_X6_fitsBoxes (nI i) X) (fun r7 => some r7) else bI1 (f_X6_fitsRules (nI i) ra X) (fun r6 => some r6)) (fun x5 => if x5 = 0 then some (.inr (nI i)) else (if l i = 59 then some (.inl (nI (i + 1), nI (i + 1))) else some (.inl (ra, nI (i + 1))))) := by
      unfold f_X6_firstFault_L4
      have e59 : (nI (l i) = 59) ↔ l i = 59 := nq (b := 59) (by have := (lX i hit).2; omega) (by omega)
      rw [hX, if_neg (nI_ge hit (by omega)), gd_n (show i < 54 by omega) (by omega), nI_clamp (show i < 2 ^ 31 by omega), (lX i hit).1, nI_p1]
      congr 1
      funext x5
      by_cases q : l i = 59
      · rw [if_pos (e59.mpr q), if_pos q]; rfl
      · rw [if_neg (fun z => q (e59.mp z)), if_neg q]; rfl
    rcases hph with ⟨b1, b2, b3, b4, b5, b6⟩ | ⟨e, r1, r2, r3, r4, r5, r6, r7, r8, r9, r10⟩
    · subst b1
      obtain ⟨M', mB, eM'⟩ := m_fb (M := s) (l := l) (i := i) (by omega) ls
      have xB := x_fb (X := X) (l := l) (i := i) (by omega) (fun j hj => lX j (by omega))
      have eM : f_X8_faultOf_L17 (nI i) s = bI2 (f_X8_isBoxSign (nI i) s) (fun r13 st14 => if r13 = 0 then some (.inr (nI i, st14)) else some (.inl (nI (i + 1), st14))) := by
        unfold f_X8_faultOf_L17
        rw [h1, if_neg (nI_ge hit (by omega)), b2, if_pos rfl, nI_p1]
        rfl
      have hk' : ftK M M' := by
        rw [eM']
        by_cases q : i % 6 = 5
        · rw [if_pos q]
          intro c j hc
          have : gt (sv s 0 2 (if l i = 59 then nI i else 0)) c j = gt s c j := by
            rcases hc with r | r
            · exact gt_sv_o r
            · exact gt_sv_j r.1
          rw [this]; exact hk c j hc
        · rw [if_neg q]; exact hk
      rw [if_pos rfl] at eX
      by_cases hf : fbx l i
      · have xB' := (xB.resolve_right (fun q => q.1 hf)).2
        have mB' := (mB.resolve_right (fun q => q.1 hf)).2
        rw [xB', bI1_s, bI1_s, if_neg i10] at eX
        rw [mB', bI2_s, if_neg i10] at eM
        by_cases h59 : l i = 59
        · have h5 : i % 6 = 5 := by
            rcases hf with q | q | q | q
            · rw [h59] at q; exact absurd (by decide) q.2
            · omega
            · omega
            · exact q.1
          rw [if_pos h59] at eX
          rw [if_pos h5, if_pos h59] at eM'
          have hR : phR l (i + 1) (nI (i + 1)) M' i := by
            subst eM'
            refine ⟨h5, b5, by omega, h59, b6, rfl, gt_sv_same _ _ _ _, ?_, fun j j1 j2 => by omega, ?_⟩
            · rw [gt_sv_j (by decide), b4, Nat.sub_self]; rfl
            · rw [gt_sv_j (by decide), b3]
              refine ⟨fun d hd => ⟨(fun q => by rw [b_0] at q; cases q), (fun ⟨j, j1, j2, _⟩ => by omega)⟩, ?_⟩
              rw [Nat.sub_self]; decide
          obtain ⟨f, s', f1, f2, f3⟩ := ih (i + 1) (nI (i + 1)) M' (by omega) (by omega) (Or.inr ⟨i, hR⟩) hk'
          exact ⟨f, s', (lpx_go (s' := (nI (i + 1), nI (i + 1))) eX).trans f1, (lpx_go (s' := (nI (i + 1), M')) eM).trans f2, f3⟩
        · rw [if_neg h59] at eX
          have hB : phB l (i + 1) (-1) M' := by
            have b5' : i + 1 ≤ 47 := by
              by_cases q : i = 47
              · exfalso
                subst q
                rcases hf with z | z | z | z
                · omega
                · omega
                · omega
                · omega
              · omega
            have e02 : gt M' 0 2 = 0 ∧ gt M' 0 3 = 0 ∧ gt M' 0 4 = 0 := by
              rw [eM']
              by_cases q : i % 6 = 5
              · rw [if_pos q, if_neg h59]
                exact ⟨gt_sv_same _ _ _ _, by rw [gt_sv_j (by decide)]; exact b3, by rw [gt_sv_j (by decide)]; exact b4⟩
              · rw [if_neg q]; exact ⟨b2, b3, b4⟩
            refine ⟨rfl, e02.1, e02.2.1, e02.2.2, b5', fun j hj => ?_⟩
            by_cases ej : j = i
            · rw [ej]; exact ⟨hf, h59⟩
            · exact b6 j (by omega)
          obtain ⟨f, s', f1, f2, f3⟩ := ih (i + 1) (-1) M' (by omega) (by omega) (Or.inl hB) hk'
          exact ⟨f, s', (lpx_go (s' := (-1, nI (i + 1))) eX).trans f1, (lpx_go (s' := (nI (i + 1), M')) eM).trans f2, f3⟩
      · have xB' := (xB.resolve_left (fun q => hf q.1)).2
        have mB' := (mB.resolve_left (fun q => hf q.1)).2
        rw [xB', bI1_s, bI1_s, if_pos rfl] at eX
        rw [mB', bI2_s, if_pos rfl] at eM
        exact ⟨i, M', lpx_end eX, lpx_end eM, hk', by omega, fun q => by omega⟩
    · subst r6
      have xR := x_fr (X := X) (l := l) (e := e) (i := i) r3 (by omega) (fun j hj => lX j (by omega))
      obtain ⟨M', mR, eM'⟩ := m_fr (M := s) (l := l) (e := e) (i := i) r3 (by omega) (ls i (Nat.le_refl _)).2 r10 r8
      have eM : f_X8_faultOf_L17 (nI i) s = bI2 (f_X8_isRuleSign (nI (l i)) s) (fun r9 st10 => if r9 = 0 then some (.inr (nI i, st10)) else some (.inl (nI (i + 1), st10))) := by
        unfold f_X8_faultOf_L17
        rw [h1, if_neg (nI_ge hit (by omega)), r7, if_neg (nI_ne0 (by omega) (by omega)), gd_n (show i < 54 by omega) (by omega), nI_clamp (show i < 2 ^ 31 by omega), (ls i (Nat.le_refl _)).1, nI_p1]
        rfl
      have hk' : ftK M M' := fun c j hc => by rw [eM' c j (by omega)]; exact hk c j hc
      rw [if_neg (nI_ne_m1 (by omega))] at eX
      by_cases hf : frl l e i
      · have xR' := (xR.resolve_right (fun q => q.1 hf)).2
        obtain ⟨-, mR', mR2, mR3⟩ := mR.resolve_right (fun q => q.1 hf)
        have h59 : ¬ l i = 59 := fun q => by have := hf.1; omega
        rw [xR', bI1_s, bI1_s, if_neg i10, if_neg h59] at eX
        rw [mR', bI2_s, if_neg i10] at eM
        have hR : phR l (i + 1) (nI (e + 1)) M' e := by
          refine ⟨r1, r2, by omega, r4, r5, rfl, by rw [eM' _ _ (Or.inr (by decide))]; exact r7, mR3, fun j j1 j2 => ?_, mR2⟩
          by_cases ej : j = i
          · rw [ej]; exact hf.1
          · exact r9 j j1 (by omega)
        obtain ⟨f, s', f1, f2, f3⟩ := ih (i + 1) (nI (e + 1)) M' (by omega) (by omega) (Or.inr ⟨e, hR⟩) hk'
        exact ⟨f, s', (lpx_go (s' := (nI (e + 1), nI (i + 1))) eX).trans f1, (lpx_go (s' := (nI (i + 1), M')) eM).trans f2, f3⟩
      · have xR' := (xR.resolve_left (fun q => hf q.1)).2
        have mR' := (mR.resolve_left (fun q => hf q.1)).2
        rw [xR', bI1_s, bI1_s, if_pos rfl] at eX
        rw [mR', bI2_s, if_pos rfl] at eM
        exact ⟨i, M', lpx_end eX, lpx_end eM, hk', by omega, fun q => by omega⟩
theorem txR_l {X M : GS} {t : Nat} (h : txR X M t) : ∃ l : Nat → Nat, (∀ j, j < t → gt X 2 j = nI (l j) ∧ l j < 127) ∧ ∀ j, j < t → gt M 1 j = nI (l j) := by
  obtain ⟨t1, t2, t3, t4⟩ := h
  refine ⟨fun j => (gt M 1 j).toInt.toNat, fun j hj => ?_, fun j hj => ?_⟩
  · obtain ⟨a, b, c⟩ := t4 j hj
    show gt X 2 j = nI (gt M 1 j).toInt.toNat ∧ (gt M 1 j).toInt.toNat < 127
    rw [a]
    refine ⟨?_, by omega⟩
    rw [eq32, nI_T (by omega)]; omega
  · obtain ⟨a, b, c⟩ := t4 j hj
    show gt M 1 j = nI (gt M 1 j).toInt.toNat
    rw [eq32, nI_T (by omega)]; omega
theorem fault_tell {X M : GS} {t : Nat} (h : txR X M t) : ∃ (l : Nat → Nat) (f : Nat) (M1 : GS), (∀ j, j < t → gt X 2 j = nI (l j) ∧ l j < 127) ∧ (∀ j, j < t → gt M 1 j = nI (l j)) ∧ f_X6_firstFault X = some (nI f) ∧ f_X8_faultOf M = some (nI f, M1) ∧ ftK M M1 ∧ f ≤ t ∧ (f = t → ∃ ra', phB l t ra' M1 ∨ ∃ e, phR l t ra' M1 e) := by
  obtain ⟨l, l1, l2⟩ := txR_l h
  obtain ⟨t1, t2, t3, t4⟩ := h
  generalize hS : sv (sv (sv M 0 2 0) 0 3 0) 0 4 0 = S
  have hk : ftK M S := fun c j hc => by
    rw [← hS]
    rcases hc with r | r
    · rw [gt_sv_o r, gt_sv_o r, gt_sv_o r]
    · rw [gt_sv_j r.2.2, gt_sv_j r.2.1, gt_sv_j r.1]
  have hB : phB l 0 (-1) S := ⟨rfl, by rw [← hS, gt_sv_j (by decide), gt_sv_j (by decide), gt_sv_same], by rw [← hS, gt_sv_j (by decide), gt_sv_same], by rw [← hS, gt_sv_same], by omega, fun j hj => by omega⟩
  obtain ⟨f, s', f1, f2, f3, f4, f5⟩ := fault_go (X := X) (M := M) (l := l) t1 t2 t3 l1 l2 t 0 (-1) S (by omega) (by omega) (Or.inl hB) hk
  refine ⟨l, f, s', l1, l2, f1, ?_, f3, f4, f5⟩
  unfold f_X8_faultOf
  simp only [lt_]
  rw [hS]
  show bI2 (lpx (uc2 f_X8_faultOf_L17) (nI 0, S)) _ = _
  rw [f2, bI2_s]
theorem ftK_mK {M s : GS} (h : ftK M s) : mK M s := fun c j w => h c j (by unfold mW at w; omega)
theorem r_fault : op_fault Rel := by
  intro c X M _ h
  obtain ⟨n, b, rs, t, p, s, hp, h⟩ := h
  obtain ⟨g1, g2, g3, g4, g5, g6, g7, g8⟩ := id h
  obtain ⟨l, f, M1, -, -, f1, f2, f3, -⟩ := fault_tell g5
  refine ⟨nI f, M1, ?_, ?_, Rel_of hp (RelA_keep h (xK_rf X) (ftK_mK f3))⟩
  · unfold f_X7_fault; rw [f1, bI1_s]
  · unfold f_X8_fault; rw [f2, bI2_s]
