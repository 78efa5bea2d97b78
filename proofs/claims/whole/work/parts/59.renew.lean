/-- what a renewed reading holds -/
def reads (st : GS) (o n : Nat) (b : Bx) (rs : List Int) : Prop := orS st o (ords b rs (List.range n)) ∧ (∀ k, k < n → gt st (o + 10) k = eO (bnd b (List.range n) k)) ∧ gt st o 7 = nI (lvs b rs (List.range n)).length ∧ lvS st o 0 (lvs b rs (List.range n)) ∧ (∀ k, k < n → bnd b (List.range n) k ≠ none → gt st (o + 11) k = -1) ∧ ctS st (o + 13) (cts b rs (List.range n)) ∧ gt st o 11 = nI (rws b rs (List.range n)).length ∧ sg st (o + 23) 0 (rws b rs (List.range n))
theorem x_renew {st : GS} {o n : Nat} {b : Bx} {rs : List Int} (hsh : shIs st (o + 1) n b rs) (hp : okP n b rs) : ok (f_X3_renew o st) (fun st' => reads st' o n b rs ∧ ∀ c j, (c < o ∨ (o < c ∧ c < o + 8) ∨ o + 24 < c) → gt st' c j = gt st c j) := by
  have hn := hp.1
  have hok : okB b (List.range n) := okB_of hp (fun k hk => List.mem_range.mp hk)
  have hbn : ∀ k f, bnd b (List.range n) k = some f → f < 8 := fun k f hf => by
    have := List.mem_range.mp (bnd_fig hf).1; omega
  unfold f_X3_renew f_X0_clear
  simp only [lt_, bI1_s]
  generalize h0 : sv (sv (sv st (o + 13) 5 0) o 7 0) o 11 0 = s0
  have z1 : gt s0 (o + 13) 5 = 0 := by rw [← h0, gt_sv_o (by omega), gt_sv_o (by omega), gt_sv_same]
  have z2 : gt s0 o 7 = 0 := by rw [← h0, gt_sv_j (by omega), gt_sv_same]
  have z3 : gt s0 o 11 = 0 := by rw [← h0, gt_sv_same]
  have z4 : ∀ c j, (c ≠ o ∧ c ≠ o + 13) → gt s0 c j = gt st c j := fun c j hc => by rw [← h0, gt_sv_o hc.1, gt_sv_o hc.1, gt_sv_o hc.2]
  refine ok_bI1 (P := fun s => (∀ k, k < n → gt s (o + 10) k = eO (bnd b (List.range n) k) ∧ gt s (o + 11) k = -1) ∧ gt s o 11 = nI (fre b (List.range n)).length ∧ sg s (o + 23) 0 (fre b (List.range n)) ∧ gt s o 7 = 0 ∧ ∀ c j, (c ≠ o ∧ c ≠ o + 10 ∧ c ≠ o + 11 ∧ c ≠ o + 23) → gt s c j = gt s0 c j) ?_ ?_
  · refine ok_for n (fun i z => z.1 = nI i ∧ (∀ k, k < i → gt z.2 (o + 10) k = eO (bnd b (List.range n) k) ∧ gt z.2 (o + 11) k = -1) ∧ gt z.2 o 11 = nI ((List.range i).filter (fun k => decide (bnd b (List.range n) k = none))).length ∧ sg z.2 (o + 23) 0 ((List.range i).filter (fun k => decide (bnd b (List.range n) k = none))) ∧ gt z.2 o 7 = 0 ∧ ∀ c j, (c ≠ o ∧ c ≠ o + 10 ∧ c ≠ o + 11 ∧ c ≠ o + 23) → gt z.2 c j = gt s0 c j) _ ?_ ?_ 0 _ (Nat.zero_le _) ⟨rfl, fun k hk => absurd hk (Nat.not_lt_zero _), z3, sg_nil, z2, fun c j _ => rfl⟩
    · rintro i ⟨z, s5⟩ hi ⟨h1, h2, h3, h4, h5, h6⟩
      simp only at h1 h2 h3 h4 h5 h6
      subst h1
      show ok (f_X3_renew_L19 o (nI i) s5) _
      unfold f_X3_renew_L19
      have hsh5 : shIs s5 (o + 1) n b rs := shIs_keep hsh (fun c j q1 q2 => by rw [h6 _ _ (by omega), z4 _ _ (by omega)])
      have e5 : gt s5 (o + 1) 5 = nI n := hsh5.1
      rw [e5, if_neg (nI_ge hi (by omega))]
      simp only [gd_n (show i < 8 by omega) (show 8 < 2147483648 by omega), nI_clamp (show i < 2 ^ 31 by omega), lt_]
      have ek : (gt s5 (o + 2) i).toInt = b i 0 := hsh5.c0 hi
      have efig : (if gt s5 (o + 2) i = 4 then bI1 (f_X3_nearestFigure o (nI i) s5) (fun r10 => some r10) else some (-1)) = some (eO (bnd b (List.range n) i)) := by
        rw [x_near hsh5 hp hi, bI1_s]
        unfold bnd
        by_cases h4 : b i 0 = 4
        · rw [if_pos h4, if_pos ((eq32 _ _).mpr (by rw [ek, l32_4]; exact h4))]
        · rw [if_neg h4, if_neg (fun q => h4 (by rw [eq32, ek, l32_4] at q; exact q))]; rfl
      rw [efig, bI1_s]
      have hcnt : ((List.range i).filter (fun k => decide (bnd b (List.range n) k = none))).length ≤ i := by
        have := List.length_filter_le (fun k => decide (bnd b (List.range n) k = none)) (List.range i)
        rw [List.length_range] at this; exact this
      have e14 : gt (sv (sv s5 (o + 10) i (eO (bnd b (List.range n) i))) (o + 11) i (-1)) (o + 10) i = eO (bnd b (List.range n) i) := by rw [gt_sv_o (by omega), gt_sv_same]
      have e15 : gt (sv (sv s5 (o + 10) i (eO (bnd b (List.range n) i))) (o + 11) i (-1)) o 11 = nI ((List.range i).filter (fun k => decide (bnd b (List.range n) k = none))).length := by rw [gt_sv_o (by omega), gt_sv_o (by omega)]; exact h3
      rw [e14]
      have hold : ∀ (s : GS) k, k < i + 1 → (∀ k, gt s (o + 10) k = gt (sv (sv s5 (o + 10) i (eO (bnd b (List.range n) i))) (o + 11) i (-1)) (o + 10) k) → (∀ k, gt s (o + 11) k = gt (sv (sv s5 (o + 10) i (eO (bnd b (List.range n) i))) (o + 11) i (-1)) (o + 11) k) → gt s (o + 10) k = eO (bnd b (List.range n) k) ∧ gt s (o + 11) k = -1 := by
        intro s k hk q1 q2
        rw [q1, q2]
        by_cases hki : k = i
        · subst hki
          exact ⟨e14, gt_sv_same _ _ _ _⟩
        · rw [gt_sv_o (by omega), gt_sv_j hki, gt_sv_j hki, gt_sv_o (by omega)]
          exact h2 k (by omega)
      refine ok_if (fun c1 => ?_) (fun c1 => ?_)
      · have c2 := (eO_none (hbn i)).mp c1
        have hstep : (List.range (i + 1)).filter (fun k => decide (bnd b (List.range n) k = none)) = (List.range i).filter (fun k => decide (bnd b (List.range n) k = none)) ++ [i] := by
          rw [range_step, List.filter_append]; simp [c2]
        rw [e15]
        rw [gd_n (show ((List.range i).filter (fun k => decide (bnd b (List.range n) k = none))).length < 8 by omega) (by omega), nI_clamp (show ((List.range i).filter (fun k => decide (bnd b (List.range n) k = none))).length < 2 ^ 31 by omega)]
        refine ok_some (Or.inl ⟨_, rfl, nI_p1 i, fun k hk => hold _ k hk (fun k => ?_) (fun k => ?_), ?_, ?_, ?_, fun c j hc => ?_⟩)
        · rw [gt_sv_o (by omega), gt_sv_o (by omega)]
        · rw [gt_sv_o (by omega), gt_sv_o (by omega)]
        · rw [hstep, List.length_append, gt_sv_same, gt_sv_o (by omega), e15]; exact nI_p1 _
        · rw [hstep]
          refine sg_app.mpr ⟨sg_same h4 (fun j _ hj => ?_), sg_one.mpr ?_⟩
          · rw [gt_sv_o (by omega), gt_sv_j (by omega), gt_sv_o (by omega), gt_sv_o (by omega)]
          · rw [gt_sv_o (by omega), Nat.zero_add, gt_sv_same]
        · rw [gt_sv_j (by omega), gt_sv_o (by omega), gt_sv_o (by omega), gt_sv_o (by omega)]; exact h5
        · rw [gt_sv_o hc.1, gt_sv_o hc.2.2.2, gt_sv_o hc.2.2.1, gt_sv_o hc.2.1]; exact h6 c j hc
      · have c2 : ¬ bnd b (List.range n) i = none := fun q => c1 ((eO_none (hbn i)).mpr q)
        have hstep : (List.range (i + 1)).filter (fun k => decide (bnd b (List.range n) k = none)) = (List.range i).filter (fun k => decide (bnd b (List.range n) k = none)) := by
          rw [range_step, List.filter_append]; simp [c2]
        refine ok_some (Or.inl ⟨_, rfl, nI_p1 i, fun k hk => hold _ k hk (fun k => rfl) (fun k => rfl), ?_, ?_, ?_, fun c j hc => ?_⟩)
        · rw [hstep]; exact e15
        · rw [hstep]
          exact sg_same h4 (fun j _ _ => by rw [gt_sv_o (by omega), gt_sv_o (by omega)])
        · rw [gt_sv_o (by omega), gt_sv_o (by omega)]; exact h5
        · rw [gt_sv_o hc.2.2.1, gt_sv_o hc.2.1]; exact h6 c j hc
    · rintro ⟨z, s5⟩ ⟨h1, h2, h3, h4, h5, h6⟩
      simp only at h1 h2 h3 h4 h5 h6
      subst h1
      show ok (f_X3_renew_L19 o (nI n) s5) _
      unfold f_X3_renew_L19
      have e5 : gt s5 (o + 1) 5 = nI n := by rw [h6 _ _ (by omega), z4 _ _ (by omega)]; exact hsh.1
      rw [e5, if_pos (nI_le (Nat.le_refl _) (by omega))]
      exact ok_some ⟨_, rfl, h2, h3, h4, h5, h6⟩
  · rintro s22 ⟨h2, h3, h4, h5, h6⟩
    have hfl : (fre b (List.range n)).length ≤ n := by
      have := List.length_filter_le (fun k => decide (bnd b (List.range n) k = none)) (List.range n)
      rw [List.length_range] at this; exact this
    have hsh22 : shIs s22 (o + 1) n b rs := shIs_keep hsh (fun c j q1 q2 => by rw [h6 _ _ (by omega), z4 _ _ (by omega)])
    have hfree : ∀ k ∈ fre b (List.range n), k < n := fun k hk => List.mem_range.mp (List.mem_filter.mp hk).1
    have hbound : ∀ k, bnd b (List.range n) k ≠ none → k ∉ fre b (List.range n) := fun k hk q => hk (of_decide_eq_true (List.mem_filter.mp q).2)
    refine ok_bI1 (P := fun s => gt s o 7 = nI (lvs b rs (List.range n)).length ∧ lvS s o 0 (lvs b rs (List.range n)) ∧ ctS s (o + 13) (cts b rs (List.range n)) ∧ sg s (o + 23) 0 (rws b rs (List.range n)) ∧ gt s o 11 = nI (rws b rs (List.range n)).length ∧ (∀ k, k < n → gt s (o + 10) k = eO (bnd b (List.range n) k)) ∧ (∀ k, k < n → bnd b (List.range n) k ≠ none → gt s (o + 11) k = -1) ∧ ∀ c j, (c < o ∨ (o < c ∧ c < o + 8) ∨ o + 24 < c) → gt s c j = gt st c j) ?_ ?_
    · rw [h3]
      by_cases hf : fre b (List.range n) = []
      · rw [if_pos (by rw [hf]; decide)]
        have e1 : lvs b rs (List.range n) = [] := by unfold lvs; rw [if_pos hf]
        have e2 : cts b rs (List.range n) = [] := by unfold cts; rw [if_pos hf]
        have e3 : rws b rs (List.range n) = [] := by unfold rws; rw [e1]; rfl
        rw [e1, e2, e3]
        refine ok_some ⟨h5, fun i p hi => by simp at hi, ⟨?_, fun i c hi => by simp at hi⟩, sg_nil, by rw [h3, hf], fun k hk => (h2 k hk).1, fun k hk _ => (h2 k hk).2, fun c j hc => ?_⟩
        · rw [h6 _ _ (by omega)]; exact z1
        · rw [h6 _ _ (by omega), z4 _ _ (by omega)]
      · have hpos : 0 < (fre b (List.range n)).length := List.length_pos_iff.mpr hf
        rw [if_neg (nI_nle hpos (by omega))]
        have e1 : lvs b rs (List.range n) = (rdf b rs (fre b (List.range n)) 0).2 := by unfold lvs; rw [if_neg hf]
        have e2 : cts b rs (List.range n) = (rdf b rs (fre b (List.range n)) 0).1 := by unfold cts; rw [if_neg hf]
        have hlen := (rws_perm (rs := rs) hok).length_eq
        have hpt := x_part (o := o) hp 9 (fre b (List.range n)) 0 0 0 [] s22 hsh22 hfree (List.Nodup.sublist List.filter_sublist List.nodup_range) hf (by omega) (by omega) (by omega) (by simp; omega) h4 h5 ⟨by rw [h6 _ _ (by omega)]; exact z1, fun i c hi => by simp at hi⟩
        rw [Nat.zero_add] at hpt
        refine ok_bI1 (P := fun s => gt s o 7 = nI (lvs b rs (List.range n)).length ∧ lvS s o 0 (lvs b rs (List.range n)) ∧ ctS s (o + 13) (cts b rs (List.range n)) ∧ sg s (o + 23) 0 (rws b rs (List.range n)) ∧ gt s o 11 = nI (rws b rs (List.range n)).length ∧ (∀ k, k < n → gt s (o + 10) k = eO (bnd b (List.range n) k)) ∧ (∀ k, k < n → bnd b (List.range n) k ≠ none → gt s (o + 11) k = -1) ∧ ∀ c j, (c < o ∨ (o < c ∧ c < o + 8) ∨ o + 24 < c) → gt s c j = gt st c j) (ok_mono hpt ?_) (fun r hr => ok_some hr)
        rintro s25 ⟨g1, g2, g3, g4, g5, g6, g7, g8⟩
        refine ⟨?_, ?_, ?_, ?_, ?_, fun k hk => ?_, fun k hk hb => ?_, fun c j hc => ?_⟩
        · rw [e1, g2, Nat.zero_add]
        · rw [e1]; exact g4
        · rw [e2]; exact g3
        · unfold rws; rw [e1]; exact g1
        · rw [g6 _ (by decide), hlen]; exact h3
        · rw [g5 _ _ (by omega)]; exact (h2 k hk).1
        · rw [(g7 k (hbound k hb)).1]; exact (h2 k hk).2
        · rw [g5 _ _ (by omega), h6 _ _ (by omega), z4 _ _ (by omega)]
    · rintro s24 ⟨g1, g2, g3, g4, g5, g6, g7, g8⟩
      refine ok_bI1 (x_putIn (rs := rs) hp (by rw [g8 _ _ (by omega)]; exact hsh.1) g4 g5 g6) ?_
      rintro s26 ⟨k1, k2, k3⟩
      refine ok_some ⟨⟨k1, fun k hk => ?_, ?_, ?_, fun k hk hb => ?_, ?_, ?_, ?_⟩, fun c j hc => ?_⟩
      · rw [k3 _ _ (by omega)]; exact g6 k hk
      · rw [k2 _ (by decide)]; exact g1
      · intro i p hi k hk; rw [k3 _ _ (by omega), k3 _ _ (by omega)]; exact g2 i p hi k hk
      · rw [k3 _ _ (by omega)]; exact g7 k hk hb
      · exact ctS_keep g3 (fun c j q1 q2 => k3 _ _ (by omega))
      · rw [k2 _ (by decide)]; exact g5
      · exact sg_same g4 (fun j _ _ => k3 _ _ (by omega))
      · rw [k3 _ _ (by omega)]; exact g8 c j hc
