theorem filt_step {S : Int32} (i : Nat) : (List.range (i + 1)).filter (fun k => bt S k) = (List.range i).filter (fun k => bt S k) ++ (if bt S i = true then [i] else []) := by
  rw [range_step, List.filter_append]
  congr 1
  by_cases hb : bt S i = true
  · rw [if_pos hb]; simp [hb]
  · rw [if_neg hb]; simp [hb]
/-- captions are bound, among the boxes of a set -/
theorem m_bound {st : GS} {n : Nat} {b : Bx} {rs : List Int} {S : Int32} (h : mIs st n b rs) (hp : okP n b rs) (hS : ∀ k ∈ idS S, k < n) (hs : sml S) :
    ok (f_X8_layBound S st) (fun z => idS z.1 = fre b (idS S) ∧ sml z.1 ∧ (∀ k, k < n → gt z.2 5 k = if k ∈ idS S then eO (bnd b (idS S) k) else -1) ∧ gl z.2 = gl st ∧ ∀ c j, c ≠ 5 → gt z.2 c j = gt st c j) := by
  have hn := hp.1
  have hid := idS_n hn hS
  have hbn : ∀ k f, bnd b (idS S) k = some f → f < 8 := fun k f hf => (idS_mem.mp (bnd_fig hf).1).1
  unfold f_X8_layBound
  refine ok_bI2 (P := fun z => idS z.1 = fre b (idS S) ∧ sml z.1 ∧ (∀ k, k < n → gt z.2 5 k = if k ∈ idS S then eO (bnd b (idS S) k) else -1) ∧ gl z.2 = gl st ∧ ∀ c j, c ≠ 5 → gt z.2 c j = gt st c j) ?_ (fun a c hac => ok_some hac)
  refine ok_for n (fun i z => z.2.1 = nI i ∧ (∀ k, bt z.1 k = (bt S k && (decide (i ≤ k) || decide (k ∉ idS S) || decide (bnd b (idS S) k = none)))) ∧ (∀ k, k < i → gt z.2.2 5 k = if k ∈ idS S then eO (bnd b (idS S) k) else -1) ∧ gl z.2.2 = gl st ∧ ∀ c j, c ≠ 5 → gt z.2.2 c j = gt st c j) _ ?_ ?_ 0 _ (Nat.zero_le _) ⟨rfl, fun k => by simp, fun k hk => absurd hk (Nat.not_lt_zero _), rfl, fun c j _ => rfl⟩
  · rintro i ⟨z1, z2, s3⟩ hi ⟨h1, h2, h3, h4, h5⟩
    simp only at h1 h2 h3 h4 h5
    subst h1
    show ok (f_X8_layBound_L4 S z1 (nI i) s3) _
    unfold f_X8_layBound_L4
    have e5 : gt s3 0 5 = nI n := by rw [h5 _ _ (by decide)]; exact h.1
    rw [e5, if_neg (nI_ge hi (by omega)), gd_n (show i < 8 by omega) (by omega)]
    refine ok_lt ?_
    rw [nI_clamp (show i < 2 ^ 31 by omega)]
    -- the inner loop
    refine ok_bI1 (P := fun s => gt s 5 i = (if i ∈ idS S then eO (bnd b (idS S) i) else -1) ∧ (∀ k, k ≠ i → gt s 5 k = gt s3 5 k) ∧ gl s = gl st ∧ ∀ c j, c ≠ 5 → gt s c j = gt st c j) ?_ ?_
    · by_cases hin : i ∈ idS S ∧ b i 0 = 4
      · obtain ⟨hin, hk4⟩ := hin
        have hbi : bt S i = true := (idS_mem.mp hin).2
        have hbd : bnd b (idS S) i = nrst b (idS S) i := by unfold bnd; rw [if_pos hk4]
        rw [if_pos hin, hbd, ← hid]
        refine ok_for n (fun f z => z.2.1 = nI f ∧ gt z.2.2 5 i = eO (nrst b ((List.range f).filter (fun k => bt S k)) i) ∧ (∀ g, nrst b ((List.range f).filter (fun k => bt S k)) i = some g → z.1.toInt = dst b i g) ∧ (∀ k, k ≠ i → gt z.2.2 5 k = gt s3 5 k) ∧ gl z.2.2 = gl st ∧ ∀ c j, c ≠ 5 → gt z.2.2 c j = gt st c j) _ ?_ ?_ 0 _ (Nat.zero_le _) ⟨rfl, gt_sv_same _ _ _ _, (fun g hg => by cases hg), fun k hk => gt_sv_j hk, h4, fun c j hc => by rw [gt_sv_o hc]; exact h5 c j hc⟩
        · rintro f ⟨y1, y2, s9⟩ hf ⟨k1, k2, k3, k4, k5, k6⟩
          simp only at k1 k2 k3 k4 k5 k6
          subst k1
          show ok (f_X8_layBound_L25 S (nI i) y1 (nI f) s9) _
          unfold f_X8_layBound_L25
          have e59 : gt s9 0 5 = nI n := by rw [k6 _ _ (by decide)]; exact h.1
          rw [e59, if_neg (nI_ge hf (by omega))]
          refine m_has_ok (show i < 8 by omega) (fun _ => ?_) (fun q => by rw [hbi] at q; cases q)
          rw [if_neg (by decide), gd_n (show i < 8 by omega) (by omega), nI_clamp (show i < 2 ^ 31 by omega)]
          have ek : gt s9 2 i = 4 := by rw [eq32, k6 _ _ (by decide), h.c0 hi, l32_4]; exact hk4
          rw [if_pos ek]
          have mI9 : ∀ s : GS, (∀ c j, c ≠ 5 → gt s c j = gt st c j) → mIs s n b rs := fun s hs => mIs_keep h (hs _ _ (by decide)) (hs _ _ (by decide)) (fun c j hc => hs _ _ (by omega))
          have ekf : (gt s9 2 f).toInt = b f 0 := by rw [k6 _ _ (by decide)]; exact h.c0 hf
          have fs := filt_step (S := S) f
          generalize hacc : nrst b ((List.range f).filter (fun k => bt S k)) i = acc at *
          have hlt : ∀ g, acc = some g → g < 8 := fun g hg => by
            rw [← hacc] at hg
            rcases nrst_mem _ _ _ hg with q | q
            · have := List.mem_range.mp (List.mem_filter.mp q.1).1; omega
            · cases q
          have skip : ∀ (hno : ¬ (bt S f = true ∧ b f 0 = 3)), nrst b ((List.range (f + 1)).filter (fun k => bt S k)) i = acc := by
            intro hno
            rw [fs]
            by_cases hbf : bt S f = true
            · rw [if_pos hbf]
              show List.foldl (nrF b i) none (_ ++ [f]) = acc
              rw [List.foldl_append]
              have : List.foldl (nrF b i) none ((List.range f).filter (fun k => bt S k)) = acc := hacc
              rw [this]
              show nrF b i acc f = acc
              unfold nrF; rw [if_neg (fun q => hno ⟨hbf, q⟩)]
            · rw [if_neg hbf, List.append_nil]; exact hacc
          have take1 : ∀ (hyes : bt S f = true ∧ b f 0 = 3), nrst b ((List.range (f + 1)).filter (fun k => bt S k)) i = nrF b i acc f := by
            intro hyes
            rw [fs, if_pos hyes.1]
            show List.foldl (nrF b i) none (_ ++ [f]) = _
            rw [List.foldl_append]
            have : List.foldl (nrF b i) none ((List.range f).filter (fun k => bt S k)) = acc := hacc
            rw [this]; rfl
          have eis : ∃ x17 : Int32, (∀ (K : Int32 → Option ((Int32 × Int32 × GS) ⊕ GS)) (Q), ok (K x17) Q → ok (bI1 (f_X8_has S (nI f)) (fun r15 => bI1 (if r15 = 0 then some 0 else gd (nI f) 8 (if gt s9 2 (nI f).toNatClampNeg = 3 then some 1 else some 0)) K)) Q) ∧ ((x17 = 0 ∧ ¬ (bt S f = true ∧ b f 0 = 3)) ∨ (x17 = 1 ∧ (bt S f = true ∧ b f 0 = 3))) := by
            by_cases hbf : bt S f = true
            · by_cases hf3 : b f 0 = 3
              · refine ⟨1, fun K Q hK => ?_, Or.inr ⟨rfl, hbf, hf3⟩⟩
                rw [m_has (show f < 8 by omega), bI1_s, if_pos hbf, if_neg (by decide), gd_n (show f < 8 by omega) (by omega), nI_clamp (show f < 2 ^ 31 by omega), if_pos ((eq32 _ _).mpr (by rw [ekf, l32_3]; exact hf3)), bI1_s]
                exact hK
              · refine ⟨0, fun K Q hK => ?_, Or.inl ⟨rfl, fun q => hf3 q.2⟩⟩
                rw [m_has (show f < 8 by omega), bI1_s, if_pos hbf, if_neg (by decide), gd_n (show f < 8 by omega) (by omega), nI_clamp (show f < 2 ^ 31 by omega), if_neg (fun q => hf3 (by rw [eq32, ekf, l32_3] at q; exact q)), bI1_s]
                exact hK
            · refine ⟨0, fun K Q hK => ?_, Or.inl ⟨rfl, fun q => hbf q.1⟩⟩
              rw [m_has (show f < 8 by omega), bI1_s, if_neg hbf, if_pos rfl, bI1_s]
              exact hK
          obtain ⟨x17, hx, hval⟩ := eis
          refine hx _ _ ?_
          rcases hval with ⟨rfl, hno⟩ | ⟨rfl, hyes⟩
          · rw [if_pos rfl]
            simp only [lt_]
            rw [← skip hno] at k2 k3
            exact ok_some (Or.inl ⟨_, rfl, nI_p1 f, k2, k3, k4, k5, k6⟩)
          · rw [if_neg (by decide), gd_n (show i < 8 by omega) (by omega), k2]
            have tk := take1 hyes
            have hset : ∀ (v : Int32), (∀ k, k ≠ i → gt (sv s9 5 i v) 5 k = gt s3 5 k) ∧ gl (sv s9 5 i v) = gl st ∧ ∀ c j, c ≠ 5 → gt (sv s9 5 i v) c j = gt st c j := fun v => ⟨fun k hk => by rw [gt_sv_j hk]; exact k4 k hk, k5, fun c j hc => by rw [gt_sv_o hc]; exact k6 c j hc⟩
            cases acc with
            | none =>
              rw [if_pos (show eO none = -1 from rfl), gd_n (show i < 8 by omega) (by omega)]
              refine ok_lt ?_
              obtain ⟨v, ev, hv⟩ := m_apart (mI9 _ (hset (nI f)).2.2) hp hi hf
              rw [ev, bI1_s]
              have tk2 : nrst b ((List.range (f + 1)).filter (fun k => bt S k)) i = some f := by rw [tk]; unfold nrF; rw [if_pos hyes.2]
              refine ok_lt (ok_some (Or.inl ⟨_, rfl, nI_p1 f, by rw [tk2]; exact gt_sv_same _ _ _ _, fun g hg => ?_, hset (nI f)⟩))
              rw [tk2] at hg; cases hg; exact hv
            | some g =>
              have hg8 := hlt g rfl
              rw [if_neg (show ¬ eO (some g) = -1 from nI_ne_m1 (by omega))]
              obtain ⟨v, ev, hv⟩ := m_apart (mI9 _ k6) hp hi hf
              rw [ev, bI1_s]
              have hy := k3 g rfl
              refine ok_if (fun c2 => ?_) (fun c2 => ?_)
              · rw [le32, hy, hv] at c2
                have tk2 : nrst b ((List.range (f + 1)).filter (fun k => bt S k)) i = some g := by rw [tk]; unfold nrF; rw [if_pos hyes.2]; simp only []; rw [if_neg (by omega)]
                refine ok_lt (ok_some (Or.inl ⟨_, rfl, nI_p1 f, by rw [tk2]; exact k2, fun g' hg => ?_, k4, k5, k6⟩))
                rw [tk2] at hg; cases hg; exact hy
              · rw [le32, hy, hv] at c2
                have tk2 : nrst b ((List.range (f + 1)).filter (fun k => bt S k)) i = some f := by rw [tk]; unfold nrF; rw [if_pos hyes.2]; simp only []; rw [if_pos (by omega)]
                rw [gd_n (show i < 8 by omega) (by omega)]
                refine ok_lt ?_
                obtain ⟨v2, ev2, hv2⟩ := m_apart (mI9 _ (hset (nI f)).2.2) hp hi hf
                rw [ev2, bI1_s]
                refine ok_lt (ok_some (Or.inl ⟨_, rfl, nI_p1 f, by rw [tk2]; exact gt_sv_same _ _ _ _, fun g' hg => ?_, hset (nI f)⟩))
                rw [tk2] at hg; cases hg; exact hv2
        · rintro ⟨y1, y2, s9⟩ ⟨k1, k2, k3, k4, k5, k6⟩
          simp only at k1 k2 k3 k4 k5 k6
          subst k1
          show ok (f_X8_layBound_L25 S (nI i) y1 (nI n) s9) _
          unfold f_X8_layBound_L25
          have e59 : gt s9 0 5 = nI n := by rw [k6 _ _ (by decide)]; exact h.1
          rw [e59, if_pos (nI_le (Nat.le_refl _) (by omega))]
          exact ok_some ⟨_, rfl, k2, k4, k5, k6⟩
      · -- no caption of the set: the loop ends at once
        have hres : (if i ∈ idS S then eO (bnd b (idS S) i) else -1) = -1 := by
          by_cases hin2 : i ∈ idS S
          · rw [if_pos hin2]
            have : bnd b (idS S) i = none := by unfold bnd; rw [if_neg (fun q => hin ⟨hin2, q⟩)]
            rw [this]; rfl
          · rw [if_neg hin2]
        rw [hres]
        refine ⟨_, lpx_end (r := sv s3 5 i (-1)) ?_, gt_sv_same _ _ _ _, fun k hk => gt_sv_j hk, h4, fun c j hc => by rw [gt_sv_o hc]; exact h5 c j hc⟩
        show f_X8_layBound_L25 S (nI i) 0 0 (sv s3 5 i (-1)) = _
        unfold f_X8_layBound_L25
        have e59 : gt (sv s3 5 i (-1)) 0 5 = nI n := by rw [gt_sv_o (by decide)]; exact e5
        rw [e59, if_neg (show ¬ nI n ≤ 0 from nI_nle (by omega) (by omega)), m_has (show i < 8 by omega), bI1_s]
        by_cases hbi : bt S i = true
        · rw [if_pos hbi, if_neg (by decide), gd_n (show i < 8 by omega) (by omega), nI_clamp (show i < 2 ^ 31 by omega)]
          have hk4 : ¬ b i 0 = 4 := fun q => hin ⟨idS_mem.mpr ⟨by omega, hbi⟩, q⟩
          rw [if_neg (fun q => hk4 (by rw [eq32, gt_sv_o (by decide), h5 _ _ (by decide), h.c0 hi, l32_4] at q; exact q))]
        · rw [if_neg hbi, if_pos rfl]
    · rintro s35 ⟨k1, k2, k3, k4⟩
      rw [gd_n (show i < 8 by omega) (by omega), k1]
      have hrow : ∀ k, k < i + 1 → gt s35 5 k = if k ∈ idS S then eO (bnd b (idS S) k) else -1 := fun k hk => by
        by_cases hki : k = i
        · subst hki; exact k1
        · rw [k2 k hki]; exact h3 k (by omega)
      refine ok_if (fun c1 => ?_) (fun c1 => ?_)
      · simp only [lt_]
        refine ok_some (Or.inl ⟨_, rfl, nI_p1 i, fun k => ?_, hrow, k3, k4⟩)
        have hand : z1 &&& (-1) = z1 := by
          apply b_ext; intro j hj; rw [b_and, b_m1 j hj, Bool.and_true]
        rw [hand, h2 k]
        by_cases hki : k = i
        · subst hki
          by_cases hin : k ∈ idS S
          · rw [if_pos hin, eO_none (hbn k)] at c1
            simp [c1]
          · simp [hin]
        · by_cases q : i ≤ k
          · have q2 : i + 1 ≤ k := by omega
            simp [q, q2]
          · have q2 : ¬ i + 1 ≤ k := by omega
            simp [q, q2]
      · simp only [lt_]
        refine ok_some (Or.inl ⟨_, rfl, nI_p1 i, fun k => ?_, hrow, k3, k4⟩)
        have hin : i ∈ idS S := by
          rcases Classical.em (i ∈ idS S) with q | q
          · exact q
          · rw [if_neg q] at c1; exact absurd rfl c1
        rw [if_pos hin, eO_none (hbn i)] at c1
        rcases Nat.lt_or_ge k 32 with q32 | q32
        · rw [b_and, bt_not q32, bt_shl (show i < 8 by omega), h2 k]
          by_cases hki : k = i
          · subst hki
            simp [c1, hin]
          · by_cases q : i ≤ k
            · have q2 : i + 1 ≤ k := by omega
              simp [q, q2, hki]
            · have q2 : ¬ i + 1 ≤ k := by omega
              simp [q, q2, hki]
        · rw [b_big q32]; rw [b_big (x := S) q32]; rfl
  · rintro ⟨z1, z2, s3⟩ ⟨h1, h2, h3, h4, h5⟩
    simp only at h1 h2 h3 h4 h5
    subst h1
    show ok (f_X8_layBound_L4 S z1 (nI n) s3) _
    unfold f_X8_layBound_L4
    have e5 : gt s3 0 5 = nI n := by rw [h5 _ _ (by decide)]; exact h.1
    rw [e5, if_pos (nI_le (Nat.le_refl _) (by omega))]
    refine ok_some ⟨_, rfl, ?_, fun i hi => by rw [h2 i, hs i hi]; rfl, h3, h4, h5⟩
    refine s_filter (fun k hk => ?_)
    rw [h2 k]
    cases hb : bt S k
    · rfl
    · have hin : k ∈ idS S := idS_mem.mpr ⟨hk, hb⟩
      have := hS k hin
      have q2 : ¬ n ≤ k := by omega
      simp [hin, q2]
