theorem ssd_minus {b : Bx} {l : Ln} {S r : Int32} (hs : sml S) (hr : idS r = fsd b l (idS S)) : idS (S &&& (r ^^^ (-1))) = ssd b l (idS S) ∧ sml (S &&& (r ^^^ (-1))) := by
  refine ⟨?_, (s_minus hs).2⟩
  rw [(s_minus hs).1]
  unfold ssd
  apply List.filter_congr
  intro k hk
  have h8 := (idS_mem.mp hk).1
  have e : k ∈ idS r ↔ k ∈ fsd b l (idS S) := by rw [hr]
  rw [idS_mem, show (k ∈ fsd b l (idS S) ↔ k ∈ idS S ∧ decide (en b l.1 k ≤ l.2.1) = true) from List.mem_filter] at e
  congr 1
  cases hb : bt r k
  · cases hd : decide (en b l.1 k ≤ l.2.1)
    · rfl
    · exact absurd (e.mpr ⟨hk, hd⟩).2 (by rw [hb]; decide)
  · exact ((e.mp ⟨h8, hb⟩).2).symm
noncomputable def m_cutF (x24 x26 x22 r : Int32) (st27 : GS) : Option ((Int32 × GS) ⊕ GS) := gd (5 * (gt st27 0 18)) 40 (lt_ (sv st27 7 ((5 * (gt st27 0 18)).toNatClampNeg) (gt st27 0 12)) (fun st31 => 
gd ((5 * (gt st31 0 18)) + 1) 40 (lt_ (sv st31 7 (((5 * (gt st31 0 18)) + 1).toNatClampNeg) (gt st31 0 13)) (fun st33 => 
gd ((5 * (gt st33 0 18)) + 2) 40 (lt_ (sv st33 7 (((5 * (gt st33 0 18)) + 2).toNatClampNeg) (gt st33 0 14)) (fun st35 => 
bI1 (f_X8_ones r) (fun r36 => 
gd ((5 * (gt st35 0 18)) + 3) 40 (lt_ (sv st35 7 (((5 * (gt st35 0 18)) + 3).toNatClampNeg) r36) (fun st38 => 
bI1 (f_X8_ones (x24 &&& (r ^^^ (-1)))) (fun r39 => 
gd ((5 * (gt st38 0 18)) + 4) 40 (lt_ (sv st38 7 (((5 * (gt st38 0 18)) + 4).toNatClampNeg) r39) (fun st41 => 
lt_ (sv st41 0 18 ((gt st41 0 18) + 1)) (fun st42 => 
gd (x22) 16 (lt_ (sv st42 10 ((x22).toNatClampNeg) (x24 &&& (r ^^^ (-1)))) (fun st44 => 
gd (x22) 16 (lt_ (sv st44 11 ((x22).toNatClampNeg) (x26 + 1)) (fun st46 => 
gd (x22 + 1) 16 (lt_ (sv st46 10 ((x22 + 1).toNatClampNeg) r) (fun st48 => 
gd (x22 + 1) 16 (lt_ (sv st48 11 ((x22 + 1).toNatClampNeg) (x26 + 1)) (fun st50 => 
lt_ (x22 + 2) (fun x51 => some (.inl (x51, st50))))))))))))))))))))))))
theorem ord_cut {n : Nat} {b : Bx} {rs : List Int} {S : Int32} {s0 s s2 : GS} {p : Int32 × Nat} {T : List (Int32 × Nat)} {C : List Ct} {Lv : List (List Nat × Nat)} {l : Ln} (hm : mIs s0 n b rs) (hp : okP n b rs) (hS : ∀ k ∈ idS S, k < n)
    (h2 : stk s (p :: T)) (h3 : ∀ q ∈ p :: T, sml q.1 ∧ idS q.1 ≠ [] ∧ ∀ k ∈ idS q.1, k < n) (h4 : ctM s C) (h5 : lvM s Lv) (h6 : orM s ((Lv.flatMap (fun p => p.1)).flatMap (fun x => x :: caps b (idS S) x))) (h7 : C ++ (p :: T).flatMap (fun p => (rdf b rs (idS p.1) p.2).1) = cts b rs (idS S)) (h8 : Lv ++ (p :: T).flatMap (fun p => (rdf b rs (idS p.1) p.2).2) = lvs b rs (idS S)) (h10 : ∀ k, gt s 5 k = gt s0 5 k) (h11 : oK s0 s)
    (hbest : best b (idS p.1) = some l) (hk : lnK s s2) (hln : lnMd s2 (some l)) (hc7 : (cts b rs (idS S)).length ≤ 7) (hl8 : (lvs b rs (idS S)).length ≤ 8) {r : Int32} (hr1 : idS r = fsd b l (idS p.1)) (hr2 : sml r) :
    ∃ s3, m_cutF p.1 (nI p.2) (nI T.length) r s2 = some (.inl (nI (T.length + 2), s3)) ∧ ∃ m', m' < ((p :: T).flatMap (fun p => (rdf b rs (idS p.1) p.2).1)).length + ((p :: T).flatMap (fun p => (rdf b rs (idS p.1) p.2).2)).length ∧ ordI n b rs (idS S) s0 m' (nI (T.length + 2), s3) := by
  have hn := hp.1
  obtain ⟨q1, q2, q3⟩ := h3 p List.mem_cons_self
  have hokp := okB_of hp q3
  obtain ⟨u1, u2⟩ := ssd_minus (b := b) (l := l) q1 hr1
  have hrd := rdf_some (rs := rs) (d := p.2) hokp hbest
  have hln1 := (best_spec hbest).1
  have f1 := fsd_pos hln1
  have f2 := ssd_pos hokp hln1
  rw [List.flatMap_cons, hrd] at h7 h8
  generalize hS2 : p.1 &&& (r ^^^ (-1)) = S2 at u1 u2
  rw [← hr1, ← u1] at h7 h8 hrd
  rw [← hr1] at f1
  rw [← u1] at f2
  have hTT : ∀ q ∈ ((r, p.2 + 1) :: (S2, p.2 + 1) :: T : List (Int32 × Nat)), sml q.1 ∧ idS q.1 ≠ [] ∧ ∀ k ∈ idS q.1, k < n := fun q hq => by
    rcases List.mem_cons.mp hq with rfl | hq
    · exact ⟨hr2, List.length_pos_iff.mp f1, fun k hk => q3 k (by rw [hr1] at hk; exact fsd_sub k hk)⟩
    · rcases List.mem_cons.mp hq with rfl | hq
      · exact ⟨u2, List.length_pos_iff.mp f2, fun k hk => q3 k (by rw [u1] at hk; exact ssd_sub k hk)⟩
      · exact h3 q (List.mem_cons_of_mem _ hq)
  have hTl := stk_len (b := b) (rs := rs) ((r, p.2 + 1) :: (S2, p.2 + 1) :: T) (fun q hq => ⟨(hTT q hq).2.1, okB_of hp (hTT q hq).2.2⟩)
  have e8 : Lv ++ ((r, p.2 + 1) :: (S2, p.2 + 1) :: T : List (Int32 × Nat)).flatMap (fun p => (rdf b rs (idS p.1) p.2).2) = lvs b rs (idS S) := by
    rw [← h8]; simp [List.flatMap_cons]
  have e7 : (C ++ [(l, (idS r).length, (idS S2).length)]) ++ ((r, p.2 + 1) :: (S2, p.2 + 1) :: T : List (Int32 × Nat)).flatMap (fun p => (rdf b rs (idS p.1) p.2).1) = cts b rs (idS S) := by
    rw [← h7]; simp [List.flatMap_cons]
  have hT8 : T.length + 2 ≤ 8 := by
    rw [← e8, List.length_append] at hl8
    rw [List.length_cons, List.length_cons] at hTl
    omega
  have hC7 : C.length + 1 ≤ 7 := by
    rw [← e7, List.length_append, List.length_append] at hc7
    have : ([(l, (idS r).length, (idS S2).length)] : List Ct).length = 1 := rfl
    omega
  have h18 : gt s2 0 18 = nI C.length := by rw [hk.2 _ _ (Or.inr (by decide))]; exact h4.1
  obtain ⟨w1, w2, w3⟩ := hln
  have k1 : ∀ (x : GS) j v i, gt (sv x 7 j v) 0 i = gt x 0 i := fun x j v i => gt_sv_o (by decide)
  have gg : ∀ {β : Type} (i : Nat) (k : Option β), i < 40 → gd (nI i) 40 k = k := fun i k hi => gd_n hi (by omega)
  have g0 : ∀ {β : Type} (k : Option β), gd (nI (5 * C.length)) 40 k = k := fun k => gg _ k (by omega)
  have g1 : ∀ {β : Type} (k : Option β), gd (nI (5 * C.length + 1)) 40 k = k := fun k => gg _ k (by omega)
  have g2 : ∀ {β : Type} (k : Option β), gd (nI (5 * C.length + 2)) 40 k = k := fun k => gg _ k (by omega)
  have g3 : ∀ {β : Type} (k : Option β), gd (nI (5 * C.length + 3)) 40 k = k := fun k => gg _ k (by omega)
  have g4 : ∀ {β : Type} (k : Option β), gd (nI (5 * C.length + 4)) 40 k = k := fun k => gg _ k (by omega)
  have t0 : ∀ {β : Type} (k : Option β), gd (nI T.length) 16 k = k := fun k => gd_n (by omega) (by omega)
  have t1 : ∀ {β : Type} (k : Option β), gd (nI (T.length + 1)) 16 k = k := fun k => gd_n (by omega) (by omega)
  have a1 : nI (5 * C.length) + 1 = nI (5 * C.length + 1) := nI_add _ 1
  have a2 : nI (5 * C.length) + 2 = nI (5 * C.length + 2) := nI_add _ 2
  have a3 : nI (5 * C.length) + 3 = nI (5 * C.length + 3) := nI_add _ 3
  have a4 : nI (5 * C.length) + 4 = nI (5 * C.length + 4) := nI_add _ 4
  have at2 : nI T.length + 2 = nI (T.length + 2) := nI_add _ 2
  have c0 : (nI (5 * C.length)).toNatClampNeg = 5 * C.length := nI_clamp (by omega)
  have c1 : (nI (5 * C.length + 1)).toNatClampNeg = 5 * C.length + 1 := nI_clamp (by omega)
  have c2 : (nI (5 * C.length + 2)).toNatClampNeg = 5 * C.length + 2 := nI_clamp (by omega)
  have c3 : (nI (5 * C.length + 3)).toNatClampNeg = 5 * C.length + 3 := nI_clamp (by omega)
  have c4 : (nI (5 * C.length + 4)).toNatClampNeg = 5 * C.length + 4 := nI_clamp (by omega)
  have d0 : (nI T.length).toNatClampNeg = T.length := nI_clamp (by omega)
  have d1 : (nI (T.length + 1)).toNatClampNeg = T.length + 1 := nI_clamp (by omega)
  refine ⟨sv (sv (sv (sv (sv (sv (sv (sv (sv (sv s2 7 (5 * C.length) (gt s2 0 12)) 7 (5 * C.length + 1) (gt s2 0 13)) 7 (5 * C.length + 2) (gt s2 0 14)) 7 (5 * C.length + 3) (nI (idS r).length)) 7 (5 * C.length + 4) (nI (idS S2).length)) 0 18 (nI (C.length + 1))) 10 T.length S2) 11 T.length (nI (p.2 + 1))) 10 (T.length + 1) r) 11 (T.length + 1) (nI (p.2 + 1)), ?_, ?_⟩
  · unfold m_cutF
    rw [hS2]
    simp only [lt_, k1, h18, n5, a1, a2, a3, a4, g0, g1, g2, g3, g4, c0, c1, c2, c3, c4, m_ones, bI1_s, t0, t1, nI_p1, d0, d1, at2]
  generalize hX : sv (sv (sv (sv (sv (sv (sv (sv (sv (sv s2 7 (5 * C.length) (gt s2 0 12)) 7 (5 * C.length + 1) (gt s2 0 13)) 7 (5 * C.length + 2) (gt s2 0 14)) 7 (5 * C.length + 3) (nI (idS r).length)) 7 (5 * C.length + 4) (nI (idS S2).length)) 0 18 (nI (C.length + 1))) 10 T.length S2) 11 T.length (nI (p.2 + 1))) 10 (T.length + 1) r) 11 (T.length + 1) (nI (p.2 + 1)) = X
  have P1 : ∀ c j, c ≠ 7 → c ≠ 10 → c ≠ 11 → (c ≠ 0 ∨ j ≠ 18) → gt X c j = gt s2 c j := fun c j x1 x2 x3 x4 => by
    rw [← hX, gt_sv_o x3, gt_sv_o x2, gt_sv_o x3, gt_sv_o x2]
    have : ∀ (y : GS) v, gt (sv y 0 18 v) c j = gt y c j := fun y v => by
      rcases x4 with q | q
      · exact gt_sv_o q
      · exact gt_sv_j q
    rw [this, gt_sv_o x1, gt_sv_o x1, gt_sv_o x1, gt_sv_o x1, gt_sv_o x1]
  have P2 : gt X 0 18 = nI (C.length + 1) := by
    rw [← hX, gt_sv_o (by decide), gt_sv_o (by decide), gt_sv_o (by decide), gt_sv_o (by decide), gt_sv_same]
  have P3 : ∀ j, gt X 7 j = gt (sv (sv (sv (sv (sv s2 7 (5 * C.length) (gt s2 0 12)) 7 (5 * C.length + 1) (gt s2 0 13)) 7 (5 * C.length + 2) (gt s2 0 14)) 7 (5 * C.length + 3) (nI (idS r).length)) 7 (5 * C.length + 4) (nI (idS S2).length)) 7 j := fun j => by
    rw [← hX, gt_sv_o (by decide), gt_sv_o (by decide), gt_sv_o (by decide), gt_sv_o (by decide), gt_sv_o (by decide)]
  have P10 : gt X 10 T.length = S2 ∧ gt X 11 T.length = nI (p.2 + 1) ∧ gt X 10 (T.length + 1) = r ∧ gt X 11 (T.length + 1) = nI (p.2 + 1) := by
    rw [← hX]
    refine ⟨?_, ?_, ?_, gt_sv_same _ _ _ _⟩
    · rw [gt_sv_o (by decide), gt_sv_j (by omega), gt_sv_o (by decide), gt_sv_same]
    · rw [gt_sv_j (by omega), gt_sv_o (by decide), gt_sv_same]
    · rw [gt_sv_o (by decide), gt_sv_same]
  have P11 : ∀ j, j < T.length → gt X 10 j = gt s 10 j ∧ gt X 11 j = gt s 11 j := fun j hj => by
    rw [← hX]
    refine ⟨?_, ?_⟩
    · rw [gt_sv_o (by decide), gt_sv_j (by omega), gt_sv_o (by decide), gt_sv_j (by omega), gt_sv_o (by decide), gt_sv_o (by decide), gt_sv_o (by decide), gt_sv_o (by decide), gt_sv_o (by decide), gt_sv_o (by decide)]
      exact hk.2 _ _ (Or.inl (by decide))
    · rw [gt_sv_j (by omega), gt_sv_o (by decide), gt_sv_j (by omega), gt_sv_o (by decide), gt_sv_o (by decide), gt_sv_o (by decide), gt_sv_o (by decide), gt_sv_o (by decide), gt_sv_o (by decide), gt_sv_o (by decide)]
      exact hk.2 _ _ (Or.inl (by decide))
  have Pg : gl X = gl s2 := by rw [← hX]; rfl
  clear hX
  have Ps : ∀ c j, c ≠ 7 → c ≠ 10 → c ≠ 11 → (c ≠ 0 ∨ (j ≠ 18 ∧ j ≠ 12 ∧ j ≠ 13 ∧ j ≠ 14)) → gt X c j = gt s c j := fun c j x1 x2 x3 x4 => (P1 c j x1 x2 x3 (by omega)).trans (hk.2 c j (by omega))
  refine ⟨_, ?_, ((r, p.2 + 1) :: (S2, p.2 + 1) :: T), C ++ [(l, (idS r).length, (idS S2).length)], Lv, rfl, ⟨P10.2.2.1, P10.2.2.2, P10.1, P10.2.1, stk_keep T h2.2.2 P11⟩, hTT, ⟨by rw [List.length_append]; exact P2, fun i c hi => ?_⟩, ⟨?_, fun i q hi k hk1 => ?_, fun k hk8 hno => ?_⟩, ⟨?_, sg_same h6.2 (fun j _ _ => Ps _ _ (by decide) (by decide) (by decide) (Or.inl (by decide)))⟩, e7, e8, rfl, fun k => ?_, ⟨?_, fun c j y1 y2 y3 y4 y5 y6 y7 y8 => ?_⟩⟩
  · simp only [List.flatMap_cons, List.length_append, hrd, List.length_cons]; omega
  · show gt X 7 _ = _ ∧ (gt X 7 _).toInt = _ ∧ (gt X 7 _).toInt = _ ∧ gt X 7 _ = _ ∧ gt X 7 _ = _
    rw [P3, P3, P3, P3, P3]
    rcases get_app1 hi with ⟨hlt, e⟩ | ⟨rfl, rfl⟩
    · have old : ∀ j, j < 5 * C.length → gt (sv (sv (sv (sv (sv s2 7 (5 * C.length) (gt s2 0 12)) 7 (5 * C.length + 1) (gt s2 0 13)) 7 (5 * C.length + 2) (gt s2 0 14)) 7 (5 * C.length + 3) (nI (idS r).length)) 7 (5 * C.length + 4) (nI (idS S2).length)) 7 j = gt s 7 j := fun j hj => by
        rw [gt_sv_j (by omega), gt_sv_j (by omega), gt_sv_j (by omega), gt_sv_j (by omega), gt_sv_j (by omega)]
        exact hk.2 _ _ (Or.inl (by decide))
      rw [old _ (by omega), old _ (by omega), old _ (by omega), old _ (by omega), old _ (by omega)]
      exact h4.2 i c e
    · refine ⟨?_, ?_, ?_, ?_, ?_⟩
      · rw [gt_sv_j (by omega), gt_sv_j (by omega), gt_sv_j (by omega), gt_sv_j (by omega), gt_sv_same]; exact w1
      · rw [gt_sv_j (by omega), gt_sv_j (by omega), gt_sv_j (by omega), gt_sv_same]; exact w2
      · rw [gt_sv_j (by omega), gt_sv_j (by omega), gt_sv_same]; exact w3
      · rw [gt_sv_j (by omega), gt_sv_same]
      · rw [gt_sv_same]
  · show gt X 0 19 = _
    rw [Ps _ _ (by decide) (by decide) (by decide) (Or.inr (by decide))]; exact h5.1
  · show gt X 8 k = _ ∧ gt X 9 k = _
    rw [Ps _ _ (by decide) (by decide) (by decide) (Or.inl (by decide)), Ps _ _ (by decide) (by decide) (by decide) (Or.inl (by decide))]
    exact h5.2.1 i q hi k hk1
  · show gt X 8 k = _ ∧ gt X 9 k = _
    rw [Ps _ _ (by decide) (by decide) (by decide) (Or.inl (by decide)), Ps _ _ (by decide) (by decide) (by decide) (Or.inl (by decide))]
    exact h5.2.2 k hk8 hno
  · show gt X 0 16 = _
    rw [Ps _ _ (by decide) (by decide) (by decide) (Or.inr (by decide))]; exact h6.1
  · show gt X 5 k = _
    rw [Ps _ _ (by decide) (by decide) (by decide) (Or.inl (by decide))]; exact h10 k
  · show gl X = _
    rw [Pg, hk.1, h11.1]
  · show gt X c j = _
    rw [Ps c j y3 y6 y7 (by omega)]
    exact h11.2 c j y1 y2 y3 y4 y5 y6 y7 y8
