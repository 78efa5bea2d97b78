-- DRAWS
def sd (x : Int32) : Int32 := ((1103515245 * x) + 12345) &&& 2147483647
theorem sd_m (x : Int32) : Int64.toInt32 (((1103515245 * (Int32.toInt64 x)) + 12345) &&& 2147483647) = sd x := by
  rw [Int64.toInt32_and, Int64.toInt32_add, Int64.toInt32_mul, Int32.toInt32_toInt64]
  have e1 : (1103515245 : Int64).toInt32 = 1103515245 := by decide
  have e2 : (12345 : Int64).toInt32 = 12345 := by decide
  have e3 : (2147483647 : Int64).toInt32 = 2147483647 := by decide
  rw [e1, e2, e3]
  rfl
theorem sd_n (x : Int32) : ∃ j, j < 2147483648 ∧ sd x = nI j := pk_andE ((1103515245 * x) + 12345) (m := 2147483647) 31 (by decide)
def dq (x d : Int32) : Int32 := irem (sd x / 65536) d
theorem dq_n (x : Int32) {d : Nat} (h0 : 0 < d) (hd : d < 100) : ∃ l, l < d ∧ dq x (nI d) = nI l := by
  obtain ⟨j, hj, e⟩ := sd_n x
  have h1 : nI j / 65536 = nI (j / 65536) := pk_div (d := 65536) (by omega) (by omega) (by omega)
  refine ⟨j / 65536 % d, Nat.mod_lt _ h0, ?_⟩
  unfold dq
  rw [e, h1]
  exact pk_rem (by omega) h0 (by omega)
def sd4 (x : Int32) : Int32 := sd (sd (sd (sd x)))
def dV (x : Int32) : Nat → Int32 := v5 0 (dq x 8) (dq (sd x) 8) ((dq x 8 + 1) + dq (sd (sd x)) 3) ((dq (sd x) 8 + 1) + dq (sd (sd (sd x))) 3)
theorem dV_in (x : Int32) : (dV x 0).toInt = 0 ∧ (0 ≤ (dV x 1).toInt ∧ (dV x 1).toInt < (dV x 3).toInt ∧ (dV x 3).toInt ≤ 20) ∧ (0 ≤ (dV x 2).toInt ∧ (dV x 2).toInt < (dV x 4).toInt ∧ (dV x 4).toInt ≤ 20) := by
  obtain ⟨l, hl, e1⟩ := dq_n x (d := 8) (by omega) (by omega)
  obtain ⟨t, ht, e2⟩ := dq_n (sd x) (d := 8) (by omega) (by omega)
  obtain ⟨w, hw, e3⟩ := dq_n (sd (sd x)) (d := 3) (by omega) (by omega)
  obtain ⟨h, hh, e4⟩ := dq_n (sd (sd (sd x))) (d := 3) (by omega) (by omega)
  have f1 : dV x 1 = nI l := e1
  have f2 : dV x 2 = nI t := e2
  have f3 : dV x 3 = nI (l + 1 + w) := by
    show (dq x (nI 8) + 1) + dq (sd (sd x)) (nI 3) = _
    rw [e1, e3, nI_p1, nadd]
  have f4 : dV x 4 = nI (t + 1 + h) := by
    show (dq (sd x) (nI 8) + 1) + dq (sd (sd (sd x))) (nI 3) = _
    rw [e2, e4, nI_p1, nadd]
  rw [f1, f2, f3, f4, nI_T (by omega), nI_T (by omega), nI_T (by omega), nI_T (by omega)]
  refine ⟨l32_0, ?_, ?_⟩ <;> omega
/-- boxes drawn -/
def dB (x : Int32) : Nat → Bx × Int32
  | 0 => (fun _ _ => 0, x)
  | i + 1 => (bAdd (dB x i).1 i (dV (dB x i).2), sd4 (dB x i).2)
theorem dB_ok (x : Int32) : ∀ i, ∀ k, k < i → (0 ≤ (dB x i).1 k 0 ∧ (dB x i).1 k 0 ≤ 4) ∧ (-1 ≤ (dB x i).1 k 1 ∧ (dB x i).1 k 1 < (dB x i).1 k 3 ∧ (dB x i).1 k 3 ≤ 1000) ∧ (-1 ≤ (dB x i).1 k 2 ∧ (dB x i).1 k 2 < (dB x i).1 k 4 ∧ (dB x i).1 k 4 ≤ 1000) := by
  intro i
  induction i with
  | zero => intro k hk; omega
  | succ i ih =>
    intro k hk
    show (0 ≤ bAdd (dB x i).1 i (dV (dB x i).2) k 0 ∧ bAdd (dB x i).1 i (dV (dB x i).2) k 0 ≤ 4) ∧ (-1 ≤ bAdd (dB x i).1 i (dV (dB x i).2) k 1 ∧ bAdd (dB x i).1 i (dV (dB x i).2) k 1 < bAdd (dB x i).1 i (dV (dB x i).2) k 3 ∧ bAdd (dB x i).1 i (dV (dB x i).2) k 3 ≤ 1000) ∧ (-1 ≤ bAdd (dB x i).1 i (dV (dB x i).2) k 2 ∧ bAdd (dB x i).1 i (dV (dB x i).2) k 2 < bAdd (dB x i).1 i (dV (dB x i).2) k 4 ∧ bAdd (dB x i).1 i (dV (dB x i).2) k 4 ≤ 1000)
    unfold bAdd
    by_cases e : k = i
    · simp only [if_pos e]
      have := dV_in (dB x i).2
      omega
    · simp only [if_neg e]
      exact ih k (by omega)
theorem dB_okP (x : Int32) : okP 5 (dB x 5).1 [2, 3] := ⟨by omega, by decide, fun r hr => by
  rcases List.mem_cons.mp hr with rfl | hr
  · omega
  · rw [List.mem_singleton.mp hr]; omega, dB_ok x 5⟩
theorem x_draw8 (st : GS) : f_X1_ofEight st = some (dq (gt st 66 0) 8, sv st 66 0 (sd (gt st 66 0))) := by
  unfold f_X1_ofEight f_X1_step
  simp only [lt_, bI1_s, gt_sv_same]
  rfl
theorem x_draw3 (st : GS) : f_X1_ofThree st = some (dq (gt st 66 0) 3, sv st 66 0 (sd (gt st 66 0))) := by
  unfold f_X1_ofThree f_X1_step
  simp only [lt_, bI1_s, gt_sv_same]
  rfl
theorem x_drawTo {st : GS} {x : Int32} (hx : gt st 66 0 = x) : ok (f_X1_drawTo 42 st) (fun st' => shIs st' 42 5 (dB x 5).1 [2, 3] ∧ gt st' 66 0 = (dB x 5).2 ∧ ∀ c j, c < 42 → gt st' c j = gt st c j) := by
  unfold f_X1_drawTo f_X5_clear
  simp only [lt_, bI1_s]
  generalize h0 : sv (sv st 42 5 0) 42 7 0 = s0
  have z5 : gt s0 42 5 = 0 := by rw [← h0, gt_sv_j (by decide), gt_sv_same]
  have z7 : gt s0 42 7 = 0 := by rw [← h0, gt_sv_same]
  have zk : ∀ c j, c ≠ 42 → gt s0 c j = gt st c j := fun c j hc => by rw [← h0, gt_sv_o hc, gt_sv_o hc]
  clear h0
  refine ok_bI1 (P := fun s => shIs s 42 5 (dB x 5).1 [] ∧ gt s 66 0 = (dB x 5).2 ∧ ∀ c j, c < 42 → gt s c j = gt st c j) ?_ ?_
  · refine ok_for 5 (fun i z => z.1 = nI i ∧ shIs z.2 42 i (dB x i).1 [] ∧ gt z.2 66 0 = (dB x i).2 ∧ ∀ c j, c < 42 → gt z.2 c j = gt st c j) _ ?_ ?_ 0 _ (Nat.zero_le _) ⟨rfl, ⟨z5, z7, fun k hk => absurd hk (Nat.not_lt_zero _), fun i hi => absurd hi (Nat.not_lt_zero _)⟩, by show gt s0 66 0 = x; rw [zk _ _ (by decide)]; exact hx, fun c j hc => zk c j (by omega)⟩
    · rintro i ⟨z, s⟩ hi ⟨h1, h2, h3, h4⟩
      simp only at h1 h2 h3 h4
      subst h1
      show ok (f_X1_drawTo_L6 42 (nI i) s) _
      unfold f_X1_drawTo_L6
      rw [if_neg (show ¬ (5 : Int32) ≤ nI i from nI_ge (b := 5) hi (by omega)), x_draw8, bI2_s, x_draw8, bI2_s, x_draw3, bI2_s]
      refine ok_lt ?_
      rw [x_draw3, bI2_s]
      refine ok_lt ?_
      simp only [gt_sv_same, h3]
      generalize hs : sv (sv (sv (sv s 66 0 (sd (dB x i).2)) 66 0 (sd (sd (dB x i).2))) 66 0 (sd (sd (sd (dB x i).2)))) 66 0 (sd (sd (sd (sd (dB x i).2)))) = s4
      have k66 : gt s4 66 0 = sd4 (dB x i).2 := by rw [← hs, gt_sv_same]; rfl
      have kk : ∀ c j, c ≠ 66 → gt s4 c j = gt s c j := fun c j hc => by rw [← hs, gt_sv_o hc, gt_sv_o hc, gt_sv_o hc, gt_sv_o hc]
      clear hs
      refine ok_bI1 (x_add (shIs_keep h2 (fun c j q1 q2 => kk _ _ (by omega))) (show i < 8 by omega) _ _ _ _ _) ?_
      rintro s5 ⟨a1, a2, a3, a4⟩
      refine ok_lt (ok_some (Or.inl ⟨_, rfl, nI_p1 i, a1, ?_, fun c j hc => ?_⟩))
      · show gt s5 66 0 = _
        rw [a4 _ _ (by omega), k66]; rfl
      · show gt s5 c j = _
        rw [a4 _ _ (by omega), kk _ _ (by omega)]; exact h4 c j hc
    · rintro ⟨z, s⟩ ⟨h1, h2, h3, h4⟩
      simp only at h1 h2 h3 h4
      subst h1
      show ok (f_X1_drawTo_L6 42 (nI 5) s) _
      unfold f_X1_drawTo_L6
      rw [if_pos (by decide)]
      exact ok_some ⟨_, rfl, h2, h3, h4⟩
  · rintro s ⟨h2, h3, h4⟩
    refine ok_bI1 (x_addRule h2 (by decide) 2) ?_
    rintro s2 ⟨a1, a2⟩
    refine ok_bI1 (x_addRule a1 (by decide) 3) ?_
    rintro s3 ⟨b1, b2⟩
    have l2 : (2 : Int32).toInt = 2 := l32_2
    have l3 : (3 : Int32).toInt = 3 := l32_3
    rw [l2, l3] at b1
    exact ok_some ⟨b1, by rw [b2 _ _ (by omega), a2 _ _ (by omega)]; exact h3, fun c j hc => by rw [b2 _ _ (by omega), a2 _ _ (by omega)]; exact h4 c j hc⟩
theorem x_byNum {st : GS} {o n : Nat} {A : List Nat} (hA : orS st o A) (lA : A.length = n) (h8 : n ≤ 8) (kA : ∀ k ∈ A, k < 8) : f_X3_isByNumber o st = some (if A = List.range n then 1 else 0) := by
  unfold f_X3_isByNumber
  apply ok_is
  have gr : ∀ i, i < n → (List.range n).getD i 0 = i := fun i hi => by
    rw [List.getD_eq_getElem?_getD, List.getElem?_range hi]; rfl
  refine ok_for n (fun i z => z = nI i ∧ ∀ j, j < i → A.getD j 0 = j) _ ?_ ?_ 0 _ (Nat.zero_le _) ⟨rfl, fun j hj => absurd hj (Nat.not_lt_zero _)⟩
  · rintro i z hi ⟨rfl, h2⟩
    show ok (f_X3_isByNumber_L2 o st (nI i)) _
    unfold f_X3_isByNumber_L2
    have e1 := hA.2.1 i (by omega)
    rw [Nat.zero_add] at e1
    rw [hA.1, lA, if_neg (nI_ge hi (by omega)), gd_n (show i < 8 by omega) (by omega), nI_clamp (show i < 2 ^ 31 by omega), e1]
    have q1 := kA _ (getD_mem (show i < A.length by omega))
    refine ok_if (fun c => ?_) (fun c => ?_)
    · have c' := nI_inj (by omega) (by omega) c
      refine ok_lt (ok_some (Or.inl ⟨_, rfl, nI_p1 i, fun j hj => ?_⟩))
      by_cases e : j = i
      · rw [e]; exact c'
      · exact h2 j (by omega)
    · refine ok_some (Or.inr ⟨_, rfl, ?_⟩)
      rw [if_neg (fun q => c (by rw [q, gr i hi]))]
  · rintro z ⟨rfl, h2⟩
    show ok (f_X3_isByNumber_L2 o st (nI n)) _
    unfold f_X3_isByNumber_L2
    rw [hA.1, lA, if_pos (nI_le (Nat.le_refl _) (by omega))]
    exact ok_some ⟨_, rfl, by rw [if_pos (list_eq (by rw [lA, List.length_range]) (fun i hi => by rw [h2 i (by omega), gr i (by omega)]))]⟩
theorem m_byNum {st : GS} {A : List Nat} (hA : sg st 6 0 A) (lA : A.length = 5) (kA : ∀ k ∈ A, k < 8) : lpx (uc2 (f_X8_drawn_L160 st)) (1, 0) = some (if A = List.range 5 then 1 else 0) := by
  apply ok_is
  have gr : ∀ i, i < 5 → (List.range 5).getD i 0 = i := fun i hi => by
    rw [List.getD_eq_getElem?_getD, List.getElem?_range hi]; rfl
  refine ok_for 5 (fun i z => z.2 = nI i ∧ ((z.1 = 1 ∧ ∀ j, j < i → A.getD j 0 = j) ∨ (z.1 = 0 ∧ ¬ A = List.range 5))) _ ?_ ?_ 0 _ (Nat.zero_le _) ⟨rfl, Or.inl ⟨rfl, fun j hj => absurd hj (Nat.not_lt_zero _)⟩⟩
  · rintro i ⟨z1, z2⟩ hi ⟨h1, h2⟩
    simp only at h1 h2
    subst h1
    show ok (f_X8_drawn_L160 st z1 (nI i)) _
    unfold f_X8_drawn_L160
    have e1 := hA i (by omega)
    rw [Nat.zero_add] at e1
    rw [if_neg (show ¬ (5 : Int32) ≤ nI i from nI_ge (b := 5) hi (by omega)), gd_n (show i < 8 by omega) (by omega), nI_clamp (show i < 2 ^ 31 by omega), e1]
    have q1 := kA _ (getD_mem (show i < A.length by omega))
    rcases h2 with ⟨rfl, h2⟩ | ⟨rfl, h2⟩
    · rw [if_neg i10]
      refine ok_if (fun c => ?_) (fun c => ?_)
      · have c' := nI_inj (by omega) (by omega) c
        refine ok_lt (ok_some (Or.inl ⟨_, rfl, nI_p1 i, Or.inl ⟨rfl, fun j hj => ?_⟩⟩))
        by_cases e : j = i
        · rw [e]; exact c'
        · exact h2 j (by omega)
      · refine ok_lt (ok_some (Or.inl ⟨_, rfl, nI_p1 i, Or.inr ⟨rfl, fun q => c (by rw [q, gr i hi])⟩⟩))
    · rw [if_pos rfl]
      exact ok_lt (ok_some (Or.inl ⟨_, rfl, nI_p1 i, Or.inr ⟨rfl, h2⟩⟩))
  · rintro ⟨z1, z2⟩ ⟨h1, h2⟩
    simp only at h1 h2
    subst h1
    show ok (f_X8_drawn_L160 st z1 (nI 5)) _
    unfold f_X8_drawn_L160
    rw [if_pos (by decide)]
    refine ok_some ⟨_, rfl, ?_⟩
    rcases h2 with ⟨rfl, h2⟩ | ⟨rfl, h2⟩
    · rw [if_pos (list_eq (by rw [lA, List.length_range]) (fun i hi => by rw [h2 i (by omega), gr i (by omega)]))]
    · rw [if_neg h2]
theorem m_draw (st : GS) {d : Int32} (hd : ¬ d = 0) : f_X8_draw d st = some (dq (gt st 0 28) d, sv st 0 28 (sd (gt st 0 28))) := by
  unfold f_X8_draw gq
  simp only [lt_]
  rw [if_pos hd, sd_m, gt_sv_same]
  rfl
theorem m_drawBox {st : GS} {k : Nat} {x : Int32} (hk : k < 8) (hx : gt st 0 28 = x) : ok (f_X8_drawBox (nI k) st) (fun s => gt s 0 28 = sd4 x ∧ (∀ j, gt s 2 j = if j = k then dV x 0 else gt st 2 j) ∧ (∀ c, c < 4 → gt s 3 (4 * k + c) = dV x (1 + c)) ∧ (∀ j, (j < 4 * k ∨ 4 * k + 3 < j) → gt s 3 j = gt st 3 j) ∧ gl s = gl st ∧ ∀ c j, c ≠ 2 → c ≠ 3 → (c ≠ 0 ∨ j ≠ 28) → gt s c j = gt st c j) := by
  unfold f_X8_drawBox
  have d8 : ¬ (8 : Int32) = 0 := by decide
  have d3 : ¬ (3 : Int32) = 0 := by decide
  have g8 : ∀ {β : Type} (z : Option β), gd (nI k) 8 z = z := fun z => gd_n hk (by omega)
  have g0 : ∀ {β : Type} (z : Option β), gd (nI (4 * k)) 32 z = z := fun z => gd_n (by omega) (by omega)
  have g1 : ∀ {β : Type} (z : Option β), gd (nI (4 * k + 1)) 32 z = z := fun z => gd_n (by omega) (by omega)
  have g2 : ∀ {β : Type} (z : Option β), gd (nI (4 * k + 2)) 32 z = z := fun z => gd_n (by omega) (by omega)
  have g3 : ∀ {β : Type} (z : Option β), gd (nI (4 * k + 3)) 32 z = z := fun z => gd_n (by omega) (by omega)
  have ck : (nI k).toNatClampNeg = k := nI_clamp (by omega)
  have c0 : (nI (4 * k)).toNatClampNeg = 4 * k := nI_clamp (by omega)
  have c1 : (nI (4 * k + 1)).toNatClampNeg = 4 * k + 1 := nI_clamp (by omega)
  have c2 : (nI (4 * k + 2)).toNatClampNeg = 4 * k + 2 := nI_clamp (by omega)
  have c3 : (nI (4 * k + 3)).toNatClampNeg = 4 * k + 3 := nI_clamp (by omega)
  have a1 : nI (4 * k) + 1 = nI (4 * k + 1) := nI_add _ 1
  have a2 : nI (4 * k) + 2 = nI (4 * k + 2) := nI_add _ 2
  have a3 : nI (4 * k) + 3 = nI (4 * k + 3) := nI_add _ 3
  have u2 : ∀ (y : GS) j v, gt (sv y 2 j v) 0 28 = gt y 0 28 := fun y j v => gt_sv_o (by decide)
  have u3 : ∀ (y : GS) j v, gt (sv y 3 j v) 0 28 = gt y 0 28 := fun y j v => gt_sv_o (by decide)
  have u28 : ∀ (y : GS) v j, gt (sv y 0 28 v) 3 j = gt y 3 j := fun y v j => gt_sv_o (by decide)
  have p0 : ∀ (y : GS) v, gt (sv y 3 (4 * k + 1) v) 3 (4 * k) = gt y 3 (4 * k) := fun y v => gt_sv_j (by omega)
  have p1 : ∀ (y : GS) v, gt (sv y 3 (4 * k + 2) v) 3 (4 * k + 1) = gt y 3 (4 * k + 1) := fun y v => gt_sv_j (by omega)
  have f0 : dV x 0 = 0 := rfl
  have f1 : dV x 1 = dq x 8 := rfl
  have f2 : dV x 2 = dq (sd x) 8 := rfl
  have f3 : dV x 3 = (dq x 8 + 1) + dq (sd (sd x)) 3 := rfl
  have f4 : dV x 4 = (dq (sd x) 8 + 1) + dq (sd (sd (sd x))) 3 := rfl
  simp only [lt_, n4, a1, a2, a3, g8, g0, g1, g2, g3, ck, c0, c1, c2, c3, m_draw _ d8, m_draw _ d3, bI2_s, u2, u3, u28, p0, p1, gt_sv_same, hx]
  refine ok_some ⟨?_, fun j => ?_, fun c hc => ?_, fun j hj => ?_, rfl, fun c j q1 q2 q3 => ?_⟩
  · rw [u3, gt_sv_same]; rfl
  · rw [gt_sv_o (by decide), gt_sv_o (by decide), gt_sv_o (by decide), gt_sv_o (by decide), gt_sv_o (by decide), gt_sv_o (by decide), gt_sv_o (by decide), gt_sv_o (by decide)]
    by_cases e : j = k
    · subst e; rw [gt_sv_same, if_pos rfl]; exact f0.symm
    · rw [gt_sv_j e, if_neg e]
  · match c, hc with
    | 0, _ =>
      show gt _ 3 (4 * k) = dV x 1
      rw [gt_sv_j (by omega), gt_sv_o (by decide), gt_sv_j (by omega), gt_sv_o (by decide), gt_sv_j (by omega), gt_sv_o (by decide), gt_sv_same]
      exact f1.symm
    | 1, _ =>
      rw [gt_sv_j (by omega), gt_sv_o (by decide), gt_sv_j (by omega), gt_sv_o (by decide), gt_sv_same]
      exact f2.symm
    | 2, _ =>
      rw [gt_sv_j (by omega), gt_sv_o (by decide), gt_sv_same]
      exact f3.symm
    | 3, _ =>
      rw [gt_sv_same]
      exact f4.symm
  · rw [gt_sv_j (by omega), gt_sv_o (by decide), gt_sv_j (by omega), gt_sv_o (by decide), gt_sv_j (by omega), gt_sv_o (by decide), gt_sv_j (by omega), gt_sv_o (by decide), gt_sv_o (by decide)]
  · have z : ∀ (y : GS) v, gt (sv y 0 28 v) c j = gt y c j := fun y v => by
      rcases q3 with r | r
      · exact gt_sv_o r
      · exact gt_sv_j r
    rw [gt_sv_o q2, z, gt_sv_o q2, z, gt_sv_o q2, z, gt_sv_o q2, z, gt_sv_o q1]
