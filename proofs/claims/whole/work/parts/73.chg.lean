-- CHANGES of a sheet, of a page of the model
def bAdd (b : Bx) (n : Nat) (v : Nat → Int32) : Bx := fun k c => if k = n then (v c).toInt else b k c
def v5 (v0 v1 v2 v3 v4 : Int32) (c : Nat) : Int32 := ([v0, v1, v2, v3, v4] : List Int32).getD c 0
theorem x_add {st : GS} {o n : Nat} {b : Bx} {rs : List Int} (h : shIs st o n b rs) (hn : n < 8) (v0 v1 v2 v3 v4 : Int32) : ok (f_X5_add o v0 v1 v2 v3 v4 st) (fun st' => shIs st' o (n + 1) (bAdd b n (v5 v0 v1 v2 v3 v4)) rs ∧ (∀ j, j ≠ 5 → gt st' o j = gt st o j) ∧ (∀ j, gt st' (o + 6) j = gt st (o + 6) j) ∧ ∀ c j, (c < o ∨ o + 6 < c) → gt st' c j = gt st c j) := by
  obtain ⟨h1, h2, h3, h4⟩ := h
  unfold f_X5_add
  have u1 : ∀ (x : GS) j v i, gt (sv x (o + 1) j v) o i = gt x o i := fun x j v i => gt_sv_o (by omega)
  have u2 : ∀ (x : GS) j v i, gt (sv x (o + 2) j v) o i = gt x o i := fun x j v i => gt_sv_o (by omega)
  have u3 : ∀ (x : GS) j v i, gt (sv x (o + 3) j v) o i = gt x o i := fun x j v i => gt_sv_o (by omega)
  have u4 : ∀ (x : GS) j v i, gt (sv x (o + 4) j v) o i = gt x o i := fun x j v i => gt_sv_o (by omega)
  have u5 : ∀ (x : GS) j v i, gt (sv x (o + 5) j v) o i = gt x o i := fun x j v i => gt_sv_o (by omega)
  have gs : ∀ {β : Type} (z : Option β), gd (nI n) 8 z = z := fun z => gd_n hn (by omega)
  have c0 : (nI n).toNatClampNeg = n := nI_clamp (by omega)
  rw [h1, if_neg (show ¬ (8 : Int32) ≤ nI n from nI_ge (b := 8) hn (by omega))]
  simp only [lt_, u1, u2, u3, u4, u5, h1, gs, c0, nI_p1]
  generalize hX : sv (sv (sv (sv (sv (sv st (o + 1) n v0) (o + 2) n v1) (o + 3) n v2) (o + 4) n v3) (o + 5) n v4) o 5 (nI (n + 1)) = X
  have P : ∀ c, c < 5 → ∀ k, gt X (o + 1 + c) k = if k = n then v5 v0 v1 v2 v3 v4 c else gt st (o + 1 + c) k := by
    intro c hc k
    rw [← hX]
    simp only [gt_sv]
    match c, hc with
    | 0, _ => repeat' split
              all_goals first | rfl | omega
    | 1, _ => repeat' split
              all_goals first | rfl | omega
    | 2, _ => repeat' split
              all_goals first | rfl | omega
    | 3, _ => repeat' split
              all_goals first | rfl | omega
    | 4, _ => repeat' split
              all_goals first | rfl | omega
  have Q : ∀ j, j ≠ 5 → gt X o j = gt st o j := fun j hj => by rw [← hX, gt_sv_j hj, u5, u4, u3, u2, u1]
  have Q5 : gt X o 5 = nI (n + 1) := by rw [← hX, gt_sv_same]
  have R : ∀ c j, (c < o ∨ o + 5 < c) → gt X c j = gt st c j := fun c j hc => by
    rw [← hX, gt_sv_o (by omega), gt_sv_o (by omega), gt_sv_o (by omega), gt_sv_o (by omega), gt_sv_o (by omega), gt_sv_o (by omega)]
  refine ok_some ⟨⟨Q5, by rw [Q _ (by decide)]; exact h2, fun k hk c hc => ?_, fun i hi => by rw [R _ _ (by omega)]; exact h4 i hi⟩, Q, fun j => R _ _ (by omega), fun c j hc => R _ _ (by omega)⟩
  rw [P c hc k]
  unfold bAdd
  by_cases e : k = n
  · rw [if_pos e, if_pos e]
  · rw [if_neg e, if_neg e]; exact h3 k (by omega) c hc
/-- the sheet without a box -/
theorem x_remove {st : GS} {o n k : Nat} {b : Bx} {rs : List Int} (h : shIs st o n b rs) (hn : n ≤ 8) (hk : k < n) : ok (f_X5_remove o (nI k) st) (fun st' => shIs st' o (n - 1) (ren b (upk k)) rs ∧ ∀ c j, (c < o ∨ o + 6 < c) → gt st' c j = gt st c j) := by
  obtain ⟨h1, h2, h3, h4⟩ := h
  unfold f_X5_remove
  rw [x_has_1 h1 hk hn, bI1_s, if_neg (by decide)]
  refine ok_bI1 (P := fun s => (∀ j, gt s o j = gt st o j) ∧ (∀ c, c < 5 → ∀ j, j < n - 1 → gt s (o + 1 + c) j = gt st (o + 1 + c) (upk k j)) ∧ ∀ c j, (c < o ∨ o + 5 < c) → gt s c j = gt st c j) ?_ ?_
  · refine ok_for (n - 1) (fun i z => k ≤ i ∧ z.1 = nI i ∧ (∀ j, gt z.2 o j = gt st o j) ∧ (∀ c, c < 5 → ∀ j, gt z.2 (o + 1 + c) j = gt st (o + 1 + c) (if k ≤ j ∧ j < i then j + 1 else j)) ∧ ∀ c j, (c < o ∨ o + 5 < c) → gt z.2 c j = gt st c j) _ ?_ ?_ k _ (by omega) ⟨Nat.le_refl _, rfl, fun j => rfl, fun c hc j => by rw [if_neg (by omega)], fun c j hc => rfl⟩
    · rintro i ⟨z, s⟩ hi ⟨k0, k1, k2, k3, k4⟩
      simp only at k0 k1 k2 k3 k4
      subst k1
      show ok (f_X5_remove_L11 o (nI i) s) _
      unfold f_X5_remove_L11
      have g8 : ∀ {β : Type} (z : Option β), gd (nI i) 8 z = z := fun z => gd_n (by omega) (by omega)
      have g9 : ∀ {β : Type} (z : Option β), gd (nI (i + 1)) 8 z = z := fun z => gd_n (by omega) (by omega)
      have c0 : (nI i).toNatClampNeg = i := nI_clamp (by omega)
      have c1 : (nI (i + 1)).toNatClampNeg = i + 1 := nI_clamp (by omega)
      have u12 : ∀ (x : GS) j v i, gt (sv x (o + 1) j v) (o + 2) i = gt x (o + 2) i := fun x j v i => gt_sv_o (by omega)
      have u13 : ∀ (x : GS) j v i, gt (sv x (o + 1) j v) (o + 3) i = gt x (o + 3) i := fun x j v i => gt_sv_o (by omega)
      have u14 : ∀ (x : GS) j v i, gt (sv x (o + 1) j v) (o + 4) i = gt x (o + 4) i := fun x j v i => gt_sv_o (by omega)
      have u15 : ∀ (x : GS) j v i, gt (sv x (o + 1) j v) (o + 5) i = gt x (o + 5) i := fun x j v i => gt_sv_o (by omega)
      have u23 : ∀ (x : GS) j v i, gt (sv x (o + 2) j v) (o + 3) i = gt x (o + 3) i := fun x j v i => gt_sv_o (by omega)
      have u24 : ∀ (x : GS) j v i, gt (sv x (o + 2) j v) (o + 4) i = gt x (o + 4) i := fun x j v i => gt_sv_o (by omega)
      have u25 : ∀ (x : GS) j v i, gt (sv x (o + 2) j v) (o + 5) i = gt x (o + 5) i := fun x j v i => gt_sv_o (by omega)
      have u34 : ∀ (x : GS) j v i, gt (sv x (o + 3) j v) (o + 4) i = gt x (o + 4) i := fun x j v i => gt_sv_o (by omega)
      have u35 : ∀ (x : GS) j v i, gt (sv x (o + 3) j v) (o + 5) i = gt x (o + 5) i := fun x j v i => gt_sv_o (by omega)
      have u45 : ∀ (x : GS) j v i, gt (sv x (o + 4) j v) (o + 5) i = gt x (o + 5) i := fun x j v i => gt_sv_o (by omega)
      rw [k2, h1, nI_p1, if_neg (nI_ge (show i + 1 < n by omega) (by omega))]
      simp only [lt_, g8, g9, c0, c1, u12, u13, u14, u15, u23, u24, u25, u34, u35, u45, nI_p1]
      generalize hX : sv (sv (sv (sv (sv s (o + 1) i (gt s (o + 1) (i + 1))) (o + 2) i (gt s (o + 2) (i + 1))) (o + 3) i (gt s (o + 3) (i + 1))) (o + 4) i (gt s (o + 4) (i + 1))) (o + 5) i (gt s (o + 5) (i + 1)) = X
      have P : ∀ c, c < 5 → ∀ j, gt X (o + 1 + c) j = if j = i then gt s (o + 1 + c) (i + 1) else gt s (o + 1 + c) j := by
        intro c hc j
        rw [← hX]
        simp only [gt_sv]
        match c, hc with
        | 0, _ => repeat' split
                  all_goals first | rfl | omega
        | 1, _ => repeat' split
                  all_goals first | rfl | omega
        | 2, _ => repeat' split
                  all_goals first | rfl | omega
        | 3, _ => repeat' split
                  all_goals first | rfl | omega
        | 4, _ => repeat' split
                  all_goals first | rfl | omega
      have R : ∀ c j, (c ≤ o ∨ o + 5 < c) → gt X c j = gt s c j := fun c j hc => by
        rw [← hX, gt_sv_o (by omega), gt_sv_o (by omega), gt_sv_o (by omega), gt_sv_o (by omega), gt_sv_o (by omega)]
      refine ok_some (Or.inl ⟨_, rfl, by omega, rfl, fun j => by rw [R _ _ (by omega)]; exact k2 j, fun c hc j => ?_, fun c j hc => by rw [R _ _ (by omega)]; exact k4 c j hc⟩)
      show gt X (o + 1 + c) j = _
      rw [P c hc j]
      by_cases e : j = i
      · subst e
        rw [if_pos rfl, k3 c hc, if_neg (by omega), if_pos (by omega)]
      · rw [if_neg e, k3 c hc]
        by_cases e2 : k ≤ j ∧ j < i
        · rw [if_pos e2, if_pos (by omega)]
        · rw [if_neg e2, if_neg (by omega)]
    · rintro ⟨z, s⟩ ⟨k0, k1, k2, k3, k4⟩
      simp only at k0 k1 k2 k3 k4
      subst k1
      show ok (f_X5_remove_L11 o (nI (n - 1)) s) _
      unfold f_X5_remove_L11
      rw [k2, h1, nI_p1, if_pos (nI_le (show n ≤ n - 1 + 1 by omega) (by omega))]
      refine ok_some ⟨_, rfl, k2, fun c hc j hj => ?_, k4⟩
      rw [k3 c hc]
      congr 1
      unfold upk
      by_cases e : j < k
      · rw [if_pos e, if_neg (by omega)]
      · rw [if_neg e, if_pos (by omega)]
  · rintro s ⟨k2, k3, k4⟩
    refine ok_lt (ok_some ⟨⟨?_, ?_, fun j hj c hc => ?_, fun i hi => ?_⟩, fun c j hc => ?_⟩)
    · obtain ⟨m, rfl⟩ : ∃ m, n = m + 1 := ⟨n - 1, by omega⟩
      rw [gt_sv_same, k2, h1, nI_pred]; rfl
    · rw [gt_sv_j (by decide), k2]; exact h2
    · rw [gt_sv_o (by omega), k3 c hc j hj]
      exact h3 _ (by unfold upk; split <;> omega) c hc
    · rw [gt_sv_o (by omega), k4 _ _ (by omega)]; exact h4 i hi
    · rw [gt_sv_o (by omega)]; exact k4 _ _ (by omega)
theorem cp1 (x : GS) (p q m : Nat) : (∀ j, j < m → gt (sc x p q 0 0 m) q j = gt x p j) ∧ ∀ c j, c ≠ q → gt (sc x p q 0 0 m) c j = gt x c j := by
  refine ⟨fun j hj => ?_, fun c j hc => ?_⟩
  · rw [gt_sc, if_pos ⟨rfl, by omega, by omega⟩]; congr 1; omega
  · rw [gt_sc, if_neg (fun q => hc q.1)]
theorem cl_0 : Int32.toNatClampNeg 0 = 0 := by decide
theorem cl_4 : Int32.toNatClampNeg 4 = 4 := by decide
theorem cl_6 : Int32.toNatClampNeg 6 = 6 := by decide
theorem cl_8 : Int32.toNatClampNeg 8 = 8 := by decide
theorem x_copy {st : GS} {o a n : Nat} {b : Bx} {rs : List Int} (h : shIs st a n b rs) (hn : n ≤ 8) (hr : rs.length ≤ 4) (hd : o + 6 < a ∨ a + 6 < o) : ok (f_X5_copy o a st) (fun st' => shIs st' o n b rs ∧ ∀ c j, (c < o ∨ o + 6 < c) → gt st' c j = gt st c j) := by
  obtain ⟨h1, h2, h3, h4⟩ := h
  unfold f_X5_copy
  simp only [cl_0, cl_4, cl_8]
  refine ok_gq (by decide) (ok_lt ?_)
  obtain ⟨a1, b1⟩ := cp1 st (a + 1) (o + 1) 8
  generalize sc st (a + 1) (o + 1) 0 0 8 = st1 at a1 b1 ⊢
  refine ok_gq (by decide) (ok_lt ?_)
  obtain ⟨a2, b2⟩ := cp1 st1 (a + 2) (o + 2) 8
  generalize sc st1 (a + 2) (o + 2) 0 0 8 = st2 at a2 b2 ⊢
  refine ok_gq (by decide) (ok_lt ?_)
  obtain ⟨a3, b3⟩ := cp1 st2 (a + 3) (o + 3) 8
  generalize sc st2 (a + 3) (o + 3) 0 0 8 = st3 at a3 b3 ⊢
  refine ok_gq (by decide) (ok_lt ?_)
  obtain ⟨a4, b4⟩ := cp1 st3 (a + 4) (o + 4) 8
  generalize sc st3 (a + 4) (o + 4) 0 0 8 = st4 at a4 b4 ⊢
  refine ok_gq (by decide) (ok_lt ?_)
  obtain ⟨a5, b5⟩ := cp1 st4 (a + 5) (o + 5) 8
  generalize sc st4 (a + 5) (o + 5) 0 0 8 = st5 at a5 b5 ⊢
  refine ok_gq (by decide) (ok_lt ?_)
  obtain ⟨a6, b6⟩ := cp1 st5 (a + 6) (o + 6) 4
  generalize sc st5 (a + 6) (o + 6) 0 0 4 = st6 at a6 b6 ⊢
  refine ok_lt (ok_lt (ok_some ?_))
  have R : ∀ c j, (c ≤ o ∨ o + 6 < c) → gt st6 c j = gt st c j := fun c j hc => by
    rw [b6 c j (by omega), b5 c j (by omega), b4 c j (by omega), b3 c j (by omega), b2 c j (by omega), b1 c j (by omega)]
  have e1 : gt st6 a 5 = nI n := by rw [R _ _ (by omega)]; exact h1
  have e2 : ∀ v, gt (sv st6 o 5 v) a 7 = nI rs.length := fun v => by rw [gt_sv_o (by omega), R _ _ (by omega)]; exact h2
  rw [e1, e2]
  generalize hX : sv (sv st6 o 5 (nI n)) o 7 (nI rs.length) = X
  have RX : ∀ c j, c ≠ o → gt X c j = gt st6 c j := fun c j hc => by rw [← hX, gt_sv_o hc, gt_sv_o hc]
  refine ⟨⟨?_, ?_, fun k hk c hc => ?_, fun i hi => ?_⟩, fun c j hc => ?_⟩
  · rw [← hX, gt_sv_j (by decide), gt_sv_same]
  · rw [← hX, gt_sv_same]
  · rw [RX _ _ (by omega), ← h3 k hk c hc]
    congr 1
    match c, hc with
    | 0, _ => rw [b6 _ _ (by omega), b5 _ _ (by omega), b4 _ _ (by omega), b3 _ _ (by omega), b2 _ _ (by omega)]; exact a1 k (by omega)
    | 1, _ => rw [b6 _ _ (by omega), b5 _ _ (by omega), b4 _ _ (by omega), b3 _ _ (by omega)]; exact (a2 k (by omega)).trans (b1 _ _ (by omega))
    | 2, _ => rw [b6 _ _ (by omega), b5 _ _ (by omega), b4 _ _ (by omega)]; exact ((a3 k (by omega)).trans (b2 _ _ (by omega))).trans (b1 _ _ (by omega))
    | 3, _ => rw [b6 _ _ (by omega), b5 _ _ (by omega)]; exact (((a4 k (by omega)).trans (b3 _ _ (by omega))).trans (b2 _ _ (by omega))).trans (b1 _ _ (by omega))
    | 4, _ => rw [b6 _ _ (by omega)]; exact ((((a5 k (by omega)).trans (b4 _ _ (by omega))).trans (b3 _ _ (by omega))).trans (b2 _ _ (by omega))).trans (b1 _ _ (by omega))
  · rw [RX _ _ (by omega), ← h4 i hi]
    congr 1
    exact (((((a6 i (by omega)).trans (b5 _ _ (by omega))).trans (b4 _ _ (by omega))).trans (b3 _ _ (by omega))).trans (b2 _ _ (by omega))).trans (b1 _ _ (by omega))
  · rw [RX _ _ (by omega)]; exact R _ _ (by omega)
theorem x_copyW {st : GS} {o a n k : Nat} {b : Bx} {rs : List Int} (h : shIs st a n b rs) (hn : n ≤ 8) (hr : rs.length ≤ 4) (hk : k < n) (hd : o + 6 < a ∨ a + 6 < o) : ok (f_X5_copyWithout o a (nI k) st) (fun st' => shIs st' o (n - 1) (ren b (upk k)) rs ∧ ∀ c j, (c < o ∨ o + 6 < c) → gt st' c j = gt st c j) := by
  unfold f_X5_copyWithout
  refine ok_bI1 (x_copy h hn hr hd) ?_
  rintro s ⟨h1, h2⟩
  refine ok_bI1 (x_remove h1 hn hk) ?_
  rintro s2 ⟨k1, k2⟩
  exact ok_some ⟨k1, fun c j hc => (k2 c j hc).trans (h2 c j hc)⟩
/-- a box moved -/
def bSh (b : Bx) (k : Nat) (dx dy : Int) : Bx := fun j c => if j = k then (if c = 1 ∨ c = 3 then b j c + dx else if c = 2 ∨ c = 4 then b j c + dy else b j c) else b j c
theorem x_shift {st : GS} {o n k : Nat} {b : Bx} {rs : List Int} (h : shIs st o n b rs) (hp : okP n b rs) (hk : k < n) {d e : Int32} (hd : -9 ≤ d.toInt ∧ d.toInt ≤ 9) (he : -9 ≤ e.toInt ∧ e.toInt ≤ 9) : ok (f_X5_shift o (nI k) d e st) (fun st' => shIs st' o n (bSh b k d.toInt e.toInt) rs ∧ ∀ c j, (c < o ∨ o + 6 < c) → gt st' c j = gt st c j) := by
  obtain ⟨h1, h2, h3, h4⟩ := id h
  have hn := hp.1
  obtain ⟨-, p1, p2⟩ := hp.2.2.2 k hk
  unfold f_X5_shift
  rw [x_has_1 h1 hk hn, bI1_s, if_neg (by decide)]
  have g8 : ∀ {β : Type} (z : Option β), gd (nI k) 8 z = z := fun z => gd_n (by omega) (by omega)
  have c0 : (nI k).toNatClampNeg = k := nI_clamp (by omega)
  have u24 : ∀ (x : GS) j v i, gt (sv x (o + 2) j v) (o + 4) i = gt x (o + 4) i := fun x j v i => gt_sv_o (by omega)
  have u23 : ∀ (x : GS) j v i, gt (sv x (o + 2) j v) (o + 3) i = gt x (o + 3) i := fun x j v i => gt_sv_o (by omega)
  have u25 : ∀ (x : GS) j v i, gt (sv x (o + 2) j v) (o + 5) i = gt x (o + 5) i := fun x j v i => gt_sv_o (by omega)
  have u43 : ∀ (x : GS) j v i, gt (sv x (o + 4) j v) (o + 3) i = gt x (o + 3) i := fun x j v i => gt_sv_o (by omega)
  have u45 : ∀ (x : GS) j v i, gt (sv x (o + 4) j v) (o + 5) i = gt x (o + 5) i := fun x j v i => gt_sv_o (by omega)
  have u35 : ∀ (x : GS) j v i, gt (sv x (o + 3) j v) (o + 5) i = gt x (o + 5) i := fun x j v i => gt_sv_o (by omega)
  simp only [lt_, g8, c0, u24, u23, u25, u43, u45, u35]
  generalize hX : sv (sv (sv (sv st (o + 2) k (gt st (o + 2) k + d)) (o + 4) k (gt st (o + 4) k + d)) (o + 3) k (gt st (o + 3) k + e)) (o + 5) k (gt st (o + 5) k + e) = X
  have R : ∀ c j, (c ≤ o + 1 ∨ o + 5 < c) → gt X c j = gt st c j := fun c j hc => by
    rw [← hX, gt_sv_o (by omega), gt_sv_o (by omega), gt_sv_o (by omega), gt_sv_o (by omega)]
  have R2 : ∀ c j, j ≠ k → gt X c j = gt st c j := fun c j hj => by
    rw [← hX, gt_sv_j hj, gt_sv_j hj, gt_sv_j hj, gt_sv_j hj]
  have e1 := h.c1 hk
  have e2 := h.c2 hk
  have e3 := h.c3 hk
  have e4 := h.c4 hk
  refine ok_some ⟨⟨by rw [R _ _ (by omega)]; exact h1, by rw [R _ _ (by omega)]; exact h2, fun j hj c hc => ?_, fun i hi => by rw [R _ _ (by omega)]; exact h4 i hi⟩, fun c j hc => R _ _ (by omega)⟩
  unfold bSh
  by_cases ej : j = k
  · subst ej
    rw [if_pos rfl]
    match c, hc with
    | 0, _ => rw [if_neg (by decide), if_neg (by decide), R _ _ (by omega)]; exact h3 j hj 0 (by decide)
    | 1, _ =>
      rw [if_pos (by decide), show o + 1 + 1 = o + 2 from rfl, ← hX, gt_sv_o (by omega), gt_sv_o (by omega), gt_sv_o (by omega), gt_sv_same, add32 (by omega) (by omega), e1]
    | 2, _ =>
      rw [if_neg (by decide), if_pos (by decide), show o + 1 + 2 = o + 3 from rfl, ← hX, gt_sv_o (by omega), gt_sv_same, add32 (by omega) (by omega), e2]
    | 3, _ =>
      rw [if_pos (by decide), show o + 1 + 3 = o + 4 from rfl, ← hX, gt_sv_o (by omega), gt_sv_o (by omega), gt_sv_same, add32 (by omega) (by omega), e3]
    | 4, _ =>
      rw [if_neg (by decide), if_pos (by decide), show o + 1 + 4 = o + 5 from rfl, ← hX, gt_sv_same, add32 (by omega) (by omega), e4]
  · rw [if_neg ej, R2 _ _ ej]; exact h3 j hj c hc
theorem m_shift {st : GS} {n k : Nat} {b : Bx} {rs : List Int} (h : mIs st n b rs) (hp : okP n b rs) (hk : k < n) {d e : Int32} (hd : -9 ≤ d.toInt ∧ d.toInt ≤ 9) (he : -9 ≤ e.toInt ∧ e.toInt ≤ 9) : ok (f_X8_shift (nI k) d e st) (fun st' => mIs st' n (bSh b k d.toInt e.toInt) rs ∧ gl st' = gl st ∧ (∀ c j, c ≠ 3 → gt st' c j = gt st c j)) := by
  obtain ⟨h1, h2, h3, h4⟩ := id h
  have hn := hp.1
  obtain ⟨-, p1, p2⟩ := hp.2.2.2 k hk
  unfold f_X8_shift
  have g0 : ∀ {β : Type} (z : Option β), gd (nI (4 * k)) 32 z = z := fun z => gd_n (by omega) (by omega)
  have g1 : ∀ {β : Type} (z : Option β), gd (nI (4 * k + 1)) 32 z = z := fun z => gd_n (by omega) (by omega)
  have g2 : ∀ {β : Type} (z : Option β), gd (nI (4 * k + 2)) 32 z = z := fun z => gd_n (by omega) (by omega)
  have g3 : ∀ {β : Type} (z : Option β), gd (nI (4 * k + 3)) 32 z = z := fun z => gd_n (by omega) (by omega)
  have c0 : (nI (4 * k)).toNatClampNeg = 4 * k := nI_clamp (by omega)
  have c1 : (nI (4 * k + 1)).toNatClampNeg = 4 * k + 1 := nI_clamp (by omega)
  have c2 : (nI (4 * k + 2)).toNatClampNeg = 4 * k + 2 := nI_clamp (by omega)
  have c3 : (nI (4 * k + 3)).toNatClampNeg = 4 * k + 3 := nI_clamp (by omega)
  have a1 : nI (4 * k) + 1 = nI (4 * k + 1) := nI_add _ 1
  have a2 : nI (4 * k) + 2 = nI (4 * k + 2) := nI_add _ 2
  have a3 : nI (4 * k) + 3 = nI (4 * k + 3) := nI_add _ 3
  have u01 : ∀ (x : GS) v, gt (sv x 3 (4 * k) v) 3 (4 * k + 1) = gt x 3 (4 * k + 1) := fun x v => gt_sv_j (by omega)
  have u02 : ∀ (x : GS) v, gt (sv x 3 (4 * k) v) 3 (4 * k + 2) = gt x 3 (4 * k + 2) := fun x v => gt_sv_j (by omega)
  have u03 : ∀ (x : GS) v, gt (sv x 3 (4 * k) v) 3 (4 * k + 3) = gt x 3 (4 * k + 3) := fun x v => gt_sv_j (by omega)
  have u12 : ∀ (x : GS) v, gt (sv x 3 (4 * k + 1) v) 3 (4 * k + 2) = gt x 3 (4 * k + 2) := fun x v => gt_sv_j (by omega)
  have u13 : ∀ (x : GS) v, gt (sv x 3 (4 * k + 1) v) 3 (4 * k + 3) = gt x 3 (4 * k + 3) := fun x v => gt_sv_j (by omega)
  have u23 : ∀ (x : GS) v, gt (sv x 3 (4 * k + 2) v) 3 (4 * k + 3) = gt x 3 (4 * k + 3) := fun x v => gt_sv_j (by omega)
  simp only [lt_, n4, a1, a2, a3, g0, g1, g2, g3, c0, c1, c2, c3, u01, u02, u03, u12, u13, u23]
  generalize hX : sv (sv (sv (sv st 3 (4 * k) (gt st 3 (4 * k) + d)) 3 (4 * k + 1) (gt st 3 (4 * k + 1) + e)) 3 (4 * k + 2) (gt st 3 (4 * k + 2) + d)) 3 (4 * k + 3) (gt st 3 (4 * k + 3) + e) = X
  have R : ∀ c j, c ≠ 3 → gt X c j = gt st c j := fun c j hc => by
    rw [← hX, gt_sv_o hc, gt_sv_o hc, gt_sv_o hc, gt_sv_o hc]
  have R2 : ∀ c j, (j < 4 * k ∨ 4 * k + 3 < j) → gt X c j = gt st c j := fun c j hj => by
    rw [← hX, gt_sv_j (by omega), gt_sv_j (by omega), gt_sv_j (by omega), gt_sv_j (by omega)]
  obtain ⟨-, e5⟩ := h3 k hk
  have e1 : (gt st 3 (4 * k)).toInt = b k 1 := e5 0 (by decide)
  have e2 : (gt st 3 (4 * k + 1)).toInt = b k 2 := e5 1 (by decide)
  have e3 : (gt st 3 (4 * k + 2)).toInt = b k 3 := e5 2 (by decide)
  have e4 : (gt st 3 (4 * k + 3)).toInt = b k 4 := e5 3 (by decide)
  refine ok_some ⟨⟨by rw [R _ _ (by decide)]; exact h1, by rw [R _ _ (by decide)]; exact h2, fun j hj => ⟨?_, fun c hc => ?_⟩, fun i hi => by rw [R _ _ (by decide)]; exact h4 i hi⟩, by rw [← hX]; rfl, R⟩
  · rw [R _ _ (by decide), (h3 j hj).1]
    unfold bSh
    by_cases ej : j = k
    · rw [if_pos ej, if_neg (by decide), if_neg (by decide)]
    · rw [if_neg ej]
  · unfold bSh
    by_cases ej : j = k
    · subst ej
      rw [if_pos rfl]
      match c, hc with
      | 0, _ =>
        rw [if_pos (by decide), Nat.add_zero, ← hX, gt_sv_j (by omega), gt_sv_j (by omega), gt_sv_j (by omega), gt_sv_same, add32 (by omega) (by omega), e1]
      | 1, _ =>
        rw [if_neg (by decide), if_pos (by decide), ← hX, gt_sv_j (by omega), gt_sv_j (by omega), gt_sv_same, add32 (by omega) (by omega), e2]
      | 2, _ =>
        rw [if_pos (by decide), ← hX, gt_sv_j (by omega), gt_sv_same, add32 (by omega) (by omega), e3]
      | 3, _ =>
        rw [if_neg (by decide), if_pos (by decide), ← hX, gt_sv_same, add32 (by omega) (by omega), e4]
    · rw [if_neg ej, R2 _ _ (by omega)]; exact (h3 j hj).2 c hc
theorem m_copy {st : GS} {a N q : Nat} (hN : N < 100) (hne : a ≠ q) : ok (f_X8_copy a N q N st) (fun st' => (∀ j, j < N → gt st' q j = gt st a j) ∧ gl st' = gl st ∧ ∀ c j, c ≠ q → gt st' c j = gt st c j) := by
  unfold f_X8_copy
  refine ok_bI1 (P := fun st' => (∀ j, j < N → gt st' q j = gt st a j) ∧ gl st' = gl st ∧ ∀ c j, c ≠ q → gt st' c j = gt st c j) ?_ (fun r hr => ok_some hr)
  refine ok_for N (fun i z => z.1 = nI i ∧ (∀ j, j < i → gt z.2 q j = gt st a j) ∧ gl z.2 = gl st ∧ ∀ c j, c ≠ q → gt z.2 c j = gt st c j) _ ?_ ?_ 0 _ (Nat.zero_le _) ⟨rfl, fun j hj => absurd hj (Nat.not_lt_zero _), rfl, fun c j _ => rfl⟩
  · rintro i ⟨z, s⟩ hi ⟨k1, k2, k3, k4⟩
    simp only at k1 k2 k3 k4
    subst k1
    show ok (f_X8_copy_L2 a N q N (nI i) s) _
    unfold f_X8_copy_L2
    rw [if_neg (show ¬ Int32.ofNat N ≤ nI i from nI_ge hi (by omega)), gd_n hi (by omega), gd_n hi (by omega), nI_clamp (show i < 2 ^ 31 by omega)]
    refine ok_lt (ok_lt (ok_some (Or.inl ⟨_, rfl, nI_p1 i, fun j hj => ?_, k3, fun c j hc => ?_⟩)))
    · show gt (sv s q i (gt s a i)) q j = _
      by_cases e : j = i
      · subst e; rw [gt_sv_same]; exact k4 _ _ hne
      · rw [gt_sv_j e]; exact k2 j (by omega)
    · show gt (sv s q i (gt s a i)) c j = _
      rw [gt_sv_o hc]; exact k4 c j hc
  · rintro ⟨z, s⟩ ⟨k1, k2, k3, k4⟩
    simp only at k1 k2 k3 k4
    subst k1
    show ok (f_X8_copy_L2 a N q N (nI N) s) _
    unfold f_X8_copy_L2
    rw [if_pos (show Int32.ofNat N ≤ nI N from nI_le (Nat.le_refl _) (by omega))]
    exact ok_some ⟨_, rfl, k2, k3, k4⟩
