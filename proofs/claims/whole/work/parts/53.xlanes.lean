/-- cells outside a run of cells stay -/
def kpt (lo hi : Nat) (st st' : GS) : Prop := ∀ c j, (c < lo ∨ hi < c) → gt st' c j = gt st c j
theorem kpt_rf (lo hi : Nat) (st : GS) : kpt lo hi st st := fun _ _ _ => rfl
theorem kpt_tr {lo hi : Nat} {a b c : GS} (h : kpt lo hi a b) (h2 : kpt lo hi b c) : kpt lo hi a c := fun x j hx => (h2 x j hx).trans (h x j hx)
theorem kpt_w {lo hi lo' hi' : Nat} {a b : GS} (h : kpt lo hi a b) (h1 : lo' ≤ lo) (h2 : hi ≤ hi') : kpt lo' hi' a b := fun x j hx => h x j (by omega)
theorem kpt_sv {lo hi : Nat} {a b : GS} (h : kpt lo hi a b) {o j : Nat} {v : Int32} (h1 : lo ≤ o) (h2 : o ≤ hi) : kpt lo hi a (sv b o j v) := fun x i hx => by
  rw [gt_sv_o (by omega)]; exact h x i hx
def lnS (st : GS) (q m : Nat) (f : Nat → Ln) : Prop := gt st q 3 = nI m ∧ ∀ i, i < m → (f i).1 < 2 ∧ gt st (q + 1) i = nI (f i).1 ∧ (gt st (q + 2) i).toInt = (f i).2.1 ∧ (gt st (q + 3) i).toInt = (f i).2.2
theorem x_has {st : GS} {q m : Nat} {f : Nat → Ln} (h : lnS st q m f) (hm : m ≤ 14) {s : Nat} (hs : s < 2) {x : Int32} : ∃ v, f_X2_has q (nI s) x st = some v ∧ ((v = 0 ∧ ∀ i, i < m → ¬ ((f i).1 = s ∧ (f i).2.1 = x.toInt)) ∨ (v = 1 ∧ ∃ i, i < m ∧ (f i).1 = s ∧ (f i).2.1 = x.toInt)) := by
  show ok (f_X2_has q (nI s) x st) _
  unfold f_X2_has
  refine ok_for m (fun i z => z = nI i ∧ ∀ j, j < i → ¬ ((f j).1 = s ∧ (f j).2.1 = x.toInt)) _ ?_ ?_ 0 0 (Nat.zero_le _) ⟨rfl, fun j hj => absurd hj (Nat.not_lt_zero _)⟩
  · rintro i z hi ⟨rfl, hd⟩
    show ok (f_X2_has_L2 q (nI s) x st (nI i)) _
    unfold f_X2_has_L2
    obtain ⟨g1, g2, g3, g4⟩ := h.2 i hi
    rw [h.1, if_neg (nI_ge hi (by omega))]
    simp only [gd_n (show i < 14 by omega) (show 14 < 2147483648 by omega), nI_clamp (show i < 2 ^ 31 by omega), lt_, g2]
    refine ok_if (fun c => ?_) (fun c => ?_)
    · have c1 := nI_inj (by omega) (by omega) c
      refine ok_if (fun c2 => ?_) (fun c2 => ?_)
      · rw [eq32, g3] at c2
        exact ok_some (Or.inr ⟨_, rfl, Or.inr ⟨rfl, i, hi, c1, c2⟩⟩)
      · rw [eq32, g3] at c2
        refine ok_some (Or.inl ⟨_, rfl, nI_p1 i, fun j hj => ?_⟩)
        rcases Nat.lt_or_ge j i with h1 | h1
        · exact hd j h1
        · have : j = i := by omega
          subst this; exact fun z => c2 z.2
    · refine ok_some (Or.inl ⟨_, rfl, nI_p1 i, fun j hj => ?_⟩)
      rcases Nat.lt_or_ge j i with h1 | h1
      · exact hd j h1
      · have : j = i := by omega
        subst this; exact fun z => c (by rw [z.1])
  · rintro z ⟨rfl, hd⟩
    show ok (f_X2_has_L2 q (nI s) x st (nI m)) _
    unfold f_X2_has_L2
    rw [h.1, if_pos (nI_le (Nat.le_refl _) (by omega))]
    exact ok_some ⟨_, rfl, Or.inl ⟨rfl, hd⟩⟩
/-- is the lane at a place behind a new one -/
theorem x_behind {st : GS} {q i : Nat} {l x : Ln} (hi : i < 14) (hl : l.1 < 2) (hx : x.1 < 2) {a2 a3 : Int32} (e1 : gt st (q + 1) i = nI l.1) (e2 : (gt st (q + 2) i).toInt = l.2.1) (e3 : (gt st (q + 3) i).toInt = l.2.2) (x2 : a2.toInt = x.2.1) (x3 : a3.toInt = x.2.2) : ∃ v, f_X2_isBehind q (nI i) (nI x.1) a2 a3 st = some v ∧ ((v = 0 ∧ ¬ lnB x l) ∨ (v = 1 ∧ lnB x l)) := by
  show ok (f_X2_isBehind q (nI i) (nI x.1) a2 a3 st) _
  unfold f_X2_isBehind
  simp only [gd_n (show i < 14 by omega) (show 14 < 2147483648 by omega), nI_clamp (show i < 2 ^ 31 by omega), e1]
  refine ok_if (fun c => ?_) (fun c => ?_)
  · rw [eq32, e3, x3] at c
    refine ok_if (fun c2 => ?_) (fun c2 => ?_)
    · have c3 := nI_inj (by omega) (by omega) c2
      refine ok_if (fun c4 => ?_) (fun c4 => ?_)
      · rw [le32, e2, x2] at c4
        exact ok_some (Or.inl ⟨rfl, by unfold lnB; omega⟩)
      · rw [le32, e2, x2] at c4
        exact ok_some (Or.inr ⟨rfl, by unfold lnB; omega⟩)
    · have c3 : l.1 ≠ x.1 := fun z => c2 (by rw [z])
      refine ok_if (fun c4 => ?_) (fun c4 => ?_)
      · have c5 : x.1 = 1 := nI_inj (b := 1) (by omega) (by omega) c4
        exact ok_some (Or.inr ⟨rfl, by unfold lnB; omega⟩)
      · have c5 : x.1 ≠ 1 := fun z => c4 (by rw [z]; rfl)
        exact ok_some (Or.inl ⟨rfl, by unfold lnB; omega⟩)
  · rw [eq32, e3, x3] at c
    refine ok_if (fun c4 => ?_) (fun c4 => ?_)
    · rw [le32, e3, x3] at c4
      exact ok_some (Or.inl ⟨rfl, by unfold lnB; omega⟩)
    · rw [le32, e3, x3] at c4
      exact ok_some (Or.inr ⟨rfl, by unfold lnB; omega⟩)
def insF (f : Nat → Ln) (p : Nat) (x : Ln) : Nat → Ln := fun i => if i < p then f i else if i = p then x else f (i - 1)
def srtF (m : Nat) (f : Nat → Ln) : Prop := ∀ i j, i < j → j < m → lnB (f i) (f j)
theorem x_ladd {st : GS} {q m : Nat} {f : Nat → Ln} (h : lnS st q m f) (hm : m < 14) (hsr : srtF m f) {x : Ln} (hx : x.1 < 2) (hne : ∀ i, i < m → f i ≠ x) {a2 a3 : Int32} (x2 : a2.toInt = x.2.1) (x3 : a3.toInt = x.2.2) :
    ok (f_X2_add q (nI x.1) a2 a3 st) (fun st' => ∃ f', lnS st' q (m + 1) f' ∧ srtF (m + 1) f' ∧ (∀ l, (∃ i, i < m + 1 ∧ f' i = l) ↔ (l = x ∨ ∃ i, i < m ∧ f i = l)) ∧ kpt q (q + 3) st st') := by
  unfold f_X2_add
  rw [h.1, if_pos (show nI m < 14 from nI_lt (b := 14) hm (by omega))]
  simp only [lt_]
  refine ok_bI2 (P := fun z => ∃ p, p ≤ m ∧ z.1 = nI p ∧ (∀ i, p ≤ i → i < m → lnB x (f i)) ∧ (∀ i, i < p → ¬ lnB x (f i)) ∧ gt z.2 q 3 = nI m ∧ kpt q (q + 3) st z.2 ∧ (∀ i, i < p → gt z.2 (q + 1) i = nI (f i).1 ∧ (gt z.2 (q + 2) i).toInt = (f i).2.1 ∧ (gt z.2 (q + 3) i).toInt = (f i).2.2) ∧ (∀ i, p < i → i ≤ m → gt z.2 (q + 1) i = nI (f (i - 1)).1 ∧ (gt z.2 (q + 2) i).toInt = (f (i - 1)).2.1 ∧ (gt z.2 (q + 3) i).toInt = (f (i - 1)).2.2)) ?_ ?_
  · refine ok_lpx (fun n z => z.1 = nI n ∧ n ≤ m ∧ (∀ i, n ≤ i → i < m → lnB x (f i)) ∧ gt z.2 q 3 = nI m ∧ kpt q (q + 3) st z.2 ∧ (∀ i, i < n → gt z.2 (q + 1) i = nI (f i).1 ∧ (gt z.2 (q + 2) i).toInt = (f i).2.1 ∧ (gt z.2 (q + 3) i).toInt = (f i).2.2) ∧ (∀ i, n < i → i ≤ m → gt z.2 (q + 1) i = nI (f (i - 1)).1 ∧ (gt z.2 (q + 2) i).toInt = (f (i - 1)).2.1 ∧ (gt z.2 (q + 3) i).toInt = (f (i - 1)).2.2)) _ ?_ m (nI m, st) ⟨rfl, Nat.le_refl _, fun i h1 h2 => by omega, h.1, kpt_rf _ _ _, fun i hi => (h.2 i hi).2, fun i h1 h2 => by omega⟩
    rintro n ⟨z, s4⟩ ⟨hz, hn, hb, hs3, hk, hlo, hhi⟩
    simp only at hz hn hb hs3 hk hlo hhi
    subst hz
    show ok (f_X2_add_L16 q (nI x.1) a2 a3 (nI n) s4) _
    unfold f_X2_add_L16
    refine ok_if (fun c => ?_) (fun c => ?_)
    · have hn0 : n = 0 := by
        rw [le32, nI_T (by omega), l32_0] at c
        omega
      subst hn0
      exact ok_some (Or.inr ⟨_, rfl, 0, Nat.zero_le _, rfl, hb, fun i hi => absurd hi (Nat.not_lt_zero _), hs3, hk, hlo, hhi⟩)
    · have hn0 : 0 < n := by
        rw [le32, nI_T (by omega), l32_0] at c
        omega
      obtain ⟨k, rfl⟩ : ∃ k, n = k + 1 := ⟨n - 1, by omega⟩
      have ep : nI (k + 1) - 1 = nI k := nI_pred k
      rw [ep]
      obtain ⟨l1, l2, l3⟩ := hlo k (by omega)
      obtain ⟨v, ev, hv⟩ := x_behind (st := s4) (q := q) (i := k) (l := f k) (x := x) (by omega) (h.2 k (by omega)).1 hx l1 l2 l3 x2 x3
      rw [ev]
      simp only [bI1]
      refine ok_if (fun c2 => ?_) (fun c2 => ?_)
      · have hnb : ¬ lnB x (f k) := by
          rcases hv with ⟨-, q2⟩ | ⟨q1, -⟩
          · exact q2
          · rw [q1] at c2; exact absurd c2 (by decide)
        refine ok_some (Or.inr ⟨_, rfl, k + 1, hn, rfl, hb, fun i hi q2 => ?_, hs3, hk, hlo, hhi⟩)
        rcases Nat.lt_or_ge i k with h1 | h1
        · exact hnb (lnB_tr q2 (hsr i k h1 (by omega)))
        · have : i = k := by omega
          subst this; exact hnb q2
      · have hnb : lnB x (f k) := by
          rcases hv with ⟨q1, -⟩ | ⟨-, q2⟩
          · rw [q1] at c2; exact absurd rfl c2
          · exact q2
        simp only [gd_n (show k < 14 by omega) (show 14 < 2147483648 by omega), gd_n (show k + 1 < 14 + 1 by omega) (show 14 + 1 < 2147483648 by omega), nI_clamp (show k < 2 ^ 31 by omega), nI_clamp (show k + 1 < 2 ^ 31 by omega), lt_]
        rw [gd_n (show k + 1 < 14 by omega) (by omega), gd_n (show k + 1 < 14 by omega) (by omega), gd_n (show k + 1 < 14 by omega) (by omega)]
        refine ok_some (Or.inl ⟨_, k, rfl, by omega, pk_m1 k, by omega, fun i h1 h2 => ?_, ?_, ?_, fun i hi => ?_, fun i h1 h2 => ?_⟩)
        · rcases Nat.lt_or_ge k i with h3 | h3
          · exact hb i (by omega) h2
          · have : i = k := by omega
            subst this; exact hnb
        · rw [gt_sv_o (by omega), gt_sv_o (by omega), gt_sv_o (by omega)]; exact hs3
        · exact kpt_sv (kpt_sv (kpt_sv hk (by omega) (by omega)) (by omega) (by omega)) (by omega) (by omega)
        · have := hlo i (by omega)
          simp only [gt_sv_j (show i ≠ k + 1 by omega)]
          exact this
        · by_cases hik : i = k + 1
          · subst hik
            refine ⟨?_, ?_, ?_⟩
            · rw [gt_sv_o (by omega), gt_sv_o (by omega), gt_sv_same]; exact l1
            · rw [gt_sv_o (by omega), gt_sv_same, gt_sv_o (by omega)]; exact l2
            · rw [gt_sv_same, gt_sv_o (by omega), gt_sv_o (by omega)]; exact l3
          · have := hhi i (by omega) h2
            simp only [gt_sv_j hik]
            exact this
  · rintro z s5 ⟨p, hp, hz, hb, ha, hs3, hk, hlo, hhi⟩
    simp only at hz hs3 hk hlo hhi
    subst hz
    simp only [gd_n (show p < 14 by omega) (show 14 < 2147483648 by omega), nI_clamp (show p < 2 ^ 31 by omega)]
    refine ok_some ⟨insF f p x, ⟨?_, fun i hi => ?_⟩, fun i j hij hj => ?_, fun l => ?_, ?_⟩
    · rw [gt_sv_same, gt_sv_o (by omega), gt_sv_o (by omega), gt_sv_o (by omega), hs3, nI_p1]
    · have e1 : ∀ v, gt (sv (sv (sv (sv s5 (q + 1) p (nI x.1)) (q + 2) p a2) (q + 3) p a3) q 3 v) (q + 1) i = if i = p then nI x.1 else gt s5 (q + 1) i := fun v => by
        rw [gt_sv_o (by omega), gt_sv_o (by omega), gt_sv_o (by omega), gt_sv]; simp
      have e2 : ∀ v, gt (sv (sv (sv (sv s5 (q + 1) p (nI x.1)) (q + 2) p a2) (q + 3) p a3) q 3 v) (q + 2) i = if i = p then a2 else gt s5 (q + 2) i := fun v => by
        rw [gt_sv_o (by omega), gt_sv_o (by omega), gt_sv, gt_sv_o (by omega)]; simp
      have e3 : ∀ v, gt (sv (sv (sv (sv s5 (q + 1) p (nI x.1)) (q + 2) p a2) (q + 3) p a3) q 3 v) (q + 3) i = if i = p then a3 else gt s5 (q + 3) i := fun v => by
        rw [gt_sv_o (by omega), gt_sv, gt_sv_o (by omega), gt_sv_o (by omega)]; simp
      rw [e1, e2, e3]
      unfold insF
      rcases Nat.lt_trichotomy i p with h1 | h1 | h1
      · have := hlo i h1
        simp only [if_pos h1, if_neg (show ¬ i = p by omega)]
        exact ⟨(h.2 i (by omega)).1, this⟩
      · subst h1
        simp only [if_neg (Nat.lt_irrefl i), if_true]
        exact ⟨hx, trivial, x2, x3⟩
      · have := hhi i h1 (by omega)
        simp only [if_neg (show ¬ i < p by omega), if_neg (show ¬ i = p by omega)]
        exact ⟨(h.2 (i - 1) (by omega)).1, this⟩
    · unfold insF
      rcases Nat.lt_trichotomy i p with h1 | h1 | h1
      · rw [if_pos h1]
        rcases Nat.lt_trichotomy j p with h2 | h2 | h2
        · rw [if_pos h2]; exact hsr i j hij (by omega)
        · subst h2
          rw [if_neg (by omega), if_pos rfl]
          rcases lnB_tot (f i) x with e | e | e
          · exact absurd e (hne i (by omega))
          · exact e
          · exact absurd e (ha i h1)
        · rw [if_neg (by omega), if_neg (by omega)]; exact hsr i (j - 1) (by omega) (by omega)
      · subst h1
        rw [if_neg (by omega), if_pos rfl, if_neg (by omega), if_neg (by omega)]
        exact hb (j - 1) (by omega) (by omega)
      · rw [if_neg (by omega), if_neg (by omega), if_neg (by omega), if_neg (by omega)]
        exact hsr (i - 1) (j - 1) (by omega) (by omega)
    · constructor
      · rintro ⟨i, hi, rfl⟩
        unfold insF
        rcases Nat.lt_trichotomy i p with h1 | h1 | h1
        · rw [if_pos h1]; exact Or.inr ⟨i, by omega, rfl⟩
        · rw [if_neg (by omega), if_pos h1]; exact Or.inl rfl
        · rw [if_neg (by omega), if_neg (by omega)]; exact Or.inr ⟨i - 1, by omega, rfl⟩
      · rintro (rfl | ⟨i, hi, rfl⟩)
        · exact ⟨p, by omega, by unfold insF; rw [if_neg (by omega), if_pos rfl]⟩
        · rcases Nat.lt_or_ge i p with h1 | h1
          · exact ⟨i, by omega, by unfold insF; rw [if_pos h1]⟩
          · exact ⟨i + 1, by omega, by unfold insF; rw [if_neg (by omega), if_neg (by omega)]; rfl⟩
    · exact kpt_sv (kpt_sv (kpt_sv (kpt_sv hk (by omega) (by omega)) (by omega) (by omega)) (by omega) (by omega)) (by omega) (by omega)
