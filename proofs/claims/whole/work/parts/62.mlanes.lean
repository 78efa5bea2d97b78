theorem n4s (k s : Nat) : (4 : Int32) * nI k + nI s = nI (4 * k + s) := by rw [n4]; exact nI_add _ _
theorem n42s (k s : Nat) : (4 : Int32) * nI k + 2 + nI s = nI (4 * k + 2 + s) := by rw [n4_2]; exact nI_add _ _
theorem m_isLane {st : GS} {n : Nat} {b : Bx} {rs : List Int} {S : Int32} (h : mIs st n b rs) (hn : n ≤ 8) (hS : ∀ k ∈ idS S, k < n) {s : Nat} (hs : s < 2) {fr to : Int32} : ∃ v, f_X8_isLane S (nI s) fr to st = some v ∧ ((v = 1 ∧ ∀ k ∈ idS S, ¬ (bg b s k < to.toInt ∧ fr.toInt < en b s k)) ∨ (v = 0 ∧ ¬ ∀ k ∈ idS S, ¬ (bg b s k < to.toInt ∧ fr.toInt < en b s k))) := by
  show ok (f_X8_isLane S (nI s) fr to st) _
  unfold f_X8_isLane
  refine ok_for n (fun i z => z = nI i ∧ ∀ k ∈ idS S, k < i → ¬ (bg b s k < to.toInt ∧ fr.toInt < en b s k)) _ ?_ ?_ 0 _ (Nat.zero_le _) ⟨rfl, fun k _ hk => absurd hk (Nat.not_lt_zero _)⟩
  · rintro i z hi ⟨rfl, hd⟩
    show ok (f_X8_isLane_L3 S (nI s) fr to st (nI i)) _
    unfold f_X8_isLane_L3
    rw [h.1, if_neg (nI_ge hi (by omega))]
    rw [n42s, n4s, gd_n (show 4 * i + s < 32 by omega) (by omega), gd_n (show 4 * i + 2 + s < 32 by omega) (by omega), nI_clamp (show 4 * i + s < 2 ^ 31 by omega), nI_clamp (show 4 * i + 2 + s < 2 ^ 31 by omega)]
    have lt_i : ∀ j, j < i + 1 → j = i ∨ j < i := fun j hj => by omega
    have e1 := h.gB hi hs
    have e2 := h.gF hi hs
    refine m_has_ok (show i < 8 by omega) (fun hb => ?_) (fun hb => ?_)
    · rw [if_neg (by decide)]
      refine ok_if (fun c => ?_) (fun c => ?_)
      · rw [le32, e1] at c
        refine ok_lt (ok_some (Or.inl ⟨_, rfl, nI_p1 i, fun k hk hlt => ?_⟩))
        rcases lt_i k hlt with rfl | q
        · omega
        · exact hd k hk q
      · rw [le32, e1] at c
        refine ok_if (fun c2 => ?_) (fun c2 => ?_)
        · rw [le32, e2] at c2
          refine ok_lt (ok_some (Or.inl ⟨_, rfl, nI_p1 i, fun k hk hlt => ?_⟩))
          rcases lt_i k hlt with rfl | q
          · omega
          · exact hd k hk q
        · rw [le32, e2] at c2
          exact ok_some (Or.inr ⟨_, rfl, Or.inr ⟨rfl, fun q => q i (idS_mem.mpr ⟨by omega, hb⟩) ⟨by omega, by omega⟩⟩⟩)
    · rw [if_pos rfl]
      refine ok_lt (ok_some (Or.inl ⟨_, rfl, nI_p1 i, fun k hk hlt => ?_⟩))
      rcases lt_i k hlt with rfl | q
      · have := (idS_mem.mp hk).2; rw [hb] at this; cases this
      · exact hd k hk q
  · rintro z ⟨rfl, hd⟩
    show ok (f_X8_isLane_L3 S (nI s) fr to st (nI n)) _
    unfold f_X8_isLane_L3
    rw [h.1, if_pos (nI_le (Nat.le_refl _) (by omega))]
    exact ok_some ⟨_, rfl, Or.inl ⟨rfl, fun k hk => hd k hk (hS k hk)⟩⟩
def lnMd (st : GS) (B : Option Ln) : Prop := match B with
  | none => gt st 0 12 = -1 ∧ gt st 0 13 = -1 ∧ gt st 0 14 = 0
  | some l => gt st 0 12 = nI l.1 ∧ (gt st 0 13).toInt = l.2.1 ∧ (gt st 0 14).toInt = l.2.2
/-- what a search for lanes leaves as it was -/
def lnK (st st' : GS) : Prop := gl st' = gl st ∧ ∀ c j, (c ≠ 0 ∨ (j ≠ 12 ∧ j ≠ 13 ∧ j ≠ 14)) → gt st' c j = gt st c j
theorem lnK_rf (st : GS) : lnK st st := ⟨rfl, fun _ _ _ => rfl⟩
theorem lnK_tr {a b c : GS} (h : lnK a b) (h2 : lnK b c) : lnK a c := ⟨h2.1.trans h.1, fun x j hx => (h2.2 x j hx).trans (h.2 x j hx)⟩
theorem lnK_m {st st' : GS} {n : Nat} {b : Bx} {rs : List Int} (hk : lnK st st') (h : mIs st n b rs) : mIs st' n b rs := mIs_keep h (hk.2 _ _ (by omega)) (hk.2 _ _ (by omega)) (fun c j hc => hk.2 _ _ (by omega))
def dmd (B : Option Ln) (m : Ln) : Prop := ∃ l, B = some l ∧ (m = l ∨ lnB l m)
def bstOK (b : Bx) (ids : List Nat) (s : Nat) (B : Option Ln) : Prop := ∀ l, B = some l → isLn b ids l ∧ s ≤ l.1
theorem m_try {st : GS} {n : Nat} {b : Bx} {rs : List Int} {S : Int32} (h : mIs st n b rs) (hp : okP n b rs) (hS : ∀ k ∈ idS S, k < n) {s : Nat} (hs : s < 2) {B : Option Ln} (hB : lnMd st B) (hOK : bstOK b (idS S) s B) {i j : Nat} (hi : i ∈ idS S) (hj : j ∈ idS S) {fr to : Int32} (hfr : fr.toInt = en b s i) (hto : to.toInt = bg b s j) :
    ok (f_X8_tryLane S (nI s) fr to st) (fun st' => ∃ B', lnMd st' B' ∧ bstOK b (idS S) s B' ∧ (∀ m, dmd B m → dmd B' m) ∧ (isLn b (idS S) (s, en b s i, bg b s j - en b s i) → dmd B' (s, en b s i, bg b s j - en b s i)) ∧ lnK st st') := by
  have hn := hp.1
  have small : ∀ k, k ∈ idS S → -1 ≤ bg b s k ∧ bg b s k < en b s k ∧ en b s k ≤ 1000 := fun k hk => by
    obtain ⟨-, p1, p2⟩ := hp.2.2.2 k (hS k hk)
    match s, hs with
    | 0, _ => exact p1
    | 1, _ => exact p2
  have si := small i hi
  have sj := small j hj
  have hw : (to - fr).toInt = bg b s j - en b s i := by rw [sub32 (by omega) (by omega)]; omega
  unfold f_X8_tryLane
  have hbet : ∃ x2 : Int32, (if gt st 0 14 < to - fr then some (1 : Int32) else if to - fr = gt st 0 14 then (if nI s = gt st 0 12 then (if gt st 0 13 ≤ fr then some 0 else some 1) else some 0) else some 0) = some x2 ∧ (0 < bg b s j - en b s i → (x2 = 0 ∧ dmd B (s, en b s i, bg b s j - en b s i)) ∨ (x2 = 1 ∧ ∀ l, B = some l → lnB (s, en b s i, bg b s j - en b s i) l)) := by
    cases B with
    | none =>
      obtain ⟨b1, b2, b3⟩ := hB
      rw [b3]
      by_cases c : (0 : Int32) < to - fr
      · rw [if_pos c]; exact ⟨1, rfl, fun _ => Or.inr ⟨rfl, fun l hl => by cases hl⟩⟩
      · have c' : ¬ 0 < bg b s j - en b s i := by rw [lt32, l32_0, hw] at c; exact c
        by_cases c2 : to - fr = 0
        · rw [if_neg c, if_pos c2]
          split
          · split <;> exact ⟨_, rfl, fun q => absurd q c'⟩
          · exact ⟨_, rfl, fun q => absurd q c'⟩
        · rw [if_neg c, if_neg c2]; exact ⟨_, rfl, fun q => absurd q c'⟩
    | some l =>
      obtain ⟨b1, b2, b3⟩ := hB
      obtain ⟨hl, hsl⟩ := hOK l rfl
      have hl2 := hl.1
      have hne : ∀ x : Int32, ∀ P : Prop, (0 < bg b s j - en b s i → ¬ lnB (s, en b s i, bg b s j - en b s i) l) → (0 < bg b s j - en b s i → (x = 0 → ((x = 0 ∧ dmd (some l) (s, en b s i, bg b s j - en b s i)) ∨ (x = 1 ∧ ∀ l', some l = some l' → lnB (s, en b s i, bg b s j - en b s i) l')))) := fun x P hx hpos hx0 => by
        left
        refine ⟨hx0, l, rfl, ?_⟩
        rcases lnB_tot (s, en b s i, bg b s j - en b s i) l with q | q | q
        · exact Or.inl q
        · exact absurd q (hx hpos)
        · exact Or.inr q
      by_cases c : gt st 0 14 < to - fr
      · rw [if_pos c]
        rw [lt32, hw, b3] at c
        exact ⟨1, rfl, fun _ => Or.inr ⟨rfl, fun l' hl' => by cases hl'; exact Or.inl c⟩⟩
      · have c' := c
        rw [lt32, hw, b3] at c'
        rw [if_neg c]
        by_cases c2 : to - fr = gt st 0 14
        · have c2' := c2
          rw [eq32, hw, b3] at c2'
          rw [if_pos c2, b1]
          by_cases c3 : nI s = nI l.1
          · have c3' := nI_inj (by omega) (by omega) c3
            rw [if_pos c3]
            by_cases c4 : gt st 0 13 ≤ fr
            · rw [if_pos c4]
              rw [le32, b2, hfr] at c4
              exact ⟨0, rfl, fun hpos => hne 0 True (fun _ q => by unfold lnB at q; simp only at q; omega) hpos rfl⟩
            · rw [if_neg c4]
              rw [le32, b2, hfr] at c4
              exact ⟨1, rfl, fun hpos => Or.inr ⟨rfl, fun l' hl' => by cases hl'; unfold lnB; simp only; omega⟩⟩
          · have c3' : s ≠ l.1 := fun q => c3 (by rw [q])
            rw [if_neg c3]
            exact ⟨0, rfl, fun hpos => hne 0 True (fun _ q => by unfold lnB at q; simp only at q; omega) hpos rfl⟩
        · have c2' : ¬ bg b s j - en b s i = l.2.2 := fun q => c2 ((eq32 _ _).mpr (by rw [hw, b3]; exact q))
          rw [if_neg c2]
          exact ⟨0, rfl, fun hpos => hne 0 True (fun _ q => by unfold lnB at q; simp only at q; omega) hpos rfl⟩
  obtain ⟨x2, e2, hx2⟩ := hbet
  rw [e2, bI1_s]
  refine ok_if (fun c => ?_) (fun c => ?_)
  · rw [le32, hto, hfr] at c
    exact ok_some ⟨B, hB, hOK, fun m hm => hm, fun q => absurd q.2.1 (by show ¬ 0 < bg b s j - en b s i; omega), lnK_rf _⟩
  · rw [le32, hto, hfr] at c
    have hx3 := hx2 (by omega)
    rcases hx3 with ⟨rfl, hd⟩ | ⟨rfl, hd⟩
    · rw [if_pos rfl]
      exact ok_some ⟨B, hB, hOK, fun m hm => hm, fun _ => hd, lnK_rf _⟩
    · rw [if_neg (by decide)]
      obtain ⟨v, ev, hv⟩ := m_isLane (fr := fr) (to := to) h hn hS hs
      rw [ev, bI1_s]
      rw [hto, hfr] at hv
      rcases hv with ⟨rfl, hv⟩ | ⟨rfl, hv⟩
      · rw [if_neg (by decide)]
        simp only [lt_]
        have hlane : isLn b (idS S) (s, en b s i, bg b s j - en b s i) := ⟨hs, by show 0 < bg b s j - en b s i; omega, ⟨i, hi, rfl⟩, ⟨j, hj, by show bg b s j = en b s i + (bg b s j - en b s i); omega⟩, fun k hk q => hv k hk (by
          have q' : bg b s k < en b s i + (bg b s j - en b s i) ∧ en b s i < en b s k := q
          omega)⟩
        refine ok_some ⟨some (s, en b s i, bg b s j - en b s i), ⟨?_, ?_, ?_⟩, fun l hl => by cases hl; exact ⟨hlane, Nat.le_refl _⟩, fun m hm => ?_, fun _ => ⟨_, rfl, Or.inl rfl⟩, ⟨rfl, fun c j hc => ?_⟩⟩
        · rw [gt_sv_j (by decide), gt_sv_j (by decide), gt_sv_same]
        · rw [gt_sv_j (by decide), gt_sv_same]; exact hfr
        · rw [gt_sv_same]; exact hw
        · obtain ⟨l, hl, hm2⟩ := hm
          refine ⟨_, rfl, Or.inr ?_⟩
          rcases hm2 with rfl | hm2
          · exact hd m hl
          · exact lnB_tr (hd l hl) hm2
        · rcases hc with hc | hc
          · rw [gt_sv_o hc, gt_sv_o hc, gt_sv_o hc]
          · rw [gt_sv_j hc.2.2, gt_sv_j hc.2.1, gt_sv_j hc.1]
      · rw [if_pos rfl]
        refine ok_some ⟨B, hB, hOK, fun m hm => hm, fun q => absurd (fun k hk z => q.2.2.2.2 k hk ?_) hv, lnK_rf _⟩
        show bg b s k < en b s i + (bg b s j - en b s i) ∧ en b s i < en b s k
        omega
theorem nI_div8 {a : Nat} (h : a < 64) : nI a / 8 = nI (a / 8) := pk_div (d := 8) (by omega) (by omega) (by omega)
theorem nI_rem8 {a : Nat} (h : a < 64) : irem (nI a) 8 = nI (a % 8) := pk_rem (d := 8) (by omega) (by omega) (by omega)
theorem m_side {st : GS} {n : Nat} {b : Bx} {rs : List Int} {S : Int32} (h : mIs st n b rs) (hp : okP n b rs) (hS : ∀ k ∈ idS S, k < n) {s : Nat} (hs : s < 2) {B : Option Ln} (hB : lnMd st B) (hOK : bstOK b (idS S) s B) :
    ok (lpx (uc2 (f_X8_layLane_L23 S (nI s))) (0, st)) (fun st' => ∃ B', lnMd st' B' ∧ bstOK b (idS S) s B' ∧ (∀ m, dmd B m → dmd B' m) ∧ (∀ m, isLn b (idS S) m → m.1 = s → dmd B' m) ∧ lnK st st') := by
  have hn := hp.1
  refine ok_for 64 (fun a z => z.1 = nI a ∧ ∃ B', lnMd z.2 B' ∧ bstOK b (idS S) s B' ∧ (∀ m, dmd B m → dmd B' m) ∧ (∀ i j, i ∈ idS S → j ∈ idS S → 8 * i + j < a → isLn b (idS S) (s, en b s i, bg b s j - en b s i) → dmd B' (s, en b s i, bg b s j - en b s i)) ∧ lnK st z.2) _ ?_ ?_ 0 _ (Nat.zero_le _) ⟨rfl, B, hB, hOK, fun m hm => hm, fun i j _ _ q => absurd q (Nat.not_lt_zero _), lnK_rf _⟩
  · rintro a ⟨z, s8⟩ ha ⟨h1, B', h2, h3, h4, h5, h6⟩
    simp only at h1 h2 h6
    subst h1
    show ok (f_X8_layLane_L23 S (nI s) (nI a) s8) _
    unfold f_X8_layLane_L23
    have n64 : ¬ (64 : Int32) ≤ nI a := by rw [show (64 : Int32) = nI 64 from rfl, nI_leI (by omega) (by omega)]; omega
    rw [if_neg n64, nI_div8 ha, nI_rem8 ha]
    refine ok_lt (ok_lt ?_)
    have d8 : a / 8 < 8 := by omega
    have r8 : a % 8 < 8 := by omega
    have dec : ∀ i j, i ∈ idS S → j ∈ idS S → 8 * i + j < a + 1 → (i = a / 8 ∧ j = a % 8) ∨ 8 * i + j < a := fun i j hi hj q => by
      have := (idS_mem.mp hi).1
      have := (idS_mem.mp hj).1
      omega
    have nxt : ∀ (hno : ¬ (a / 8 ∈ idS S ∧ a % 8 ∈ idS S)), ok (lt_ (nI a + 1) (fun x14 => some (Sum.inl (x14, s8)))) (fun q => (∃ s', q = Sum.inl s' ∧ s'.1 = nI (a + 1) ∧ ∃ B', lnMd s'.2 B' ∧ bstOK b (idS S) s B' ∧ (∀ m, dmd B m → dmd B' m) ∧ (∀ i j, i ∈ idS S → j ∈ idS S → 8 * i + j < a + 1 → isLn b (idS S) (s, en b s i, bg b s j - en b s i) → dmd B' (s, en b s i, bg b s j - en b s i)) ∧ lnK st s'.2) ∨ ∃ r : GS, q = Sum.inr r ∧ ∃ B', lnMd r B' ∧ bstOK b (idS S) s B' ∧ (∀ m, dmd B m → dmd B' m) ∧ (∀ m, isLn b (idS S) m → m.1 = s → dmd B' m) ∧ lnK st r) := by
      intro hno
      refine ok_lt (ok_some (Or.inl ⟨_, rfl, nI_p1 a, B', h2, h3, h4, fun i j hi hj q => ?_, h6⟩))
      rcases dec i j hi hj q with ⟨q1, q2⟩ | q1
      · exact absurd ⟨q1 ▸ hi, q2 ▸ hj⟩ hno
      · exact h5 i j hi hj q1
    refine m_has_ok d8 (fun b1 => ?_) (fun b1 => ?_)
    · rw [if_neg (by decide)]
      refine m_has_ok r8 (fun b2 => ?_) (fun b2 => ?_)
      · rw [if_neg (by decide)]
        have hi : a / 8 ∈ idS S := idS_mem.mpr ⟨d8, b1⟩
        have hj : a % 8 ∈ idS S := idS_mem.mpr ⟨r8, b2⟩
        rw [n42s, n4s, gd_n (show 4 * (a / 8) + 2 + s < 32 by omega) (by omega), gd_n (show 4 * (a % 8) + s < 32 by omega) (by omega), nI_clamp (show 4 * (a / 8) + 2 + s < 2 ^ 31 by omega), nI_clamp (show 4 * (a % 8) + s < 2 ^ 31 by omega)]
        have hm8 := lnK_m h6 h
        refine ok_bI1 (m_try hm8 hp hS hs h2 h3 hi hj (hm8.gF (hS _ hi) hs) (hm8.gB (hS _ hj) hs)) ?_
        rintro s20 ⟨B2, g1, g2, g3, g4, g5⟩
        refine ok_lt (ok_some (Or.inl ⟨_, rfl, nI_p1 a, B2, g1, g2, fun m hm => g3 m (h4 m hm), fun i j hi hj q ql => ?_, lnK_tr h6 g5⟩))
        rcases dec i j hi hj q with ⟨q1, q2⟩ | q1
        · subst q1; subst q2; exact g4 ql
        · exact g3 _ (h5 i j hi hj q1 ql)
      · rw [if_pos rfl]
        exact nxt (fun q => by have := (idS_mem.mp q.2).2; rw [b2] at this; cases this)
    · rw [if_pos rfl]
      exact nxt (fun q => by have := (idS_mem.mp q.1).2; rw [b1] at this; cases this)
  · rintro ⟨z, s8⟩ ⟨h1, B', h2, h3, h4, h5, h6⟩
    simp only at h1 h2 h6
    subst h1
    show ok (f_X8_layLane_L23 S (nI s) (nI 64) s8) _
    unfold f_X8_layLane_L23
    rw [if_pos (by decide)]
    refine ok_some ⟨_, rfl, B', h2, h3, h4, fun m hm hms => ?_, h6⟩
    obtain ⟨m1, m2, m3⟩ := m
    simp only at hms
    subst hms
    obtain ⟨i, hi, e1⟩ := hm.2.2.1
    obtain ⟨j, hj, e2⟩ := hm.2.2.2.1
    have e1 : en b m1 i = m2 := e1
    have e2 : bg b m1 j = m2 + m3 := e2
    have hm' := hm
    have e3 : ((m1, m2, m3) : Ln) = (m1, en b m1 i, bg b m1 j - en b m1 i) := by rw [e1, e2]; congr 2; omega
    rw [e3] at hm' ⊢
    exact h5 i j hi hj (by have := (idS_mem.mp hi).1; have := (idS_mem.mp hj).1; omega) hm'
/-- the widest lane of a set -/
theorem m_lane {st : GS} {n : Nat} {b : Bx} {rs : List Int} {S : Int32} (h : mIs st n b rs) (hp : okP n b rs) (hS : ∀ k ∈ idS S, k < n) : ok (f_X8_layLane S st) (fun st' => lnMd st' (best b (idS S)) ∧ lnK st st') := by
  unfold f_X8_layLane
  simp only [lt_]
  generalize h0 : sv (sv (sv st 0 12 (-1)) 0 13 (-1)) 0 14 0 = s0
  have z1 : lnMd s0 none := by
    rw [← h0]
    refine ⟨?_, ?_, gt_sv_same _ _ _ _⟩
    · rw [gt_sv_j (by decide), gt_sv_j (by decide), gt_sv_same]
    · rw [gt_sv_j (by decide), gt_sv_same]
  have z2 : lnK st s0 := by
    rw [← h0]
    refine ⟨rfl, fun c j hc => ?_⟩
    rcases hc with hc | hc
    · rw [gt_sv_o hc, gt_sv_o hc, gt_sv_o hc]
    · rw [gt_sv_j hc.2.2, gt_sv_j hc.2.1, gt_sv_j hc.1]
  have goal : ok (lpx (uc2 (f_X8_layLane_L17 S)) (1, s0)) (fun st' => lnMd st' (best b (idS S)) ∧ lnK st st') := by
    have hm0 := lnK_m z2 h
    obtain ⟨s1, e1, B1, g1, g2, g3, g4, g5⟩ := m_side (s := 1) hm0 hp hS (by decide) z1 (fun l hl => by cases hl)
    have hm1 := lnK_m g5 hm0
    obtain ⟨s2, e2, B2, k1, k2, k3, k4, k5⟩ := m_side (s := 0) hm1 hp hS (by decide) g1 (fun l hl => ⟨(g2 l hl).1, Nat.zero_le _⟩)
    have st1 : uc2 (f_X8_layLane_L17 S) (1, s0) = some (.inl (0, s1)) := by
      show f_X8_layLane_L17 S 1 s0 = _
      unfold f_X8_layLane_L17
      have e1' : lpx (uc2 (f_X8_layLane_L23 S 1)) (0, s0) = some s1 := e1
      rw [if_neg (by decide), e1', bI1_s]
      rfl
    have st2 : uc2 (f_X8_layLane_L17 S) (0, s1) = some (.inl (-1, s2)) := by
      show f_X8_layLane_L17 S 0 s1 = _
      unfold f_X8_layLane_L17
      have e2' : lpx (uc2 (f_X8_layLane_L23 S 0)) (0, s1) = some s2 := e2
      rw [if_neg (by decide), e2', bI1_s]
      rfl
    have st3 : uc2 (f_X8_layLane_L17 S) (-1, s2) = some (.inr s2) := by
      show f_X8_layLane_L17 S (-1) s2 = _
      unfold f_X8_layLane_L17
      rw [if_pos (by decide)]
    refine ⟨s2, by rw [lpx_go st1, lpx_go st2, lpx_end st3], ?_, lnK_tr z2 (lnK_tr g5 k5)⟩
    have hall : ∀ m, isLn b (idS S) m → dmd B2 m := fun m hm => by
      rcases isLn_s hm with q | q
      · exact k4 m hm q
      · exact k3 m (g4 m hm q)
    have : best b (idS S) = B2 := by
      cases B2 with
      | none => exact best_none (fun l hl => by obtain ⟨q, hq, -⟩ := hall l hl; cases hq)
      | some l =>
        refine best_some ⟨(k2 l rfl).1, fun m hm => ?_⟩
        obtain ⟨q, hq, hq2⟩ := hall m hm
        cases hq; exact hq2
    rw [this]; exact k1
  exact ok_bI1 goal (fun r hr => ok_some hr)
theorem m_first {st : GS} {n : Nat} {b : Bx} {rs : List Int} {S : Int32} (h : mIs st n b rs) (hn : n ≤ 8) (hS : ∀ k ∈ idS S, k < n) {l : Ln} (hl : l.1 < 2) (hB : lnMd st (some l)) : ∃ r, f_X8_firstSide S st = some r ∧ idS r = fsd b l (idS S) ∧ sml r := by
  obtain ⟨b1, b2, b3⟩ := hB
  show ok (f_X8_firstSide S st) (fun r => idS r = fsd b l (idS S) ∧ sml r)
  unfold f_X8_firstSide
  refine ok_bI1 (P := fun r => idS r = fsd b l (idS S) ∧ sml r) ?_ (fun r hr => ok_some hr)
  refine ok_for n (fun i z => z.2 = nI i ∧ ∀ k, bt z.1 k = (bt S k && decide (k < i) && decide (en b l.1 k ≤ l.2.1))) _ ?_ ?_ 0 _ (Nat.zero_le _) ⟨rfl, fun k => by simp [b_0]⟩
  · rintro i ⟨z1, z2⟩ hi ⟨h1, h2⟩
    simp only at h1 h2
    subst h1
    show ok (f_X8_firstSide_L4 S st z1 (nI i)) _
    unfold f_X8_firstSide_L4
    rw [h.1, if_neg (nI_ge hi (by omega)), b1, n42s, gd_n (show 4 * i + 2 + l.1 < 32 by omega) (by omega), nI_clamp (show 4 * i + 2 + l.1 < 2 ^ 31 by omega)]
    have e2 := h.gF hi hl
    have or0 : z1 ||| 0 = z1 := by apply b_ext; intro j _; rw [b_or, b_0, Bool.or_false]
    refine m_has_ok (show i < 8 by omega) (fun hb => ?_) (fun hb => ?_)
    · rw [if_neg (by decide)]
      refine ok_if (fun c => ?_) (fun c => ?_)
      · rw [lt32, b2, e2] at c
        refine ok_lt (ok_lt (ok_some (Or.inl ⟨_, rfl, nI_p1 i, fun k => ?_⟩)))
        rw [or0, h2 k]
        by_cases hk : k = i
        · subst hk
          have c2 : ¬ en b l.1 k ≤ l.2.1 := by omega
          simp [c2]
        · by_cases q : k < i
          · have q2 : k < i + 1 := by omega
            simp [q, q2]
          · have q2 : ¬ k < i + 1 := by omega
            simp [q, q2]
      · rw [lt32, b2, e2] at c
        refine ok_lt (ok_lt (ok_some (Or.inl ⟨_, rfl, nI_p1 i, fun k => ?_⟩)))
        rw [b_or, h2 k, bt_shl (show i < 8 by omega)]
        by_cases hk : k = i
        · subst hk
          have c2 : en b l.1 k ≤ l.2.1 := by omega
          simp [c2, hb]
        · by_cases q : k < i
          · have q2 : k < i + 1 := by omega
            simp [q, q2, hk]
          · have q2 : ¬ k < i + 1 := by omega
            simp [q, q2, hk]
    · rw [if_pos rfl]
      refine ok_lt (ok_lt (ok_some (Or.inl ⟨_, rfl, nI_p1 i, fun k => ?_⟩)))
      rw [or0, h2 k]
      by_cases hk : k = i
      · subst hk; simp [hb]
      · by_cases q : k < i
        · have q2 : k < i + 1 := by omega
          simp [q, q2]
        · have q2 : ¬ k < i + 1 := by omega
          simp [q, q2]
  · rintro ⟨z1, z2⟩ ⟨h1, h2⟩
    simp only at h1 h2
    subst h1
    show ok (f_X8_firstSide_L4 S st z1 (nI n)) _
    unfold f_X8_firstSide_L4
    rw [h.1, if_pos (nI_le (Nat.le_refl _) (by omega))]
    refine ok_some ⟨_, rfl, ?_, fun i hi => ?_⟩
    · refine s_filter (fun k hk => ?_)
      rw [h2 k]
      cases hb : bt S k
      · rfl
      · have := hS k (idS_mem.mpr ⟨hk, hb⟩)
        simp [this]
    · rw [h2 i]
      have : ¬ i < n := by omega
      simp [this]
