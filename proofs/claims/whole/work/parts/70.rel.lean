-- THE RELATION of the two states
def okC (n : Nat) (b : Bx) (rs : List Int) : Prop := n ≤ 8 ∧ rs.length ≤ 4 ∧ (∀ r ∈ rs, 0 ≤ r ∧ r ≤ 3) ∧ ∀ k, k < n → (0 ≤ b k 0 ∧ b k 0 ≤ 4) ∧ (0 ≤ b k 1 ∧ b k 1 < b k 3 ∧ b k 3 ≤ 999) ∧ (0 ≤ b k 2 ∧ b k 2 < b k 4 ∧ b k 4 ≤ 999)
theorem okC.p {n : Nat} {b : Bx} {rs : List Int} (h : okC n b rs) : okP n b rs := ⟨h.1, h.2.1, h.2.2.1, fun k hk => by have := h.2.2.2 k hk; omega⟩
def txR (X M : GS) (t : Nat) : Prop := t ≤ 54 ∧ gt X 1 1 = nI t ∧ gt M 0 1 = nI t ∧ ∀ i, i < t → gt X 2 i = gt M 1 i ∧ 1 ≤ (gt M 1 i).toInt ∧ (gt M 1 i).toInt ≤ 126
/-- the kinds of which it is so -/
def soK (w : Nat) : Int32 := ([2, 20, 16, 8] : List Int32).getD w 0
def snR (X : GS) (o : Nat) (M : GS) (a q s : Nat) : Prop := s ≤ 6 ∧ gt X o 2 = nI s ∧ gt M 0 q = nI s ∧ ∀ i, i < s → gt X (o + 1) i = gt M a (3 * i) ∧ ∃ w, w < 4 ∧ gt M a (3 * i + 1) = nI w ∧ ((gt M a (3 * i + 2) = 1 ∧ gt X (o + 2) i = soK w) ∨ (gt M a (3 * i + 2) = 0 ∧ gt X (o + 2) i = 31 - soK w))
/-- the page that the model keeps -/
def mI2 (st : GS) (n : Nat) (b : Bx) (rs : List Int) : Prop := gt st 0 32 = nI n ∧ gt st 0 33 = nI rs.length ∧ (∀ k, k < n → (gt st 17 k).toInt = b k 0 ∧ ∀ c, c < 4 → (gt st 18 (4 * k + c)).toInt = b k (1 + c)) ∧ (∀ i, i < rs.length → (gt st 19 i).toInt = rs.getD i 0)
def ktR (X M : GS) (p : Nat) : Prop := (gt X 0 5 = 0 ∧ (gt M 0 31).toInt < (p : Int)) ∨ (gt X 0 5 = 1 ∧ gt M 0 31 = nI p ∧ ∃ n b rs s, okC n b rs ∧ 0 < n ∧ shIs X 31 n b rs ∧ mI2 M n b rs ∧ snR X 38 M 20 34 s)
def RelA (n : Nat) (b : Bx) (rs : List Int) (t p s : Nat) (X M : GS) : Prop := okC n b rs ∧ shIs X 4 n b rs ∧ reads X 3 n b rs ∧ mIs M n b rs ∧ txR X M t ∧ (gt X 0 6 = nI p ∧ gt M 0 6 = nI p) ∧ snR X 28 M 14 26 s ∧ ktR X M p
def Rel (c : Nat) (X M : GS) : Prop := ∃ n b rs t p s, p ≤ c ∧ RelA n b rs t p s X M
theorem Rel_up {c : Nat} {X M : GS} (h : Rel c X M) : Rel (c + 1) X M := by
  obtain ⟨n, b, rs, t, p, s, hp, h⟩ := h
  exact ⟨n, b, rs, t, p, s, by omega, h⟩
theorem Rel_of {c n : Nat} {b : Bx} {rs : List Int} {t p s : Nat} {X M : GS} (hp : p ≤ c) (h : RelA n b rs t p s X M) : Rel (c + 1) X M := ⟨n, b, rs, t, p, s, by omega, h⟩
-- what matters of both states
def mW (c j : Nat) : Prop := (c = 0 ∧ (j = 1 ∨ j = 5 ∨ j = 6 ∨ j = 10 ∨ j = 26 ∨ j = 31 ∨ j = 32 ∨ j = 33 ∨ j = 34)) ∨ c = 1 ∨ c = 2 ∨ c = 3 ∨ c = 4 ∨ c = 14 ∨ 17 ≤ c
def mK (M M' : GS) : Prop := ∀ c j, mW c j → gt M' c j = gt M c j
def xW (c : Nat) : Prop := c < 22 ∨ (25 < c ∧ c < 41)
def xK (X X' : GS) : Prop := ∀ c j, xW c → gt X' c j = gt X c j
theorem mK_rf (M : GS) : mK M M := fun _ _ _ => rfl
theorem mK_tr {a b c : GS} (h : mK a b) (h2 : mK b c) : mK a c := fun x j w => (h2 x j w).trans (h x j w)
theorem xK_rf (M : GS) : xK M M := fun _ _ _ => rfl
theorem xK_tr {a b c : GS} (h : xK a b) (h2 : xK b c) : xK a c := fun x j w => (h2 x j w).trans (h x j w)
theorem oK_mK {a b : GS} (h : oK a b) : mK a b := fun c j w => h.2 c j (by unfold mW at w; omega) (by unfold mW at w; omega) (by unfold mW at w; omega) (by unfold mW at w; omega) (by unfold mW at w; omega) (by unfold mW at w; omega) (by unfold mW at w; omega) (by unfold mW at w; omega)
theorem mI2_keep {st st' : GS} {n : Nat} {b : Bx} {rs : List Int} (h : mI2 st n b rs) (h0 : gt st' 0 32 = gt st 0 32) (h1 : gt st' 0 33 = gt st 0 33) (hk : ∀ c j, (c = 17 ∨ c = 18 ∨ c = 19) → gt st' c j = gt st c j) : mI2 st' n b rs := by
  obtain ⟨g1, g2, g3, g4⟩ := h
  refine ⟨by rw [h0]; exact g1, by rw [h1]; exact g2, fun k hkn => ⟨?_, fun c hc => ?_⟩, fun i hi => ?_⟩
  · rw [hk _ _ (by omega)]; exact (g3 k hkn).1
  · rw [hk _ _ (by omega)]; exact (g3 k hkn).2 c hc
  · rw [hk _ _ (by omega)]; exact g4 i hi
theorem snR_keep {X X' M M' : GS} {o a q s : Nat} (h : snR X o M a q s) (hx : ∀ c j, o ≤ c → c ≤ o + 2 → gt X' c j = gt X c j) (hm : ∀ j, gt M' a j = gt M a j) (hq : gt M' 0 q = gt M 0 q) : snR X' o M' a q s := by
  obtain ⟨g1, g2, g3, g4⟩ := h
  refine ⟨g1, by rw [hx _ _ (by omega) (by omega)]; exact g2, by rw [hq]; exact g3, fun i hi => ?_⟩
  rw [hx _ _ (by omega) (by omega), hx _ _ (by omega) (by omega), hm, hm, hm]
  exact g4 i hi
theorem txR_keep {X X' M M' : GS} {t : Nat} (h : txR X M t) (hx : ∀ c j, (c = 1 ∨ c = 2) → gt X' c j = gt X c j) (hm : ∀ j, gt M' 1 j = gt M 1 j) (hq : gt M' 0 1 = gt M 0 1) : txR X' M' t := by
  obtain ⟨g1, g2, g3, g4⟩ := h
  refine ⟨g1, by rw [hx _ _ (by omega)]; exact g2, by rw [hq]; exact g3, fun i hi => ?_⟩
  rw [hx _ _ (by omega), hm]
  exact g4 i hi
theorem ktR_keep {X X' M M' : GS} {p : Nat} (h : ktR X M p) (h0 : gt X' 0 5 = gt X 0 5) (hx : ∀ c j, 31 ≤ c → c ≤ 40 → gt X' c j = gt X c j) (hm : ∀ c j, 17 ≤ c → gt M' c j = gt M c j) (hq : ∀ j, (j = 31 ∨ j = 32 ∨ j = 33 ∨ j = 34) → gt M' 0 j = gt M 0 j) : ktR X' M' p := by
  rcases h with ⟨g1, g2⟩ | ⟨g1, g2, n, b, rs, s, g3, g4, g5, g6, g7⟩
  · exact Or.inl ⟨by rw [h0]; exact g1, by rw [hq _ (by omega)]; exact g2⟩
  · refine Or.inr ⟨by rw [h0]; exact g1, by rw [hq _ (by omega)]; exact g2, n, b, rs, s, g3, g4, shIs_keep g5 (fun c j q1 q2 => hx _ _ (by omega) (by omega)), mI2_keep g6 (hq _ (by omega)) (hq _ (by omega)) (fun c j hc => hm _ _ (by omega)), snR_keep g7 (fun c j q1 q2 => hx _ _ (by omega) (by omega)) (fun j => hm _ _ (by omega)) (hq _ (by omega))⟩
theorem lvS_keep {st st' : GS} {o L : Nat} {ls : List (List Nat × Nat)} (h : lvS st o L ls) (hk : ∀ c j, (c = o + 11 ∨ c = o + 12) → gt st' c j = gt st c j) : lvS st' o L ls := fun i p hi k hkp => by
  rw [hk _ _ (by omega), hk _ _ (by omega)]; exact h i p hi k hkp
theorem orS_keep {st st' : GS} {o : Nat} {O : List Nat} (h : orS st o O) (hk : ∀ c j, (c = o ∨ c = o + 8 ∨ c = o + 9) → gt st' c j = gt st c j) : orS st' o O := by
  obtain ⟨g1, g2, g3⟩ := h
  refine ⟨by rw [hk _ _ (by omega)]; exact g1, sg_same g2 (fun j _ _ => hk _ _ (by omega)), fun i hi => by rw [hk _ _ (by omega)]; exact g3 i hi⟩
theorem reads_keep {st st' : GS} {o n : Nat} {b : Bx} {rs : List Int} (h : reads st o n b rs) (hk : ∀ c j, o ≤ c → (c < o + 19 ∨ o + 22 < c) → c < o + 24 → gt st' c j = gt st c j) : reads st' o n b rs := by
  obtain ⟨g1, g2, g3, g4, g5, g6, g7, g8⟩ := h
  refine ⟨orS_keep g1 (fun c j hc => hk _ _ (by omega) (by omega) (by omega)), fun k hkn => by rw [hk _ _ (by omega) (by omega) (by omega)]; exact g2 k hkn, by rw [hk _ _ (by omega) (by omega) (by omega)]; exact g3, lvS_keep g4 (fun c j hc => hk _ _ (by omega) (by omega) (by omega)), fun k hkn hb => by rw [hk _ _ (by omega) (by omega) (by omega)]; exact g5 k hkn hb, ctS_keep g6 (fun c j q1 q2 => hk _ _ (by omega) (by omega) (by omega)), by rw [hk _ _ (by omega) (by omega) (by omega)]; exact g7, sg_same g8 (fun j _ _ => hk _ _ (by omega) (by omega) (by omega))⟩
theorem RelA_keep {n : Nat} {b : Bx} {rs : List Int} {t p s : Nat} {X M X' M' : GS} (h : RelA n b rs t p s X M) (hx : xK X X') (hm : mK M M') : RelA n b rs t p s X' M' := by
  obtain ⟨g1, g2, g3, g4, g5, ⟨g6, g6'⟩, g7, g8⟩ := h
  have x1 : ∀ c j, (c < 22 ∨ (25 < c ∧ c < 41)) → gt X' c j = gt X c j := hx
  refine ⟨g1, shIs_keep g2 (fun c j q1 q2 => x1 _ _ (by omega)), reads_keep g3 (fun c j q1 q2 q3 => x1 _ _ (by omega)), mIs_keep g4 (hm _ _ (by unfold mW; omega)) (hm _ _ (by unfold mW; omega)) (fun c j hc => hm _ _ (by unfold mW; omega)), txR_keep g5 (fun c j hc => x1 _ _ (by omega)) (fun j => hm _ _ (by unfold mW; omega)) (hm _ _ (by unfold mW; omega)), ⟨by rw [x1 _ _ (by omega)]; exact g6, by rw [hm _ _ (by unfold mW; omega)]; exact g6'⟩, snR_keep g7 (fun c j q1 q2 => x1 _ _ (by omega)) (fun j => hm _ _ (by unfold mW; omega)) (hm _ _ (by unfold mW; omega)), ktR_keep g8 (x1 _ _ (by omega)) (fun c j q1 q2 => x1 _ _ (by omega)) (fun c j q => hm _ _ (by unfold mW; omega)) (fun j hj => hm _ _ (by unfold mW; omega))⟩
/-- another page, read anew -/
theorem rel_upd {n n' : Nat} {b b' : Bx} {rs rs' : List Int} {t p s : Nat} {X M X2 M2 : GS} (h : RelA n b rs t p s X M) (hc : okC n' b' rs') (hsh : shIs X2 4 n' b' rs') (hX : ∀ c j, (c < 4 ∨ 10 < c) → gt X2 c j = gt X c j) (hM : mIs M2 n' b' rs') (hK : ∀ c j, mW c j → c ≠ 2 → c ≠ 3 → c ≠ 4 → (c ≠ 0 ∨ (j ≠ 5 ∧ j ≠ 10)) → gt M2 c j = gt M c j) :
    ok (f_X3_renew 3 X2) (fun X3 => RelA n' b' rs' t p s X3 M2) := by
  obtain ⟨g1, g2, g3, g4, g5, ⟨g6, g6'⟩, g7, g8⟩ := h
  refine ok_mono (x_renew hsh hc.p) ?_
  rintro X3 ⟨r1, r2⟩
  have x1 : ∀ c j, (c < 3 ∨ 27 < c) → gt X3 c j = gt X c j := fun c j hc => by rw [r2 c j (by omega), hX c j (by omega)]
  exact ⟨hc, shIs_keep hsh (fun c j q1 q2 => r2 _ _ (by omega)), r1, hM, txR_keep g5 (fun c j hc => x1 _ _ (by omega)) (fun j => hK _ _ (by unfold mW; omega) (by omega) (by omega) (by omega) (by omega)) (hK _ _ (by unfold mW; omega) (by omega) (by omega) (by omega) (by omega)), ⟨by rw [x1 _ _ (by omega)]; exact g6, by rw [hK _ _ (by unfold mW; omega) (by omega) (by omega) (by omega) (by omega)]; exact g6'⟩, snR_keep g7 (fun c j q1 q2 => x1 _ _ (by omega)) (fun j => hK _ _ (by unfold mW; omega) (by omega) (by omega) (by omega) (by omega)) (hK _ _ (by unfold mW; omega) (by omega) (by omega) (by omega) (by omega)), ktR_keep g8 (x1 _ _ (by omega)) (fun c j q1 q2 => x1 _ _ (by omega)) (fun c j q => hK _ _ (by unfold mW; omega) (by omega) (by omega) (by omega) (by omega)) (fun j hj => hK _ _ (by unfold mW; omega) (by omega) (by omega) (by omega) (by omega))⟩
-- bounds
theorem in_e (x y z : Int64) : f_X8_in x y z = some (if y ≤ x ∧ x ≤ z then 1 else 0) := by
  unfold f_X8_in
  by_cases h1 : y ≤ x
  · rw [if_neg (by rw [lg_cmp_lt]; exact Int64.not_lt.mpr h1)]
    by_cases h2 : x ≤ z
    · rw [if_neg (by rw [lg_cmp_gt]; exact Int64.not_lt.mpr h2), if_pos ⟨h1, h2⟩]
    · rw [if_pos (by rw [lg_cmp_gt]; exact Int64.not_le.mp h2), if_neg (fun q => h2 q.2)]
  · rw [if_pos (by rw [lg_cmp_lt]; exact Int64.not_le.mp h1), if_neg (fun q => h1 q.1)]
theorem in_c {a : Int32} {lo hi : Int64} {l h : Int} (hl : lo.toInt = l) (hh : hi.toInt = h) : f_X8_in a.toInt64 lo hi = some (if l ≤ a.toInt ∧ a.toInt ≤ h then 1 else 0) := by
  rw [in_e]
  congr 1
  by_cases q : l ≤ a.toInt ∧ a.toInt ≤ h
  · rw [if_pos q, if_pos (by rw [Int64.le_iff_toInt_le, Int64.le_iff_toInt_le, Int32.toInt_toInt64, hl, hh]; exact q)]
  · rw [if_neg q, if_neg (by rw [Int64.le_iff_toInt_le, Int64.le_iff_toInt_le, Int32.toInt_toInt64, hl, hh]; exact q)]
theorem in_1 {a : Int32} {lo hi : Int64} {l h : Int} (hl : lo.toInt = l) (hh : hi.toInt = h) (q : l ≤ a.toInt ∧ a.toInt ≤ h) : f_X8_in a.toInt64 lo hi = some 1 := by rw [in_c hl hh, if_pos q]
theorem in_0 {a : Int32} {lo hi : Int64} {l h : Int} (hl : lo.toInt = l) (hh : hi.toInt = h) (q : ¬ (l ≤ a.toInt ∧ a.toInt ≤ h)) : f_X8_in a.toInt64 lo hi = some 0 := by rw [in_c hl hh, if_neg q]
theorem n_of {a : Int32} {n : Nat} (h0 : 0 ≤ a.toInt) (h1 : a.toInt < (n : Int)) : ∃ k, k < n ∧ a = nI k := by
  have hn := a.toInt_lt
  refine ⟨a.toInt.toNat, by omega, ?_⟩
  rw [eq32, nI_T (by omega)]
  omega
theorem n_small {k : Nat} (h : k < 2147483648) : (nI k).toInt64.toInt = k := by rw [Int32.toInt_toInt64, nI_T h]
/-- whether a number names one of n -/
theorem m_in {a : Int32} {n : Nat} (hn : n < 100) : (∃ k, k < n ∧ a = nI k ∧ f_X8_in a.toInt64 0 (nI n - 1).toInt64 = some 1) ∨ (¬ (0 ≤ a.toInt ∧ a.toInt < (n : Int)) ∧ f_X8_in a.toInt64 0 (nI n - 1).toInt64 = some 0) := by
  have e : (nI n - 1).toInt64.toInt = (n : Int) - 1 := by
    rw [Int32.toInt_toInt64, sub32 (by rw [nI_T (by omega), l32_1]; omega) (by rw [nI_T (by omega), l32_1]; omega), nI_T (by omega), l32_1]
  have z : (0 : Int64).toInt = 0 := by decide
  by_cases q : 0 ≤ a.toInt ∧ a.toInt < (n : Int)
  · obtain ⟨k, hk, e2⟩ := n_of q.1 q.2
    exact Or.inl ⟨k, hk, e2, in_1 z e (by omega)⟩
  · exact Or.inr ⟨q, in_0 z e (by omega)⟩
theorem x_has_1 {X : GS} {o n k : Nat} (hX : gt X o 5 = nI n) (hk : k < n) (hn : n ≤ 8) : f_X5_has o (nI k) X = some 1 := by
  unfold f_X5_has
  rw [if_neg (nI_pos (by omega)), hX, if_neg (nI_ge hk (by omega))]
theorem x_has_0 {X : GS} {o n : Nat} {a : Int32} (hX : gt X o 5 = nI n) (hn : n ≤ 8) (q : ¬ (0 ≤ a.toInt ∧ a.toInt < (n : Int))) : f_X5_has o a X = some 0 := by
  unfold f_X5_has
  by_cases h : a < 0
  · rw [if_pos h]
  · rw [if_neg h, hX, if_pos (by rw [lt32, l32_0] at h; rw [le32, nI_T (by omega)]; omega)]
theorem box_or {X M : GS} {n : Nat} (hX : gt X 4 5 = nI n) (hM : gt M 0 5 = nI n) (hn : n ≤ 8) (a : Int32) : (∃ k, k < n ∧ a = nI k ∧ f_X8_isBox a M = some 1 ∧ f_X5_has 4 a X = some 1) ∨ (f_X8_isBox a M = some 0 ∧ f_X5_has 4 a X = some 0) := by
  unfold f_X8_isBox
  rw [hM]
  rcases m_in (a := a) (n := n) (by omega) with ⟨k, hk, e, h1⟩ | ⟨q, h0⟩
  · left
    refine ⟨k, hk, e, by rw [h1, bI1_s]; unfold gq; rw [if_pos (Or.inr rfl)], by rw [e]; exact x_has_1 hX hk hn⟩
  · right
    exact ⟨by rw [h0, bI1_s]; unfold gq; rw [if_pos (Or.inl rfl)], x_has_0 hX hn q⟩
theorem page_or {X M : GS} {n : Nat} (hX : gt X 4 5 = nI n) (hM : gt M 0 5 = nI n) (hn : n ≤ 8) : (n = 0 ∧ f_X7_hasNoPage X = some 1 ∧ f_X8_lacks M = some 1) ∨ (0 < n ∧ f_X7_hasNoPage X = some 0 ∧ f_X8_lacks M = some 0) := by
  unfold f_X7_hasNoPage f_X8_lacks
  rw [hX, hM]
  rcases Nat.eq_zero_or_pos n with h | h
  · subst h; left; exact ⟨rfl, if_pos rfl, if_pos rfl⟩
  · right; exact ⟨h, if_neg (nI_ne0 h (by omega)), if_neg (nI_ne0 h (by omega))⟩
/-- the order is as long as the page -/
theorem ords_len {n : Nat} {b : Bx} {rs : List Int} (hp : okP n b rs) : (ords b rs (List.range n)).length = n := by
  rw [(ords_perm (rs := rs) (okB_of hp (fun k hk => List.mem_range.mp hk)) List.nodup_range).length_eq, List.length_range]
