-- (bt .. b_sshr: pasted from kit/laws/BITS.to-paste)
def bt (x : Int32) (i : Nat) : Bool := x.toBitVec.getLsbD i
theorem b_ext {x y : Int32} (h : ∀ i, i < 32 → bt x i = bt y i) : x = y := Int32.toBitVec_inj.mp (BitVec.eq_of_getLsbD_eq (fun i hi => h i hi))
theorem b_or (x y : Int32) (i : Nat) : bt (x ||| y) i = (bt x i || bt y i) := by unfold bt; rw [Int32.toBitVec_or, BitVec.getLsbD_or]
theorem b_and (x y : Int32) (i : Nat) : bt (x &&& y) i = (bt x i && bt y i) := by unfold bt; rw [Int32.toBitVec_and, BitVec.getLsbD_and]
theorem b_xor (x y : Int32) (i : Nat) : bt (x ^^^ y) i = (bt x i ^^ bt y i) := by unfold bt; rw [Int32.toBitVec_xor, BitVec.getLsbD_xor]
theorem b_big {x : Int32} {i : Nat} (h : 32 ≤ i) : bt x i = false := BitVec.getLsbD_of_ge _ _ h
theorem b_m1 : ∀ i, i < 32 → bt (-1) i = true := by decide +kernel
theorem b_0 (i : Nat) : bt 0 i = false := BitVec.getLsbD_zero
theorem s_l : ∀ n, n < 32 → ((nI n &&& 31).toBitVec.smod 32).toNat = n := by decide +kernel
theorem b_shl (n : Nat) (hn : n < 32) (x : Int32) {i : Nat} (hi : i < 32) : bt (x <<< (nI n &&& 31)) i = (decide (n ≤ i) && bt x (i - n)) := by
  unfold bt
  rw [Int32.toBitVec_shiftLeft]
  show (x.toBitVec <<< ((nI n &&& 31).toBitVec.smod 32).toNat).getLsbD i = _
  rw [s_l n hn, BitVec.getLsbD_shiftLeft]
  rcases Nat.lt_or_ge i n with h | h
  · simp [h, Nat.not_le.mpr h]
  · simp [hi, h, Nat.not_lt.mpr h]
theorem b_sshr (n : Nat) (hn : n < 32) (x : Int32) {i : Nat} (hi : i < 32) : bt (x >>> (nI n &&& 31)) i = if n + i < 32 then bt x (n + i) else bt x 31 := by
  unfold bt
  rw [Int32.toBitVec_shiftRight]
  show (x.toBitVec.sshiftRight ((nI n &&& 31).toBitVec.smod 32).toNat).getLsbD i = _
  rw [s_l n hn, BitVec.getLsbD_sshiftRight, BitVec.msb_eq_getLsbD_last]
  simp [hi]
-- SETS of boxes as bits
def idS (S : Int32) : List Nat := (List.range 8).filter (fun k => bt S k)
def sml (S : Int32) : Prop := ∀ i, 8 ≤ i → bt S i = false
theorem idS_mem {S : Int32} {k : Nat} : k ∈ idS S ↔ k < 8 ∧ bt S k = true := by
  unfold idS; rw [List.mem_filter, List.mem_range]
theorem idS_nd (S : Int32) : (idS S).Nodup := List.Nodup.sublist List.filter_sublist List.nodup_range
theorem idS_n {S : Int32} {n : Nat} (hn : n ≤ 8) (h : ∀ k ∈ idS S, k < n) : (List.range n).filter (fun k => bt S k) = idS S := by
  unfold idS
  have e1 : (List.range 8).take n ++ (List.range 8).drop n = List.range 8 := List.take_append_drop _ _
  rw [List.take_range, Nat.min_eq_left hn] at e1
  conv => rhs; rw [← e1]
  rw [List.filter_append]
  have e2 : ((List.range 8).drop n).filter (fun k => bt S k) = [] := by
    rw [List.filter_eq_nil_iff]
    intro k hk hb
    have hk8 : k ∈ List.range 8 := List.mem_of_mem_drop hk
    have hkn := h k (idS_mem.mpr ⟨List.mem_range.mp hk8, hb⟩)
    obtain ⟨i, hi, e⟩ := List.getElem_of_mem hk
    rw [List.getElem_drop, List.getElem_range] at e
    omega
  rw [e2, List.append_nil]
theorem bt_1 (i : Nat) : bt 1 i = decide (i = 0) := by
  rcases Nat.lt_or_ge i 32 with h | h
  · exact (by decide +kernel : ∀ i, i < 32 → bt 1 i = decide (i = 0)) i h
  · rw [b_big h, decide_eq_false (by omega)]
theorem bt_shl {j i : Nat} (hj : j < 8) : bt (ishl 1 (nI j)) i = decide (i = j) := by
  rcases Nat.lt_or_ge i 32 with h | h
  · unfold ishl
    rw [b_shl j (by omega) 1 h, bt_1]
    by_cases e : i = j
    · subst e; simp
    · by_cases e2 : j ≤ i
      · have : ¬ i - j = 0 := by omega
        simp [e, this]
      · simp [e, e2]
  · rw [b_big h, decide_eq_false (by omega)]
theorem bt_not {x : Int32} {i : Nat} (hi : i < 32) : bt (x ^^^ (-1)) i = !bt x i := by
  rw [b_xor, b_m1 i hi]; cases bt x i <;> rfl
theorem bt_ev {x : Int32} {k : Nat} (hk : k < 8) : (ishr x (nI k) &&& 1) = if bt x k = true then 1 else 0 := by
  apply b_ext
  intro i hi
  rw [b_and, bt_1]
  unfold ishr
  rw [b_sshr k (by omega) x hi]
  by_cases h0 : i = 0
  · subst h0
    rw [if_pos (by omega), Nat.add_zero]
    cases hb : bt x k
    · rfl
    · rfl
  · rw [decide_eq_false h0, Bool.and_false]
    by_cases hb : bt x k = true
    · rw [if_pos hb, bt_1, decide_eq_false h0]
    · rw [if_neg hb, b_0]
theorem m_has {S : Int32} {k : Nat} (hk : k < 8) : f_X8_has S (nI k) = some (if bt S k = true then 1 else 0) := by
  unfold f_X8_has
  rw [bt_ev hk]
  by_cases hb : bt S k = true
  · rw [if_pos hb, if_pos rfl]
  · rw [if_neg hb, if_neg (by decide)]
theorem m_has_ok {S : Int32} {k : Nat} {β : Type} {K : Int32 → Option β} {Q : β → Prop} (hk : k < 8) (h1 : bt S k = true → ok (K 1) Q) (h0 : bt S k = false → ok (K 0) Q) : ok (bI1 (f_X8_has S (nI k)) K) Q := by
  rw [m_has hk, bI1_s]
  cases hb : bt S k
  · exact h0 hb
  · exact h1 hb
theorem m_ones (S : Int32) : f_X8_ones S = some (nI (idS S).length) := by
  apply ok_is
  unfold f_X8_ones
  refine ok_bI1 (P := fun r => r = nI (idS S).length) ?_ (fun r hr => ok_some hr)
  refine ok_for 8 (fun i z => z.2 = nI i ∧ z.1 = nI ((List.range i).filter (fun k => bt S k)).length) _ ?_ ?_ 0 _ (Nat.zero_le _) ⟨rfl, rfl⟩
  · rintro i ⟨z1, z2⟩ hi ⟨h1, h2⟩
    simp only at h1 h2
    subst h1; subst h2
    show ok (f_X8_ones_L4 S _ (nI i)) _
    unfold f_X8_ones_L4
    have n8 : ¬ (8 : Int32) ≤ nI i := by rw [show (8 : Int32) = nI 8 from rfl, nI_leI (by omega) (by omega)]; omega
    rw [if_neg n8, bt_ev hi]
    simp only [lt_]
    refine ok_some (Or.inl ⟨_, rfl, nI_p1 i, ?_⟩)
    rw [range_step, List.filter_append, List.length_append]
    by_cases hb : bt S i = true
    · rw [if_pos hb]; simp only [List.filter_cons, hb, List.filter_nil, if_true]; exact nI_p1 _
    · rw [if_neg hb]
      have hf : bt S i = false := by cases h : bt S i <;> simp_all
      simp only [List.filter_cons, hf, List.filter_nil]
      show nI _ + nI 0 = _
      rw [nI_add]; rfl
  · rintro ⟨z1, z2⟩ ⟨h1, h2⟩
    simp only at h1 h2
    subst h1; subst h2
    show ok (f_X8_ones_L4 S _ (nI 8)) _
    unfold f_X8_ones_L4
    rw [if_pos (by decide)]
    exact ok_some ⟨_, rfl, rfl⟩
theorem s_zero {S : Int32} (hs : sml S) : S = 0 ↔ idS S = [] := by
  constructor
  · intro e; subst e
    unfold idS
    rw [List.filter_eq_nil_iff]
    intro k _; rw [b_0]; decide
  · intro h
    apply b_ext
    intro i hi
    rw [b_0]
    rcases Nat.lt_or_ge i 8 with h8 | h8
    · cases hb : bt S i
      · rfl
      · have : i ∈ idS S := idS_mem.mpr ⟨h8, hb⟩
        rw [h] at this; cases this
    · exact hs i h8
theorem s_all {n : Nat} (hn : n ≤ 8) : idS (ishl 1 (nI n) - 1) = List.range n ∧ sml (ishl 1 (nI n) - 1) := by
  have key : ∀ n : Fin 9, ∀ i : Fin 32, bt (ishl 1 (nI n.val) - 1) i.val = decide (i.val < n.val) := by decide +kernel
  have k2 : ∀ i, bt (ishl 1 (nI n) - 1) i = decide (i < n) := fun i => by
    rcases Nat.lt_or_ge i 32 with h | h
    · exact key ⟨n, by omega⟩ ⟨i, h⟩
    · rw [b_big h, decide_eq_false (by omega)]
  refine ⟨?_, fun i hi => by rw [k2, decide_eq_false (by omega)]⟩
  unfold idS
  have e1 : (List.range 8).take n ++ (List.range 8).drop n = List.range 8 := List.take_append_drop _ _
  rw [List.take_range, Nat.min_eq_left hn] at e1
  rw [← e1, List.filter_append]
  have f1 : (List.range n).filter (fun k => bt (ishl 1 (nI n) - 1) k) = List.range n := by
    rw [List.filter_eq_self]
    intro k hk; rw [k2]; exact decide_eq_true (List.mem_range.mp hk)
  have f2 : ((List.range 8).drop n).filter (fun k => bt (ishl 1 (nI n) - 1) k) = [] := by
    rw [List.filter_eq_nil_iff]
    intro k hk hb
    rw [k2] at hb
    have := of_decide_eq_true hb
    obtain ⟨i, hi, e⟩ := List.getElem_of_mem hk
    rw [List.getElem_drop, List.getElem_range] at e
    omega
  rw [f1, f2, List.append_nil]
/-- a subset by a test -/
theorem s_filter {S T : Int32} {P : Nat → Bool} (h : ∀ k, k < 8 → bt T k = (bt S k && P k)) : idS T = (idS S).filter P := by
  unfold idS
  rw [List.filter_filter]
  apply List.filter_congr
  intro k hk
  rw [h k (List.mem_range.mp hk), Bool.and_comm]
/-- the model holds a page -/
def mIs (st : GS) (n : Nat) (b : Bx) (rs : List Int) : Prop := gt st 0 5 = nI n ∧ gt st 0 10 = nI rs.length ∧ (∀ k, k < n → (gt st 2 k).toInt = b k 0 ∧ ∀ c, c < 4 → (gt st 3 (4 * k + c)).toInt = b k (1 + c)) ∧ (∀ i, i < rs.length → (gt st 4 i).toInt = rs.getD i 0)
theorem mIs.c0 {st : GS} {n : Nat} {b : Bx} {rs : List Int} (h : mIs st n b rs) {k : Nat} (hk : k < n) : (gt st 2 k).toInt = b k 0 := (h.2.2.1 k hk).1
theorem mIs.gB {st : GS} {n : Nat} {b : Bx} {rs : List Int} (h : mIs st n b rs) {k s : Nat} (hk : k < n) (hs : s < 2) : (gt st 3 (4 * k + s)).toInt = bg b s k := (h.2.2.1 k hk).2 s (by omega)
theorem mIs.gF {st : GS} {n : Nat} {b : Bx} {rs : List Int} (h : mIs st n b rs) {k s : Nat} (hk : k < n) (hs : s < 2) : (gt st 3 (4 * k + 2 + s)).toInt = en b s k := by
  have := (h.2.2.1 k hk).2 (2 + s) (by omega)
  rw [← Nat.add_assoc] at this
  rw [this]; unfold en; congr 1; omega
theorem mIs_keep {st st' : GS} {n : Nat} {b : Bx} {rs : List Int} (h : mIs st n b rs) (h0 : gt st' 0 5 = gt st 0 5) (h1 : gt st' 0 10 = gt st 0 10) (hk : ∀ c j, (c = 2 ∨ c = 3 ∨ c = 4) → gt st' c j = gt st c j) : mIs st' n b rs := by
  obtain ⟨q1, q2, q3, q4⟩ := h
  exact ⟨by rw [h0]; exact q1, by rw [h1]; exact q2, fun k hk2 => by
    rw [hk _ _ (by omega)]
    exact ⟨(q3 k hk2).1, fun c hc => by rw [hk _ _ (by omega)]; exact (q3 k hk2).2 c hc⟩, fun i hi => by rw [hk _ _ (by omega)]; exact q4 i hi⟩
theorem n4 (k : Nat) : (4 : Int32) * nI k = nI (4 * k) := pk_mul 4 k
theorem nadd (a c : Nat) : nI a + nI c = nI (a + c) := nI_add a c
theorem n4_1 (k : Nat) : (4 : Int32) * nI k + 1 = nI (4 * k + 1) := by rw [n4]; exact nI_add _ 1
theorem n4_2 (k : Nat) : (4 : Int32) * nI k + 2 = nI (4 * k + 2) := by rw [n4]; exact nI_add _ 2
theorem n4_3 (k : Nat) : (4 : Int32) * nI k + 3 = nI (4 * k + 3) := by rw [n4]; exact nI_add _ 3
theorem m_apart {st : GS} {n : Nat} {b : Bx} {rs : List Int} (h : mIs st n b rs) (hp : okP n b rs) {x y : Nat} (hx : x < n) (hy : y < n) : ∃ v, f_X8_apart (nI x) (nI y) st = some v ∧ v.toInt = dst b x y := by
  have hn := hp.1
  obtain ⟨-, p1, p2⟩ := hp.2.2.2 x hx
  obtain ⟨-, q1, q2⟩ := hp.2.2.2 y hy
  unfold f_X8_apart
  rw [n4_1, n4_1, n4_2, n4_2, n4_3, n4_3, n4, n4]
  simp only [gd_n (show 4 * x < 32 by omega) (show 32 < 2147483648 by omega), gd_n (show 4 * x + 1 < 32 by omega) (show 32 < 2147483648 by omega), gd_n (show 4 * x + 2 < 32 by omega) (show 32 < 2147483648 by omega), gd_n (show 4 * x + 3 < 32 by omega) (show 32 < 2147483648 by omega), gd_n (show 4 * y < 32 by omega) (show 32 < 2147483648 by omega), gd_n (show 4 * y + 1 < 32 by omega) (show 32 < 2147483648 by omega), gd_n (show 4 * y + 2 < 32 by omega) (show 32 < 2147483648 by omega), gd_n (show 4 * y + 3 < 32 by omega) (show 32 < 2147483648 by omega), nI_clamp (show 4 * x < 2 ^ 31 by omega), nI_clamp (show 4 * x + 1 < 2 ^ 31 by omega), nI_clamp (show 4 * x + 2 < 2 ^ 31 by omega), nI_clamp (show 4 * x + 3 < 2 ^ 31 by omega), nI_clamp (show 4 * y < 2 ^ 31 by omega), nI_clamp (show 4 * y + 1 < 2 ^ 31 by omega), nI_clamp (show 4 * y + 2 < 2 ^ 31 by omega), nI_clamp (show 4 * y + 3 < 2 ^ 31 by omega)]
  have a1 : (gt st 3 (4 * x)).toInt = b x 1 := (h.2.2.1 x hx).2 0 (by decide)
  have a2 : (gt st 3 (4 * x + 1)).toInt = b x 2 := (h.2.2.1 x hx).2 1 (by decide)
  have a3 : (gt st 3 (4 * x + 2)).toInt = b x 3 := (h.2.2.1 x hx).2 2 (by decide)
  have a4 : (gt st 3 (4 * x + 3)).toInt = b x 4 := (h.2.2.1 x hx).2 3 (by decide)
  have b1 : (gt st 3 (4 * y)).toInt = b y 1 := (h.2.2.1 y hy).2 0 (by decide)
  have b2 : (gt st 3 (4 * y + 1)).toInt = b y 2 := (h.2.2.1 y hy).2 1 (by decide)
  have b3 : (gt st 3 (4 * y + 2)).toInt = b y 3 := (h.2.2.1 y hy).2 2 (by decide)
  have b4 : (gt st 3 (4 * y + 3)).toInt = b y 4 := (h.2.2.1 y hy).2 3 (by decide)
  have gap : ∀ (l1 h1 l2 h2 : Int32) (A B C D : Int), l1.toInt = A → h1.toInt = B → l2.toInt = C → h2.toInt = D → -1 ≤ A → A < B → B ≤ 1000 → -1 ≤ C → C < D → D ≤ 1000 → ∃ v, f_X8_gap l1 h1 l2 h2 = some v ∧ v.toInt = gp A B C D ∧ 0 ≤ gp A B C D ∧ gp A B C D ≤ 1001 := by
    intro l1 h1 l2 h2 A B C D e1 e2 e3 e4 k1 k2 k3 k4 k5 k6
    unfold f_X8_gap gp
    by_cases c1 : B < C
    · rw [if_neg (by rw [le32]; omega), if_pos c1]
      exact ⟨_, rfl, by rw [sub32 (by omega) (by omega)]; omega, by omega, by omega⟩
    · rw [if_pos (by rw [le32]; omega), if_neg c1]
      by_cases c2 : D < A
      · rw [if_neg (by rw [le32]; omega), if_pos c2]
        exact ⟨_, rfl, by rw [sub32 (by omega) (by omega)]; omega, by omega, by omega⟩
      · rw [if_pos (by rw [le32]; omega), if_neg c2]
        exact ⟨_, rfl, l32_0, by omega, by omega⟩
  obtain ⟨v1, e1, f1, g1⟩ := gap _ _ _ _ _ _ _ _ a1 a3 b1 b3 p1.1 p1.2.1 p1.2.2 q1.1 q1.2.1 q1.2.2
  obtain ⟨v2, e2, f2, g2⟩ := gap _ _ _ _ _ _ _ _ a2 a4 b2 b4 p2.1 p2.2.1 p2.2.2 q2.1 q2.2.1 q2.2.2
  rw [e1, bI1_s, e2, bI1_s]
  exact ⟨_, rfl, by rw [add32 (by omega) (by omega), f1, f2]; rfl⟩
