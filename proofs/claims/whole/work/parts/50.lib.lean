-- PURE SIDE: total correctness of the functions in Option
def ok {α : Type} (x : Option α) (P : α → Prop) : Prop := ∃ a, x = some a ∧ P a
theorem ok_some {α : Type} {a : α} {P : α → Prop} (h : P a) : ok (some a) P := ⟨a, rfl, h⟩
theorem ok_mono {α : Type} {x : Option α} {P Q : α → Prop} (h : ok x P) (hpq : ∀ a, P a → Q a) : ok x Q := by
  obtain ⟨a, e, p⟩ := h; exact ⟨a, e, hpq a p⟩
theorem ok_eq {α : Type} {x y : Option α} {P : α → Prop} (e : x = y) (h : ok y P) : ok x P := e ▸ h
theorem ok_bI1 {α β : Type} {x : Option α} {k : α → Option β} {P : α → Prop} {Q : β → Prop} (h : ok x P) (hk : ∀ a, P a → ok (k a) Q) : ok (bI1 x k) Q := by
  obtain ⟨a, e, p⟩ := h; subst e; exact hk a p
theorem ok_bI2 {α β γ : Type} {x : Option (α × β)} {k : α → β → Option γ} {P : α × β → Prop} {Q : γ → Prop} (h : ok x P) (hk : ∀ a b, P (a, b) → ok (k a b) Q) : ok (bI2 x k) Q := by
  obtain ⟨⟨a, b⟩, e, p⟩ := h; subst e; exact hk a b p
theorem ok_bI3 {α β γ δ : Type} {x : Option (α × β × γ)} {k : α → β → γ → Option δ} {P : α × β × γ → Prop} {Q : δ → Prop} (h : ok x P) (hk : ∀ a b c, P (a, b, c) → ok (k a b c) Q) : ok (bI3 x k) Q := by
  obtain ⟨⟨a, b, c⟩, e, p⟩ := h; subst e; exact hk a b c p
theorem ok_bI4 {α β γ δ ε : Type} {x : Option (α × β × γ × δ)} {k : α → β → γ → δ → Option ε} {P : α × β × γ × δ → Prop} {Q : ε → Prop} (h : ok x P) (hk : ∀ a b c d, P (a, b, c, d) → ok (k a b c d) Q) : ok (bI4 x k) Q := by
  obtain ⟨⟨a, b, c, d⟩, e, p⟩ := h; subst e; exact hk a b c d p
theorem ok_lt {α β : Type} {e : α} {k : α → Option β} {Q : β → Prop} (h : ok (k e) Q) : ok (lt_ e k) Q := h
theorem ok_if {α : Type} {c : Prop} [Decidable c] {a b : Option α} {Q : α → Prop} (h1 : c → ok a Q) (h2 : ¬ c → ok b Q) : ok (if c then a else b) Q := by
  by_cases h : c
  · rw [if_pos h]; exact h1 h
  · rw [if_neg h]; exact h2 h
theorem gd_n {β : Type} {j n : Nat} {k : Option β} (h : j < n) (hn : n < 2147483648) : gd (nI j) n k = k := by
  unfold gd
  rw [if_neg (nI_pos (Nat.lt_trans h hn)), nI_clamp (Nat.lt_trans h hn), if_pos h]
theorem ok_gd {β : Type} {i : Int32} {j n : Nat} {k : Option β} {Q : β → Prop} (hi : i = nI j) (h : j < n) (hn : n < 2147483648) (hk : ok k Q) : ok (gd i n k) Q := by
  subst hi; rw [gd_n h hn]; exact hk
theorem ok_gq {β : Type} {c : Prop} [Decidable c] {k : Option β} {Q : β → Prop} (hc : c) (hk : ok k Q) : ok (gq c k) Q := by
  unfold gq; rw [if_pos hc]; exact hk
/-- a loop with a measure -/
theorem ok_lpx {σ ρ : Type} {b : σ → Option (σ ⊕ ρ)} (I : Nat → σ → Prop) (P : ρ → Prop) (hs : ∀ n s, I n s → ok (b s) (fun q => (∃ s' n', q = .inl s' ∧ n' < n ∧ I n' s') ∨ (∃ r, q = .inr r ∧ P r))) : ∀ n s, I n s → ok (lpx b s) P := by
  intro n
  induction n using Nat.strongRecOn with
  | ind n ih =>
    intro s h
    obtain ⟨q, e, hq⟩ := hs n s h
    rcases hq with ⟨s', n', rfl, hlt, hI⟩ | ⟨r, rfl, hr⟩
    · rw [lpx_go e]; exact ih n' hlt s' hI
    · rw [lpx_end e]; exact ok_some hr
/-- a loop that counts up to N -/
theorem ok_for {σ ρ : Type} {b : σ → Option (σ ⊕ ρ)} (N : Nat) (I : Nat → σ → Prop) (P : ρ → Prop) (hs : ∀ k s, k < N → I k s → ok (b s) (fun q => (∃ s', q = .inl s' ∧ I (k + 1) s') ∨ (∃ r, q = .inr r ∧ P r))) (he : ∀ s, I N s → ok (b s) (fun q => ∃ r, q = .inr r ∧ P r)) : ∀ k s, k ≤ N → I k s → ok (lpx b s) P := by
  intro k s hk h
  refine ok_lpx (fun n s => ∃ k, k ≤ N ∧ n = N - k ∧ I k s) P ?_ (N - k) s ⟨k, hk, rfl, h⟩
  rintro n s ⟨k, hk, rfl, h⟩
  rcases Nat.lt_or_ge k N with hl | hl
  · refine ok_mono (hs k s hl h) (fun q hq => ?_)
    rcases hq with ⟨s', rfl, hI⟩ | ⟨r, rfl, hr⟩
    · exact Or.inl ⟨s', N - (k + 1), rfl, by omega, k + 1, hl, rfl, hI⟩
    · exact Or.inr ⟨r, rfl, hr⟩
  · have : k = N := by omega
    subst this
    exact ok_mono (he s h) (fun q hq => Or.inr hq)
-- states
theorem gt_sv (st : GS) (o j : Nat) (v : Int32) (o' j' : Nat) : gt (sv st o j v) o' j' = if o' = o ∧ j' = j then v else gt st o' j' := rfl
theorem gt_sv_same (st : GS) (o j : Nat) (v : Int32) : gt (sv st o j v) o j = v := by simp [gt_sv]
theorem gt_sv_o {st : GS} {o j : Nat} {v : Int32} {o' j' : Nat} (h : o' ≠ o) : gt (sv st o j v) o' j' = gt st o' j' := by simp [gt_sv, h]
theorem gt_sv_j {st : GS} {o j : Nat} {v : Int32} {o' j' : Nat} (h : j' ≠ j) : gt (sv st o j v) o' j' = gt st o' j' := by simp [gt_sv, h]
theorem gl_sv (st : GS) (o j : Nat) (v : Int32) : gl (sv st o j v) = gl st := rfl
theorem gt_sl (st : GS) (v : Int64) (o j : Nat) : gt (sl st v) o j = gt st o j := rfl
theorem gl_sl (st : GS) (v : Int64) : gl (sl st v) = v := rfl
theorem gt_sc (st : GS) (a b sp dp n o' j' : Nat) : gt (sc st a b sp dp n) o' j' = if o' = b ∧ (dp ≤ j' ∧ j' < dp + n) then gt st a (sp + (j' - dp)) else gt st o' j' := rfl
theorem gl_sc (st : GS) (a b sp dp n : Nat) : gl (sc st a b sp dp n) = gl st := rfl
theorem gs_ext {a b : GS} (h : ∀ o j, gt a o j = gt b o j) (hl : gl a = gl b) : a = b := by
  obtain ⟨a1, a2⟩ := a
  obtain ⟨b1, b2⟩ := b
  have : a1 = b1 := by funext o j; exact h o j
  have h2 : a2 = b2 := hl
  rw [this, h2]
-- Int32 by its Int
theorem lt32 (a b : Int32) : a < b ↔ a.toInt < b.toInt := Int32.lt_iff_toInt_lt
theorem le32 (a b : Int32) : a ≤ b ↔ a.toInt ≤ b.toInt := Int32.le_iff_toInt_le
theorem eq32 (a b : Int32) : a = b ↔ a.toInt = b.toInt := Int32.toInt_inj.symm
theorem bm32 {x : Int} (h1 : -2147483648 ≤ x) (h2 : x < 2147483648) : x.bmod 4294967296 = x := by
  unfold Int.bmod; simp only []; split <;> omega
theorem add32 {a b : Int32} (h1 : -2147483648 ≤ a.toInt + b.toInt) (h2 : a.toInt + b.toInt < 2147483648) : (a + b).toInt = a.toInt + b.toInt := by
  rw [Int32.toInt_add]; exact bm32 h1 h2
theorem sub32 {a b : Int32} (h1 : -2147483648 ≤ a.toInt - b.toInt) (h2 : a.toInt - b.toInt < 2147483648) : (a - b).toInt = a.toInt - b.toInt := by
  rw [Int32.toInt_sub]; exact bm32 h1 h2
theorem mul32 {a b : Int32} (h1 : -2147483648 ≤ a.toInt * b.toInt) (h2 : a.toInt * b.toInt < 2147483648) : (a * b).toInt = a.toInt * b.toInt := by
  rw [Int32.toInt_mul]; exact bm32 h1 h2
theorem nI_T {n : Nat} (h : n < 2147483648) : (nI n).toInt = (n : Int) := nI_toInt h
theorem nI_p1 (k : Nat) : nI k + 1 = nI (k + 1) := nI_1 k
theorem nI_ne_m1 {k : Nat} (h : k < 2147483648) : ¬ nI k = -1 := by
  rw [eq32, nI_T h]
  have : (-1 : Int32).toInt = -1 := by decide
  omega
theorem nI_inj {a b : Nat} (ha : a < 2147483648) (hb : b < 2147483648) (h : nI a = nI b) : a = b := (nI_eq ha hb).mp h
