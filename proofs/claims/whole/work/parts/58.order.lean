theorem nrst_mem {b : Bx} {c : Nat} : ∀ (l : List Nat) (acc : Option Nat) (x : Nat), l.foldl (nrF b c) acc = some x → (x ∈ l ∧ b x 0 = 3) ∨ acc = some x := by
  intro l
  induction l with
  | nil => intro acc x h; exact Or.inr h
  | cons y t ih =>
    intro acc x h
    rcases ih _ x h with ⟨h1, h2⟩ | h1
    · exact Or.inl ⟨List.mem_cons_of_mem _ h1, h2⟩
    · unfold nrF at h1
      split at h1
      · rename_i hy
        cases acc with
        | none =>
          simp only at h1
          cases h1
          exact Or.inl ⟨List.mem_cons_self, hy⟩
        | some g =>
          simp only at h1
          split at h1
          · cases h1; exact Or.inl ⟨List.mem_cons_self, hy⟩
          · exact Or.inr h1
      · exact Or.inr h1
theorem bnd_fig {b : Bx} {ids : List Nat} {c x : Nat} (h : bnd b ids c = some x) : x ∈ ids ∧ b x 0 = 3 ∧ b c 0 = 4 := by
  unfold bnd at h
  split at h
  · rename_i hc
    rcases nrst_mem ids none x h with h1 | h1
    · exact ⟨h1.1, h1.2, hc⟩
    · cases h1
  · cases h
theorem bnd_free {b : Bx} {ids : List Nat} {c x : Nat} (h : bnd b ids c = some x) : x ∈ fre b ids := by
  obtain ⟨h1, h2, -⟩ := bnd_fig h
  refine List.mem_filter.mpr ⟨h1, ?_⟩
  unfold bnd
  rw [if_neg (by omega)]
  rfl
theorem rws_perm {b : Bx} {rs : List Int} {ids : List Nat} (hb : okB b ids) : (rws b rs ids).Perm (fre b ids) := by
  unfold rws lvs
  split
  · rename_i h; rw [h]; exact List.Perm.refl _
  · exact rdf_perm _ _ _ (Nat.le_refl _) (okB_sub hb (fun k hk => (List.mem_filter.mp hk).1))
theorem ords_nd {b : Bx} {rs : List Int} {ids : List Nat} (hb : okB b ids) (hn : ids.Nodup) : (ords b rs ids).Nodup := by
  have hp := rws_perm (rs := rs) hb
  have hfr : (fre b ids).Nodup := List.Nodup.sublist List.filter_sublist hn
  have fr0 : ∀ x, x ∈ rws b rs ids → bnd b ids x = none := fun x hx => of_decide_eq_true (List.mem_filter.mp (hp.mem_iff.mp hx)).2
  have cp0 : ∀ x c, c ∈ caps b ids x → bnd b ids c = some x := fun x c hc => of_decide_eq_true (List.mem_filter.mp hc).2
  unfold ords List.Nodup
  refine List.pairwise_flatMap.mpr ⟨fun a ha => ?_, ?_⟩
  · refine List.pairwise_cons.mpr ⟨fun c hc e => ?_, List.Nodup.sublist List.filter_sublist hn⟩
    have h1 := cp0 a c hc
    rw [← e, fr0 a ha] at h1; cases h1
  · have hnd : (rws b rs ids).Nodup := hp.nodup_iff.mpr hfr
    refine List.Pairwise.imp_of_mem ?_ hnd
    intro a c ha hc hne x hx y hy e
    subst e
    rcases List.mem_cons.mp hx with e1 | e1 <;> rcases List.mem_cons.mp hy with e2 | e2
    · exact hne (e1.symm.trans e2)
    · have h1 := cp0 c x e2
      rw [e1, fr0 a ha] at h1; cases h1
    · have h1 := cp0 a x e1
      rw [e2, fr0 c hc] at h1; cases h1
    · have h1 := cp0 a x e1
      rw [cp0 c x e2] at h1
      exact hne (Option.some.inj h1).symm
theorem ords_mem {b : Bx} {rs : List Int} {ids : List Nat} (hb : okB b ids) (k : Nat) : k ∈ ords b rs ids ↔ k ∈ ids := by
  have hp := rws_perm (rs := rs) hb
  unfold ords
  rw [List.mem_flatMap]
  constructor
  · rintro ⟨x, hx, hk⟩
    rcases List.mem_cons.mp hk with e | e
    · rw [e]; exact (List.mem_filter.mp (hp.mem_iff.mp hx)).1
    · exact (List.mem_filter.mp e).1
  · intro hk
    cases hq : bnd b ids k with
    | none => exact ⟨k, hp.mem_iff.mpr (List.mem_filter.mpr ⟨hk, by simp [hq]⟩), List.mem_cons_self⟩
    | some x => exact ⟨x, hp.mem_iff.mpr (bnd_free hq), List.mem_cons_of_mem _ (List.mem_filter.mpr ⟨hk, by simp [hq]⟩)⟩
theorem ords_perm {b : Bx} {rs : List Int} {ids : List Nat} (hb : okB b ids) (hn : ids.Nodup) : (ords b rs ids).Perm ids := (List.perm_ext_iff_of_nodup (ords_nd hb hn) hn).mpr (ords_mem hb)
/-- the figure to which a box is bound, as a number -/
def eO (x : Option Nat) : Int32 := match x with
  | none => -1
  | some f => nI f
theorem eO_none {x : Option Nat} (h : ∀ f, x = some f → f < 8) : eO x = -1 ↔ x = none := by
  cases x with
  | none => simp [eO]
  | some f =>
    have := h f rfl
    constructor
    · intro e; exact absurd e (nI_ne_m1 (by omega))
    · intro e; cases e
theorem range_step (i : Nat) : List.range (i + 1) = List.range i ++ [i] := List.range_succ
theorem x_near {st : GS} {o n : Nat} {b : Bx} {rs : List Int} (h : shIs st (o + 1) n b rs) (hp : okP n b rs) {c : Nat} (hc : c < n) : f_X3_nearestFigure o (nI c) st = some (eO (nrst b (List.range n) c)) := by
  have hn := hp.1
  apply ok_is
  unfold f_X3_nearestFigure
  refine ok_bI1 (P := fun r => r = eO (nrst b (List.range n) c)) ?_ (fun r hr => ok_some hr)
  refine ok_for n (fun i z => z.2.2 = nI i ∧ z.1 = eO (nrst b (List.range i) c) ∧ ∀ g, nrst b (List.range i) c = some g → z.2.1.toInt = dst b c g) _ ?_ ?_ 0 _ (Nat.zero_le _) ⟨rfl, rfl, fun g hg => by cases hg⟩
  · rintro i ⟨z1, z2, z3⟩ hi ⟨h1, h2, h3⟩
    simp only at h1 h2 h3
    subst h1; subst h2
    show ok (f_X3_nearestFigure_L7 o (nI c) st (eO (nrst b (List.range i) c)) z2 (nI i)) _
    unfold f_X3_nearestFigure_L7
    have hN : gt st (o + 1) 5 = nI n := h.1
    rw [hN, if_neg (nI_ge hi (by omega))]
    simp only [gd_n (show i < 8 by omega) (show 8 < 2147483648 by omega), nI_clamp (show i < 2 ^ 31 by omega), lt_]
    have e0 : (gt st (o + 2) i).toInt = b i 0 := h.c0 hi
    have est : nrst b (List.range (i + 1)) c = nrF b c (nrst b (List.range i) c) i := by
      unfold nrst; rw [range_step, List.foldl_append]; rfl
    have hlt : ∀ f, nrst b (List.range i) c = some f → f < 8 := fun f hf => by
      rcases nrst_mem _ _ _ hf with h1 | h1
      · have := List.mem_range.mp h1.1; omega
      · cases h1
    refine ok_if (fun c1 => ?_) (fun c1 => ?_)
    · rw [eq32, e0, l32_3] at c1
      obtain ⟨v, ev, hv⟩ := x_dist h hp hc hi
      rw [ev, bI1_s]
      cases hq : nrst b (List.range i) c with
      | none =>
        rw [hq] at est
        have est2 : nrst b (List.range (i + 1)) c = some i := by rw [est]; unfold nrF; rw [if_pos c1]
        rw [if_pos (show eO none = -1 from rfl)]
        refine ok_some (Or.inl ⟨_, rfl, nI_p1 i, by rw [est2]; rfl, fun g hg => ?_⟩)
        rw [est2] at hg; cases hg; exact hv
      | some g =>
        rw [hq] at est
        have hg8 := hlt g hq
        rw [if_neg (show ¬ eO (some g) = -1 from nI_ne_m1 (by omega))]
        have hz := h3 g hq
        refine ok_if (fun c2 => ?_) (fun c2 => ?_)
        · rw [le32, hz, hv] at c2
          have est2 : nrst b (List.range (i + 1)) c = some g := by rw [est]; unfold nrF; rw [if_pos c1]; simp only []; rw [if_neg (by omega)]
          refine ok_some (Or.inl ⟨_, rfl, nI_p1 i, by rw [est2], fun g' hg => ?_⟩)
          rw [est2] at hg; cases hg; exact hz
        · rw [le32, hz, hv] at c2
          have est2 : nrst b (List.range (i + 1)) c = some i := by rw [est]; unfold nrF; rw [if_pos c1]; simp only []; rw [if_pos (by omega)]
          refine ok_some (Or.inl ⟨_, rfl, nI_p1 i, by rw [est2]; rfl, fun g' hg => ?_⟩)
          rw [est2] at hg; cases hg; exact hv
    · rw [eq32, e0, l32_3] at c1
      have est2 : nrst b (List.range (i + 1)) c = nrst b (List.range i) c := by rw [est]; unfold nrF; rw [if_neg c1]
      refine ok_some (Or.inl ⟨_, rfl, nI_p1 i, by rw [est2], fun g hg => ?_⟩)
      rw [est2] at hg; exact h3 g hg
  · rintro ⟨z1, z2, z3⟩ ⟨h1, h2, h3⟩
    simp only at h1 h2 h3
    subst h1; subst h2
    show ok (f_X3_nearestFigure_L7 o (nI c) st (eO (nrst b (List.range n) c)) z2 (nI n)) _
    unfold f_X3_nearestFigure_L7
    have hN : gt st (o + 1) 5 = nI n := h.1
    rw [hN, if_pos (nI_le (Nat.le_refl _) (by omega))]
    exact ok_some ⟨_, rfl, rfl⟩
/-- the order's rows hold a list -/
def orS (st : GS) (o : Nat) (O : List Nat) : Prop := gt st o 2 = nI O.length ∧ sg st (o + 8) 0 O ∧ ∀ i, i < O.length → gt st (o + 9) (O.getD i 0) = nI i
theorem x_putNext {st : GS} {o : Nat} {O : List Nat} (h : orS st o O) {x : Nat} (hx : x < 8) (hl : O.length < 8) (hxO : x ∉ O) : ok (f_X3_putNext o (nI x) st) (fun st' => orS st' o (O ++ [x]) ∧ (∀ j, j ≠ 2 → gt st' o j = gt st o j) ∧ ∀ c j, (c ≠ o ∧ c ≠ o + 8 ∧ c ≠ o + 9) → gt st' c j = gt st c j) := by
  obtain ⟨h1, h2, h3⟩ := h
  unfold f_X3_putNext
  have n1 : ¬ (8 : Int32) ≤ nI O.length := by rw [show (8 : Int32) = nI 8 from rfl, nI_leI (by omega) (by omega)]; omega
  rw [h1, if_neg n1]
  have d : ∀ (s : GS) (c j : Nat) (v : Int32), c ≠ o → gt (sv s c j v) o 2 = gt s o 2 := fun s c j v ho => gt_sv_o (Ne.symm ho)
  simp only [lt_, d _ (o + 8) _ _ (by omega), d _ (o + 9) _ _ (by omega), h1, gd_n hl (show 8 < 2147483648 by omega), gd_n hx (show 8 < 2147483648 by omega), nI_clamp (show O.length < 2 ^ 31 by omega), nI_clamp (show x < 2 ^ 31 by omega)]
  refine ok_some ⟨⟨?_, ?_, fun i hi => ?_⟩, fun j hj => ?_, fun c j hc => ?_⟩
  · rw [gt_sv_same, List.length_append]; exact nI_p1 _
  · refine sg_app.mpr ⟨sg_same h2 (fun j _ hj => ?_), sg_one.mpr ?_⟩
    · rw [gt_sv_o (by omega), gt_sv_o (by omega), gt_sv_j (by omega)]
    · rw [gt_sv_o (by omega), gt_sv_o (by omega), Nat.zero_add, gt_sv_same]
  · rw [List.length_append] at hi
    simp only [List.length_singleton] at hi
    rw [gt_sv_o (by omega)]
    rcases Nat.lt_or_ge i O.length with q | q
    · rw [getD_app1 q]
      have hne : O.getD i 0 ≠ x := fun e => hxO (e ▸ getD_mem q)
      rw [gt_sv_j hne, gt_sv_o (by omega)]; exact h3 i q
    · have : i = O.length := by omega
      subst this
      have e := getD_app2 (l := O) (m := [x]) (i := 0)
      rw [Nat.add_zero] at e
      rw [e]
      exact gt_sv_same _ _ _ _
  · rw [gt_sv_j hj, gt_sv_o (by omega), gt_sv_o (by omega)]
  · rw [gt_sv_o hc.1, gt_sv_o hc.2.2, gt_sv_o hc.2.1]
theorem getD_inj {l : List Nat} (h : l.Nodup) {i j : Nat} (hi : i < l.length) (hj : j < l.length) (e : l.getD i 0 = l.getD j 0) : i = j := by
  rw [List.getD_eq_getElem?_getD, List.getD_eq_getElem?_getD, List.getElem?_eq_getElem hi, List.getElem?_eq_getElem hj] at e
  exact (List.getElem_inj h).mp e
theorem x_putIn {st : GS} {o n : Nat} {b : Bx} {rs : List Int} (hp : okP n b rs) (hsz : gt st (o + 1) 5 = nI n) (hrow : sg st (o + 23) 0 (rws b rs (List.range n))) (hrs : gt st o 11 = nI (rws b rs (List.range n)).length) (hfig : ∀ k, k < n → gt st (o + 10) k = eO (bnd b (List.range n) k)) :
    ok (f_X3_putInOrder o st) (fun st' => orS st' o (ords b rs (List.range n)) ∧ (∀ j, j ≠ 2 → gt st' o j = gt st o j) ∧ ∀ c j, (c ≠ o ∧ c ≠ o + 8 ∧ c ≠ o + 9) → gt st' c j = gt st c j) := by
  have hn := hp.1
  have hok : okB b (List.range n) := okB_of hp (fun k hk => List.mem_range.mp hk)
  have hnd : (List.range n).Nodup := List.nodup_range
  have hoN := ords_nd (rs := rs) hok hnd
  have hoP := ords_perm (rs := rs) hok hnd
  have hol : (ords b rs (List.range n)).length = n := by rw [hoP.length_eq, List.length_range]
  have hrp := rws_perm (rs := rs) hok
  generalize hR : rws b rs (List.range n) = Rw at *
  have hO : ords b rs (List.range n) = Rw.flatMap (fun x => x :: caps b (List.range n) x) := by unfold ords; rw [hR]
  have hRn : ∀ x ∈ Rw, x < n := fun x hx => List.mem_range.mp (List.mem_filter.mp (hrp.mem_iff.mp hx)).1
  have hRl : Rw.length ≤ 8 := by
    rw [hrp.length_eq]
    have := List.length_filter_le (fun k => decide (bnd b (List.range n) k = none)) (List.range n)
    rw [List.length_range] at this
    unfold fre; omega
  unfold f_X3_putInOrder
  refine ok_lt ?_
  refine ok_bI1 (P := fun st' => orS st' o (ords b rs (List.range n)) ∧ (∀ j, j ≠ 2 → gt st' o j = gt st o j) ∧ ∀ c j, (c ≠ o ∧ c ≠ o + 8 ∧ c ≠ o + 9) → gt st' c j = gt st c j) ?_ (fun r hr => ok_some hr)
  refine ok_for Rw.length (fun i z => z.1 = nI i ∧ orS z.2 o ((Rw.take i).flatMap (fun x => x :: caps b (List.range n) x)) ∧ (∀ j, j ≠ 2 → gt z.2 o j = gt st o j) ∧ ∀ c j, (c ≠ o ∧ c ≠ o + 8 ∧ c ≠ o + 9) → gt z.2 c j = gt st c j) _ ?_ ?_ 0 _ (Nat.zero_le _) ⟨rfl, ⟨gt_sv_same _ _ _ _, sg_nil, fun i hi => absurd hi (Nat.not_lt_zero _)⟩, fun j hj => gt_sv_j hj, fun c j hc => gt_sv_o hc.1⟩
  · rintro i ⟨z, s3⟩ hi ⟨h1, h2, h3, h4⟩
    simp only at h1 h2 h3 h4
    subst h1
    show ok (f_X3_putInOrder_L7 o (nI i) s3) _
    unfold f_X3_putInOrder_L7
    rw [h3 11 (by decide), hrs, if_neg (nI_ge hi (by omega))]
    have hk := getD_mem hi
    have hkn := hRn _ hk
    have erow : gt s3 (o + 23) i = nI (Rw.getD i 0) := by
      rw [h4 _ _ (by omega)]
      have := hrow i hi
      rw [Nat.zero_add] at this; exact this
    have ts := take_step hi
    simp only [gd_n (show i < 8 by omega) (show 8 < 2147483648 by omega), nI_clamp (show i < 2 ^ 31 by omega), lt_, erow]
    have htail : Rw = Rw.take i ++ (Rw.getD i 0 :: Rw.drop (i + 1)) := by
      have : Rw.take (i + 1) ++ Rw.drop (i + 1) = Rw := List.take_append_drop _ _
      rw [ts] at this
      simpa using this.symm
    generalize hy : Rw.getD i 0 = y at *
    generalize hO1 : (Rw.take i).flatMap (fun x => x :: caps b (List.range n) x) = O1 at *
    have hfull : ords b rs (List.range n) = O1 ++ (y :: (caps b (List.range n) y ++ (Rw.drop (i + 1)).flatMap (fun x => x :: caps b (List.range n) x))) := by
      rw [hO]
      conv => lhs; rw [htail]
      rw [List.flatMap_append, hO1, List.flatMap_cons]
      simp
    have hlen := hol
    rw [hfull] at hlen hoN
    simp only [List.length_append, List.length_cons] at hlen
    have hyO : y ∉ O1 := fun q => (List.nodup_append.mp hoN).2.2 y q y List.mem_cons_self rfl
    refine ok_bI1 (x_putNext h2 (x := y) (by omega) (by omega) hyO) ?_
    rintro s6 ⟨g1, g2, g3⟩
    refine ok_bI1 (P := fun s16 => orS s16 o (O1 ++ (y :: caps b (List.range n) y)) ∧ (∀ j, j ≠ 2 → gt s16 o j = gt st o j) ∧ ∀ c j, (c ≠ o ∧ c ≠ o + 8 ∧ c ≠ o + 9) → gt s16 c j = gt st c j) ?_ ?_
    · refine ok_for n (fun t z => z.1 = nI t ∧ orS z.2 o (O1 ++ (y :: (List.range t).filter (fun c => decide (bnd b (List.range n) c = some y)))) ∧ (∀ j, j ≠ 2 → gt z.2 o j = gt st o j) ∧ ∀ c j, (c ≠ o ∧ c ≠ o + 8 ∧ c ≠ o + 9) → gt z.2 c j = gt st c j) _ ?_ ?_ 0 _ (Nat.zero_le _) ⟨rfl, g1, fun j hj => by rw [g2 j hj]; exact h3 j hj, fun c j hc => by rw [g3 c j hc]; exact h4 c j hc⟩
      · rintro t ⟨z, s8⟩ ht ⟨k1, k2, k3, k4⟩
        simp only at k1 k2 k3 k4
        subst k1
        show ok (f_X3_putInOrder_L27 o (nI i) (nI t) s8) _
        unfold f_X3_putInOrder_L27
        rw [k4 _ _ (by omega), hsz, if_neg (nI_ge ht (by omega))]
        have efig : gt s8 (o + 10) t = eO (bnd b (List.range n) t) := by rw [k4 _ _ (by omega)]; exact hfig t ht
        have erow2 : gt s8 (o + 23) i = nI y := by
          rw [k4 _ _ (by omega)]
          have := hrow i hi
          rw [Nat.zero_add, hy] at this; exact this
        simp only [gd_n (show i < 8 by omega) (show 8 < 2147483648 by omega), gd_n (show t < 8 by omega) (show 8 < 2147483648 by omega), nI_clamp (show i < 2 ^ 31 by omega), nI_clamp (show t < 2 ^ 31 by omega), lt_, efig, erow2]
        have cond : eO (bnd b (List.range n) t) = nI y ↔ bnd b (List.range n) t = some y := by
          cases hq : bnd b (List.range n) t with
          | none =>
            constructor
            · intro e; exact absurd e.symm (nI_ne_m1 (by omega))
            · intro e; cases e
          | some f =>
            have : f < n := List.mem_range.mp (bnd_fig hq).1
            constructor
            · intro e; rw [nI_inj (by omega) (by omega) e]
            · intro e; cases e; rfl
        refine ok_if (fun c1 => ?_) (fun c1 => ?_)
        · have c2 := cond.mp c1
          have hstep : (List.range (t + 1)).filter (fun c => decide (bnd b (List.range n) c = some y)) = (List.range t).filter (fun c => decide (bnd b (List.range n) c = some y)) ++ [t] := by
            rw [range_step, List.filter_append]; simp [c2]
          have hpre : ∃ u, ords b rs (List.range n) = (O1 ++ (y :: (List.range t).filter (fun c => decide (bnd b (List.range n) c = some y)))) ++ (t :: u) := by
            have hr : List.range n = List.range t ++ (t :: (List.range n).drop (t + 1)) := by
              have e1 : (List.range n).take (t + 1) ++ (List.range n).drop (t + 1) = List.range n := List.take_append_drop _ _
              rw [List.take_range, Nat.min_eq_left (by omega), range_step] at e1
              simpa using e1.symm
            have hcp : caps b (List.range n) y = (List.range t).filter (fun c => decide (bnd b (List.range n) c = some y)) ++ (t :: ((List.range n).drop (t + 1)).filter (fun c => decide (bnd b (List.range n) c = some y))) := by
              show (List.range n).filter (fun c => decide (bnd b (List.range n) c = some y)) = _
              conv => lhs; arg 2; rw [hr]
              rw [List.filter_append, List.filter_cons]
              simp [c2]
            refine ⟨((List.range n).drop (t + 1)).filter (fun c => decide (bnd b (List.range n) c = some y)) ++ (Rw.drop (i + 1)).flatMap (fun x => x :: caps b (List.range n) x), ?_⟩
            rw [hfull]
            conv => lhs; rw [hcp]
            simp
          obtain ⟨u, hu⟩ := hpre
          have hl2 := hol
          rw [hu] at hl2
          simp only [List.length_append, List.length_cons] at hl2
          have hnd2 : ((O1 ++ (y :: (List.range t).filter (fun c => decide (bnd b (List.range n) c = some y)))) ++ (t :: u)).Nodup := by
            rw [← hu]; rw [hfull]; exact hoN
          refine ok_bI1 (x_putNext k2 (x := t) (by omega) (by rw [List.length_append, List.length_cons]; omega) (fun q => (List.nodup_append.mp hnd2).2.2 t q t List.mem_cons_self rfl)) ?_
          rintro s14 ⟨m1, m2, m3⟩
          refine ok_some (Or.inl ⟨_, rfl, nI_p1 t, ?_, fun j hj => by rw [m2 j hj]; exact k3 j hj, fun c j hc => by rw [m3 c j hc]; exact k4 c j hc⟩)
          rw [hstep]
          have : O1 ++ y :: ((List.range t).filter (fun c => decide (bnd b (List.range n) c = some y)) ++ [t]) = O1 ++ (y :: (List.range t).filter (fun c => decide (bnd b (List.range n) c = some y))) ++ [t] := by simp
          rw [this]; exact m1
        · have c2 : ¬ bnd b (List.range n) t = some y := fun q => c1 (cond.mpr q)
          have hstep : (List.range (t + 1)).filter (fun c => decide (bnd b (List.range n) c = some y)) = (List.range t).filter (fun c => decide (bnd b (List.range n) c = some y)) := by
            rw [range_step, List.filter_append]; simp [c2]
          refine ok_some (Or.inl ⟨_, rfl, nI_p1 t, ?_, k3, k4⟩)
          rw [hstep]; exact k2
      · rintro ⟨z, s8⟩ ⟨k1, k2, k3, k4⟩
        simp only at k1 k2 k3 k4
        subst k1
        show ok (f_X3_putInOrder_L27 o (nI i) (nI n) s8) _
        unfold f_X3_putInOrder_L27
        rw [k4 _ _ (by omega), hsz, if_pos (nI_le (Nat.le_refl _) (by omega))]
        exact ok_some ⟨_, rfl, k2, k3, k4⟩
    · rintro s16 ⟨k2, k3, k4⟩
      refine ok_some (Or.inl ⟨_, rfl, nI_p1 i, ?_, k3, k4⟩)
      rw [ts, List.flatMap_append, hO1]
      simpa using k2
  · rintro ⟨z, s3⟩ ⟨h1, h2, h3, h4⟩
    simp only at h1 h2 h3 h4
    subst h1
    show ok (f_X3_putInOrder_L7 o (nI Rw.length) s3) _
    unfold f_X3_putInOrder_L7
    rw [h3 11 (by decide), hrs, if_pos (nI_le (Nat.le_refl _) (by omega))]
    rw [List.take_length] at h2
    exact ok_some ⟨_, rfl, by rw [hO]; exact h2, h3, h4⟩
