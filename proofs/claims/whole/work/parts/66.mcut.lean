theorem ssd_minus {b : Bx} {l : Ln} {S r : Int32} (hs : sml S) (hr : idS r = fsd b l (idS S)) : idS (S &&& (r ^^^ (-1))) = ssd b l (idS S) ∧ sml (S &&& (r ^^^ (-1))) := by
  refine ⟨?_, (s_minus hs).2⟩
  rw [(s_minus hs).1]
  unfold ssd
  apply List.filter_congr
  intro k hk
  have h8 := (idS_mem.mp hk).1
  have e : k ∈ idS r ↔ k ∈ fsd b l (idS S) := by rw [hr]
  rw [idS_mem, show (k ∈ fsd b l (idS S) ↔ k ∈ idS S ∧ decide (en b l.1 k ≤ l.2.1) = true) from List.mem_filter] at e
  congr 1
  cases hb : bt r k
  · cases hd : decide (en b l.1 k ≤ l.2.1)
    · rfl
    · exact absurd (e.mpr ⟨hk, hd⟩).2 (by rw [hb]; decide)
  · exact ((e.mp ⟨h8, hb⟩).2).symm
noncomputable def m_cutF (x24 x26 x22 r : Int32) (st27 : GS) : Option ((Int32 × GS) ⊕ GS) := gd (5 * (gt st27 0 18)) 40 (lt_ (sv st27 7 ((5 * (gt st27 0 18)).toNatClampNeg) (gt st27 0 12)) (fun st31 => 
gd ((5 * (gt st31 0 18)) + 1) 40 (lt_ (sv st31 7 (((5 * (gt st31 0 18)) + 1).toNatClampNeg) (gt st31 0 13)) (fun st33 => 
gd ((5 * (gt st33 0 18)) + 2) 40 (lt_ (sv st33 7 (((5 * (gt st33 0 18)) + 2).toNatClampNeg) (gt st33 0 14)) (fun st35 => 
bI1 (f_X8_ones r) (fun r36 => 
gd ((5 * (gt st35 0 18)) + 3) 40 (lt_ (sv st35 7 (((5 * (gt st35 0 18)) + 3).toNatClampNeg) r36) (fun st38 => 
bI1 (f_X8_ones (x24 &&& (r ^^^ (-1)))) (fun r39 => 
gd ((5 * (gt st38 0 18)) + 4) 40 (lt_ (sv st38 7 (((5 * (gt st38 0 18)) + 4).toNatClampNeg) r39) (fun st41 => 
lt_ (sv st41 0 18 ((gt st41 0 18) + 1)) (fun st42 => 
gd (x22) 16 (lt_ (sv st42 10 ((x22).toNatClampNeg) (x24 &&& (r ^^^ (-1)))) (fun st44 => 
gd (x22) 16 (lt_ (sv st44 11 ((x22).toNatClampNeg) (x26 + 1)) (fun st46 => 
gd (x22 + 1) 16 (lt_ (sv st46 10 ((x22 + 1).toNatClampNeg) r) (fun st48 => 
gd (x22 + 1) 16 (lt_ (sv st48 11 ((x22 + 1).toNatClampNeg) (x26 + 1)) (fun st50 => 
lt_ (x22 + 2) (fun x51 => some (.inl (x51, st50))))))))))))))))))))))))
