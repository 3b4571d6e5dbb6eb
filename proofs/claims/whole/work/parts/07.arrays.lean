section AMX
variable {own nm : String} {b : ByteArray} {nL fr lo pc : Nat}
theorem am_ix_in {i : Int32} {n j : Nat} (h : am_ix i n = some j) : j = i.toNatClampNeg ∧ j < n ∧ ¬ i < 0 := by
  unfold am_ix at h
  split at h
  · cases h
  · rename_i h0
    split at h
    · cases h; exact ⟨rfl, by assumption, h0⟩
    · cases h
theorem am_T_at {G : am_G} {s : State} {ty : FieldType} {t N : Nat} {f : Nat → Value} {h : am_H} {H : Heap} (hT : va_T ty t N f (am_A G) s (gH G)) (hS : am_S G h H) : ∃ cell : Cell, H[t]? = some cell ∧ s.isArrayOf cell ty ∧ cell.vm ≠ .unknown ∧ N ≤ cell.slots.size ∧ cell.slots.size.toInt32 = Int32.ofNat N ∧ ∀ j : Nat, j < N → cell.slots[j]? = some (f j) := by
  obtain ⟨cell, h1, h2, h3, h4, h5, h6, h7⟩ := hT
  exact ⟨cell, by rw [hS.2.2.1 t (Nat.not_le.mp h7)]; exact h1, h2, h3, h4, h5, h6⟩
/-- an array of ints: one of ours, or one of the two tables -/
theorem am_int {G : am_G} {s : State} {h : am_H} {H : Heap} {a : Nat} (hKK : am_K G s) (hS : am_S G h H) (ht : (hK h a).1 = 100) : ∃ cell : Cell, H[am_ad G a]? = some cell ∧ s.isArrayOf cell .int ∧ cell.vm ≠ .unknown ∧ (hK h a).2 ≤ cell.slots.size ∧ cell.slots.size.toInt32 = Int32.ofNat (hK h a).2 ∧ ∀ j : Nat, j < (hK h a).2 → cell.slots[j]? = some (.int (hI h a j)) := by
  rcases Nat.lt_or_ge a 16 with z | z
  · have hsp := hS.2.2.2.2.1 a z
    have e1 : am_ad G a = gS G a := if_pos z
    have hk := hsp.1
    rw [hk] at ht
    have h01 : a = 0 ∨ a = 1 ∨ a = 15 := by
      unfold am_spK at ht
      split at ht <;> first | exact Or.inl rfl | exact Or.inr (Or.inl rfl) | exact Or.inr (Or.inr rfl) | cases ht
    rcases h01 with w | w | w
    · subst w
      obtain ⟨cell, g1, g2, g3, g4, g5, g6⟩ := am_T_at hKK.2.2.2.1 hS
      refine ⟨cell, by rw [e1]; exact g1, g2, g3, by rw [hk]; exact g4, by rw [hk]; exact g5, fun j hj => ?_⟩
      rw [hk] at hj
      rw [g6 j hj, hsp.2 j]
    · subst w
      obtain ⟨cell, g1, g2, g3, g4, g5, g6⟩ := am_T_at hKK.2.2.2.2.1 hS
      refine ⟨cell, by rw [e1]; exact g1, g2, g3, by rw [hk]; exact g4, by rw [hk]; exact g5, fun j hj => ?_⟩
      rw [hk] at hj
      rw [g6 j hj, hsp.2 j]
    · subst w
      obtain ⟨⟨cell, g1, g2, g3, g4, g5⟩, hlt, -⟩ := hKK.2.2.2.2.2.2.2.2.2.2.2
      refine ⟨cell, by rw [e1, hS.2.2.1 _ hlt]; exact g1, g2, g3, by rw [hk, g4]; exact Nat.le_refl _, by rw [hk, g4]; rfl, fun j hj => ?_⟩
      rw [hk] at hj
      rw [g5 j hj, hsp.2 j]
      rfl
  · obtain ⟨o1, o2⟩ := am_own hS (Or.inr (Or.inr ⟨z, by omega⟩))
    have hat := am_S_at hS o1 o2
    rw [am_cell_i ht] at hat
    have hA := ((am_KV hKK).2 0 _ rfl).1 (hK h a).2 (fun j => .int (hI h a j))
    have e : (arrV (gE G 100) (hK h a).2 (fun j => .int (hI h a j))).slots.size = (hK h a).2 := arrV_size _ _ _
    exact ⟨arrV (gE G 100) (hK h a).2 (fun j => .int (hI h a j)), hat, hA, (fun q => by cases q), Nat.le_of_eq e.symm, (by rw [e]), fun j hj => arrV_read _ _ hj⟩
def i_iald : am_I := fun f => match f.2.2.1 with
  | .inl i :: .inr (.inr (some a)) :: st => if (hK f.2.2.2 a).1 = 100 then (match am_ix i (hK f.2.2.2 a).2 with
    | some j => some (.inl (f.1 + 1, f.2.1, vi (hI f.2.2.2 a j) :: st, f.2.2.2))
    | none => none) else none
  | _ => none
theorem r_iald (hd : decode b pc = .ok (.iaload, 1)) : am_RF own nm b nL fr lo pc i_iald := by
  intro L st h f' e
  unfold i_iald at e
  dsimp only at e
  split at e
  · split at e
    · rename_i ht
      split at e
      · rename_i j hj
        cases e
        refine ⟨⟨Nat.le_refl _, Nat.le_refl _⟩, fun G p l e R s m args below meth c n0 s0 Q hC _ _ _ _ _ _ k1 H locs ls hS hlo hl => ?_⟩
        obtain ⟨cell, g1, g2, g3, g4, g5, g6⟩ := am_int hC.2.2.2.2.2.1 hS ht
        obtain ⟨j1, j2, j3⟩ := am_ix_in hj
        subst j1
        exact W.iald hC.1 hC.2.1 g1 g2 g3 (fun q => q.elim j3 (fun z => by have : _ < (hK h _).2 := j2; dsimp only at g4; omega)) (g6 _ j2) rfl rfl hd (k1 H locs ls hS hlo hl)
      · cases e
    · cases e
  · cases e
def i_lald : am_I := fun f => match f.2.2.1 with
  | .inl i :: .inr (.inr (some a)) :: st => if (hK f.2.2.2 a).1 = 101 then (match am_ix i (hK f.2.2.2 a).2 with
    | some j => some (.inl (f.1 + 1, f.2.1, vl (hL f.2.2.2 a j) :: st, f.2.2.2))
    | none => none) else none
  | _ => none
theorem am_vpin {i : Int32} {n : Nat} (h1 : i.toNatClampNeg < n) (h2 : ¬ i < 0) : vp_in i n := fun q => q.elim h2 (fun z => by omega)
theorem r_lald (hd : decode b pc = .ok (.laload, 1)) : am_RF own nm b nL fr lo pc i_lald := by
  intro L st h f' e
  unfold i_lald at e
  dsimp only at e
  split at e
  · split at e
    · rename_i ht
      split at e
      · rename_i j hj
        cases e
        refine ⟨⟨Nat.le_refl _, Nat.le_refl _⟩, fun G p l e R s m args below meth c n0 s0 Q hC _ _ _ _ _ _ k1 H locs ls hS hlo hl => ?_⟩
        obtain ⟨o1, o2⟩ := am_own hS (Or.inr (Or.inl ⟨by rw [ht]; decide, by rw [ht]; decide⟩))
        have hat := am_S_at hS o1 o2
        rw [am_cell_l ht] at hat
        obtain ⟨j1, j2, j3⟩ := am_ix_in hj
        subst j1
        exact va_lald hC.1 hC.2.1 (am_KV hC.2.2.2.2.2.1) (am_P1 hat) 0 1 rfl rfl (am_vpin j2 j3) hd (k1 H locs ls hS hlo hl)
      · cases e
    · cases e
  · cases e
/-- the arrays of references: where their class stands in am_tys -/
def am_rt (t : Nat) : Option (Nat × FieldType) := match t with
  | 102 => some (2, .object "HadItFrom$Man")
  | 103 => some (3, .object "HadItFrom$Row")
  | 104 => some (4, .array .int)
  | 105 => some (5, .array .long)
  | _ => none
theorem am_rt_t {t i : Nat} {ty : FieldType} (h : am_rt t = some (i, ty)) (G : am_G) : (am_tys G)[i]? = some (gE G t, ty) ∧ ty.isReference = true ∧ 101 < t ∧ t < 200 := by
  unfold am_rt at h
  split at h
  · cases h; exact ⟨rfl, rfl, by decide, by decide⟩
  · cases h; exact ⟨rfl, rfl, by decide, by decide⟩
  · cases h; exact ⟨rfl, rfl, by decide, by decide⟩
  · cases h; exact ⟨rfl, rfl, by decide, by decide⟩
  · cases h
def i_aald : am_I := fun f => match f.2.2.1 with
  | .inl i :: .inr (.inr (some a)) :: st => match am_rt (hK f.2.2.2 a).1 with
    | some _ => (match am_ix i (hK f.2.2.2 a).2 with
      | some j => some (.inl (f.1 + 1, f.2.1, vr (hR f.2.2.2 a j) :: st, f.2.2.2))
      | none => none)
    | none => none
  | _ => none
theorem r_aald (hd : decode b pc = .ok (.aaload, 1)) : am_RF own nm b nL fr lo pc i_aald := by
  intro L st h f' e
  unfold i_aald at e
  dsimp only at e
  split at e
  · rename_i i a st1
    split at e
    · rename_i q ht
      obtain ⟨i9, ty9⟩ := q
      split at e
      · rename_i j hj
        cases e
        refine ⟨⟨Nat.le_refl _, Nat.le_refl _⟩, fun G p l e R s m args below meth c n0 s0 Q hC _ _ _ _ _ _ k1 H locs ls hS hlo hl => ?_⟩
        obtain ⟨t1, t2, t3, t4⟩ := am_rt_t ht G
        obtain ⟨o1, o2⟩ := am_own hS (Or.inr (Or.inl ⟨Nat.lt_trans (by decide : 100 < 101) t3, t4⟩))
        have hat := am_S_at hS o1 o2
        rw [am_cell_r rfl t3] at hat
        obtain ⟨j1, j2, j3⟩ := am_ix_in hj
        subst j1
        exact W.aald (ty := ty9) hC.1 hC.2.1 hat (((am_KV hC.2.2.2.2.2.1).2 i9 _ t1).1 (hK h a).2 (fun j => va_rf ((hR h a j).map (am_ad G)))) t2 (fun q => by cases q) (fun q => by
          rcases q with z | z
          · exact j3 z
          · have e9 : (arrV (gE G (hK h a).1) (hK h a).2 (fun j => va_rf ((hR h a j).map (am_ad G)))).slots.size = (hK h a).2 := arrV_size _ _ _
            have z' : (arrV (gE G (hK h a).1) (hK h a).2 (fun j => va_rf ((hR h a j).map (am_ad G)))).slots.size ≤ i.toNatClampNeg := z
            rw [e9] at z'
            exact absurd j2 (Nat.not_lt.mpr z')) (arrV_read _ _ j2) rfl rfl hd (k1 H locs ls hS hlo hl)
      · cases e
    · cases e
  · cases e
def i_alen : am_I := fun f => match f.2.2.1 with
  | .inr (.inr (some a)) :: st => if (hK f.2.2.2 a).1 = 100 ∨ (hK f.2.2.2 a).1 = 101 then some (.inl (f.1 + 1, f.2.1, vi (Int32.ofNat (hK f.2.2.2 a).2) :: st, f.2.2.2)) else none
  | _ => none
theorem r_alen (hd : decode b pc = .ok (.arraylength, 1)) : am_RF own nm b nL fr lo pc i_alen := by
  intro L st h f' e
  unfold i_alen at e
  dsimp only at e
  split at e
  · split at e
    · rename_i ht
      cases e
      refine ⟨⟨Nat.le_refl _, Nat.le_refl _⟩, fun G p l e R s m args below meth c n0 s0 Q hC _ _ _ _ _ _ k1 H locs ls hS hlo hl => ?_⟩
      rcases ht with ht | ht
      · obtain ⟨cell, g1, g2, g3, g4, g5, g6⟩ := am_int hC.2.2.2.2.2.1 hS ht
        exact W.alen hC.1 hC.2.1 g1 g2 g5 rfl rfl hd (k1 H locs ls hS hlo hl)
      · obtain ⟨o1, o2⟩ := am_own hS (Or.inr (Or.inl ⟨by rw [ht]; decide, by rw [ht]; decide⟩))
        have hat := am_S_at hS o1 o2
        rw [am_cell_l ht] at hat
        exact va_alen hC.1 hC.2.1 (am_KV hC.2.2.2.2.2.1) (am_P1 hat) 0 1 rfl rfl rfl hd (k1 H locs ls hS hlo hl)
    · cases e
  · cases e
-- writes
def i_iast : am_I := fun f => match f.2.2.1 with
  | .inl x :: .inl i :: .inr (.inr (some a)) :: st => if (hK f.2.2.2 a).1 = 100 ∧ 16 ≤ a then (match am_ix i (hK f.2.2.2 a).2 with
    | some j => some (.inl (f.1 + 1, f.2.1, st, pI f.2.2.2 a j x))
    | none => none) else none
  | _ => none
theorem am_upd {f : Nat → Int32} {k : Nat} {x : Int32} : (fun j => Value.int (if j = k then x else f j)) = updV (fun j => .int (f j)) k (.int x) := by
  funext j
  unfold updV
  by_cases h : j = k
  · rw [if_pos h, if_pos h]
  · rw [if_neg h, if_neg h]
theorem r_iast (hd : decode b pc = .ok (.iastore, 1)) : am_RF own nm b nL fr lo pc i_iast := by
  intro L st h f' e
  unfold i_iast at e
  dsimp only at e
  split at e
  · rename_i x i a st1
    split at e
    · rename_i ht
      split at e
      · rename_i j hj
        cases e
        refine ⟨⟨Nat.le_refl _, Nat.le_refl _⟩, fun G p l e R s m args below meth c n0 s0 Q hC _ _ _ _ _ _ k1 H locs ls hS hlo hl => ?_⟩
        obtain ⟨o1, o2⟩ := am_own hS (Or.inr (Or.inr ⟨ht.2, by rw [ht.1]; decide⟩))
        have hat := am_S_at hS o1 o2
        rw [am_cell_i ht.1] at hat
        obtain ⟨j1, j2, j3⟩ := am_ix_in hj
        subst j1
        have e9 : (vp_cell (gE G 100) ((hK h a).2, Sum.inl (hI h a))).slots.size = (hK h a).2 := arrV_size _ _ _
        refine W.iast hC.1 hC.2.1 hat (((am_KV hC.2.2.2.2.2.1).2 0 _ rfl).1 (hK h a).2 (fun j => .int (hI h a j))) (fun q => by cases q) (fun q => q.elim j3 (fun z => by
          have z' : (vp_cell (gE G 100) ((hK h a).2, Sum.inl (hI h a))).slots.size ≤ i.toNatClampNeg := z
          rw [e9] at z'
          exact absurd j2 (Nat.not_lt.mpr z'))) rfl rfl hd fun H1 e1 z oq => ?_
        refine k1 H1 _ ls (am_S_put hS o1 z oq ?_ rfl rfl (fun _ w => am_cell_pI w) (am_sp_pI o1)) (am_locs hlo (am_A_own o1)) hl
        rw [am_cell_i (show (hK (pI h a i.toNatClampNeg x) a).1 = 100 from ht.1)]
        show H1[am_ad G a]? = some (vp_cell _ _)
        rw [e1]
        show some ((arrV (gE G 100) (hK h a).2 (fun j => .int (hI h a j))).setSlot i.toNatClampNeg (.int x)) = some (arrV (gE G 100) (hK h a).2 (fun j => .int (am_u (hI h) a i.toNatClampNeg x a j)))
        rw [arrV_store, ← am_upd]
        unfold am_u
        simp only [true_and]
      · cases e
    · cases e
  · cases e
def i_last : am_I := fun f => match f.2.2.1 with
  | .inr (.inl x) :: .inl i :: .inr (.inr (some a)) :: st => if (hK f.2.2.2 a).1 = 101 then (match am_ix i (hK f.2.2.2 a).2 with
    | some j => some (.inl (f.1 + 1, f.2.1, st, pL f.2.2.2 a j x))
    | none => none) else none
  | _ => none
theorem am_updl {f : Nat → Int64} {k : Nat} {x : Int64} : (fun j => Value.long (if j = k then x else f j)) = updV (fun j => .long (f j)) k (.long x) := by
  funext j
  unfold updV
  by_cases h : j = k
  · rw [if_pos h, if_pos h]
  · rw [if_neg h, if_neg h]
theorem r_last (hd : decode b pc = .ok (.lastore, 1)) : am_RF own nm b nL fr lo pc i_last := by
  intro L st h f' e
  unfold i_last at e
  dsimp only at e
  split at e
  · rename_i x i a st1
    split at e
    · rename_i ht
      split at e
      · rename_i j hj
        cases e
        refine ⟨⟨Nat.le_refl _, Nat.le_refl _⟩, fun G p l e R s m args below meth c n0 s0 Q hC _ _ _ _ _ _ k1 H locs ls hS hlo hl => ?_⟩
        obtain ⟨o1, o2⟩ := am_own hS (Or.inr (Or.inl ⟨by rw [ht]; decide, by rw [ht]; decide⟩))
        have hat := am_S_at hS o1 o2
        rw [am_cell_l ht] at hat
        obtain ⟨j1, j2, j3⟩ := am_ix_in hj
        subst j1
        have e9 : (vp_cell (gE G 101) ((hK h a).2, Sum.inr (Sum.inl (hL h a)))).slots.size = (hK h a).2 := arrV_size _ _ _
        refine W.last hC.1 hC.2.1 hat (((am_KV hC.2.2.2.2.2.1).2 1 _ rfl).1 (hK h a).2 (fun j => .long (hL h a j))) (fun q => by cases q) (fun q => q.elim j3 (fun z => by
          have z' : (vp_cell (gE G 101) ((hK h a).2, Sum.inr (Sum.inl (hL h a)))).slots.size ≤ i.toNatClampNeg := z
          rw [e9] at z'
          exact absurd j2 (Nat.not_lt.mpr z'))) rfl rfl hd fun H1 e1 z oq => ?_
        refine k1 H1 _ ls (am_S_put hS o1 z oq ?_ rfl rfl (fun _ w => am_cell_pL w) (fun _ _ _ => rfl)) (am_locs hlo (am_A_own o1)) hl
        rw [am_cell_l (show (hK (pL h a i.toNatClampNeg x) a).1 = 101 from ht)]
        show H1[am_ad G a]? = some (vp_cell _ _)
        rw [e1]
        show some ((arrV (gE G 101) (hK h a).2 (fun j => .long (hL h a j))).setSlot i.toNatClampNeg (.long x)) = some (arrV (gE G 101) (hK h a).2 (fun j => .long (am_u (hL h) a i.toNatClampNeg x a j)))
        rw [arrV_store, ← am_updl]
        unfold am_u
        simp only [true_and]
      · cases e
    · cases e
  · cases e
/-- a reference into a row of Man or of Row -/
def am_okr (h : am_H) (x : Option Nat) (cs : List Nat) : Bool := match x with
  | none => true
  | some v => decide ((hK h v).1 ∈ cs)
def i_aast (t : Nat) (cs : List Nat) : am_I := fun f => match f.2.2.1 with
  | .inr (.inr x) :: .inl i :: .inr (.inr (some a)) :: st => if (hK f.2.2.2 a).1 = t ∧ am_okr f.2.2.2 x cs = true then (match am_ix i (hK f.2.2.2 a).2 with
    | some j => some (.inl (f.1 + 1, f.2.1, st, pR f.2.2.2 a j x))
    | none => none) else none
  | _ => none
theorem am_updr {G : am_G} {f : Nat → Option Nat} {k : Nat} {x : Option Nat} : (fun j => va_rf ((if j = k then x else f j).map (am_ad G))) = updV (fun j => va_rf ((f j).map (am_ad G))) k (am_rf G x) := by
  funext j
  unfold updV
  by_cases h : j = k
  · rw [if_pos h, if_pos h]; rfl
  · rw [if_neg h, if_neg h]
theorem r_aast {t i9 : Nat} {E : String} {cs : List Nat} (hd : decode b pc = .ok (.aastore, 1)) (hrt : am_rt t = some (i9, .object E)) (hcs : ∀ c ∈ cs, c < 13 ∧ ((am_q c).1 = E ∨ Cond.castable (am_q c).1 E ∈ am_T)) : am_RF own nm b nL fr lo pc (i_aast t cs) := by
  intro L st h f' e
  unfold i_aast at e
  dsimp only at e
  split at e
  · rename_i x i a st1
    split at e
    · rename_i ht
      split at e
      · rename_i j hj
        cases e
        refine ⟨⟨Nat.le_refl _, Nat.le_refl _⟩, fun G p l e R s m args below meth c n0 s0 Q hC _ _ _ _ _ _ k1 H locs ls hS hlo hl => ?_⟩
        obtain ⟨t1, t2, t3, t4⟩ := am_rt_t hrt G
        have ht1 : (hK h a).1 = t := ht.1
        obtain ⟨o1, o2⟩ := am_own hS (Or.inr (Or.inl ⟨by rw [ht.1]; omega, by rw [ht.1]; exact t4⟩))
        have hat := am_S_at hS o1 o2
        rw [am_cell_r ht.1 t3] at hat
        obtain ⟨j1, j2, j3⟩ := am_ix_in hj
        subst j1
        have e9 : (vp_cell (gE G t) ((hK h a).2, Sum.inr (Sum.inr (Sum.inr (Sum.inr (fun j => (hR h a j).map (am_ad G))))))).slots.size = (hK h a).2 := arrV_size _ _ _
        have hKv := am_KV hC.2.2.2.2.2.1
        have hin9 : ¬ (i < 0 ∨ (vp_cell (gE G t) ((hK h a).2, Sum.inr (Sum.inr (Sum.inr (Sum.inr (fun j => (hR h a j).map (am_ad G))))))).slots.size ≤ i.toNatClampNeg) := fun q => q.elim j3 (fun z => by
          rw [e9] at z
          exact absurd j2 (Nat.not_lt.mpr z))
        have fin : ∀ H1 : Heap, H1[am_ad G a]? = some ((vp_cell (gE G t) ((hK h a).2, Sum.inr (Sum.inr (Sum.inr (Sum.inr (fun j => (hR h a j).map (am_ad G))))))).setSlot i.toNatClampNeg (am_rf G x)) → H1.size = H.size → (∀ q : Nat, q ≠ am_ad G a → H1[q]? = H[q]?) → W p l e R s m args below meth c H1 (locs ++ [⟨am_ad G a, i.toNatClampNeg⟩]) (hN h - n0) (hSl h - s0) Q (F0 m (pc + 1) ls (st1.map (am_cv G))) := by
          intro H1 e1 z oq
          refine k1 H1 _ ls (am_S_put hS o1 z oq ?_ rfl rfl (fun _ w => am_cell_pR w) (fun _ _ _ => rfl)) (am_locs hlo (am_A_own o1)) hl
          rw [am_cell_r (show (hK (pR h a i.toNatClampNeg x) a).1 = t from ht.1) t3]
          show H1[am_ad G a]? = some (vp_cell _ _)
          rw [e1]
          show some ((arrV (gE G t) (hK h a).2 (fun j => va_rf ((hR h a j).map (am_ad G)))).setSlot i.toNatClampNeg (am_rf G x)) = some (arrV (gE G t) (hK h a).2 (fun j => va_rf ((am_u (hR h) a i.toNatClampNeg x a j).map (am_ad G))))
          rw [arrV_store, ← am_updr]
          unfold am_u
          simp only [true_and]
        cases x with
        | none => exact va_WaastN (C := E) hC.1 hC.2.1 hat ((hKv.2 i9 _ t1).1 (hK h a).2 (fun j => va_rf ((hR h a j).map (am_ad G)))) (fun q => by cases q) hin9 rfl rfl hd fin
        | some v =>
          have hv : (hK h v).1 ∈ cs := of_decide_eq_true ht.2
          obtain ⟨v1, v2⟩ := hcs _ hv
          obtain ⟨w1, w2⟩ := am_own hS (Or.inl v1)
          have hatv := am_S_at hS w1 w2
          rw [am_cell_o rfl v1] at hatv
          obtain ⟨r', hr', cellV, g1, g2, g3, -⟩ := hatv
          have hcls := (hKv.1 _ _ (am_q_some v1)).2
          obtain ⟨kA, comp, k1', k2', k3', -⟩ := (hKv.2 i9 _ t1).2
          obtain ⟨kE, hkE, -⟩ := Vm.findClass_spec k3'
          obtain ⟨kC, hkC, -⟩ := hcls.2
          have hasg : s.vm.assignable ((gD G).1 (hK h v).1) comp = true := by
            rcases v2 with z | z
            · have e5 : comp = (gD G).1 (hK h v).1 := by
                have e6 := hcls.1
                rw [z] at e6
                exact Option.some.inj (k3'.symm.trans e6)
              rw [e5]
              exact va_assign hcls
            · obtain ⟨c0, t1', f1, f2, f3⟩ := Cond.castable_spec (hC.2.2.2.2.1 _ z)
              cases hcls.1.symm.trans f1
              cases k3'.symm.trans f2
              exact f3
          exact W.aast hC.1 hC.2.1 hat (fun q h => by cases h) (fun h => by cases h) k1' k2' rfl hkE ⟨j3, by rw [e9]; exact j2⟩ g1 (fun q h => by rw [g3] at h; cases h) (by rw [g2]; exact hkC) (by rw [g2]; exact hasg) rfl rfl hd fin
      · cases e
    · cases e
  · cases e
end AMX
