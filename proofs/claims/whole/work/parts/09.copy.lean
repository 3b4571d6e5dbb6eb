section AMY
variable {own nm : String} {b : ByteArray} {nL fr lo pc : Nat}
def am_cpok (sp dp n : Int32) (n0 n1 : Nat) : Prop := ¬ sp < 0 ∧ ¬ dp < 0 ∧ ¬ n < 0 ∧ sp.toNatClampNeg + n.toNatClampNeg ≤ n0 ∧ dp.toNatClampNeg + n.toNatClampNeg ≤ n1
theorem am_nn : ∀ z : Int32, ¬ z < 0 → z.toInt = (z.toNatClampNeg : Int) := by
  intro z hz
  have hz0 : (0 : Int) ≤ z.toInt := by
    have := Int32.not_lt.mp hz
    simpa using Int32.le_iff_toInt_le.mp this
  show z.toInt = ((z.toInt.toNat : Nat) : Int)
  omega
def i_acI : am_I := fun f => match f.2.2.1 with
  | .inl n :: .inl dp :: .inr (.inr (some d)) :: .inl sp :: .inr (.inr (some a)) :: st =>
    if (hK f.2.2.2 a).1 = 100 ∧ (hK f.2.2.2 d).1 = 100 ∧ 16 ≤ d ∧ am_cats st ≤ 8 ∧ (¬ sp < 0 ∧ ¬ dp < 0 ∧ ¬ n < 0 ∧ sp.toNatClampNeg + n.toNatClampNeg ≤ (hK f.2.2.2 a).2 ∧ dp.toNatClampNeg + n.toNatClampNeg ≤ (hK f.2.2.2 d).2)
    then some (.inl (f.1 + 3, f.2.1, st, pIs f.2.2.2 d (va_cpy (hI f.2.2.2 a) (hI f.2.2.2 d) sp.toNatClampNeg dp.toNatClampNeg n.toNatClampNeg))) else none
  | _ => none
def i_acL : am_I := fun f => match f.2.2.1 with
  | .inl n :: .inl dp :: .inr (.inr (some d)) :: .inl sp :: .inr (.inr (some a)) :: st =>
    if (hK f.2.2.2 a).1 = 101 ∧ (hK f.2.2.2 d).1 = 101 ∧ am_cats st ≤ 8 ∧ (¬ sp < 0 ∧ ¬ dp < 0 ∧ ¬ n < 0 ∧ sp.toNatClampNeg + n.toNatClampNeg ≤ (hK f.2.2.2 a).2 ∧ dp.toNatClampNeg + n.toNatClampNeg ≤ (hK f.2.2.2 d).2)
    then some (.inl (f.1 + 3, f.2.1, st, pLs f.2.2.2 d (va_cpy (hL f.2.2.2 a) (hL f.2.2.2 d) sp.toNatClampNeg dp.toNatClampNeg n.toNatClampNeg))) else none
  | _ => none
theorem am_cell_pIs {G : am_G} {h : am_H} {a : Nat} {g : Nat → Int32} {c : Nat} (hc : c ≠ a) : am_cell G (pIs h a g) c = am_cell G h c := by
  have e1 : hK (pIs h a g) = hK h := rfl
  have e2 : hL (pIs h a g) = hL h := rfl
  have e3 : hR (pIs h a g) = hR h := rfl
  have e4 : hI (pIs h a g) c = hI h c := by funext j; exact if_neg hc
  unfold am_cell
  rw [e1, e2, e3, e4]
  have e5 : ∀ j ty, am_fv G (pIs h a g) c j ty = am_fv G h c j ty := fun j ty => by unfold am_fv; rw [e2, e3, e4]
  simp only [e5]
theorem am_cell_pLs {G : am_G} {h : am_H} {a : Nat} {g : Nat → Int64} {c : Nat} (hc : c ≠ a) : am_cell G (pLs h a g) c = am_cell G h c := by
  have e1 : hK (pLs h a g) = hK h := rfl
  have e2 : hI (pLs h a g) = hI h := rfl
  have e3 : hR (pLs h a g) = hR h := rfl
  have e4 : hL (pLs h a g) c = hL h c := by funext j; exact if_neg hc
  unfold am_cell
  rw [e1, e2, e3, e4]
  have e5 : ∀ j ty, am_fv G (pLs h a g) c j ty = am_fv G h c j ty := fun j ty => by unfold am_fv; rw [e2, e3, e4]
  simp only [e5]
theorem r_acI {x : Nat} (hd : decode b pc = .ok (.invokestatic x, 3)) (h1 : Cond.methodLink own x arraycopyName ∈ am_T) (h2 : Cond.native arraycopyName ∈ am_T) (h3 : Cond.static arraycopyName ∈ am_T) (h4 : Cond.initialized "java/lang/System" ∈ am_T) (hfr : 1 ≤ fr) (hlo9 : 8 + (nativeFrameWords "java/lang/System" "arraycopy" 5 + 11) ≤ lo) : am_RF own nm b nL fr lo pc i_acI := by
  intro L st h f' e
  unfold i_acI at e
  dsimp only at e
  split at e
  · rename_i n dp d sp a st1
    split at e
    · rename_i hc
      cases e
      refine ⟨⟨Nat.le_refl _, Nat.le_refl _⟩, fun G p l e R s m args below meth c n0 s0 Q hC q1 q2 _ _ _ _ k1 H locs ls hS hlo hl => ?_⟩
      obtain ⟨c1, c2, c3, c4, d1, d2, d3, d4, d5⟩ := hc
      have ec := am_cats_cv G st1
      have hts := hC.2.2.2.2.1
      obtain ⟨cs, a1, a2, a3, a4, a5, a6⟩ := am_int hC.2.2.2.2.2.1 hS c1
      obtain ⟨o1, o2⟩ := am_own hS (Or.inr (Or.inr ⟨c3, by rw [c2]; decide⟩))
      have hat := am_S_at hS o1 o2
      rw [am_cell_i c2] at hat
      have hat : H[am_ad G d]? = some (arrV (gE G 100) (hK h d).2 (fun j => .int (hI h d j))) := hat
      intro T hT X
      obtain ⟨hs6, k0, hk0, cm0, hkk0⟩ := a2
      obtain ⟨-, k2, hk2, cm2, hkk2⟩ := ((am_KV hC.2.2.2.2.2.1).2 0 _ rfl).1 (hK h d).2 (fun j => .int (hI h d j))
      have c1' : c.code = b := hC.2.1
      obtain ⟨vm', X', step⟩ := X.arraycopy hC.1 hC.2.2.2.1 (hts _ h1) (hts _ h2) (hts _ h3) (hts _ h4) (src := am_ad G a) (dst := am_ad G d) (cs := cs) (cd := arrV (gE G 100) (hK h d).2 (fun j => .int (hI h d j))) (srcPos := sp) (destPos := dp) (n := n) (by rw [hT]; exact a1) (by rw [hT]; exact hat)
        hs6 (fun _ h => by cases h) a3 (fun h => by cases h) hk0 hk2 hkk0 hkk2 (by simp [refKind]) d1 d2 d3
        (by rw [am_nn sp d1, am_nn n d3]; dsimp only at a4; omega)
        (by rw [am_nn dp d2, am_nn n d3, arrV_size]; omega)
        (fun vm₁ _ i hi => by
          have e : cs.slots.getD (sp.toNatClampNeg + i) .null = .int (hI h a (sp.toNatClampNeg + i)) := by
            rw [Array.getD_eq_getD_getElem?, a6 _ (Nat.lt_of_lt_of_le (Nat.add_lt_add_left hi _) d4)]
            rfl
          refine ⟨?_, ?_⟩
          · rw [e]; rfl
          · rw [e]; exact trivial)
        (g := F0 m pc ls ((vi n :: vi dp :: vr (some d) :: vi sp :: vr (some a) :: st1).map (am_cv G))) rfl (by rw [hC.2.2.1]; exact hl.1) (rest := st1.map (am_cv G)) rfl (by rw [c1']; exact hd) (by omega) (by show 2 * 0 + _ + _ ≤ _; omega)
      have e1 : copied cs (arrV (gE G 100) (hK h d).2 (fun j => .int (hI h d j))) sp dp n = arrV (gE G 100) (hK h d).2 (fun j => .int (va_cpy (hI h a) (hI h d) sp.toNatClampNeg dp.toNatClampNeg n.toNatClampNeg j)) := va_copiedX (fun z => .int z) cs (gE G 100) (hI h a) (hI h d) a6 d4
      rw [e1] at X' step
      have hsz : am_ad G d < H.size := (Array.getElem?_eq_some_iff.mp hat).1
      have hheap : ((T.setVm vm').setCell (am_ad G d) (arrV (gE G 100) (hK h d).2 (fun j => .int (va_cpy (hI h a) (hI h d) sp.toNatClampNeg dp.toNatClampNeg n.toNatClampNeg j)))).heap = H.setIfInBounds (am_ad G d) (arrV (gE G 100) (hK h d).2 (fun j => .int (va_cpy (hI h a) (hI h d) sp.toNatClampNeg dp.toNatClampNeg n.toNatClampNeg j))) := by rw [← hT]; rfl
      obtain ⟨t, g1, g2⟩ := k1 (H.setIfInBounds (am_ad G d) (arrV (gE G 100) (hK h d).2 (fun j => .int (va_cpy (hI h a) (hI h d) sp.toNatClampNeg dp.toNatClampNeg n.toNatClampNeg j)))) _ ls
        (am_S_put hS o1 (by simp) (fun q hq => by simp [Array.getElem?_setIfInBounds, Ne.symm hq]) (by
          rw [am_cell_i (show (hK (pIs h d _) d).1 = 100 from c2)]
          show (H.setIfInBounds (am_ad G d) _)[am_ad G d]? = some (vp_cell _ _)
          have f1 : hI (pIs h d (va_cpy (hI h a) (hI h d) sp.toNatClampNeg dp.toNatClampNeg n.toNatClampNeg)) d = va_cpy (hI h a) (hI h d) sp.toNatClampNeg dp.toNatClampNeg n.toNatClampNeg := by funext j; exact if_pos rfl
          rw [f1]
          simp [Array.getElem?_setIfInBounds, hsz]
          rfl) rfl rfl (fun _ w => am_cell_pIs w) (fun c hc j => if_neg (by omega))) (fun q hq => by
          rcases List.mem_append.mp hq with z | z
          · exact hlo q z
          · obtain ⟨y, -, hy⟩ := List.mem_map.mp z
            rw [← hy]
            exact am_A_own o1) hl _ hheap X'
      exact ⟨t, step t g1, g2⟩
    · cases e
  · cases e
theorem r_acL {x : Nat} (hd : decode b pc = .ok (.invokestatic x, 3)) (h1 : Cond.methodLink own x arraycopyName ∈ am_T) (h2 : Cond.native arraycopyName ∈ am_T) (h3 : Cond.static arraycopyName ∈ am_T) (h4 : Cond.initialized "java/lang/System" ∈ am_T) (hfr : 1 ≤ fr) (hlo9 : 8 + (nativeFrameWords "java/lang/System" "arraycopy" 5 + 11) ≤ lo) : am_RF own nm b nL fr lo pc i_acL := by
  intro L st h f' e
  unfold i_acL at e
  dsimp only at e
  split at e
  · rename_i n dp d sp a st1
    split at e
    · rename_i hc
      cases e
      refine ⟨⟨Nat.le_refl _, Nat.le_refl _⟩, fun G p l e R s m args below meth c n0 s0 Q hC q1 q2 _ _ _ _ k1 H locs ls hS hlo hl => ?_⟩
      obtain ⟨c1, c2, c4, d1, d2, d3, d4, d5⟩ := hc
      have ec := am_cats_cv G st1
      have hts := hC.2.2.2.2.1
      obtain ⟨p1, p2⟩ := am_own hS (Or.inr (Or.inl ⟨by rw [c1]; decide, by rw [c1]; decide⟩))
      have has := am_S_at hS p1 p2
      rw [am_cell_l c1] at has
      have has : H[am_ad G a]? = some (arrV (gE G 101) (hK h a).2 (fun j => .long (hL h a j))) := has
      obtain ⟨o1, o2⟩ := am_own hS (Or.inr (Or.inl ⟨by rw [c2]; decide, by rw [c2]; decide⟩))
      have hat := am_S_at hS o1 o2
      rw [am_cell_l c2] at hat
      have hat : H[am_ad G d]? = some (arrV (gE G 101) (hK h d).2 (fun j => .long (hL h d j))) := hat
      intro T hT X
      obtain ⟨-, k0, hk0, cm0, hkk0⟩ := ((am_KV hC.2.2.2.2.2.1).2 1 _ rfl).1 (hK h a).2 (fun j => .long (hL h a j))
      obtain ⟨-, k2, hk2, cm2, hkk2⟩ := ((am_KV hC.2.2.2.2.2.1).2 1 _ rfl).1 (hK h d).2 (fun j => .long (hL h d j))
      have c1' : c.code = b := hC.2.1
      have a6 : ∀ j : Nat, j < (hK h a).2 → (arrV (gE G 101) (hK h a).2 (fun j => .long (hL h a j))).slots[j]? = some (.long (hL h a j)) := fun j hj => arrV_read _ _ hj
      obtain ⟨vm', X', step⟩ := X.arraycopy hC.1 hC.2.2.2.1 (hts _ h1) (hts _ h2) (hts _ h3) (hts _ h4) (src := am_ad G a) (dst := am_ad G d) (cs := arrV (gE G 101) (hK h a).2 (fun j => .long (hL h a j))) (cd := arrV (gE G 101) (hK h d).2 (fun j => .long (hL h d j))) (srcPos := sp) (destPos := dp) (n := n) (by rw [hT]; exact has) (by rw [hT]; exact hat)
        (fun _ h => by cases h) (fun _ h => by cases h) (fun h => by cases h) (fun h => by cases h) hk0 hk2 hkk0 hkk2 (by simp [refKind]) d1 d2 d3
        (by rw [am_nn sp d1, am_nn n d3, arrV_size]; omega)
        (by rw [am_nn dp d2, am_nn n d3, arrV_size]; omega)
        (fun vm₁ _ i hi => by
          have e : (arrV (gE G 101) (hK h a).2 (fun j => .long (hL h a j))).slots.getD (sp.toNatClampNeg + i) .null = .long (hL h a (sp.toNatClampNeg + i)) := by
            rw [Array.getD_eq_getD_getElem?, a6 _ (Nat.lt_of_lt_of_le (Nat.add_lt_add_left hi _) d4)]
            rfl
          refine ⟨?_, ?_⟩
          · rw [e]; rfl
          · rw [e]; exact trivial)
        (g := F0 m pc ls ((vi n :: vi dp :: vr (some d) :: vi sp :: vr (some a) :: st1).map (am_cv G))) rfl (by rw [hC.2.2.1]; exact hl.1) (rest := st1.map (am_cv G)) rfl (by rw [c1']; exact hd) (by omega) (by show 2 * 0 + _ + _ ≤ _; omega)
      have e1 : copied (arrV (gE G 101) (hK h a).2 (fun j => .long (hL h a j))) (arrV (gE G 101) (hK h d).2 (fun j => .long (hL h d j))) sp dp n = arrV (gE G 101) (hK h d).2 (fun j => .long (va_cpy (hL h a) (hL h d) sp.toNatClampNeg dp.toNatClampNeg n.toNatClampNeg j)) := va_copiedX (fun z => .long z) _ (gE G 101) (hL h a) (hL h d) a6 d4
      rw [e1] at X' step
      have hsz : am_ad G d < H.size := (Array.getElem?_eq_some_iff.mp hat).1
      have hheap : ((T.setVm vm').setCell (am_ad G d) (arrV (gE G 101) (hK h d).2 (fun j => .long (va_cpy (hL h a) (hL h d) sp.toNatClampNeg dp.toNatClampNeg n.toNatClampNeg j)))).heap = H.setIfInBounds (am_ad G d) (arrV (gE G 101) (hK h d).2 (fun j => .long (va_cpy (hL h a) (hL h d) sp.toNatClampNeg dp.toNatClampNeg n.toNatClampNeg j))) := by rw [← hT]; rfl
      obtain ⟨t, g1, g2⟩ := k1 (H.setIfInBounds (am_ad G d) (arrV (gE G 101) (hK h d).2 (fun j => .long (va_cpy (hL h a) (hL h d) sp.toNatClampNeg dp.toNatClampNeg n.toNatClampNeg j)))) _ ls
        (am_S_put hS o1 (by simp) (fun q hq => by simp [Array.getElem?_setIfInBounds, Ne.symm hq]) (by
          rw [am_cell_l (show (hK (pLs h d _) d).1 = 101 from c2)]
          show (H.setIfInBounds (am_ad G d) _)[am_ad G d]? = some (vp_cell _ _)
          have f1 : hL (pLs h d (va_cpy (hL h a) (hL h d) sp.toNatClampNeg dp.toNatClampNeg n.toNatClampNeg)) d = va_cpy (hL h a) (hL h d) sp.toNatClampNeg dp.toNatClampNeg n.toNatClampNeg := by funext j; exact if_pos rfl
          rw [f1]
          simp [Array.getElem?_setIfInBounds, hsz]
          rfl) rfl rfl (fun _ w => am_cell_pLs w) (fun c hc j => rfl)) (fun q hq => by
          rcases List.mem_append.mp hq with z | z
          · exact hlo q z
          · obtain ⟨y, -, hy⟩ := List.mem_map.mp z
            rw [← hy]
            exact am_A_own o1) hl _ hheap X'
      exact ⟨t, step t g1, g2⟩
    · cases e
  · cases e
end AMY
