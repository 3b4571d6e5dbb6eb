/-! EACH INSTRUCTION: what it does here; and that the machine does the same (RF) -/
/-- a method's frame: the machine, its code, the tables' words, what is known of the world -/
def am_C (G : am_G) (p : Program) (s : State) (m : MethodId) (args : Array Value) (meth : Method) (c : Code) (own nm : String) (b : ByteArray) (nL : Nat) : Prop :=
  p.tables.exec = Jvm.exec ∧ c.code = b ∧ c.maxLocals = nL ∧ s.vm.findClass own = some m.cls ∧ (∀ w ∈ am_T, w.before args s = true) ∧ am_K G s ∧ meth.locks = false ∧ meth.name = nm ∧ gB G ≤ s.heap.size ∧ ∀ q : Nat, q < gB G → s.heap[q]? = (gH G)[q]?
/-- from here the machine comes to Q -/
def am_W (G : am_G) (p : Program) (l : Launch) (e : Env) (R : Room) (s : State) (m : MethodId) (args : Array Value) (below : List Frame) (meth : Method) (c : Code) (nL n0 s0 : Nat) (Q : State → Prop) (f : am_F) : Prop :=
  ∀ (H : Heap) (locs : List Loc) (ls : Array Slot), am_S G f.2.2.2 H → (∀ q ∈ locs, am_A G q.base) → am_lv G nL ls f.2.1 → W p l e R s m args below meth c H locs (hN f.2.2.2 - n0) (hSl f.2.2.2 - s0) Q (F0 m f.1 ls (f.2.2.1.map (am_cv G)))
/-- an instruction that goes on in its frame -/
def am_RF (own nm : String) (b : ByteArray) (nL fr lo : Nat) (pc : Nat) (i : am_I) : Prop :=
  ∀ (L : am_L) (st : List am_V) (h : am_H) (f' : am_F), i (pc, L, st, h) = some (.inl f') → (hN h ≤ hN f'.2.2.2 ∧ hSl h ≤ hSl f'.2.2.2) ∧
    ∀ (G : am_G) (p : Program) (l : Launch) (e : Env) (R : Room) (s : State) (m : MethodId) (args : Array Value) (below : List Frame) (meth : Method) (c : Code) (n0 s0 : Nat) (Q : State → Prop),
      am_C G p s m args meth c own nm b nL → fr ≤ R.frames → lo ≤ R.locals → n0 ≤ hN h → s0 ≤ hSl h → hN f'.2.2.2 - n0 ≤ R.cells → hSl f'.2.2.2 - s0 ≤ R.slots →
      am_W G p l e R s m args below meth c nL n0 s0 Q f' → am_W G p l e R s m args below meth c nL n0 s0 Q (pc, L, st, h)
section AMR
variable {own nm : String} {b : ByteArray} {nL fr lo pc : Nat}
-- constants
def i_ic (v : Int32) (n : Nat) : am_I := fun f => some (.inl (f.1 + n, f.2.1, vi v :: f.2.2.1, f.2.2.2))
def i_lc (v : Int64) (n : Nat) : am_I := fun f => some (.inl (f.1 + n, f.2.1, vl v :: f.2.2.1, f.2.2.2))
def i_nul : am_I := fun f => some (.inl (f.1 + 1, f.2.1, vr none :: f.2.2.1, f.2.2.2))
theorem r_iconst {n : Int} {v : Int32} (hd : decode b pc = .ok (.iconst n, 1)) (hv : Int32.ofInt n = v) : am_RF own nm b nL fr lo pc (i_ic v 1) := by
  intro L st h f' e; cases e
  exact ⟨⟨Nat.le_refl _, Nat.le_refl _⟩, fun G p l e R s m args below meth c n0 s0 Q hC _ _ _ _ _ _ k H locs ls hS hlo hl => lv_iconst hC.1 hC.2.1 hd hv (k H locs ls hS hlo hl)⟩
theorem r_bipush {n : Int} {v : Int32} (hd : decode b pc = .ok (.bipush n, 2)) (hv : (Int8.ofInt n).toInt32 = v) : am_RF own nm b nL fr lo pc (i_ic v 2) := by
  intro L st h f' e; cases e
  exact ⟨⟨Nat.le_refl _, Nat.le_refl _⟩, fun G p l e R s m args below meth c n0 s0 Q hC _ _ _ _ _ _ k H locs ls hS hlo hl => lv_bipush hC.1 hC.2.1 hd hv (k H locs ls hS hlo hl)⟩
theorem r_sipush {n : Int} {v : Int32} (hd : decode b pc = .ok (.sipush n, 3)) (hv : (Int16.ofInt n).toInt32 = v) : am_RF own nm b nL fr lo pc (i_ic v 3) := by
  intro L st h f' e; cases e
  exact ⟨⟨Nat.le_refl _, Nat.le_refl _⟩, fun G p l e R s m args below meth c n0 s0 Q hC _ _ _ _ _ _ k H locs ls hS hlo hl => lv_sipush hC.1 hC.2.1 hd hv (k H locs ls hS hlo hl)⟩
theorem r_lconst {n : Fin 2} {v : Int64} (hd : decode b pc = .ok (.lconst n, 1)) (hv : Int64.ofNat (n : Nat) = v) : am_RF own nm b nL fr lo pc (i_lc v 1) := by
  intro L st h f' e; cases e
  exact ⟨⟨Nat.le_refl _, Nat.le_refl _⟩, fun G p l e R s m args below meth c n0 s0 Q hC _ _ _ _ _ _ k H locs ls hS hlo hl => lv_lconst hC.1 hC.2.1 hd hv (k H locs ls hS hlo hl)⟩
theorem r_ldcw {x : Nat} {v : Int32} (hd : decode b pc = .ok (.ldc_w x, 3)) (hw : Cond.constant own x v ∈ am_T) : am_RF own nm b nL fr lo pc (i_ic v 3) := by
  intro L st h f' e; cases e
  exact ⟨⟨Nat.le_refl _, Nat.le_refl _⟩, fun G p l e R s m args below meth c n0 s0 Q hC _ _ _ _ _ _ k H locs ls hS hlo hl => lv_ldcw hC.1 hC.2.1 hC.2.2.2.1 (hC.2.2.2.2.1 _ hw) hd (k H locs ls hS hlo hl)⟩
theorem r_ldc2 {x : Nat} {v : Int64} (hd : decode b pc = .ok (.ldc2_w x, 3)) (hw : Cond.constantLong own x v ∈ am_T) : am_RF own nm b nL fr lo pc (i_lc v 3) := by
  intro L st h f' e; cases e
  exact ⟨⟨Nat.le_refl _, Nat.le_refl _⟩, fun G p l e R s m args below meth c n0 s0 Q hC _ _ _ _ _ _ k H locs ls hS hlo hl => lv_ldc2 hC.1 hC.2.1 hC.2.2.2.1 (hC.2.2.2.2.1 _ hw) hd (k H locs ls hS hlo hl)⟩
theorem r_null (hd : decode b pc = .ok (.aconst_null, 1)) : am_RF own nm b nL fr lo pc i_nul := by
  intro L st h f' e; cases e
  exact ⟨⟨Nat.le_refl _, Nat.le_refl _⟩, fun G p l e R s m args below meth c n0 s0 Q hC _ _ _ _ _ _ k H locs ls hS hlo hl => lv_null hC.1 hC.2.1 hd (k H locs ls hS hlo hl)⟩
-- loads
def i_ild (i n : Nat) : am_I := fun f => match am_get f.2.1 i with
  | some (.inl x) => some (.inl (f.1 + n, f.2.1, vi x :: f.2.2.1, f.2.2.2))
  | _ => none
def i_lld (i n : Nat) : am_I := fun f => match am_get f.2.1 i with
  | some (.inr (.inl x)) => some (.inl (f.1 + n, f.2.1, vl x :: f.2.2.1, f.2.2.2))
  | _ => none
def i_ald (i n : Nat) : am_I := fun f => match am_get f.2.1 i with
  | some (.inr (.inr x)) => some (.inl (f.1 + n, f.2.1, vr x :: f.2.2.1, f.2.2.2))
  | _ => none
theorem am_get_at {G : am_G} {ls : Array Slot} {L : am_L} {i : Nat} {v : am_V} (hl : am_lv G nL ls L) (h : am_get L i = some v) : ls[i]? = some (.val (am_cv G v)) := by
  refine hl.2.2 i v ?_
  unfold am_get at h
  cases hq : L[i]? with
  | none => rw [hq] at h; cases h
  | some o => rw [hq] at h; exact congrArg some h
theorem r_iload_n {k : Fin 4} {i : Nat} (hd : decode b pc = .ok (.iload_n k, 1)) (hi : (k : Nat) = i) : am_RF own nm b nL fr lo pc (i_ild i 1) := by
  intro L st h f' e
  unfold i_ild at e
  dsimp only at e
  split at e
  · rename_i x hx
    cases e
    exact ⟨⟨Nat.le_refl _, Nat.le_refl _⟩, fun G p l e R s m args below meth c n0 s0 Q hC _ _ _ _ _ _ k H locs ls hS hlo hl => lv_iload_n hC.1 hC.2.1 hd hi (am_get_at hl hx) (k H locs ls hS hlo hl)⟩
  · cases e
theorem r_iload {i : Nat} (hd : decode b pc = .ok (.iload i, 2)) : am_RF own nm b nL fr lo pc (i_ild i 2) := by
  intro L st h f' e
  unfold i_ild at e
  dsimp only at e
  split at e
  · rename_i x hx
    cases e
    exact ⟨⟨Nat.le_refl _, Nat.le_refl _⟩, fun G p l e R s m args below meth c n0 s0 Q hC _ _ _ _ _ _ k H locs ls hS hlo hl => lv_iload hC.1 hC.2.1 hd (am_get_at hl hx) (k H locs ls hS hlo hl)⟩
  · cases e
theorem r_lload_n {k : Fin 4} {i : Nat} (hd : decode b pc = .ok (.lload_n k, 1)) (hi : (k : Nat) = i) : am_RF own nm b nL fr lo pc (i_lld i 1) := by
  intro L st h f' e
  unfold i_lld at e
  dsimp only at e
  split at e
  · rename_i x hx
    cases e
    exact ⟨⟨Nat.le_refl _, Nat.le_refl _⟩, fun G p l e R s m args below meth c n0 s0 Q hC _ _ _ _ _ _ k H locs ls hS hlo hl => lv_lload_n hC.1 hC.2.1 hd hi (am_get_at hl hx) (k H locs ls hS hlo hl)⟩
  · cases e
theorem r_lload {i : Nat} (hd : decode b pc = .ok (.lload i, 2)) : am_RF own nm b nL fr lo pc (i_lld i 2) := by
  intro L st h f' e
  unfold i_lld at e
  dsimp only at e
  split at e
  · rename_i x hx
    cases e
    exact ⟨⟨Nat.le_refl _, Nat.le_refl _⟩, fun G p l e R s m args below meth c n0 s0 Q hC _ _ _ _ _ _ k H locs ls hS hlo hl => lv_lload hC.1 hC.2.1 hd (am_get_at hl hx) (k H locs ls hS hlo hl)⟩
  · cases e
theorem r_aload_n {k : Fin 4} {i : Nat} (hd : decode b pc = .ok (.aload_n k, 1)) (hi : (k : Nat) = i) : am_RF own nm b nL fr lo pc (i_ald i 1) := by
  intro L st h f' e
  unfold i_ald at e
  dsimp only at e
  split at e
  · rename_i x hx
    cases e
    refine ⟨⟨Nat.le_refl _, Nat.le_refl _⟩, fun G p l e R s m args below meth c n0 s0 Q hC _ _ _ _ _ _ k H locs ls hS hlo hl => ?_⟩
    cases x with
    | none => exact lv_aload_nN hC.1 hC.2.1 hd hi (am_get_at hl hx) (k H locs ls hS hlo hl)
    | some a => exact lv_aload_n hC.1 hC.2.1 hd hi (am_get_at hl hx) (k H locs ls hS hlo hl)
  · cases e
theorem r_aload {i : Nat} (hd : decode b pc = .ok (.aload i, 2)) : am_RF own nm b nL fr lo pc (i_ald i 2) := by
  intro L st h f' e
  unfold i_ald at e
  dsimp only at e
  split at e
  · rename_i x hx
    cases e
    refine ⟨⟨Nat.le_refl _, Nat.le_refl _⟩, fun G p l e R s m args below meth c n0 s0 Q hC _ _ _ _ _ _ k H locs ls hS hlo hl => ?_⟩
    cases x with
    | none => exact lv_aloadN hC.1 hC.2.1 hd (am_get_at hl hx) (k H locs ls hS hlo hl)
    | some a => exact lv_aload hC.1 hC.2.1 hd (am_get_at hl hx) (k H locs ls hS hlo hl)
  · cases e
-- stores
def am_as (G : am_G) (L : am_L) : List (Nat × Value) := (List.range L.length).filterMap fun i => (am_get L i).map fun v => (i, am_cv G v)
theorem am_as_has {G : am_G} {ls : Array Slot} {L : am_L} (hl : am_lv G nL ls L) : lv_has ls nL (am_as G L) := by
  refine ⟨hl.1, hl.2.1, fun q hq => ?_⟩
  obtain ⟨i, -, hi⟩ := List.mem_filterMap.mp hq
  cases hg : am_get L i with
  | none => rw [hg] at hi; cases hi
  | some v => rw [hg] at hi; cases hi; exact am_get_at hl hg
theorem am_as_mem {G : am_G} {L : am_L} {j : Nat} {w : am_V} (h : L[j]? = some (some w)) : (j, am_cv G w) ∈ am_as G L := by
  refine List.mem_filterMap.mpr ⟨j, List.mem_range.mpr (List.getElem?_eq_some_iff.mp h).1, ?_⟩
  simp [am_get, h]
theorem am_nl_s {o : Option am_V} {w : am_V} (h : am_nl o = some w) : o = some w ∧ am_cat w = 1 := by
  unfold am_nl at h
  split at h
  · cases h
  · rename_i h0
    subst h
    refine ⟨rfl, ?_⟩
    unfold am_cat
    split
    · rename_i x
      exact absurd rfl (h0 x)
    · rfl
theorem am_cat_cv (G : am_G) (w : am_V) : (am_cv G w).category = am_cat w := by
  rcases w with x | x | x
  · rfl
  · rfl
  · cases x <;> rfl
theorem am_s1_at : ∀ {L : am_L} {i : Nat} {v : am_V} {j : Nat} {w : am_V}, (am_s1 L i v)[j]? = some (some w) → (j = i ∧ w = v) ∨ (j ≠ i ∧ L[j]? = some (some w) ∧ (j + 1 = i → am_cat w = 1))
  | [], i, v, j, w, h => by simp [am_s1] at h
  | o :: l, 0, v, 0, w, h => by
    simp [am_s1] at h
    exact Or.inl ⟨rfl, h.symm⟩
  | o :: l, 0, v, j + 1, w, h => by
    simp [am_s1] at h
    exact Or.inr ⟨by omega, by simpa using h, fun z => by omega⟩
  | o :: l, i + 1, v, 0, w, h => by
    simp only [am_s1, List.getElem?_cons_zero, Option.some.injEq] at h
    by_cases hi : i = 0
    · rw [if_pos hi] at h
      obtain ⟨h1, h2⟩ := am_nl_s h
      exact Or.inr ⟨by omega, by simp [h1], fun _ => h2⟩
    · rw [if_neg hi] at h
      exact Or.inr ⟨by omega, by simp [h], fun z => by omega⟩
  | o :: l, i + 1, v, j + 1, w, h => by
    simp only [am_s1, List.getElem?_cons_succ] at h
    rcases am_s1_at h with ⟨h1, h2⟩ | ⟨h1, h2, h3⟩
    · exact Or.inl ⟨by omega, h2⟩
    · exact Or.inr ⟨by omega, by simpa using h2, fun z => h3 (by omega)⟩
theorem am_n1_at {L : am_L} {j : Nat} {w : am_V} (h : (am_n1 L)[j]? = some (some w)) : j ≠ 0 ∧ L[j]? = some (some w) := by
  cases L with
  | nil => simp [am_n1] at h
  | cons o l =>
    cases j with
    | zero => simp [am_n1] at h
    | succ j => exact ⟨by omega, by simpa [am_n1] using h⟩
theorem am_s2_at : ∀ {L : am_L} {i : Nat} {v : am_V} {j : Nat} {w : am_V}, (am_s2 L i v)[j]? = some (some w) → (j = i ∧ w = v) ∨ (j ≠ i ∧ j ≠ i + 1 ∧ L[j]? = some (some w) ∧ (j + 1 = i → am_cat w = 1))
  | [], i, v, j, w, h => by simp [am_s2] at h
  | o :: l, 0, v, 0, w, h => by
    simp [am_s2] at h
    exact Or.inl ⟨rfl, h.symm⟩
  | o :: l, 0, v, j + 1, w, h => by
    simp only [am_s2, List.getElem?_cons_succ] at h
    obtain ⟨h1, h2⟩ := am_n1_at h
    exact Or.inr ⟨by omega, by omega, by simpa using h2, fun z => by omega⟩
  | o :: l, i + 1, v, 0, w, h => by
    simp only [am_s2, List.getElem?_cons_zero, Option.some.injEq] at h
    by_cases hi : i = 0
    · rw [if_pos hi] at h
      obtain ⟨h1, h2⟩ := am_nl_s h
      exact Or.inr ⟨by omega, by omega, by simp [h1], fun _ => h2⟩
    · rw [if_neg hi] at h
      exact Or.inr ⟨by omega, by omega, by simp [h], fun z => by omega⟩
  | o :: l, i + 1, v, j + 1, w, h => by
    simp only [am_s2, List.getElem?_cons_succ] at h
    rcases am_s2_at h with ⟨h1, h2⟩ | ⟨h1, h2, h3, h4⟩
    · exact Or.inl ⟨by omega, h2⟩
    · exact Or.inr ⟨by omega, by omega, by simpa using h3, fun z => h4 (by omega)⟩
theorem am_lv1 {G : am_G} {ls : Array Slot} {L : am_L} {i : Nat} {v : am_V} (h : lv_has ls nL ((i, am_cv G v) :: (am_as G L).filter (fun q => !(q.1 == i) && !(q.1 + 1 == i && q.2.category == 2)))) : am_lv G nL ls (am_s1 L i v) := by
  refine ⟨h.1, h.2.1, fun j w hj => ?_⟩
  rcases am_s1_at hj with ⟨h1, h2⟩ | ⟨h1, h2, h3⟩
  · subst h1; subst h2
    exact h.2.2 _ List.mem_cons_self
  · refine h.2.2 (j, am_cv G w) (List.mem_cons_of_mem _ (List.mem_filter.mpr ⟨am_as_mem h2, ?_⟩))
    by_cases hz : j + 1 = i
    · simp [h1, am_cat_cv, h3 hz]
    · simp [h1, hz]
theorem am_lv2 {G : am_G} {ls : Array Slot} {L : am_L} {i : Nat} {v : am_V} (h : lv_has ls nL ((i, am_cv G v) :: (am_as G L).filter (fun q => !(q.1 == i) && (!(q.1 == i + 1) && !(q.1 + 1 == i && q.2.category == 2))))) : am_lv G nL ls (am_s2 L i v) := by
  refine ⟨h.1, h.2.1, fun j w hj => ?_⟩
  rcases am_s2_at hj with ⟨h1, h2⟩ | ⟨h1, h2, h3, h4⟩
  · subst h1; subst h2
    exact h.2.2 _ List.mem_cons_self
  · refine h.2.2 (j, am_cv G w) (List.mem_cons_of_mem _ (List.mem_filter.mpr ⟨am_as_mem h3, ?_⟩))
    by_cases hz : j + 1 = i
    · simp [h1, h2, am_cat_cv, h4 hz]
    · simp [h1, h2, hz]
def i_ist (i n : Nat) : am_I := fun f => match f.2.2.1 with
  | .inl x :: st => some (.inl (f.1 + n, am_s1 f.2.1 i (vi x), st, f.2.2.2))
  | _ => none
def i_lst (i n : Nat) : am_I := fun f => match f.2.2.1 with
  | .inr (.inl x) :: st => some (.inl (f.1 + n, am_s2 f.2.1 i (vl x), st, f.2.2.2))
  | _ => none
def i_ast (i n : Nat) : am_I := fun f => match f.2.2.1 with
  | .inr (.inr x) :: st => some (.inl (f.1 + n, am_s1 f.2.1 i (vr x), st, f.2.2.2))
  | _ => none
theorem r_istore_n {k : Fin 4} {i : Nat} (hd : decode b pc = .ok (.istore_n k, 1)) (hi : (k : Nat) = i) (hn : i < nL) : am_RF own nm b nL fr lo pc (i_ist i 1) := by
  intro L st h f' e
  unfold i_ist at e
  dsimp only at e
  split at e
  · cases e
    exact ⟨⟨Nat.le_refl _, Nat.le_refl _⟩, fun G p l e R s m args below meth c n0 s0 Q hC _ _ _ _ _ _ k H locs ls hS hlo hl => lv_istore_n hC.1 hC.2.1 hd hi (am_as_has hl) hn rfl (fun ls' hl' => k H locs ls' hS hlo (am_lv1 (v := vi _) hl'))⟩
  · cases e
theorem r_istore {i : Nat} (hd : decode b pc = .ok (.istore i, 2)) (hn : i < nL) : am_RF own nm b nL fr lo pc (i_ist i 2) := by
  intro L st h f' e
  unfold i_ist at e
  dsimp only at e
  split at e
  · cases e
    exact ⟨⟨Nat.le_refl _, Nat.le_refl _⟩, fun G p l e R s m args below meth c n0 s0 Q hC _ _ _ _ _ _ k H locs ls hS hlo hl => lv_istore hC.1 hC.2.1 hd (am_as_has hl) hn rfl (fun ls' hl' => k H locs ls' hS hlo (am_lv1 (v := vi _) hl'))⟩
  · cases e
theorem r_lstore_n {k : Fin 4} {i : Nat} (hd : decode b pc = .ok (.lstore_n k, 1)) (hi : (k : Nat) = i) (hn : i + 1 < nL) : am_RF own nm b nL fr lo pc (i_lst i 1) := by
  intro L st h f' e
  unfold i_lst at e
  dsimp only at e
  split at e
  · cases e
    exact ⟨⟨Nat.le_refl _, Nat.le_refl _⟩, fun G p l e R s m args below meth c n0 s0 Q hC _ _ _ _ _ _ k H locs ls hS hlo hl => lv_lstore_n hC.1 hC.2.1 hd hi (am_as_has hl) hn rfl (fun ls' hl' => k H locs ls' hS hlo (am_lv2 (v := vl _) hl'))⟩
  · cases e
theorem r_lstore {i : Nat} (hd : decode b pc = .ok (.lstore i, 2)) (hn : i + 1 < nL) : am_RF own nm b nL fr lo pc (i_lst i 2) := by
  intro L st h f' e
  unfold i_lst at e
  dsimp only at e
  split at e
  · cases e
    exact ⟨⟨Nat.le_refl _, Nat.le_refl _⟩, fun G p l e R s m args below meth c n0 s0 Q hC _ _ _ _ _ _ k H locs ls hS hlo hl => lv_lstore hC.1 hC.2.1 hd (am_as_has hl) hn rfl (fun ls' hl' => k H locs ls' hS hlo (am_lv2 (v := vl _) hl'))⟩
  · cases e
theorem r_astore_n {k : Fin 4} {i : Nat} (hd : decode b pc = .ok (.astore_n k, 1)) (hi : (k : Nat) = i) (hn : i < nL) : am_RF own nm b nL fr lo pc (i_ast i 1) := by
  intro L st h f' e
  unfold i_ast at e
  dsimp only at e
  split at e
  · rename_i x st1
    cases e
    refine ⟨⟨Nat.le_refl _, Nat.le_refl _⟩, fun G p l e R s m args below meth c n0 s0 Q hC _ _ _ _ _ _ k H locs ls hS hlo hl => ?_⟩
    cases x with
    | none => exact lv_astore_nN hC.1 hC.2.1 hd hi (am_as_has hl) hn rfl (fun ls' hl' => k H locs ls' hS hlo (am_lv1 (v := vr _) hl'))
    | some a => exact lv_astore_n hC.1 hC.2.1 hd hi (am_as_has hl) hn rfl (fun ls' hl' => k H locs ls' hS hlo (am_lv1 (v := vr _) hl'))
  · cases e
theorem r_astore {i : Nat} (hd : decode b pc = .ok (.astore i, 2)) (hn : i < nL) : am_RF own nm b nL fr lo pc (i_ast i 2) := by
  intro L st h f' e
  unfold i_ast at e
  dsimp only at e
  split at e
  · rename_i x st1
    cases e
    refine ⟨⟨Nat.le_refl _, Nat.le_refl _⟩, fun G p l e R s m args below meth c n0 s0 Q hC _ _ _ _ _ _ k H locs ls hS hlo hl => ?_⟩
    cases x with
    | none => exact lv_astoreN hC.1 hC.2.1 hd (am_as_has hl) hn rfl (fun ls' hl' => k H locs ls' hS hlo (am_lv1 (v := vr _) hl'))
    | some a => exact lv_astore hC.1 hC.2.1 hd (am_as_has hl) hn rfl (fun ls' hl' => k H locs ls' hS hlo (am_lv1 (v := vr _) hl'))
  · cases e
end AMR
