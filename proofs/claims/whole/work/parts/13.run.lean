section AMZ
variable {own nm : String} {b : ByteArray} {nL pc : Nat}
/-- an instruction that ends its method -/
def am_RR (own nm : String) (b : ByteArray) (nL : Nat) (ret : Option FieldType) (pc : Nat) (i : am_I) : Prop :=
  ∀ (L : am_L) (st : List am_V) (h : am_H) (r : Option am_V) (h' : am_H), i (pc, L, st, h) = some (.inr (.inr (r, h'))) → h' = h ∧
    ∀ (G : am_G) (p : Program) (l : Launch) (e : Env) (R : Room) (s : State) (m : MethodId) (args : Array Value) (below : List Frame) (meth : Method) (c : Code) (H : Heap) (locs : List Loc) (ls : Array Slot) (cells slots : Nat),
      am_C G p s m args meth c own nm b nL → meth.sig.returnType = ret → am_S G h H → (∀ q ∈ locs, am_A G q.base) →
      W p l e R s m args below meth c H locs cells slots (MQ below (am_Qc G r h) args s cells slots (am_A G)) (F0 m pc ls (st.map (am_cv G)))
def i_iret : am_I := fun f => match f.2.2.1 with
  | [.inl x] => some (.inr (.inr (some (vi x), f.2.2.2)))
  | _ => none
def i_zret : am_I := fun f => match f.2.2.1 with
  | [.inl x] => if x = 0 ∨ x = 1 then some (.inr (.inr (some (vi x), f.2.2.2))) else none
  | _ => none
def i_lret : am_I := fun f => match f.2.2.1 with
  | [.inr (.inl x)] => some (.inr (.inr (some (vl x), f.2.2.2)))
  | _ => none
def i_aret : am_I := fun f => match f.2.2.1 with
  | [.inr (.inr x)] => some (.inr (.inr (some (vr x), f.2.2.2)))
  | _ => none
def i_vret : am_I := fun f => match f.2.2.1 with
  | [] => some (.inr (.inr (none, f.2.2.2)))
  | _ => none
theorem rr_i (hd : decode b pc = .ok (.ireturn, 1)) : am_RR own nm b nL (some .int) pc i_iret := by
  intro L st h r h' e
  unfold i_iret at e
  dsimp only at e
  split at e
  · cases e
    refine ⟨rfl, fun G p l e R s m args below meth c H locs ls cells slots hC hr hS hlo => ?_⟩
    have hlocks := hC.2.2.2.2.2.2.1
    exact W.iret hC.1 hC.2.1 hr (fun t ht hW => ⟨rfl, by rw [ht]; exact hS⟩) hlo hd
  · cases e
theorem rr_z (hd : decode b pc = .ok (.ireturn, 1)) : am_RR own nm b nL (some .boolean) pc i_zret := by
  intro L st h r h' e
  unfold i_zret at e
  dsimp only at e
  split at e
  · split at e
    · rename_i hx
      cases e
      refine ⟨rfl, fun G p l e R s m args below meth c H locs ls cells slots hC hr hS hlo => ?_⟩
      have hlocks := hC.2.2.2.2.2.2.1
      exact W.zret hC.1 hC.2.1 hr (by rcases hx with z | z <;> subst z <;> rfl) (fun t ht hW => ⟨rfl, by rw [ht]; exact hS⟩) hlo hd
    · cases e
  · cases e
theorem rr_l (hd : decode b pc = .ok (.lreturn, 1)) : am_RR own nm b nL (some .long) pc i_lret := by
  intro L st h r h' e
  unfold i_lret at e
  dsimp only at e
  split at e
  · cases e
    refine ⟨rfl, fun G p l e R s m args below meth c H locs ls cells slots hC hr hS hlo => ?_⟩
    have hlocks := hC.2.2.2.2.2.2.1
    exact W.lret hC.1 hC.2.1 hr (fun t ht hW => ⟨rfl, by rw [ht]; exact hS⟩) hlo hd
  · cases e
theorem rr_a {rt : FieldType} (hd : decode b pc = .ok (.areturn, 1)) (hrt : (∃ n, rt = .object n) ∨ ∃ t, rt = .array t) : am_RR own nm b nL (some rt) pc i_aret := by
  intro L st h r h' e
  unfold i_aret at e
  dsimp only at e
  split at e
  · rename_i x
    cases e
    refine ⟨rfl, fun G p l e R s m args below meth c H locs ls cells slots hC hr hS hlo => ?_⟩
    have hlocks := hC.2.2.2.2.2.2.1
    exact W.aret (v := am_rf G x) hC.1 hC.2.1 hr hrt (by cases x with | none => exact Or.inl rfl | some a => exact Or.inr ⟨_, rfl⟩) (fun t ht hW => ⟨rfl, by rw [ht]; exact hS⟩) hlo hd
  · cases e
theorem rr_v (hd : decode b pc = .ok (.return_, 1)) : am_RR own nm b nL none pc i_vret := by
  intro L st h r h' e
  unfold i_vret at e
  dsimp only at e
  split at e
  · cases e
    refine ⟨rfl, fun G p l e R s m args below meth c H locs ls cells slots hC hr hS hlo => ?_⟩
    have hlocks := hC.2.2.2.2.2.2.1
    exact W.vret hC.1 hC.2.1 hr (fun t ht hW => ⟨rfl, by rw [ht]; exact hS⟩) hlo hd
  · cases e
end AMZ
/-- an instruction in its place in a method -/
def am_OK (fm : Nat → am_M) (M : am_M) (pc : Nat) (i : am_I) : Prop := am_RF M.1.cls M.1.name M.2.1 M.2.2.1 M.2.2.2.2.1 M.2.2.2.2.2 pc i ∧ am_RC fm M.1.cls M.1.name M.2.1 M.2.2.1 M.2.2.2.2.1 M.2.2.2.2.2 pc i ∧ am_RR M.1.cls M.1.name M.2.1 M.2.2.1 M.2.2.2.1 pc i
/-- locals at a method's entry -/
def am_in0 (as : List am_V) : am_L := as.flatMap fun v => if am_cat v = 2 then [some v, none] else [some v]
def am_init (n : Nat) (as : List am_V) : am_L := am_in0 as ++ List.replicate (n - (am_in0 as).length) none
/-- THE ABSTRACT MACHINE'S RUN: fuel, method, frame -/
def am_run (P : Nat → Nat → Option am_I) (fm : Nat → am_M) : Nat → Nat → am_F → Option (Option am_V × am_H)
  | 0, _, _ => none
  | n + 1, y, f => match P y f.1 with
    | none => none
    | some i => match i f with
      | none => none
      | some (.inl f') => am_run P fm n y f'
      | some (.inr (.inl (z, as, f'))) => if (am_in0 as).length ≤ (fm z).2.2.1 then (match am_run P fm n z (0, am_init (fm z).2.2.1 as, [], f'.2.2.2) with
        | none => none
        | some (r, h1) => am_run P fm n y (f'.1, f'.2.1, r.toList ++ f'.2.2.1, h1)) else none
      | some (.inr (.inr r)) => some r
theorem am_in0_sl (G : am_G) : ∀ as : List am_V, (lg_sl (as.map (am_cv G))).length = (am_in0 as).length
  | [] => rfl
  | v :: as => by
    have ih := am_in0_sl G as
    unfold lg_sl am_in0 at ih ⊢
    simp only [List.map_cons, List.flatMap_cons, List.length_append, am_cat_cv]
    rw [ih]
    by_cases h : am_cat v = 2
    · simp [h]
    · simp [h]
theorem am_in0_at (G : am_G) : ∀ (as : List am_V) (k i : Nat) (v : am_V), (am_in0 as)[i]? = some (some v) → (k + i, am_cv G v) ∈ lv_args k (as.map (am_cv G))
  | [], k, i, v, h => by simp [am_in0] at h
  | w :: as, k, i, v, h => by
    have e : am_in0 (w :: as) = (if am_cat w = 2 then [some w, none] else [some w]) ++ am_in0 as := by simp [am_in0]
    rw [e] at h
    by_cases hc : am_cat w = 2
    · rw [if_pos hc] at h
      match i, h with
      | 0, h =>
        simp at h
        subst h
        exact List.mem_cons_self
      | 1, h => simp at h
      | j + 2, h =>
        have h2 : (am_in0 as)[j]? = some (some v) := by simpa using h
        have := am_in0_at G as (k + 2) j v h2
        refine List.mem_cons_of_mem _ ?_
        rw [am_cat_cv, if_pos hc, show k + (j + 2) = k + 2 + j by omega]
        exact this
    · rw [if_neg hc] at h
      match i, h with
      | 0, h =>
        simp at h
        subst h
        exact List.mem_cons_self
      | j + 1, h =>
        have h2 : (am_in0 as)[j]? = some (some v) := by simpa using h
        have := am_in0_at G as (k + 1) j v h2
        refine List.mem_cons_of_mem _ ?_
        rw [am_cat_cv, if_neg hc, show k + (j + 1) = k + 1 + j by omega]
        exact this
theorem am_lv_entry {G : am_G} {as : List am_V} {n : Nat} {ls : Array Slot} (hl : lv_has ls n (lv_args 0 (as.map (am_cv G)))) : am_lv G n ls (am_init n as) := by
  refine ⟨hl.1, hl.2.1, fun i v h => ?_⟩
  unfold am_init at h
  by_cases hi : i < (am_in0 as).length
  · rw [List.getElem?_append_left hi] at h
    have := am_in0_at G as 0 i v h
    rw [Nat.zero_add] at this
    exact hl.2.2 _ this
  · rw [List.getElem?_append_right (by omega)] at h
    have := List.mem_of_getElem? h
    rw [List.mem_replicate] at this
    cases this.2
/-- the program: every instruction is in its place, every method's class is a plain one -/
def am_prog (P : Nat → Nat → Option am_I) (fm : Nat → am_M) : Prop := ∀ (y pc : Nat) (i : am_I), P y pc = some i → am_OK fm (fm y) pc i ∧ plainName (fm y).1.cls = true
theorem am_pos {P : Nat → Nat → Option am_I} {fm : Nat → am_M} {n y : Nat} {f : am_F} {x : Option am_V × am_H} (h : am_run P fm n y f = some x) : ∃ i, P y f.1 = some i := by
  cases n with
  | zero => cases h
  | succ n =>
    unfold am_run at h
    cases hp : P y f.1 with
    | none => rw [hp] at h; cases h
    | some i => exact ⟨i, rfl⟩
/-- a method's contract out of the walk of its body -/
theorem am_enter {P : Nat → Nat → Option am_I} {fm : Nat → am_M} (hP : am_prog P fm) {l : Launch} {y : Nat} {as : List am_V} {h h1 : am_H} {r : Option am_V} {n : Nat} (hlen : (am_in0 as).length ≤ (fm y).2.2.1) (hrun : am_run P fm n y (0, am_init (fm y).2.2.1 as, [], h) = some (r, h1))
    (W0 : ∀ (G : am_G) (p : Program) (e : Env) (R : Room) (s : State) (m : MethodId) (args : Array Value) (below : List Frame) (meth : Method) (c : Code) (n0 s0 : Nat), am_C G p s m args meth c (fm y).1.cls (fm y).1.name (fm y).2.1 (fm y).2.2.1 → meth.sig.returnType = (fm y).2.2.2.1 → (fm y).2.2.2.2.1 ≤ R.frames → (fm y).2.2.2.2.2 ≤ R.locals → n0 ≤ hN h → s0 ≤ hSl h → hN h1 - n0 ≤ R.cells → hSl h1 - s0 ≤ R.slots →
      am_W G p l e R s m args below meth c (fm y).2.2.1 n0 s0 (MQ below (am_Qc G r h1) args s (hN h1 - n0) (hSl h1 - s0) (am_A G)) (0, am_init (fm y).2.2.1 as, [], h)) : am_Met l (fm y) as h r h1 := by
  obtain ⟨i, hi⟩ := am_pos hrun
  intro G
  refine Met.ofW (cc := (fm y).2.1) (maxL := (fm y).2.2.1) (ret := (fm y).2.2.2.1) (hP y _ i hi).2 rfl ?_
  intro p e s m args below meth c s₁ B hml hv
  obtain ⟨rfl, hS, hKK⟩ := hv
  have hts : ∀ w ∈ am_T, w.before ((as.map (am_cv G)).toArray) s = true := fun w hw => am_gw_args (am_T_gw hw) rfl (hKK.2.2.2.2.2.2.2.2.2.2.1 w hw)
  have hown : s.vm.findClass (fm y).1.cls = some m.cls := findClass_of_methodNamed B.named
  have hnm : meth.name = (fm y).1.name := (name_of_methodNamed B.named B.method).1
  have hC : am_C G p s m ((as.map (am_cv G)).toArray) meth c (fm y).1.cls (fm y).1.name (fm y).2.1 (fm y).2.2.1 := ⟨B.exec, B.bytes, hml, hown, hts, hKK, B.notSynchronized, hnm, by rw [hS.2.1]; exact Nat.le_add_right _ _, hS.2.2.1⟩
  have k := W0 G p e (headSpec (am_ws (fm y)) (am_rm (fm y) (hN h1 - hN h) (hSl h1 - hSl h))).room s m _ below meth c (hN h) (hSl h) hC B.returns (Nat.le_refl _) (Nat.le_refl _) (Nat.le_refl _) (Nat.le_refl _) (Nat.le_refl _) (Nat.le_refl _)
  have hl := lv_entry (as.map (am_cv G)) (n := (fm y).2.2.1) (by rw [am_in0_sl]; exact hlen)
  rw [lg_entry_eq]
  have k2 := k s.heap [] _ hS (fun q hq => by cases hq) (am_lv_entry hl)
  dsimp only at k2
  rw [Nat.sub_self, Nat.sub_self] at k2
  exact k2
/-- THE MACHINE DOES WHAT THE ABSTRACT MACHINE DOES -/
theorem am_main {P : Nat → Nat → Option am_I} {fm : Nat → am_M} (hP : am_prog P fm) : ∀ (n y : Nat) (f : am_F) (r : Option am_V) (h1 : am_H), am_run P fm n y f = some (r, h1) → (hN f.2.2.2 ≤ hN h1 ∧ hSl f.2.2.2 ≤ hSl h1) ∧
    ∀ (l : Launch) (G : am_G) (p : Program) (e : Env) (R : Room) (s : State) (m : MethodId) (args : Array Value) (below : List Frame) (meth : Method) (c : Code) (n0 s0 : Nat), am_C G p s m args meth c (fm y).1.cls (fm y).1.name (fm y).2.1 (fm y).2.2.1 → meth.sig.returnType = (fm y).2.2.2.1 → (fm y).2.2.2.2.1 ≤ R.frames → (fm y).2.2.2.2.2 ≤ R.locals → n0 ≤ hN f.2.2.2 → s0 ≤ hSl f.2.2.2 → hN h1 - n0 ≤ R.cells → hSl h1 - s0 ≤ R.slots →
      am_W G p l e R s m args below meth c (fm y).2.2.1 n0 s0 (MQ below (am_Qc G r h1) args s (hN h1 - n0) (hSl h1 - s0) (am_A G)) f := by
  intro n
  induction n with
  | zero => intro y f r h1 h; cases h
  | succ n ih =>
    intro y f r h1 h
    obtain ⟨pc, L, st, h0⟩ := f
    unfold am_run at h
    cases hp : P y pc with
    | none => dsimp only at h; rw [hp] at h; cases h
    | some i =>
      dsimp only at h
      rw [hp] at h
      obtain ⟨⟨kF, kC, kR⟩, -⟩ := hP y pc i hp
      dsimp only at h
      cases hi : i (pc, L, st, h0) with
      | none => rw [hi] at h; cases h
      | some o =>
        rw [hi] at h
        rcases o with f' | ⟨z, as, f'⟩ | ⟨r', h'⟩
        · obtain ⟨i1, i2⟩ := ih y f' r h1 h
          obtain ⟨m1, m2⟩ := kF L st h0 f' hi
          refine ⟨⟨Nat.le_trans m1.1 i1.1, Nat.le_trans m1.2 i1.2⟩, fun l G p e R s m args below meth c n0 s0 hC hr q1 q2 q3 q4 q5 q6 => ?_⟩
          exact m2 G p l e R s m args below meth c n0 s0 _ hC q1 q2 q3 q4 (Nat.le_trans (Nat.sub_le_sub_right i1.1 _) q5) (Nat.le_trans (Nat.sub_le_sub_right i1.2 _) q6) (i2 l G p e R s m args below meth c n0 s0 hC hr q1 q2 (Nat.le_trans q3 m1.1) (Nat.le_trans q4 m1.2) q5 q6)
        · dsimp only at h
          split at h
          · rename_i hlen
            cases hc : am_run P fm n z (0, am_init (fm z).2.2.1 as, [], f'.2.2.2) with
            | none => rw [hc] at h; cases h
            | some x =>
              obtain ⟨r', h'⟩ := x
              rw [hc] at h
              dsimp only at h
              obtain ⟨c1, c2⟩ := kC L st h0 z as f' hi
              rw [c1] at hc
              obtain ⟨j1, j2⟩ := ih z _ r' h' hc
              obtain ⟨i1, i2⟩ := ih y _ r h1 h
              refine ⟨⟨Nat.le_trans j1.1 i1.1, Nat.le_trans j1.2 i1.2⟩, fun l G p e R s m args below meth c n0 s0 hC hr q1 q2 q3 q4 q5 q6 => ?_⟩
              refine c2 G p l e R s m args below meth c n0 s0 _ r' h' hC q1 q2 q3 q4 j1.1 j1.2 (Nat.le_trans (Nat.sub_le_sub_right i1.1 _) q5) (Nat.le_trans (Nat.sub_le_sub_right i1.2 _) q6) (am_enter hP hlen hc (fun G p e R s m args below meth c n0 s0 => j2 l G p e R s m args below meth c n0 s0)) ?_
              exact i2 l G p e R s m args below meth c n0 s0 hC hr q1 q2 (Nat.le_trans q3 j1.1) (Nat.le_trans q4 j1.2) q5 q6
          · cases h
        · dsimp only at h
          cases h
          obtain ⟨c1, c2⟩ := kR L st h0 r h1 hi
          subst c1
          refine ⟨⟨Nat.le_refl _, Nat.le_refl _⟩, fun l G p e R s m args below meth c n0 s0 hC hr q1 q2 q3 q4 q5 q6 H locs ls hS hlo hl => ?_⟩
          exact c2 G p l e R s m args below meth c H locs ls _ _ hC hr hS hlo
/-- a run of a whole method gives its contract -/
theorem am_met {P : Nat → Nat → Option am_I} {fm : Nat → am_M} (hP : am_prog P fm) {l : Launch} {n y : Nat} {as : List am_V} {h h1 : am_H} {r : Option am_V} (hlen : (am_in0 as).length ≤ (fm y).2.2.1) (hrun : am_run P fm n y (0, am_init (fm y).2.2.1 as, [], h) = some (r, h1)) : hN h ≤ hN h1 ∧ hSl h ≤ hSl h1 ∧ am_Met l (fm y) as h r h1 := by
  obtain ⟨i1, i2⟩ := am_main hP n y _ r h1 hrun
  exact ⟨i1.1, i1.2, am_enter hP hlen hrun (fun G p e R s m args below meth c n0 s0 => i2 l G p e R s m args below meth c n0 s0)⟩
