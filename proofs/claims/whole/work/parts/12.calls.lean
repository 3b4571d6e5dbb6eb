section AMK
variable {fm : Nat → am_M} {own nm : String} {b : ByteArray} {nL fr lo pc : Nat}
/-- what every call asks of its callee -/
def am_cok (M : am_M) (fr lo na : Nat) : Prop := Cond.code M.1 M.2.1 M.2.2.1 M.2.2.2.1 ∈ am_T ∧ M.2.2.2.2.1 + 1 ≤ fr ∧ 8 + (M.2.2.1 + 11) + M.2.2.2.2.2 ≤ lo ∧ M.1.cls ≠ "java/lang/invoke/MethodHandle" ∧ M.1.cls ≠ "java/lang/invoke/VarHandle" ∧ (parseMethodDescriptor M.1.desc).map (fun d => d.parameters.length) = some na
def i_cs (y na : Nat) : am_I := fun f => if na ≤ f.2.2.1.length ∧ am_cats (f.2.2.1.drop na) ≤ 8 then some (.inr (.inl (y, (f.2.2.1.take na).reverse, (f.1 + 3, f.2.1, f.2.2.1.drop na, f.2.2.2)))) else none
theorem am_goods {fm : Nat → am_M} {y fr lo na : Nat} {ws : List Cond} (h : am_cok (fm y) fr lo na) (hw : ∀ w ∈ ws, w ∈ am_T ∧ goodWord w = true) : GoodIn am_T (ws ++ am_ws (fm y)) := am_good (fm y) h.1 ws hw
theorem am_w3 {P : Cond → Prop} {a b c : Cond} (h1 : P a) (h2 : P b) (h3 : P c) : ∀ w ∈ [a, b, c], P w := by
  intro w hw
  rcases List.mem_cons.mp hw with z | hw
  · rw [z]; exact h1
  rcases List.mem_cons.mp hw with z | hw
  · rw [z]; exact h2
  · rw [List.mem_singleton.mp hw]; exact h3
theorem am_w4 {P : Cond → Prop} {a b c d : Cond} (h1 : P a) (h2 : P b) (h3 : P c) (h4 : P d) : ∀ w ∈ [a, b, c, d], P w := by
  intro w hw
  rcases List.mem_cons.mp hw with z | hw
  · rw [z]; exact h1
  · exact am_w3 h2 h3 h4 w hw
theorem am_w5 {P : Cond → Prop} {a b c d e : Cond} (h1 : P a) (h2 : P b) (h3 : P c) (h4 : P d) (h5 : P e) : ∀ w ∈ [a, b, c, d, e], P w := by
  intro w hw
  rcases List.mem_cons.mp hw with z | hw
  · rw [z]; exact h1
  · exact am_w4 h2 h3 h4 h5 w hw
theorem am_rw {G : am_G} {r : Option am_V} {st : List am_V} : (r.map (am_cv G)).toList ++ st.map (am_cv G) = (r.toList ++ st).map (am_cv G) := by
  cases r <;> rfl
theorem am_fin {G : am_G} {p : Program} {l : Launch} {e : Env} {R : Room} {s : State} {m : MethodId} {args : Array Value} {below : List Frame} {meth : Method} {c : Code} {H : Heap} {locs : List Loc} {Q : State → Prop} {ls : Array Slot} {st0 : List Value} {st : List am_V} {r : Option am_V} {h h1 : am_H} {a : Array Value} {L : am_L} {n0 s0 : Nat}
    (hr : va_Run p l e R s m args below meth c H locs (hN h - n0) (hSl h - s0) (hN h1 - hN h) (hSl h1 - hSl h) (F0 m pc ls st0) (st.map (am_cv G)) (am_Qc G r h1 a) (am_A G)) (hlo : ∀ q ∈ locs, am_A G q.base) (hl : am_lv G nL ls L) (g1 : n0 ≤ hN h) (g2 : s0 ≤ hSl h) (g3 : hN h ≤ hN h1) (g4 : hSl h ≤ hSl h1)
    (k : am_W G p l e R s m args below meth c nL n0 s0 Q (pc + 3, L, r.toList ++ st, h1)) : W p l e R s m args below meth c H locs (hN h - n0) (hSl h - s0) Q (F0 m pc ls st0) := by
  refine am_back hr hlo fun H1 locs1 hS1 hlo1 => ?_
  have k2 := k H1 locs1 ls hS1 hlo1 hl
  rw [am_rw]
  rw [show hN h - n0 + (hN h1 - hN h) = hN h1 - n0 by omega, show hSl h - s0 + (hSl h1 - hSl h) = hSl h1 - s0 by omega]
  exact k2
theorem am_wfix {G : am_G} {p : Program} {s : State} {m : MethodId} {args : Array Value} {meth : Method} {c : Code} (hC : am_C G p s m args meth c own nm b nL) : CallFix p m c b nL s args am_T own := ⟨hC.1, hC.2.1, hC.2.2.1, hC.2.2.2.1, hC.2.2.2.2.1⟩
theorem rc_cs {y na x : Nat} (hd : decode b pc = .ok (.invokestatic x, 3)) (hM : am_cok (fm y) fr lo na) (h1 : Cond.methodLink own x (fm y).1 ∈ am_T) (h2 : Cond.static (fm y).1 ∈ am_T) (h3 : Cond.initialized (fm y).1.cls ∈ am_T) : am_RC fm own nm b nL fr lo pc (i_cs y na) := by
  intro L st h y' as f' e
  unfold i_cs at e
  dsimp only at e
  split at e
  · rename_i hc
    cases e
    refine ⟨rfl, fun G p l e R s m args below meth c n0 s0 Q r h1' hC q1 q2 g1 g2 g3 g4 g5 g6 hMet k H locs ls hS hlo hl => ?_⟩
    obtain ⟨c1, c2, c3, c4, c5, c6⟩ := hM
    have hlen : (((st.take na).reverse).map (am_cv G)).length = na := by rw [List.length_map, List.length_reverse, List.length_take]; exact Nat.min_eq_left hc.1
    have ec := am_cats_cv G (st.drop na)
    refine am_fin (r := r) (h1 := h1') (a := (((st.take na).reverse).map (am_cv G)).toArray) (st := st.drop na) (va_runS (As := ((st.take na).reverse).map (am_cv G)) (am_wfix hC) (hMet G)
      (va_cwS na hC.2.2.2.2.1 (am_goods ⟨c1, c2, c3, c4, c5, c6⟩ (am_w3 ⟨h1, rfl⟩ ⟨h2, rfl⟩ ⟨h3, rfl⟩)) rfl rfl rfl ⟨c4, c5, c6⟩ ⟨Nat.le_trans c2 q1, Nat.le_trans c3 q2⟩)
      ⟨am_Pc_blind, fun U hU hW => ⟨rfl, by rw [hU]; exact hS, am_K_warm hW hC.2.2.2.2.2.1⟩⟩ rfl hlen hl.1 ?_ ?_ hd ?_) hlo hl g1 g2 g3 g4 k
    · show st.map (am_cv G) = _
      rw [← List.map_reverse, List.reverse_reverse, ← List.map_append, List.take_append_drop]
    · rw [ec]; show 2 * 0 + _ ≤ 8; omega
    · dsimp only at g1 g2 ⊢
      constructor
      · show hN h - n0 + (hN h1' - hN h) ≤ _; omega
      · show hSl h - s0 + (hSl h1' - hSl h) ≤ _; omega
  · cases e
def am_lk : List (Nat × Nat) → Nat → Option Nat
  | [], _ => none
  | q :: tb, t => if q.1 = t then some q.2 else am_lk tb t
theorem am_lk_mem : ∀ {tb : List (Nat × Nat)} {t y : Nat}, am_lk tb t = some y → (t, y) ∈ tb
  | [], t, y, h => by cases h
  | q :: tb, t, y, h => by
    unfold am_lk at h
    split at h
    · rename_i z
      cases h
      exact List.mem_cons.mpr (Or.inl (by rw [← z]))
    · exact List.mem_cons_of_mem _ (am_lk_mem h)
/-- a call of an instance method: the receiver's tag tells which -/
def i_cv (tb : List (Nat × Nat)) (na : Nat) : am_I := fun f => match f.2.2.1.drop na with
  | .inr (.inr (some a)) :: rest => (match am_lk tb (hK f.2.2.2 a).1 with
    | some y => if am_cats rest ≤ 8 then some (.inr (.inl (y, vr (some a) :: (f.2.2.1.take na).reverse, (f.1 + 3, f.2.1, rest, f.2.2.2)))) else none
    | none => none)
  | _ => none
theorem am_split {G : am_G} {st : List am_V} {na a : Nat} {rest : List am_V} (hd : st.drop na = vr (some a) :: rest) : st.map (am_cv G) = (((st.take na).reverse).map (am_cv G)).reverse ++ .ref (am_ad G a) :: rest.map (am_cv G) ∧ (((st.take na).reverse).map (am_cv G)).length = na := by
  constructor
  · rw [← List.map_reverse, List.reverse_reverse]
    have e : st = st.take na ++ vr (some a) :: rest := by rw [← hd, List.take_append_drop]
    have e2 := congrArg (List.map (am_cv G)) e
    rw [List.map_append] at e2
    exact e2
  · have h1 : na < st.length := by
      rcases Nat.lt_or_ge na st.length with z | z
      · exact z
      · rw [List.drop_eq_nil_of_le z] at hd; cases hd
    rw [List.length_map, List.length_reverse, List.length_take]
    omega
theorem am_PV {G : am_G} {p : Program} {s : State} {m : MethodId} {args : Array Value} {meth : Method} {c : Code} {h : am_H} {H : Heap} {a : Nat} {as : List am_V} (hC : am_C G p s m args meth c own nm b nL) (hS : am_S G h H) (ht : (hK h a).1 < 13) : PreV s H (am_q (hK h a).1).1 (am_ad G a) (am_Pc G (vr (some a) :: as) h) (as.map (am_cv G)) :=
  ⟨am_Pc_blind, am_recv hC.2.2.2.2.2.1 hS ht, fun U hU hW => ⟨rfl, by rw [hU]; exact hS, am_K_warm hW hC.2.2.2.2.2.1⟩⟩
/-- what a virtual call asks for each tag: the plain case, or through the named method -/
def am_vok (fm : Nat → am_M) (own : String) (x na fr lo : Nat) (q : Nat × Nat) : Prop := q.1 < 13 ∧ am_cok (fm q.2) fr lo na ∧
  ((am_q q.1).1 = (fm q.2).1.cls ∧ Cond.methodLink own x (fm q.2).1 ∈ am_T ∧ Cond.instanceMethod (fm q.2).1 ∈ am_T ∧ Cond.selects (am_q q.1).1 (fm q.2).1 (fm q.2).1 ∈ am_T ∧ Cond.initialized (am_q q.1).1 ∈ am_T)
theorem rc_cv {tb : List (Nat × Nat)} {na x : Nat} (hd : decode b pc = .ok (.invokevirtual x, 3)) (htb : ∀ q ∈ tb, am_vok fm own x na fr lo q) : am_RC fm own nm b nL fr lo pc (i_cv tb na) := by
  intro L st h y' as f' e
  unfold i_cv at e
  dsimp only at e
  split at e
  · rename_i a rest hdr
    split at e
    · rename_i y hy
      split at e
      · rename_i hc
        cases e
        refine ⟨rfl, fun G p l e R s m args below meth c n0 s0 Q r h1' hC q1 q2 g1 g2 g3 g4 g5 g6 hMet k H locs ls hS hlo hl => ?_⟩
        obtain ⟨t1, t2, t3, t4, t5, t6, t7⟩ := htb _ (am_lk_mem hy)
        obtain ⟨c1, c2, c3, c4, c5, c6⟩ := t2
        obtain ⟨sp1, sp2⟩ := am_split (G := G) hdr
        have ec := am_cats_cv G rest
        have cw := cwV (R := R) (C := (am_q (hK h a).1).1) (own := own) (index := x) (maxL := (fm y').2.2.1) (bytes := (fm y').2.1) (ret := (fm y').2.2.2.1) (ws := am_ws (fm y')) (rm := am_rm (fm y') (hN h1' - hN h) (hSl h1' - hSl h)) (mc := hN h1' - hN h) (ms := hSl h1' - hSl h) na hC.2.2.2.2.1 (am_goods ⟨c1, c2, c3, c4, c5, c6⟩ (am_w4 ⟨t4, rfl⟩ ⟨t5, rfl⟩ ⟨t6, rfl⟩ ⟨t7, rfl⟩)) rfl rfl rfl ⟨t3.symm, c4, c5, c6⟩ ⟨Nat.le_trans c2 q1, Nat.le_trans c3 q2⟩
        refine am_fin (r := r) (h1 := h1') (st := rest) (va_runV (C := (am_q (hK h a).1).1) (As := ((st.take na).reverse).map (am_cv G)) (am_wfix hC) (hMet G) cw (am_PV hC hS t1) rfl sp2 hl.1 sp1 ?_ hd ?_) hlo hl g1 g2 g3 g4 k
        · rw [ec]; show 2 * 0 + _ ≤ 8; omega
        · dsimp only at g1 g2 ⊢
          constructor
          · show hN h - n0 + (hN h1' - hN h) ≤ _; omega
          · show hSl h - s0 + (hSl h1' - hSl h) ≤ _; omega
      · cases e
    · cases e
  · cases e
/-- .. through the named method X, whose declarer is ow; a declarer's own body is asked where that body is what is selected -/
def am_uok (fm : Nat → am_M) (own : String) (X : MethodName) (ow : String) (x na fr lo : Nat) (q : Nat × Nat) : Prop := q.1 < 13 ∧ am_cok (fm q.2) fr lo na ∧ Cond.methodLink own x X ∈ am_T ∧ Cond.sameMethod X.cls ow X.name X.desc ∈ am_T ∧ Cond.selects (am_q q.1).1 X (fm q.2).1 ∈ am_T ∧ Cond.instanceMethod (fm q.2).1 ∈ am_T ∧ Cond.initialized (fm q.2).1.cls ∈ am_T
theorem rc_cu {tb : List (Nat × Nat)} {na x : Nat} {X : MethodName} {ow : String} {b9 : ByteArray} {n9 : Nat} {r9 : Option FieldType} (hd : decode b pc = .ok (.invokevirtual x, 3)) (how : ow ≠ "java/lang/invoke/MethodHandle" ∧ ow ≠ "java/lang/invoke/VarHandle" ∧ (parseMethodDescriptor X.desc).map (fun d => d.parameters.length) = some na) (hX1 : Cond.instanceMethod ⟨ow, X.name, X.desc⟩ ∈ am_T) (hX2 : Cond.code ⟨ow, X.name, X.desc⟩ b9 n9 r9 ∈ am_T) (htb : ∀ q ∈ tb, am_uok fm own X ow x na fr lo q) : am_RC fm own nm b nL fr lo pc (i_cv tb na) := by
  intro L st h y' as f' e
  unfold i_cv at e
  dsimp only at e
  split at e
  · rename_i a rest hdr
    split at e
    · rename_i y hy
      split at e
      · rename_i hc
        cases e
        refine ⟨rfl, fun G p l e R s m args below meth c n0 s0 Q r h1' hC q1 q2 g1 g2 g3 g4 g5 g6 hMet k H locs ls hS hlo hl => ?_⟩
        obtain ⟨t1, t2, t3, t4, t5, t6, t7⟩ := htb _ (am_lk_mem hy)
        obtain ⟨c1, c2, c3, c4, c5, c6⟩ := t2
        obtain ⟨sp1, sp2⟩ := am_split (G := G) hdr
        have ec := am_cats_cv G rest
        have hts := hC.2.2.2.2.1
        have hG : GoodIn am_T (am_ws (fm y')) := am_goods (ws := []) ⟨c1, c2, c3, c4, c5, c6⟩ (fun w hw => by cases hw)
        have cw : va_CU R s args own (am_q (hK h a).1).1 ow x X (fm y').1 (fm y').2.1 (fm y').2.2.1 (fm y').2.2.2.1 (am_ws (fm y')) (am_rm (fm y') (hN h1' - hN h) (hSl h1' - hSl h)) (hN h1' - hN h) (hSl h1' - hSl h) na := by
          refine ⟨⟨rfl, rfl, Nat.le_trans c2 q1, Nat.le_trans c3 q2, pay_in hts hG, List.mem_cons_self⟩, hts _ c1, hts _ t7, ⟨how.1, how.2.1⟩, fun sig hsig => ?_, hts _ t3, hts _ t4, va_Decl.of (hts _ hX1) (hts _ hX2), hts _ t5, hts _ t6⟩
          have h2 := how.2.2
          rw [hsig] at h2
          exact (Option.some.inj h2).symm
        refine am_fin (r := r) (h1 := h1') (st := rest) (va_runU (C := (am_q (hK h a).1).1) (As := ((st.take na).reverse).map (am_cv G)) (am_wfix hC) (hMet G) cw (am_PV hC hS t1) rfl sp2 hl.1 sp1 ?_ hd ?_) hlo hl g1 g2 g3 g4 k
        · rw [ec]; show 2 * 0 + _ ≤ 8; omega
        · dsimp only at g1 g2 ⊢
          constructor
          · show hN h - n0 + (hN h1' - hN h) ≤ _; omega
          · show hSl h - s0 + (hSl h1' - hSl h) ≤ _; omega
      · cases e
    · cases e
  · cases e
/-- a constructor; super -/
def i_ci (y na : Nat) : am_I := fun f => match f.2.2.1.drop na with
  | .inr (.inr (some a)) :: rest => if am_cats rest ≤ 8 then some (.inr (.inl (y, vr (some a) :: (f.2.2.1.take na).reverse, (f.1 + 3, f.2.1, rest, f.2.2.2)))) else none
  | _ => none
theorem rc_ci {y na x : Nat} (hd : decode b pc = .ok (.invokespecial x, 3)) (hM : am_cok (fm y) fr lo na) (hi : (fm y).1.name = "<init>") (hr9 : (fm y).2.2.2.1 = none) (h1 : Cond.methodLink own x (fm y).1 ∈ am_T ∨ ∃ host, Cond.methodLinkNest own x (fm y).1 host ∈ am_T) (h2 : Cond.instanceMethod (fm y).1 ∈ am_T) (h3 : Cond.initialized (fm y).1.cls ∈ am_T) : am_RC fm own nm b nL fr lo pc (i_ci y na) := by
  intro L st h y' as f' e
  unfold i_ci at e
  dsimp only at e
  split at e
  · rename_i a rest hdr
    split at e
    · rename_i hc
      cases e
      refine ⟨rfl, fun G p l e R s m args below meth c n0 s0 Q r h1' hC q1 q2 g1 g2 g3 g4 g5 g6 hMet k H locs ls hS hlo hl => ?_⟩
      obtain ⟨c1, c2, c3, c4, c5, c6⟩ := hM
      obtain ⟨sp1, sp2⟩ := am_split (G := G) hdr
      have ec := am_cats_cv G rest
      have hts := hC.2.2.2.2.1
      have hG : GoodIn am_T (am_ws (fm y)) := am_goods (ws := []) ⟨c1, c2, c3, c4, c5, c6⟩ (fun w hw => by cases hw)
      have hP : PreS s H (am_Pc G (vr (some a) :: (st.take na).reverse) h) (.ref (am_ad G a) :: ((st.take na).reverse).map (am_cv G)) := ⟨am_Pc_blind, fun U hU hW => ⟨rfl, by rw [hU]; exact hS, am_K_warm hW hC.2.2.2.2.2.1⟩⟩
      have hwm : am_ws (fm y) = Cond.code (fm y).1 (fm y).2.1 (fm y).2.2.1 none :: [] := by rw [← hr9]; rfl
      have hW8 : 2 * (F0 m pc ls (st.map (am_cv G))).monitorRoom + ((rest.map (am_cv G)).map fun v => v.category).sum ≤ 8 := by rw [ec]; show 2 * 0 + _ ≤ 8; omega
      have hf : hN h - n0 + (hN h1' - hN h) ≤ R.cells ∧ hSl h - s0 + (hSl h1' - hSl h) ≤ R.slots := by
        have g1' : n0 ≤ hN h := g1
        have g2' : s0 ≤ hSl h := g2
        constructor <;> omega
      rcases h1 with h1 | ⟨host, h1⟩
      · exact am_fin (r := r) (h1 := h1') (st := rest) (va_runI (As := ((st.take na).reverse).map (am_cv G)) (am_wfix hC) (hMet G) (cwI na hts hG hwm rfl rfl (hts _ h3) (hts _ h1) (hts _ h2) hi ⟨c4, c5, c6⟩ ⟨Nat.le_trans c2 q1, Nat.le_trans c3 q2⟩) hP rfl sp2 hl.1 sp1 hW8 hd hf) hlo hl g1 g2 g3 g4 k
      · exact am_fin (r := r) (h1 := h1') (st := rest) (va_runIN (As := ((st.take na).reverse).map (am_cv G)) (am_wfix hC) (hMet G) ⟨va_cnB na hts hG hwm rfl rfl (hC.2.2.2.2.2.1.2.2.2.2.2.2.2.2.2.2.1 _ h1) (hts _ h3) ⟨c4, c5, c6⟩ ⟨Nat.le_trans c2 q1, Nat.le_trans c3 q2⟩, hi, hts _ h2⟩ hP rfl sp2 hl.1 sp1 hW8 hd hf) hlo hl g1 g2 g3 g4 k
    · cases e
  · cases e
/-- super: the receiver's tags -/
def i_su (y na : Nat) (cs : List Nat) : am_I := fun f => match f.2.2.1.drop na with
  | .inr (.inr (some a)) :: rest => if (hK f.2.2.2 a).1 ∈ cs ∧ am_cats rest ≤ 8 then some (.inr (.inl (y, vr (some a) :: (f.2.2.1.take na).reverse, (f.1 + 3, f.2.1, rest, f.2.2.2)))) else none
  | _ => none
theorem rc_su {y na x : Nat} {cs : List Nat} (hd : decode b pc = .ok (.invokespecial x, 3)) (hM : am_cok (fm y) fr lo na) (hi : (fm y).1.name ≠ "<init>") (hcs : ∀ t ∈ cs, t < 13) (h1 : Cond.methodLink own x (fm y).1 ∈ am_T) (h2 : Cond.sameMethod (fm y).1.cls (fm y).1.cls (fm y).1.name (fm y).1.desc ∈ am_T) (h3 : Cond.superclass own (fm y).1.cls ∈ am_T) (h4 : Cond.instanceMethod (fm y).1 ∈ am_T) (h5 : Cond.initialized (fm y).1.cls ∈ am_T) : am_RC fm own nm b nL fr lo pc (i_su y na cs) := by
  intro L st h y' as f' e
  unfold i_su at e
  dsimp only at e
  split at e
  · rename_i a rest hdr
    split at e
    · rename_i hc
      cases e
      refine ⟨rfl, fun G p l e R s m args below meth c n0 s0 Q r h1' hC q1 q2 g1 g2 g3 g4 g5 g6 hMet k H locs ls hS hlo hl => ?_⟩
      obtain ⟨c1, c2, c3, c4, c5, c6⟩ := hM
      obtain ⟨sp1, sp2⟩ := am_split (G := G) hdr
      have ec := am_cats_cv G rest
      have hts := hC.2.2.2.2.1
      have t1 := hcs _ hc.1
      refine am_fin (r := r) (h1 := h1') (st := rest) (va_runSU (C := (am_q (hK h a).1).1) (As := ((st.take na).reverse).map (am_cv G)) ((am_KV hC.2.2.2.2.2.1).1 _ _ (am_q_some t1)).2 (am_wfix hC) (hMet G) (va_cwSU na hts (am_goods ⟨c1, c2, c3, c4, c5, c6⟩ (am_w5 ⟨h1, rfl⟩ ⟨h2, rfl⟩ ⟨h3, rfl⟩ ⟨h4, rfl⟩ ⟨h5, rfl⟩)) rfl rfl rfl ⟨hi, c6⟩ ⟨Nat.le_trans c2 q1, Nat.le_trans c3 q2⟩) (am_PV hC hS t1) rfl sp2 hl.1 sp1 ?_ hd ?_) hlo hl g1 g2 g3 g4 k
      · rw [ec]; show 2 * 0 + _ ≤ 8; omega
      · dsimp only at g1 g2 ⊢
        constructor
        · show hN h - n0 + (hN h1' - hN h) ≤ _; omega
        · show hSl h - s0 + (hSl h1' - hSl h) ≤ _; omega
    · cases e
  · cases e
end AMK
