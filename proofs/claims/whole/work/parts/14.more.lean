/-! clone, casts, the JDK's text -/
section AMJ
variable {fm : Nat → am_M} {own nm : String} {b : ByteArray} {nL fr lo pc : Nat}
theorem am_T_arr {G : am_G} {s : State} (h : am_K G s) : s.vm.findClass "[I" = some (gE G 100) := va_nm_int ((am_KV h).2 0 _ rfl).2
/-- clone() of an array of ints of ours -/
def i_cln : am_I := fun f => match f.2.2.1 with
  | .inr (.inr (some a)) :: st => if (hK f.2.2.2 a).1 = 100 ∧ 16 ≤ a ∧ am_cats st ≤ 8 then some (.inl (f.1 + 3, f.2.1, vr (some (hN f.2.2.2)) :: st, pIs (al f.2.2.2 (100, (hK f.2.2.2 a).2) (hK f.2.2.2 a).2) (hN f.2.2.2) (hI f.2.2.2 a))) else none
  | _ => none
def i_cst : am_I := fun f => match f.2.2.1 with
  | .inr (.inr (some a)) :: st => if (hK f.2.2.2 a).1 = 100 ∧ 16 ≤ a then some (.inl (f.1 + 3, f.2.1, vr (some a) :: st, f.2.2.2)) else none
  | _ => none
theorem r_cst {x : Nat} (hd : decode b pc = .ok (.checkcast x, 3)) (hw : Cond.classLink own x "[I" ∈ am_T) : am_RF own nm b nL fr lo pc i_cst := by
  intro L st h f' e
  unfold i_cst at e
  dsimp only at e
  split at e
  · rename_i a st1
    split at e
    · rename_i hc
      cases e
      refine ⟨⟨Nat.le_refl _, Nat.le_refl _⟩, fun G p l e R s m args below meth c n0 s0 Q hC _ _ _ _ _ _ k1 H locs ls hS hlo hl => ?_⟩
      obtain ⟨o1, o2⟩ := am_own hS (Or.inr (Or.inr ⟨hc.2, by rw [hc.1]; decide⟩))
      have hat := am_S_at hS o1 o2
      rw [am_cell_i hc.1] at hat
      exact va_castA hC.1 hC.2.1 hC.2.2.2.1 (hC.2.2.2.2.1 _ hw) (am_P1 hat) 0 rfl (am_T_arr hC.2.2.2.2.2.1) hd (k1 H locs ls hS hlo hl)
    · cases e
  · cases e
theorem am_cell_pIs_al {G : am_G} {h : am_H} {kd : Nat × Nat} {sl : Nat} {g : Nat → Int32} {c : Nat} (hc : c ≠ hN h) : am_cell G (pIs (al h kd sl) (hN h) g) c = am_cell G h c := (am_cell_pIs hc).trans (am_cell_al hc)
theorem r_cln {x : Nat} (hd : decode b pc = .ok (.invokevirtual x, 3)) (h1 : Cond.methodLink own x ⟨"[I", "clone", "()Ljava/lang/Object;"⟩ ∈ am_T) (h2 : Cond.sameMethod "[I" "java/lang/Object" "clone" "()Ljava/lang/Object;" ∈ am_T) (h3 : Cond.native ⟨"java/lang/Object", "clone", "()Ljava/lang/Object;"⟩ ∈ am_T) (h4 : Cond.instanceMethod ⟨"java/lang/Object", "clone", "()Ljava/lang/Object;"⟩ ∈ am_T) (h5 : Cond.selects "[I" ⟨"[I", "clone", "()Ljava/lang/Object;"⟩ ⟨"java/lang/Object", "clone", "()Ljava/lang/Object;"⟩ ∈ am_T) (h6 : Cond.castable "[I" "java/lang/Cloneable" ∈ am_T) (hfr : 1 ≤ fr) (hlo9 : 22 ≤ lo) : am_RF own nm b nL fr lo pc i_cln := by
  intro L st h f' e
  unfold i_cln at e
  dsimp only at e
  split at e
  · rename_i a st1
    split at e
    · rename_i hc
      cases e
      refine ⟨⟨Nat.le_succ _, Nat.le_add_right _ _⟩, fun G p l e R s m args below meth c n0 s0 Q hC q1 q2 hn0 hs0 hcl hsl k1 H locs ls hS hlo hl => ?_⟩
      have hcl' : hN h + 1 - n0 ≤ R.cells := hcl
      have hsl' : hSl h + (hK h a).2 - s0 ≤ R.slots := hsl
      have hn0' : n0 ≤ hN h := hn0
      have hs0' : s0 ≤ hSl h := hs0
      have hts := hC.2.2.2.2.1
      have ec := am_cats_cv G st1
      obtain ⟨o1, o2⟩ := am_own hS (Or.inr (Or.inr ⟨hc.2.1, by rw [hc.1]; decide⟩))
      have hat := am_S_at hS o1 o2
      rw [am_cell_i hc.1] at hat
      have hat : H[am_ad G a]? = some (arrV (gE G 100) (hK h a).2 (fun j => .int (hI h a j))) := hat
      have hKv := am_KV hC.2.2.2.2.2.1
      have hnm := am_T_arr hC.2.2.2.2.2.1
      have hcb : c.code = b := hC.2.1
      have hadn := am_ad_new hS
      obtain ⟨c0, t0', f1, f2, f3⟩ := Cond.castable_spec (hts _ h6)
      cases hnm.symm.trans f1
      intro T hT X
      have hcellT : T.heap[am_ad G a]? = some (arrV (gE G 100) (hK h a).2 (fun j => .int (hI h a j))) := by rw [hT]; exact hat
      obtain ⟨-, kA, hkA, comp, hkind⟩ := State.isArrayOf_alike X.warmed.alike ((hKv.2 0 _ rfl).1 0 (fun _ => .null))
      obtain ⟨-, kS, hkS, compS, hkindS⟩ := (hKv.2 0 _ rfl).1 0 (fun _ => .null)
      obtain ⟨vm', X', st9⟩ := X.cloneArray hC.1 hC.2.2.2.1 (hts _ h1) (hts _ h2) (hts _ h3) (hts _ h4) (hts _ h5) (a := am_ad G a) (cell := arrV (gE G 100) (hK h a).2 (fun j => .int (hI h a j))) hcellT (fun k h => by cases h) (fun h => by cases h) hnm f2 f3
        (fun i v hv => by
          have hk' : T.vm.classes[gE G 100]? = some kA := hkA
          have hi : i < (hK h a).2 := by
            have := (Array.getElem?_eq_some_iff.mp hv).1
            rw [arrV_size] at this
            exact this
          rw [arrV_read _ _ hi] at hv
          cases hv
          simp [State.fitsSlot, State.slotType?, arrV, hk', hkind]
          rfl)
        (g := F0 m pc ls (.ref (am_ad G a) :: st1.map (am_cv G))) rfl (by rw [hC.2.2.1]; exact hl.1) rfl (by rw [hcb]; exact hd) (by omega) (by show 2 * 0 + _ + 14 ≤ _; omega) (by show hN h - n0 + 1 ≤ _; omega) (by rw [arrV_size]; show hSl h - s0 + _ ≤ _; omega) (hloader := Vm.clonesLoader_of_array hkS hkindS)
      have hcellE : ({ cls := (arrV (gE G 100) (hK h a).2 (fun j => .int (hI h a j))).cls, slots := (arrV (gE G 100) (hK h a).2 (fun j => .int (hI h a j))).slots } : Cell) = arrV (gE G 100) (hK h a).2 (fun j => .int (hI h a j)) := rfl
      rw [hcellE, arrV_size] at X'
      generalize hH1 : H.push (arrV (gE G 100) (hK h a).2 (fun j => .int (hI h a j))) = H1
      have z1 : H1.size = H.size + 1 := by rw [← hH1, Array.size_push]
      have e1 : H1[H.size]? = some (arrV (gE G 100) (hK h a).2 (fun j => .int (hI h a j))) := by rw [← hH1, Array.getElem?_push_size]
      have o9 : ∀ q : Nat, q < H.size → H1[q]? = H[q]? := fun q hq => by rw [← hH1, Array.getElem?_push, if_neg (Nat.ne_of_lt hq)]
      have hS1 : am_S G (pIs (al h (100, (hK h a).2) (hK h a).2) (hN h) (hI h a)) H1 := by
        obtain ⟨s1, s2, s3, s4, s5, s6⟩ := hS
        have s1 : 16 ≤ hN h := s1
        have s2 : H.size = gB G + (hN h - 16) := s2
        have eK : ∀ c, c ≠ hN h → hK (pIs (al h (100, (hK h a).2) (hK h a).2) (hN h) (hI h a)) c = hK h c := fun c hc => if_neg hc
        refine ⟨?_, ?_, fun q hq => ?_, fun c c1 c2 => ?_, fun c hc9 => ?_, fun c hc9 => ?_⟩
        · show 16 ≤ hN h + 1; omega
        · show H1.size = gB G + (hN h + 1 - 16); omega
        · rw [o9 q (by omega)]; exact s3 q hq
        · have c2' : c < hN h + 1 := c2
          by_cases hcn : c = hN h
          · subst hcn
            have q0 : hK (pIs (al h (100, (hK h a).2) (hK h a).2) (hN h) (hI h a)) (hN h) = (100, (hK h a).2) := if_pos rfl
            have q1 : hI (pIs (al h (100, (hK h a).2) (hK h a).2) (hN h) (hI h a)) (hN h) = hI h a := by funext j; exact if_pos rfl
            rw [am_cell_i (by rw [q0]), q0, q1]
            show H1[am_ad G (hN h)]? = some (vp_cell _ _)
            rw [hadn, e1]
            rfl
          · rw [am_cell_pIs_al hcn]
            have hat9 := s4 c c1 (Nat.lt_of_le_of_ne (Nat.le_of_lt_succ c2') hcn)
            exact hat9.kept (o9 _ hat9.lt)
        · have hne : c ≠ hN h := by omega
          rw [eK c hne]
          refine ⟨(s5 c hc9).1, fun j => ?_⟩
          show (if c = hN h then hI h a j else if c = hN h then (0 : Int32) else hI h c j) = _
          rw [if_neg hne, if_neg hne]
          exact (s5 c hc9).2 j
        · have hc9' : hN h + 1 ≤ c := hc9
          rw [eK c (by omega)]
          exact s6 c (by show hN h ≤ c; omega)
      have k2 := k1 H1 locs ls hS1 hlo hl
      have e5 : am_cv G (vr (some (hN h))) = .ref H.size := by rw [← hadn]; rfl
      rw [List.map_cons, e5] at k2
      have w1 : hN h - n0 + 1 = hN h + 1 - n0 := by omega
      have w2 : hSl h - s0 + (hK h a).2 = hSl h + (hK h a).2 - s0 := by omega
      dsimp only at X'
      rw [w1, w2] at X'
      obtain ⟨t, b1, b2⟩ := k2 ((T.setVm vm').pushCell (arrV (gE G 100) (hK h a).2 (fun j => .int (hI h a j)))) (by rw [← hH1, ← hT]; rfl) X'
      refine ⟨t, st9 t ?_, b2⟩
      rw [hcellE, hT]
      exact b1
    · cases e
  · cases e
/-- a call of an instance method of a literal -/
def i_cS (y na : Nat) : am_I := fun f => match f.2.2.1.drop na with
  | .inr (.inr (some a)) :: rest => if (2 ≤ a ∧ a < 7) ∧ am_cats rest ≤ 8 then some (.inr (.inl (y, vr (some a) :: (f.2.2.1.take na).reverse, (f.1 + 3, f.2.1, rest, f.2.2.2)))) else none
  | _ => none
theorem am_strS {G : am_G} {s : State} {a : Nat} (hKK : am_K G s) (ha : 2 ≤ a ∧ a < 7) : va_O "java/lang/String" (am_ad G a) (am_A G) s (gH G) ∧ va_OF "java/lang/String" "coder" "B" (.int 0) (am_ad G a) (am_A G) s (gH G) ∧ va_OF "java/lang/String" "value" "[B" (.ref (am_ad G (a + 5))) (am_ad G a) (am_A G) s (gH G) ∧ va_T .byte (am_ad G (a + 5)) (am_byt (a - 2)).length (fun j => .int ((am_byt (a - 2)).getD j 0)) (am_A G) s (gH G) := by
  have h := hKK.2.2.2.2.2.1.1 (a - 2) (by omega)
  have e1 : am_ad G a = gS G (2 + (a - 2)) := by rw [am_ad_sp (by omega), show 2 + (a - 2) = a by omega]
  have e2 : am_ad G (a + 5) = gS G (7 + (a - 2)) := by rw [am_ad_sp (by omega), show 7 + (a - 2) = a + 5 by omega]
  have e3 : ((List.range 5).map fun i => (am_byt i).length).getD (a - 2) 0 = (am_byt (a - 2)).length := by
    rw [List.getD_eq_getElem?_getD, List.getElem?_map, List.getElem?_range (by omega)]; rfl
  have e4 : ((List.range 5).map am_byt).getD (a - 2) [] = am_byt (a - 2) := by
    rw [List.getD_eq_getElem?_getD, List.getElem?_map, List.getElem?_range (by omega)]; rfl
  rw [e3, e4] at h
  rw [e1, e2]
  exact h
theorem rc_cS {y na x : Nat} (hd : decode b pc = .ok (.invokevirtual x, 3)) (hM : am_cok (fm y) fr lo na) (hcl : (fm y).1.cls = "java/lang/String") (h1 : Cond.methodLink own x (fm y).1 ∈ am_T) (h2 : Cond.instanceMethod (fm y).1 ∈ am_T) (h3 : Cond.selects "java/lang/String" (fm y).1 (fm y).1 ∈ am_T) (h4 : Cond.initialized "java/lang/String" ∈ am_T) : am_RC fm own nm b nL fr lo pc (i_cS y na) := by
  intro L st h y' as f' e
  unfold i_cS at e
  dsimp only at e
  split at e
  · rename_i a rest hdr
    split at e
    · rename_i hc
      cases e
      refine ⟨rfl, fun G p l e R s m args below meth c n0 s0 Q r h1' hC q1 q2 g1 g2 g3 g4 g5 g6 hMet k H locs ls hS hlo hl => ?_⟩
      obtain ⟨c1, c2, c3, c4, c5, c6⟩ := hM
      obtain ⟨sp1, sp2⟩ := am_split (G := G) hdr
      have ec := am_cats_cv G rest
      have cw := cwV (R := R) (C := "java/lang/String") (own := own) (index := x) (maxL := (fm y).2.2.1) (bytes := (fm y).2.1) (ret := (fm y).2.2.2.1) (ws := am_ws (fm y)) (rm := am_rm (fm y) (hN h1' - hN h) (hSl h1' - hSl h)) (mc := hN h1' - hN h) (ms := hSl h1' - hSl h) na hC.2.2.2.2.1 (am_goods ⟨c1, c2, c3, c4, c5, c6⟩ (am_w4 ⟨h1, rfl⟩ ⟨h2, rfl⟩ ⟨h3, rfl⟩ ⟨h4, rfl⟩)) rfl rfl rfl ⟨hcl, c4, c5, c6⟩ ⟨Nat.le_trans c2 q1, Nat.le_trans c3 q2⟩
      have hrecv : ∃ cell : Cell, H[am_ad G a]? = some cell ∧ cell.vm.isStatics = false ∧ s.vm.findClass "java/lang/String" = some cell.cls := by
        obtain ⟨cell, w1, w2, w3, w4⟩ := (am_strS hC.2.2.2.2.2.1 hc.1).1
        exact ⟨cell, by rw [hS.2.2.1 _ (Nat.not_le.mp w4)]; exact w1, w2, w3⟩
      have hPV : PreV s H "java/lang/String" (am_ad G a) (am_Pc G (vr (some a) :: (st.take na).reverse) h) (((st.take na).reverse).map (am_cv G)) := ⟨am_Pc_blind, hrecv, fun U hU hW => ⟨rfl, by rw [hU]; exact hS, am_K_warm hW hC.2.2.2.2.2.1⟩⟩
      refine am_fin (r := r) (h1 := h1') (st := rest) (va_runV (C := "java/lang/String") (As := ((st.take na).reverse).map (am_cv G)) (am_wfix hC) (hMet G) cw hPV rfl sp2 hl.1 sp1 ?_ hd ?_) hlo hl g1 g2 g3 g4 k
      · rw [ec]; show 2 * 0 + _ ≤ 8; omega
      · dsimp only at g1 g2 ⊢
        constructor
        · show hN h - n0 + (hN h1' - hN h) ≤ _; omega
        · show hSl h - s0 + (hSl h1' - hSl h) ≤ _; omega
    · cases e
  · cases e
def i_gsv : am_I := fun f => match f.2.2.1 with
  | .inr (.inr (some a)) :: st => if 2 ≤ a ∧ a < 7 then some (.inl (f.1 + 3, f.2.1, vr (some (a + 5)) :: st, f.2.2.2)) else none
  | _ => none
def i_gsc : am_I := fun f => match f.2.2.1 with
  | .inr (.inr (some a)) :: st => if 2 ≤ a ∧ a < 7 then some (.inl (f.1 + 3, f.2.1, vi 0 :: st, f.2.2.2)) else none
  | _ => none
theorem am_OFg {G : am_G} {p : Program} {l : Launch} {e : Env} {R : Room} {s : State} {m : MethodId} {args : Array Value} {below : List Frame} {meth : Method} {c : Code} {H : Heap} {locs : List Loc} {cells slots : Nat} {Q : State → Prop} {ls : Array Slot} {rest : List Value} {h : am_H} {x q : Nat} {n d : String} {v : Value}
    (hC : am_C G p s m args meth c own nm b nL) (hS : am_S G h H) (hE : va_OF "java/lang/String" n d v q (am_A G) s (gH G)) (hw : Cond.fieldLink own x "java/lang/String" n d ∈ am_T) (hd : decode b pc = .ok (.getfield x, 3))
    (kk : W p l e R s m args below meth c H locs cells slots Q (F0 m (pc + 3) ls (v :: rest))) : W p l e R s m args below meth c H locs cells slots Q (F0 m pc ls (.ref q :: rest)) := by
  obtain ⟨cf, k, fi, f, cell, h1, h2, h3, h4, h5, h6⟩ := hE
  exact W.getf hC.1 hC.2.1 hC.2.2.2.1 (hC.2.2.2.2.1 _ hw) h1 h2 (by rw [hS.2.2.1 _ (Nat.not_le.mp h6)]; exact h3) h4 (v := v) h5 rfl rfl hd kk
theorem r_gsv {x : Nat} (hd : decode b pc = .ok (.getfield x, 3)) (hw : Cond.fieldLink own x "java/lang/String" "value" "[B" ∈ am_T) : am_RF own nm b nL fr lo pc i_gsv := by
  intro L st h f' e
  unfold i_gsv at e
  dsimp only at e
  split at e
  · split at e
    · rename_i hc
      cases e
      exact ⟨⟨Nat.le_refl _, Nat.le_refl _⟩, fun G p l e R s m args below meth c n0 s0 Q hC _ _ _ _ _ _ k1 H locs ls hS hlo hl => am_OFg hC hS (am_strS hC.2.2.2.2.2.1 hc).2.2.1 hw hd (k1 H locs ls hS hlo hl)⟩
    · cases e
  · cases e
theorem r_gsc {x : Nat} (hd : decode b pc = .ok (.getfield x, 3)) (hw : Cond.fieldLink own x "java/lang/String" "coder" "B" ∈ am_T) : am_RF own nm b nL fr lo pc i_gsc := by
  intro L st h f' e
  unfold i_gsc at e
  dsimp only at e
  split at e
  · split at e
    · rename_i hc
      cases e
      exact ⟨⟨Nat.le_refl _, Nat.le_refl _⟩, fun G p l e R s m args below meth c n0 s0 Q hC _ _ _ _ _ _ k1 H locs ls hS hlo hl => am_OFg hC hS (am_strS hC.2.2.2.2.2.1 hc).2.1 hw hd (k1 H locs ls hS hlo hl)⟩
    · cases e
  · cases e
/-- COMPACT_STRINGS is 1 -/
theorem r_gs2 {x : Nat} (hd : decode b pc = .ok (.getstatic x, 3)) (hw : Cond.fieldLink own x "java/lang/String" "COMPACT_STRINGS" "Z" ∈ am_T) : am_RF own nm b nL fr lo pc (i_ic 1 3) := by
  intro L st h f' e; cases e
  refine ⟨⟨Nat.le_refl _, Nat.le_refl _⟩, fun G p l e R s m args below meth c n0 s0 Q hC _ _ _ _ _ _ k1 H locs ls hS hlo hl => ?_⟩
  obtain ⟨cf, kf, fi, f, a, cell, h1, h2, h3, h4, h5, h6, h7, h8⟩ := hC.2.2.2.2.2.1.2.2.2.2.2.2.2.1
  exact W.gets hC.1 hC.2.1 hC.2.2.2.1 (hC.2.2.2.2.1 _ hw) h1 h2 h3 h4 (by rw [hS.2.2.1 a (Nat.not_le.mp h8)]; exact h5) (fun e => by rw [e] at h6; cases h6) h7 rfl hd (k1 H locs ls hS hlo hl)
def i_bln : am_I := fun f => match f.2.2.1 with
  | .inr (.inr (some a)) :: st => if 7 ≤ a ∧ a < 12 then some (.inl (f.1 + 1, f.2.1, vi (Int32.ofNat (am_byt (a - 7)).length) :: st, f.2.2.2)) else none
  | _ => none
def i_bld : am_I := fun f => match f.2.2.1 with
  | .inl i :: .inr (.inr (some a)) :: st => if 7 ≤ a ∧ a < 12 then (match am_ix i (am_byt (a - 7)).length with
    | some j => some (.inl (f.1 + 1, f.2.1, vi ((am_byt (a - 7)).getD j 0) :: st, f.2.2.2))
    | none => none) else none
  | _ => none
theorem am_strB {G : am_G} {s : State} {a : Nat} {h : am_H} {H : Heap} (hKK : am_K G s) (hS : am_S G h H) (ha : 7 ≤ a ∧ a < 12) : ∃ cell : Cell, H[am_ad G a]? = some cell ∧ s.isArrayOf cell .byte ∧ cell.vm ≠ .unknown ∧ (am_byt (a - 7)).length ≤ cell.slots.size ∧ cell.slots.size.toInt32 = Int32.ofNat (am_byt (a - 7)).length ∧ ∀ j : Nat, j < (am_byt (a - 7)).length → cell.slots[j]? = some (.int ((am_byt (a - 7)).getD j 0)) := by
  have h2 := (am_strS (a := a - 5) hKK (by omega)).2.2.2
  rw [show a - 5 + 5 = a by omega, show a - 5 - 2 = a - 7 by omega] at h2
  exact am_T_at h2 hS
theorem r_bln (hd : decode b pc = .ok (.arraylength, 1)) : am_RF own nm b nL fr lo pc i_bln := by
  intro L st h f' e
  unfold i_bln at e
  dsimp only at e
  split at e
  · split at e
    · rename_i hc
      cases e
      refine ⟨⟨Nat.le_refl _, Nat.le_refl _⟩, fun G p l e R s m args below meth c n0 s0 Q hC _ _ _ _ _ _ k1 H locs ls hS hlo hl => ?_⟩
      obtain ⟨cell, g1, g2, g3, g4, g5, g6⟩ := am_strB hC.2.2.2.2.2.1 hS hc
      exact W.alen hC.1 hC.2.1 g1 g2 g5 rfl rfl hd (k1 H locs ls hS hlo hl)
    · cases e
  · cases e
theorem r_bld (hd : decode b pc = .ok (.baload, 1)) : am_RF own nm b nL fr lo pc i_bld := by
  intro L st h f' e
  unfold i_bld at e
  dsimp only at e
  split at e
  · rename_i i a st1
    split at e
    · rename_i hc
      split at e
      · rename_i j hj
        cases e
        refine ⟨⟨Nat.le_refl _, Nat.le_refl _⟩, fun G p l e R s m args below meth c n0 s0 Q hC _ _ _ _ _ _ k1 H locs ls hS hlo hl => ?_⟩
        obtain ⟨cell, g1, g2, g3, g4, g5, g6⟩ := am_strB hC.2.2.2.2.2.1 hS hc
        obtain ⟨j1, j2, j3⟩ := am_ix_in hj
        subst j1
        exact W.bald hC.1 hC.2.1 g1 g2 g3 (fun q => q.elim j3 (fun z => by omega)) (g6 _ j2) rfl rfl hd (k1 H locs ls hS hlo hl)
      · cases e
    · cases e
  · cases e
theorem r_i2c (hd : decode b pc = .ok (.i2c, 1)) : am_RF own nm b nL fr lo pc (i_iu (fun x => (x.toUInt32 % 65536).toInt32)) := by
  intro L st h f' e
  unfold i_iu at e
  dsimp only at e
  split at e
  · cases e
    exact ⟨⟨Nat.le_refl _, Nat.le_refl _⟩, fun G p l e R s m args below meth c n0 s0 Q hC _ _ _ _ _ _ k H locs ls hS hlo hl => lv_i2c hC.1 hC.2.1 hd rfl (k H locs ls hS hlo hl)⟩
  · cases e
/-- an int's end where the answer is a small type's -/
def i_nret (ty : FieldType) : am_I := fun f => match f.2.2.1 with
  | [.inl x] => if narrow ty (.int x) = .int x then some (.inr (.inr (some (vi x), f.2.2.2))) else none
  | _ => none
theorem rr_n {ty : FieldType} (hd : decode b pc = .ok (.ireturn, 1)) : am_RR own nm b nL (some ty) pc (i_nret ty) := by
  intro L st h r h' e
  unfold i_nret at e
  dsimp only at e
  split at e
  · split at e
    · rename_i hx
      cases e
      refine ⟨rfl, fun G p l e R s m args below meth c H locs ls cells slots hC hr hS hlo => ?_⟩
      have hlocks := hC.2.2.2.2.2.2.1
      exact W.zret hC.1 hC.2.1 hr hx (fun t ht hW => ⟨rfl, by rw [ht]; exact hS⟩) hlo hd
    · cases e
  · cases e
-- the check of an index that is within
def am_qi (v : Option Value) (G : am_G) (h : am_H) : Array Value → State → Outcome → State → Prop := fun _ _ oc t => oc = .returned v ∧ am_S G h t.heap
theorem am_ckP {l : Launch} (G : am_G) (h : am_H) (i n : Int32) (v : Value) (h0 : ¬ i < 0) (h1 : i < n) (hv : v = .null ∨ ∃ t, v = .ref t) : Met l yJ3_checkIndex_8e157 [Cond.code yJ3_checkIndex_8e157 cJ3_checkIndex_8e157 3 (some .int)] ({ frames := 0, cells := 0, slots := 0, locals := 0 } : Room) (fun a U => a = #[.int i, .int n, v] ∧ am_S G h U.heap) (am_qi (some (.int i)) G h) 0 0 (am_A G) := by
  refine Met.ofW (cc := cJ3_checkIndex_8e157) (maxL := 3) (ret := some .int) (by decide) rfl ?_
  intro p e s m args below meth c s₁ B hml hv9
  obtain ⟨rfl, hS⟩ := hv9
  have hx := B.exec
  have hb := B.bytes
  have hr := B.returns
  have hlocks := B.notSynchronized
  have hl := lv_entry ([.int i, .int n, v]) (n := 3) (by rcases hv with z | ⟨t, z⟩ <;> subst z <;> exact Nat.le_of_ble_eq_true rfl)
  have e9 : entryFrame m #[.int i, .int n, v] 3 = entryFrame m ([.int i, .int n, v] : List Value).toArray 3 := rfl
  rw [e9, lg_entry_eq]
  generalize (lg_sl ([.int i, .int n, v]) ++ List.replicate (3 - (lg_sl ([.int i, .int n, v])).length) Slot.unset).toArray = ls at hl ⊢
  refine lv_iload_n (k := 0) (i := 0) hx hb (by decide +kernel) rfl (lv_at hl 0 rfl) ?_
  refine lv_if_lt (tgt := 9) (off := 8) hx hb (by decide +kernel) (by decide) (fun z => absurd z h0) (fun _ => ?_)
  refine lv_iload_n (k := 0) (i := 0) hx hb (by decide +kernel) rfl (lv_at hl 0 rfl) ?_
  refine lv_iload_n (k := 1) (i := 1) hx hb (by decide +kernel) rfl (lv_at hl 1 rfl) ?_
  refine lv_icmp_lt (tgt := 16) (off := 10) hx hb (by decide +kernel) (by decide) (fun _ => ?_) (fun z => absurd h1 z)
  refine lv_iload_n (k := 0) (i := 0) hx hb (by decide +kernel) rfl (lv_at hl 0 rfl) ?_
  exact W.iret hx hb hr (fun t ht hW => ⟨rfl, by rw [ht]; exact hS⟩) (fun q hq => by cases hq) (by decide +kernel)
theorem am_ckS {l : Launch} (G : am_G) (h : am_H) (i n : Int32) (h0 : ¬ i < 0) (h1 : i < n) (w1 : Cond.fieldLink RJ0 1053 "jdk/internal/util/Preconditions" "SIOOBE_FORMATTER" "Ljava/util/function/BiFunction;" ∈ am_T) (w2 : Cond.methodLink RJ0 1059 yJ3_checkIndex_8e157 ∈ am_T) (w3 : Cond.static yJ3_checkIndex_8e157 ∈ am_T) (w4 : Cond.initialized RJ3 ∈ am_T) (w5 : Cond.code yJ3_checkIndex_8e157 cJ3_checkIndex_8e157 3 (some .int) ∈ am_T) :
    Met l yJ0_checkIndex_df160 [Cond.code yJ0_checkIndex_df160 cJ0_checkIndex_df160 2 none] ({ frames := 1, cells := 0, slots := 0, locals := 22 } : Room) (fun a U => a = #[.int i, .int n] ∧ am_S G h U.heap ∧ am_K G U) (am_qi none G h) 0 0 (am_A G) := by
  refine Met.ofW (cc := cJ0_checkIndex_df160) (maxL := 2) (ret := none) (by decide) rfl ?_
  intro p e s m args below meth c s₁ B hml hv9
  obtain ⟨rfl, hS, hKK⟩ := hv9
  have hx := B.exec
  have hb := B.bytes
  have hr := B.returns
  have hlocks := B.notSynchronized
  have hown : s.vm.findClass RJ0 = some m.cls := findClass_of_methodNamed B.named
  have hts : ∀ w ∈ am_T, w.before (#[.int i, .int n] : Array Value) s = true := fun w hw => am_gw_args (am_T_gw hw) rfl (hKK.2.2.2.2.2.2.2.2.2.2.1 w hw)
  have hl := lv_entry ([.int i, .int n]) (n := 2) (Nat.le_of_ble_eq_true rfl)
  have e9 : entryFrame m #[.int i, .int n] 2 = entryFrame m ([.int i, .int n] : List Value).toArray 2 := rfl
  rw [e9, lg_entry_eq]
  generalize (lg_sl ([.int i, .int n]) ++ List.replicate (2 - (lg_sl ([.int i, .int n])).length) Slot.unset).toArray = ls at hl ⊢
  refine lv_iload_n (k := 0) (i := 0) hx hb (by decide +kernel) rfl (lv_at hl 0 rfl) ?_
  refine lv_iload_n (k := 1) (i := 1) hx hb (by decide +kernel) rfl (lv_at hl 1 rfl) ?_
  have key : ∀ v : Value, (v = .null ∨ ∃ t, v = .ref t) → va_Z "jdk/internal/util/Preconditions" "SIOOBE_FORMATTER" "Ljava/util/function/BiFunction;" v (am_A G) s (gH G) → W p l e (headSpec [Cond.code yJ0_checkIndex_df160 cJ0_checkIndex_df160 2 none] ({ frames := 1, cells := 0, slots := 0, locals := 22 } : Room)).room s m #[.int i, .int n] below meth c s.heap [] 0 0 (MQ below (am_qi none G h) #[.int i, .int n] s 0 0 (am_A G)) (F0 m 2 ls [.int n, .int i]) := by
    intro v hv hZ
    obtain ⟨cf, kf, fi, f, a, cell, z1, z2, z3, z4, z5, z6, z7, z8⟩ := hZ
    refine W.gets (index := 1053) hx hb hown (hts _ w1) z1 z2 z3 z4 (by rw [hS.2.2.1 a (Nat.not_le.mp z8)]; exact z5) (fun e => by rw [e] at z6; cases z6) z7 rfl (by show decode cJ0_checkIndex_df160 2 = _; decide +kernel) ?_
    have hr1 := va_runS (p := p) (l := l) (e := e) (R := (headSpec [Cond.code yJ0_checkIndex_df160 cJ0_checkIndex_df160 2 none] ({ frames := 1, cells := 0, slots := 0, locals := 22 } : Room)).room) (s := s) (m := m) (args := #[.int i, .int n]) (below := below) (meth := meth) (c := c) (H := s.heap) (locs := []) (cells := 0) (slots := 0) (cc := cJ0_checkIndex_df160) (index := 1059) (As := [.int i, .int n, v]) (rest := []) (g := F0 m 5 ls [v, .int n, .int i]) (own := RJ0) (nL := 2) (Ts := am_T) ⟨hx, hb, hml, hown, hts⟩ (am_ckP G h i n v h0 h1 hv)
      (va_cwS 3 hts (fun w hw => by
        rcases List.mem_append.mp hw with z | z
        · exact am_w3 (P := fun w => w ∈ am_T ∧ ((w.onTables && w.keeps) = true ∨ ∃ ty, w = .arrayClass ty)) ⟨w2, Or.inl rfl⟩ ⟨w3, Or.inl rfl⟩ ⟨w4, Or.inl rfl⟩ w z
        · rw [List.mem_singleton.mp z]; exact ⟨w5, Or.inl rfl⟩) rfl rfl rfl (by decide +kernel) ⟨Nat.le_refl _, Nat.le_refl _⟩)
      ⟨fun a U g mk q => q, fun U hU hW => ⟨rfl, by rw [hU]; exact hS⟩⟩ rfl rfl hl.1 rfl (Nat.zero_le _) (by show decode cJ0_checkIndex_df160 5 = _; decide +kernel) ⟨Nat.le_refl _, Nat.le_refl _⟩
    intro T hT X
    obtain ⟨v9, st₀, t, T', L, h0', X', hL, e1, e2, ⟨hv9, hb9⟩, st⟩ := hr1 T hT X
    cases hv9
    have kk : W p l e (headSpec [Cond.code yJ0_checkIndex_df160 cJ0_checkIndex_df160 2 none] ({ frames := 1, cells := 0, slots := 0, locals := 22 } : Room)).room s m #[.int i, .int n] below meth c t.heap ([] ++ L) 0 0 (MQ below (am_qi none G h) #[.int i, .int n] s 0 0 (am_A G)) (F0 m 8 ls [.int i]) := by
      refine lv_pop hx hb (by decide +kernel) rfl ?_
      exact W.vret hx hb hr (fun t' ht hW => ⟨rfl, by rw [ht]; exact hb9⟩) (fun q hq => hL q (by simpa using hq)) (by decide +kernel)
    obtain ⟨t2, a1, b1⟩ := kk T' e1 X'
    exact ⟨t2, st t2 a1, b1⟩
  rcases hKK.2.2.2.2.2.2.2.2.1 with z | ⟨t, z⟩
  · exact key _ (Or.inl rfl) z
  · exact key _ (Or.inr ⟨t, rfl⟩) z
def i_chk : am_I := fun f => match f.2.2.1 with
  | .inl n :: .inl i :: st => if (¬ i < 0 ∧ i < n) ∧ am_cats st ≤ 8 then some (.inl (f.1 + 3, f.2.1, st, f.2.2.2)) else none
  | _ => none
theorem r_chk {x : Nat} (hd : decode b pc = .ok (.invokestatic x, 3)) (h1 : Cond.methodLink own x yJ0_checkIndex_df160 ∈ am_T) (h2 : Cond.static yJ0_checkIndex_df160 ∈ am_T) (h3 : Cond.initialized RJ0 ∈ am_T) (h4 : Cond.code yJ0_checkIndex_df160 cJ0_checkIndex_df160 2 none ∈ am_T) (w1 : Cond.fieldLink RJ0 1053 "jdk/internal/util/Preconditions" "SIOOBE_FORMATTER" "Ljava/util/function/BiFunction;" ∈ am_T) (w2 : Cond.methodLink RJ0 1059 yJ3_checkIndex_8e157 ∈ am_T) (w3 : Cond.static yJ3_checkIndex_8e157 ∈ am_T) (w4 : Cond.initialized RJ3 ∈ am_T) (w5 : Cond.code yJ3_checkIndex_8e157 cJ3_checkIndex_8e157 3 (some .int) ∈ am_T) (hfr : 2 ≤ fr) (hlo9 : 43 ≤ lo) : am_RF own nm b nL fr lo pc i_chk := by
  intro L st h f' e
  unfold i_chk at e
  dsimp only at e
  split at e
  · rename_i n i st1
    split at e
    · rename_i hc
      cases e
      refine ⟨⟨Nat.le_refl _, Nat.le_refl _⟩, fun G p l e R s m args below meth c n0 s0 Q hC q1 q2 _ _ g5 g6 k H locs ls hS hlo hl => ?_⟩
      have ec := am_cats_cv G st1
      have hts := hC.2.2.2.2.1
      have hr1 := va_runS (p := p) (l := l) (e := e) (R := R) (s := s) (m := m) (args := args) (below := below) (meth := meth) (c := c) (H := H) (locs := locs) (cells := hN h - n0) (slots := hSl h - s0) (cc := b) (index := x) (As := [.int i, .int n]) (rest := st1.map (am_cv G)) (g := F0 m pc ls ((vi n :: vi i :: st1).map (am_cv G))) (own := own) (nL := nL) (Ts := am_T) (am_wfix hC) (am_ckS G h i n hc.1.1 hc.1.2 w1 w2 w3 w4 w5)
        (va_cwS 2 hts (fun w hw => by
          rcases List.mem_append.mp hw with z | z
          · exact am_w3 (P := fun w => w ∈ am_T ∧ ((w.onTables && w.keeps) = true ∨ ∃ ty, w = .arrayClass ty)) ⟨h1, Or.inl rfl⟩ ⟨h2, Or.inl rfl⟩ ⟨h3, Or.inl rfl⟩ w z
          · rw [List.mem_singleton.mp z]; exact ⟨h4, Or.inl rfl⟩) rfl rfl rfl (by decide +kernel) ⟨by show 1 + 1 ≤ _; omega, by show 8 + (2 + 11) + 22 ≤ _; omega⟩)
        ⟨fun a U g mk q => ⟨q.1, q.2.1, am_K_vm (u := U) (U := U.calling g mk a) rfl q.2.2⟩, fun U hU hW => ⟨rfl, by rw [hU]; exact hS, am_K_warm hW hC.2.2.2.2.2.1⟩⟩ rfl rfl hl.1 rfl (by rw [ec]; show 2 * 0 + _ ≤ 8; omega) hd ⟨by rw [Nat.add_zero]; exact g5, by rw [Nat.add_zero]; exact g6⟩
      intro T hT X
      obtain ⟨v9, st₀, t, T', L9, h0', X', hL, e1, e2, ⟨hv9, hb9⟩, st⟩ := hr1 T hT X
      cases hv9
      obtain ⟨t2, a1, b1⟩ := k T'.heap (locs ++ L9) ls (by rw [e1]; exact hb9) (fun q hq => by
        rcases List.mem_append.mp hq with z | z
        · exact hlo q z
        · exact hL q z) hl T' rfl X'
      exact ⟨t2, st t2 a1, b1⟩
    · cases e
  · cases e
end AMJ
section AMU
variable {fm : Nat → am_M} {own nm : String} {b : ByteArray} {nL fr lo pc : Nat}
/-- a static method, named through a class that inherits it -/
theorem rc_cx {y na x : Nat} {X : MethodName} (hd : decode b pc = .ok (.invokestatic x, 3)) (hM : am_cok (fm y) fr lo na) (hX : (fm y).1 = ⟨(fm y).1.cls, X.name, X.desc⟩) (h1 : Cond.methodLink own x X ∈ am_T) (h0 : Cond.sameMethod X.cls (fm y).1.cls X.name X.desc ∈ am_T) (h2 : Cond.static (fm y).1 ∈ am_T) (h3 : Cond.initialized (fm y).1.cls ∈ am_T) : am_RC fm own nm b nL fr lo pc (i_cs y na) := by
  intro L st h y' as f' e
  unfold i_cs at e
  dsimp only at e
  split at e
  · rename_i hc
    cases e
    refine ⟨rfl, fun G p l e R s m args below meth c n0 s0 Q r h1' hC q1 q2 g1 g2 g3 g4 g5 g6 hMet k H locs ls hS hlo hl => ?_⟩
    obtain ⟨c1, c2, c3, c4, c5, c6⟩ := hM
    have hlen : (((st.take na).reverse).map (am_cv G)).length = na := by rw [List.length_map, List.length_reverse, List.length_take]; exact Nat.min_eq_left hc.1
    have ec := am_cats_cv G (st.drop na)
    have hts := hC.2.2.2.2.1
    have g1' : n0 ≤ hN h := g1
    have g2' : s0 ≤ hSl h := g2
    have g3' : hN h ≤ hN h1' := g3
    have g4' : hSl h ≤ hSl h1' := g4
    have hG : GoodIn am_T (am_ws (fm y)) := am_goods (ws := []) ⟨c1, c2, c3, c4, c5, c6⟩ (fun w hw => by cases hw)
    have hK : Back l R p e below s args (fm y).1 3 8 (PreOf R (hN h1' - hN h) (hSl h1' - hSl h) (am_Pc G (st.take na).reverse h)) (PostOf (am_Qc G r h1') (hN h1' - hN h) (hSl h1' - hSl h) (am_A G)) :=
      back_of (bytes := (fm y).2.1) (maxL := (fm y).2.2.1) (ret := (fm y).2.2.2.1) (hMet G) am_Pc_blind rfl rfl (Nat.le_trans c2 q1) (Nat.le_trans c3 q2) (pay_in hts hG) List.mem_cons_self (fun a' U hW => word_at hW (Or.inl rfl) (hts _ h3))
    obtain ⟨mk, hnamed⟩ := Cond.code_named (hts _ c1)
    obtain ⟨methM, cM, hmethM, -, -, -, -, -, -, hsigM⟩ := Cond.code_spec hnamed (hts _ c1)
    have hstatic : methM.isStatic = true := Cond.static_spec hnamed hmethM (hts _ h2)
    obtain ⟨kP, hkP, -⟩ := className_of_methodNamed hnamed
    have hinitP : kP.init = .initialized := Cond.initialized_spec (findClass_of_methodNamed hnamed) hkP (hts _ h3)
    have hnamed' : s.methodNamed? ⟨(fm y).1.cls, X.name, X.desc⟩ = some mk := by rw [← hX]; exact hnamed
    have hcb : c.code = b := hC.2.1
    refine am_fin (r := r) (h1 := h1') (a := (((st.take na).reverse).map (am_cv G)).toArray) (st := st.drop na) ?_ hlo hl g1 g2 g3 g4 k
    intro T hT Xs
    have hstk : (F0 m pc ls (st.map (am_cv G))).stack = (((st.take na).reverse).map (am_cv G)).reverse ++ (st.drop na).map (am_cv G) := by
      show st.map (am_cv G) = _
      rw [← List.map_reverse, List.reverse_reverse, ← List.map_append, List.take_append_drop]
    obtain ⟨vm₁, X₁, hstep₁⟩ := Xs.invokestaticUp hC.1 hC.2.2.2.1 (hts _ h1) (hts _ h0) ⟨c4, c5⟩ hnamed' hmethM hstatic hkP hinitP (g := F0 m pc ls (st.map (am_cv G))) rfl (argsL := ((st.take na).reverse).map (am_cv G)) (rest := (st.drop na).map (am_cv G)) (by
      rw [hlen]
      have h9 := c6
      rw [hsigM] at h9
      exact (Option.some.inj h9).symm) hstk (by rw [hcb]; exact hd)
    obtain ⟨v, B, X', hpost, hsteps⟩ := hK m meth c ⟨T.setVm vm₁, locs, hN h - n0, hSl h - s0⟩ { F0 m pc ls (st.map (am_cv G)) with stack := (st.drop na).map (am_cv G) } (.invokestatic x) mk (((st.take na).reverse).map (am_cv G)).toArray X₁ rfl (by rw [hC.2.2.1]; exact hl.1) (by rw [hcb]; exact hd) (by rw [ec]; show 2 * 0 + _ ≤ 8; omega) (X₁.named hnamed) ⟨by show hN h - n0 + _ ≤ _; omega, by show hSl h - s0 + _ ≤ _; omega, rfl, by show am_S G h T.heap; rw [hT]; exact hS, am_K_warm X₁.warmed hC.2.2.2.2.2.1⟩
    obtain ⟨U', l2, c2', s2⟩ := B
    obtain ⟨g', mk', t, L9, e1, e2, hq, w1, hL, w2, w3⟩ := hpost
    dsimp only [Pt.U, Pt.locs, Pt.cells, Pt.slots] at X' e1 e2 w1 w2 w3 hsteps
    subst w1; subst w2; subst w3
    exact ⟨v, (T.setVm vm₁).calling g' mk' (((st.take na).reverse).map (am_cv G)).toArray, t, U', L9, hT, X', hL, e1, e2, hq, fun target hh => hstep₁ _ fun acts => by rw [doInvoke_state]; exact hsteps.trans hh⟩
  · cases e
end AMU
section AMU2
variable {fm : Nat → am_M} {own nm : String} {b : ByteArray} {nL fr lo pc : Nat}
/-- super, named through the direct superclass, which inherits it from its own superclass -/
theorem rc_sx {y na x : Nat} {X : MethodName} {cs : List Nat} (hd : decode b pc = .ok (.invokespecial x, 3)) (hM : am_cok (fm y) fr lo na) (hi : X.name ≠ "<init>") (hX : (fm y).1 = ⟨(fm y).1.cls, X.name, X.desc⟩) (hcs : ∀ t ∈ cs, t < 13) (h1 : Cond.methodLink own x X ∈ am_T) (h2 : Cond.sameMethod X.cls (fm y).1.cls X.name X.desc ∈ am_T) (h3 : Cond.superclass own X.cls ∈ am_T) (h6 : Cond.superclass X.cls (fm y).1.cls ∈ am_T) (h4 : Cond.instanceMethod (fm y).1 ∈ am_T) (h5 : Cond.initialized (fm y).1.cls ∈ am_T) : am_RC fm own nm b nL fr lo pc (i_su y na cs) := by
  intro L st h y' as f' e
  unfold i_su at e
  dsimp only at e
  split at e
  · rename_i a rest hdr
    split at e
    · rename_i hc
      cases e
      refine ⟨rfl, fun G p l e R s m args below meth c n0 s0 Q r h1' hC q1 q2 g1 g2 g3 g4 g5 g6 hMet k H locs ls hS hlo hl => ?_⟩
      obtain ⟨c1, c2, c3, c4, c5, c6⟩ := hM
      obtain ⟨sp1, sp2⟩ := am_split (G := G) hdr
      have ec := am_cats_cv G rest
      have hts := hC.2.2.2.2.1
      have t1 := hcs _ hc.1
      have g1' : n0 ≤ hN h := g1
      have g2' : s0 ≤ hSl h := g2
      have g3' : hN h ≤ hN h1' := g3
      have g4' : hSl h ≤ hSl h1' := g4
      have hG : GoodIn am_T (am_ws (fm y)) := am_goods (ws := []) ⟨c1, c2, c3, c4, c5, c6⟩ (fun w hw => by cases hw)
      have hK : Back l R p e below s args (fm y).1 3 8 (PreOf R (hN h1' - hN h) (hSl h1' - hSl h) (am_Pc G (vr (some a) :: (st.take na).reverse) h)) (PostOf (am_Qc G r h1') (hN h1' - hN h) (hSl h1' - hSl h) (am_A G)) :=
        back_of (bytes := (fm y).2.1) (maxL := (fm y).2.2.1) (ret := (fm y).2.2.2.1) (hMet G) am_Pc_blind rfl rfl (Nat.le_trans c2 q1) (Nat.le_trans c3 q2) (pay_in hts hG) List.mem_cons_self (fun a' U hW => word_at hW (Or.inl rfl) (hts _ h5))
      obtain ⟨mk, methM, hnamed, hmethM, hstM, habM⟩ := Cond.instanceMethod_spec (hts _ h4)
      obtain ⟨methM', cM, hmethM', -, -, -, -, -, -, hsigM⟩ := Cond.code_spec hnamed (hts _ c1)
      cases hmethM.symm.trans hmethM'
      obtain ⟨ps, dk, kp, hps, hdk, hkp, hsuper, -, -, hnid⟩ := Cond.superclass_spec hC.2.2.2.1 (hts _ h3)
      obtain ⟨ps2, dk2, kp2, hps2, hdk2, hkp2, hsuper2, -, -, -⟩ := Cond.superclass_spec hps (hts _ h6)
      have hn : s.methodNamed? ⟨(fm y).1.cls, X.name, X.desc⟩ = some mk := by rw [← hX]; exact hnamed
      have hpm : ps2 = mk.cls := Option.some.inj (hps2.symm.trans (findClass_of_methodNamed hnamed))
      have hsub : s.vm.isSubclass ps mk.cls = true := by
        rw [← hpm]
        have hlt := (Array.getElem?_eq_some_iff.mp hkp2).1
        obtain ⟨z, hz⟩ : ∃ z, s.vm.classes.size = z + 1 := ⟨s.vm.classes.size - 1, by omega⟩
        unfold Vm.isSubclass
        rw [hz]
        simp [Vm.isSubclassAux, hdk2, hsuper2]
      have hcb : c.code = b := hC.2.1
      obtain ⟨cellB, w1, w2, w3⟩ := am_recv hC.2.2.2.2.2.1 hS t1
      obtain ⟨kB, hkB, -⟩ := Vm.findClass_spec w3
      refine am_fin (r := r) (h1 := h1') (a := (Value.ref (am_ad G a) :: ((st.take na).reverse).map (am_cv G)).toArray) (st := rest) ?_ hlo hl g1 g2 g3 g4 k
      intro T hT Xs
      obtain ⟨vm₁, X₁, hstep₁⟩ := Xs.invokespecialUp hC.1 hC.2.2.2.1 (hts _ h1) (hts _ h2) hn hmethM hstM habM hi hdk hnid hps hsuper hsub (a := am_ad G a) (cell := cellB) (by rw [hT]; exact w1)
        (fun z h => by rw [h] at w2; cases w2) hkB (g := F0 m pc ls (st.map (am_cv G))) rfl (argsL := ((st.take na).reverse).map (am_cv G)) (rest := rest.map (am_cv G)) (by
          rw [sp2]
          have h9 := c6
          rw [hsigM] at h9
          exact (Option.some.inj h9).symm) sp1 (by rw [hcb]; exact hd)
      obtain ⟨v, B, X', hpost, hsteps⟩ := hK m meth c ⟨T.setVm vm₁, locs, hN h - n0, hSl h - s0⟩ { F0 m pc ls (st.map (am_cv G)) with stack := rest.map (am_cv G) } (.invokespecial x) mk (Value.ref (am_ad G a) :: ((st.take na).reverse).map (am_cv G)).toArray X₁ rfl (by rw [hC.2.2.1]; exact hl.1) (by rw [hcb]; exact hd) (by rw [ec]; show 2 * 0 + _ ≤ 8; omega) (X₁.named hnamed) ⟨by show hN h - n0 + _ ≤ _; omega, by show hSl h - s0 + _ ≤ _; omega, rfl, by show am_S G h T.heap; rw [hT]; exact hS, am_K_warm X₁.warmed hC.2.2.2.2.2.1⟩
      obtain ⟨U', l2, c2', s2⟩ := B
      obtain ⟨g', mk', t, L9, e1, e2, hq, x1, hL, x2, x3⟩ := hpost
      dsimp only [Pt.U, Pt.locs, Pt.cells, Pt.slots] at X' e1 e2 x1 x2 x3 hsteps
      subst x1; subst x2; subst x3
      exact ⟨v, (T.setVm vm₁).calling g' mk' (Value.ref (am_ad G a) :: ((st.take na).reverse).map (am_cv G)).toArray, t, U', L9, hT, X', hL, e1, e2, hq, fun target hh => hstep₁ _ (by rw [doInvoke_state]; exact hsteps.trans hh)⟩
    · cases e
  · cases e
end AMU2
