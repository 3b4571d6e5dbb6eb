section AMN
variable {own nm : String} {b : ByteArray} {nL fr lo pc : Nat}
theorem am_fv_al {G : am_G} {h : am_H} {kd : Nat × Nat} {sl a k c : Nat} (ha : a ≠ hN h) : am_fv G (al h kd sl) a k c = am_fv G h a k c := by
  have e1 : hI (al h kd sl) a k = hI h a k := if_neg ha
  have e2 : hL (al h kd sl) a k = hL h a k := if_neg ha
  have e3 : hR (al h kd sl) a k = hR h a k := if_neg ha
  unfold am_fv
  rw [e1, e2, e3]
theorem am_cell_al {G : am_G} {h : am_H} {kd : Nat × Nat} {sl a : Nat} (ha : a ≠ hN h) : am_cell G (al h kd sl) a = am_cell G h a := by
  have e0 : hK (al h kd sl) a = hK h a := if_neg ha
  have e1 : hI (al h kd sl) a = hI h a := by funext k; exact if_neg ha
  have e2 : hL (al h kd sl) a = hL h a := by funext k; exact if_neg ha
  have e3 : hR (al h kd sl) a = hR h a := by funext k; exact if_neg ha
  unfold am_cell
  rw [e0, e1, e2, e3]
  have e5 : ∀ j ty, am_fv G (al h kd sl) a j ty = am_fv G h a j ty := fun j ty => am_fv_al ha
  simp only [e5]
theorem am_ad_new {G : am_G} {h : am_H} {H : Heap} (hS : am_S G h H) : am_ad G (hN h) = H.size := by
  rw [am_ad_own hS.1, hS.2.1]
theorem am_S_al {G : am_G} {h : am_H} {H H1 : Heap} {kd : Nat × Nat} {sl : Nat} (hS : am_S G h H) (z : H1.size = H.size + 1) (o : ∀ q : Nat, q < H.size → H1[q]? = H[q]?) (e : va_at (gD G) vwCl (am_ad G (hN h), am_cell G (al h kd sl) (hN h)) H1) : am_S G (al h kd sl) H1 := by
  obtain ⟨h1, h2, h3, h4, h5, h6⟩ := hS
  refine ⟨?_, ?_, fun q hq => ?_, fun c c1 c2 => ?_, fun c hc => ?_, fun c hc => ?_⟩
  · show 16 ≤ hN h + 1; omega
  · show H1.size = gB G + (hN h + 1 - 16); omega
  · rw [o q (by omega)]; exact h3 q hq
  · have c2' : c < hN h + 1 := c2
    by_cases hc : c = hN h
    · rw [hc]; exact e
    · rw [am_cell_al hc]
      have hat := h4 c c1 (by omega)
      exact hat.kept (o _ hat.lt)
  · have hne : c ≠ hN h := by omega
    refine ⟨?_, fun j => ?_⟩
    · show (if c = hN h then kd else hK h c) = _
      rw [if_neg hne]
      exact (h5 c hc).1
    · show (if c = hN h then (0 : Int32) else hI h c j) = _
      rw [if_neg hne]
      exact (h5 c hc).2 j
  · have hc' : hN h + 1 ≤ c := hc
    show (if c = hN h then kd else hK h c).1 = 200
    rw [if_neg (by omega)]
    exact h6 c (by omega)
theorem am_cs {p : Program} {l : Launch} {e : Env} {R : Room} {s : State} {m : MethodId} {args : Array Value} {below : List Frame} {meth : Method} {c : Code} {H : Heap} {locs : List Loc} {Q : State → Prop} {g : JFrame} {n n0 d k s0 ds : Nat} (h1 : n0 ≤ n) (h2 : s0 ≤ k) (kk : W p l e R s m args below meth c H locs (n + d - n0) (k + ds - s0) Q g) : W p l e R s m args below meth c H locs (n - n0 + d) (k - s0 + ds) Q g := by
  rw [show n - n0 + d = n + d - n0 by omega, show k - s0 + ds = k + ds - s0 by omega]
  exact kk
/-- new C: its tag t, its slots n -/
def i_new (t n : Nat) : am_I := fun f => some (.inl (f.1 + 3, f.2.1, vr (some (hN f.2.2.2)) :: f.2.2.1, al f.2.2.2 (t, 0) n))
def am_dok (t : Nat) : Prop := ∀ k, k < (am_q t).2.2 → defaultValue (am_ty t k) = (match am_tc (am_ty t k) with | 0 => Value.int 0 | 1 => .long 0 | _ => .null)
theorem r_new {t n x : Nat} (hd : decode b pc = .ok (.new x, 3)) (ht : t < 13) (hn : (am_q t).2.2 = n) (hdk : am_dok t) (h1 : Cond.classLink own x (am_q t).1 ∈ am_T) (h2 : Cond.instantiable (am_q t).1 n ∈ am_T) (h3 : Cond.initialized (am_q t).1 ∈ am_T) : am_RF own nm b nL fr lo pc (i_new t n) := by
  intro L st h f' e; cases e
  refine ⟨⟨Nat.le_succ _, Nat.le_add_right _ _⟩, fun G p l e R s m args below meth c n0 s0 Q hC _ _ hn0 hs0 hcl hsl k1 H locs ls hS hlo hl => ?_⟩
  have hts := hC.2.2.2.2.1
  have hKn := (am_KV hC.2.2.2.2.2.1).1 t _ (am_q_some ht)
  have hcl' : hN h + 1 - n0 ≤ R.cells := hcl
  have hsl' : hSl h + n - s0 ≤ R.slots := hsl
  have hn0' : n0 ≤ hN h := hn0
  have hs0' : s0 ≤ hSl h := hs0
  refine W.newcK hC.1 hC.2.1 hC.2.2.2.1 (hts _ h1) (hts _ h2) (hts _ h3) rfl hd (by show hN h - n0 + 1 ≤ _; omega) (by show hSl h - s0 + n ≤ _; omega) hKn.2.1 rfl fun H1 kC hkC e1 z1 o1 => ?_
  refine am_cs hn0 hs0 ?_
  have hadn := am_ad_new hS
  have hb := u_born (am_ty t) hts (am_hin t ht) hKn hkC (by rw [← hadn] at e1; exact e1) (am_hty t ht)
  have hS1 : am_S G (al h (t, 0) n) H1 := by
    refine am_S_al hS z1 o1 ?_
    rw [am_cell_o (show (hK (al h (t, 0) n) (hN h)).1 = t from congrArg Prod.fst (if_pos rfl)) ht]
    refine ⟨_, am_q_some ht, hb.to fun j hj => ?_⟩
    rw [am_vpV hj, hdk j hj]
    have f1 : hI (al h (t, 0) n) (hN h) j = 0 := if_pos rfl
    have f2 : hL (al h (t, 0) n) (hN h) j = 0 := if_pos rfl
    have f3 : hR (al h (t, 0) n) (hN h) j = none := if_pos rfl
    unfold am_fv
    rw [f1, f2, f3]
    rfl
  have k2 := k1 H1 locs ls hS1 hlo hl
  have e5 : am_cv G (vr (some (hN h))) = .ref H.size := by rw [← hadn]; rfl
  rw [List.map_cons, e5] at k2
  exact k2
/-- the tag of a new row of ints, of longs -/
def i_na (t : Nat) : am_I := fun f => match f.2.2.1 with
  | .inl n :: st => if n < 0 then none else if n.toNatClampNeg ≤ 10000 then some (.inl (f.1 + 2, f.2.1, vr (some (hN f.2.2.2)) :: st, al f.2.2.2 (t, n.toNatClampNeg) n.toNatClampNeg)) else none
  | _ => none
theorem am_RAn {G : am_G} {s : State} {i t : Nat} {ty : FieldType} {cA : ClassId} (hKK : am_K G s) (hi : (am_tys G)[i]? = some (gE G t, ty)) (h1 : s.vm.findClass ("[" ++ ty.toString) = some cA) (hp : ∀ s' : State, va_RA s' (gE G t) ty → s'.vm.findClass ("[" ++ ty.toString) = some (gE G t)) : cA = gE G t := Option.some.inj (h1.symm.trans (hp s ((am_KV hKK).2 i _ hi).2))
theorem r_nai (hd : decode b pc = .ok (.newarray .int, 2)) (hw : Cond.arrayClass .int ∈ am_T) : am_RF own nm b nL fr lo pc (i_na 100) := by
  intro L st h f' e
  unfold i_na at e
  dsimp only at e
  split at e
  · rename_i n st1
    split at e
    · cases e
    · rename_i hn
      split at e
      · rename_i hb
        cases e
        refine ⟨⟨Nat.le_succ _, Nat.le_add_right _ _⟩, fun G p l e R s m args below meth c n0 s0 Q hC _ _ hn0 hs0 hcl hsl k1 H locs ls hS hlo hl => ?_⟩
        have hcl' : hN h + 1 - n0 ≤ R.cells := hcl
        have hsl' : hSl h + n.toNatClampNeg - s0 ≤ R.slots := hsl
        have hn0' : n0 ≤ hN h := hn0
        have hs0' : s0 ≤ hSl h := hs0
        refine va_newaK (atype := .int) hC.1 hC.2.1 (hC.2.2.2.2.1 _ hw) rfl hd rfl hn rfl (by show n.toNatClampNeg * 4 ≤ _; omega) (by show hN h - n0 + 1 ≤ _; omega) (by show hSl h - s0 + _ ≤ _; omega) rfl fun H1 cA e1 z1 o1 hAr hNm => ?_
        refine am_cs hn0 hs0 ?_
        have hadn := am_ad_new hS
        have hcA : cA = gE G 100 := Option.some.inj (hNm.symm.trans ((am_KV hC.2.2.2.2.2.1).2 0 _ rfl).2)
        subst hcA
        have hS1 : am_S G (al h (100, n.toNatClampNeg) n.toNatClampNeg) H1 := by
          refine am_S_al hS z1 o1 ?_
          rw [am_cell_i (show (hK (al h (100, n.toNatClampNeg) n.toNatClampNeg) (hN h)).1 = 100 from congrArg Prod.fst (if_pos rfl))]
          show H1[am_ad G (hN h)]? = some (vp_cell _ _)
          rw [hadn, e1]
          have f0 : (hK (al h (100, n.toNatClampNeg) n.toNatClampNeg) (hN h)).2 = n.toNatClampNeg := congrArg Prod.snd (if_pos rfl)
          have f1 : hI (al h (100, n.toNatClampNeg) n.toNatClampNeg) (hN h) = fun _ => 0 := by funext j; exact if_pos rfl
          rw [f0, f1]
          rfl
        have k2 := k1 H1 locs ls hS1 hlo hl
        have e5 : am_cv G (vr (some (hN h))) = .ref H.size := by rw [← hadn]; rfl
        rw [List.map_cons, e5] at k2
        exact k2
      · cases e
  · cases e
theorem r_nal (hd : decode b pc = .ok (.newarray .long, 2)) (hw : Cond.arrayClass .long ∈ am_T) : am_RF own nm b nL fr lo pc (i_na 101) := by
  intro L st h f' e
  unfold i_na at e
  dsimp only at e
  split at e
  · rename_i n st1
    split at e
    · cases e
    · rename_i hn
      split at e
      · rename_i hb
        cases e
        refine ⟨⟨Nat.le_succ _, Nat.le_add_right _ _⟩, fun G p l e R s m args below meth c n0 s0 Q hC _ _ hn0 hs0 hcl hsl k1 H locs ls hS hlo hl => ?_⟩
        have hcl' : hN h + 1 - n0 ≤ R.cells := hcl
        have hsl' : hSl h + n.toNatClampNeg - s0 ≤ R.slots := hsl
        have hn0' : n0 ≤ hN h := hn0
        have hs0' : s0 ≤ hSl h := hs0
        refine va_newaK (atype := .long) hC.1 hC.2.1 (hC.2.2.2.2.1 _ hw) rfl hd rfl hn rfl (by show n.toNatClampNeg * 8 ≤ _; omega) (by show hN h - n0 + 1 ≤ _; omega) (by show hSl h - s0 + _ ≤ _; omega) rfl fun H1 cA e1 z1 o1 hAr hNm => ?_
        refine am_cs hn0 hs0 ?_
        have hadn := am_ad_new hS
        have hcA : cA = gE G 101 := Option.some.inj (hNm.symm.trans ((am_KV hC.2.2.2.2.2.1).2 1 _ rfl).2)
        subst hcA
        have hS1 : am_S G (al h (101, n.toNatClampNeg) n.toNatClampNeg) H1 := by
          refine am_S_al hS z1 o1 ?_
          rw [am_cell_l (show (hK (al h (101, n.toNatClampNeg) n.toNatClampNeg) (hN h)).1 = 101 from congrArg Prod.fst (if_pos rfl))]
          show H1[am_ad G (hN h)]? = some (vp_cell _ _)
          rw [hadn, e1]
          have f0 : (hK (al h (101, n.toNatClampNeg) n.toNatClampNeg) (hN h)).2 = n.toNatClampNeg := congrArg Prod.snd (if_pos rfl)
          have f1 : hL (al h (101, n.toNatClampNeg) n.toNatClampNeg) (hN h) = fun _ => 0 := by funext j; exact if_pos rfl
          rw [f0, f1]
          rfl
        have k2 := k1 H1 locs ls hS1 hlo hl
        have e5 : am_cv G (vr (some (hN h))) = .ref H.size := by rw [← hadn]; rfl
        rw [List.map_cons, e5] at k2
        exact k2
      · cases e
  · cases e
/-- a new row of Man, of Row -/
def i_ana (t : Nat) : am_I := fun f => match f.2.2.1 with
  | .inl n :: st => if n < 0 then none else if n.toNatClampNeg ≤ 10000 then some (.inl (f.1 + 3, f.2.1, vr (some (hN f.2.2.2)) :: st, al f.2.2.2 (t, n.toNatClampNeg) n.toNatClampNeg)) else none
  | _ => none
theorem r_ana {t x i9 : Nat} {E : String} (hd : decode b pc = .ok (.anewarray x, 3)) (hrt : am_rt t = some (i9, .object E)) (h1 : Cond.classLink own x E ∈ am_T) (h2 : Cond.arrayOver (.object E) ∈ am_T) : am_RF own nm b nL fr lo pc (i_ana t) := by
  intro L st h f' e
  unfold i_ana at e
  dsimp only at e
  split at e
  · rename_i n st1
    split at e
    · cases e
    · rename_i hn
      split at e
      · rename_i hb
        cases e
        refine ⟨⟨Nat.le_succ _, Nat.le_add_right _ _⟩, fun G p l e R s m args below meth c n0 s0 Q hC _ _ hn0 hs0 hcl hsl k1 H locs ls hS hlo hl => ?_⟩
        have hcl' : hN h + 1 - n0 ≤ R.cells := hcl
        have hsl' : hSl h + n.toNatClampNeg - s0 ≤ R.slots := hsl
        have hn0' : n0 ≤ hN h := hn0
        have hs0' : s0 ≤ hSl h := hs0
        refine W.anew hC.1 hC.2.1 hC.2.2.2.1 (hC.2.2.2.2.1 _ h1) (hC.2.2.2.2.1 _ h2) rfl hd rfl hn (by omega) (by show hN h - n0 + 1 ≤ _; omega) (by show hSl h - s0 + _ ≤ _; omega) fun cA kA comp f1 f2 f3 f4 => ?_
        refine am_cs hn0 hs0 ?_
        have hadn := am_ad_new hS
        obtain ⟨t1, t2, t3, t4⟩ := am_rt_t hrt G
        obtain ⟨kA', comp', g1, g2, g3, g4⟩ := ((am_KV hC.2.2.2.2.2.1).2 i9 _ t1).2
        have hcA : cA = gE G t := Option.some.inj (f1.symm.trans g4)
        subst hcA
        generalize hH1 : H.push ({ cls := gE G t, slots := Array.replicate n.toNatClampNeg .null, vm := .none } : Cell) = H1
        have z1 : H1.size = H.size + 1 := by rw [← hH1, Array.size_push]
        have e1 : H1[H.size]? = some (arrV (gE G t) n.toNatClampNeg (fun _ => .null)) := by rw [← hH1, Array.getElem?_push_size, ← arrV_new]
        have o1 : ∀ q : Nat, q < H.size → H1[q]? = H[q]? := fun q hq => by rw [← hH1, Array.getElem?_push, if_neg (Nat.ne_of_lt hq)]
        have hS1 : am_S G (al h (t, n.toNatClampNeg) n.toNatClampNeg) H1 := by
          refine am_S_al hS z1 o1 ?_
          rw [am_cell_r (show (hK (al h (t, n.toNatClampNeg) n.toNatClampNeg) (hN h)).1 = t from congrArg Prod.fst (if_pos rfl)) t3]
          show H1[am_ad G (hN h)]? = some (vp_cell _ _)
          rw [hadn, e1]
          have f0 : (hK (al h (t, n.toNatClampNeg) n.toNatClampNeg) (hN h)).2 = n.toNatClampNeg := congrArg Prod.snd (if_pos rfl)
          have f1 : hR (al h (t, n.toNatClampNeg) n.toNatClampNeg) (hN h) = fun _ => none := by funext j; exact if_pos rfl
          rw [f0, f1]
          rfl
        have k2 := k1 H1 locs ls hS1 hlo hl
        have e5 : am_cv G (vr (some (hN h))) = .ref H.size := by rw [← hadn]; rfl
        rw [List.map_cons, e5] at k2
        exact k2
      · cases e
  · cases e
-- constants of references: static tables, literals
def i_rc (r n : Nat) : am_I := fun f => some (.inl (f.1 + n, f.2.1, vr (some r) :: f.2.2.1, f.2.2.2))
theorem am_gets {G : am_G} {p : Program} {l : Launch} {e : Env} {R : Room} {s : State} {m : MethodId} {args : Array Value} {below : List Frame} {meth : Method} {c : Code} {H : Heap} {locs : List Loc} {cells slots : Nat} {Q : State → Prop} {ls : Array Slot} {rest : List Value} {h : am_H} {x : Nat} {C n d host : String} {v : Value}
    (hC : am_C G p s m args meth c own nm b nL) (hS : am_S G h H) (hZ : va_Z C n d v (am_A G) s (gH G)) (hw : Cond.fieldLinkNest own x C n d host ∈ am_T) (hd : decode b pc = .ok (.getstatic x, 3))
    (kk : W p l e R s m args below meth c H locs cells slots Q (F0 m (pc + 3) ls (v :: rest))) : W p l e R s m args below meth c H locs cells slots Q (F0 m pc ls rest) := by
  obtain ⟨cf, kf, fi, f, a, cell, h1, h2, h3, h4, h5, h6, h7, h8⟩ := hZ
  exact va_WgetsN hC.1 hC.2.1 hC.2.2.2.1 (hC.2.2.2.2.1 _ hw) h1 h2 h3 h4 (by rw [hS.2.2.1 a (Nat.not_le.mp h8)]; exact h5) (fun e => by rw [e] at h6; cases h6) h7 rfl hd kk
theorem r_gs0 {x : Nat} {host : String} (hd : decode b pc = .ok (.getstatic x, 3)) (hw : Cond.fieldLinkNest own x "HadItFrom" "FIRST_RULES" "[I" host ∈ am_T) : am_RF own nm b nL fr lo pc (i_rc 0 3) := by
  intro L st h f' e; cases e
  exact ⟨⟨Nat.le_refl _, Nat.le_refl _⟩, fun G p l e R s m args below meth c n0 s0 Q hC _ _ _ _ _ _ k1 H locs ls hS hlo hl => am_gets hC hS hC.2.2.2.2.2.1.2.1 hw hd (k1 H locs ls hS hlo hl)⟩
theorem r_gs1 {x : Nat} {host : String} (hd : decode b pc = .ok (.getstatic x, 3)) (hw : Cond.fieldLinkNest own x "HadItFrom" "MOST_OF_RULES" "[I" host ∈ am_T) : am_RF own nm b nL fr lo pc (i_rc 1 3) := by
  intro L st h f' e; cases e
  exact ⟨⟨Nat.le_refl _, Nat.le_refl _⟩, fun G p l e R s m args below meth c n0 s0 Q hC _ _ _ _ _ _ k1 H locs ls hS hlo hl => am_gets hC hS hC.2.2.2.2.2.1.2.2.1 hw hd (k1 H locs ls hS hlo hl)⟩
theorem am_ad_sp {G : am_G} {a : Nat} (h : a < 16) : am_ad G a = gS G a := if_pos h
theorem r_ldcS {i x : Nat} {tx : String} (hi : am_lit[i]? = some (x, tx)) (hd : decode b pc = .ok (.ldc x, 2)) : am_RF "HadItFrom$Text" nm b nL fr lo pc (i_rc (2 + i) 2) := by
  intro L st h f' e; cases e
  refine ⟨⟨Nat.le_refl _, Nat.le_refl _⟩, fun G p l e R s m args below meth c n0 s0 Q hC _ _ _ _ _ _ k1 H locs ls hS hlo hl => ?_⟩
  have hR := hC.2.2.2.2.2.1.2.2.2.2.2.2.1 i _ hi
  have hlt : i < 5 := (List.getElem?_eq_some_iff.mp hi).1
  refine va_ldcS hC.1 hC.2.1 hC.2.2.2.1 hR hd ?_
  have k2 := k1 H locs ls hS hlo hl
  have e5 : am_cv G (vr (some (2 + i))) = .ref (gS G (2 + i)) := by
    show Value.ref (am_ad G (2 + i)) = _
    rw [am_ad_sp (by omega)]
  rw [List.map_cons, e5] at k2
  exact k2
/-- instanceof: yes for the tags of cy, no for those of cn -/
def i_inst (cy cn : List Nat) : am_I := fun f => match f.2.2.1 with
  | .inr (.inr (some a)) :: st => if (hK f.2.2.2 a).1 ∈ cy then some (.inl (f.1 + 3, f.2.1, vi 1 :: st, f.2.2.2)) else if (hK f.2.2.2 a).1 ∈ cn then some (.inl (f.1 + 3, f.2.1, vi 0 :: st, f.2.2.2)) else none
  | _ => none
theorem am_recv {G : am_G} {s : State} {h : am_H} {H : Heap} {a : Nat} (hKK : am_K G s) (hS : am_S G h H) (ht : (hK h a).1 < 13) : ∃ cell : Cell, H[am_ad G a]? = some cell ∧ cell.vm.isStatics = false ∧ s.vm.findClass (am_q (hK h a).1).1 = some cell.cls := by
  obtain ⟨o1, o2⟩ := am_own hS (Or.inl ht)
  have hat := am_S_at hS o1 o2
  rw [am_cell_o rfl ht] at hat
  exact va_recv (am_KV hKK) (am_P1 hat) (am_q_some ht) (q0 := 0) rfl
theorem r_inst {x : Nat} {T : String} {cy cn : List Nat} (hd : decode b pc = .ok (.instanceof x, 3)) (hw : Cond.classLink own x T ∈ am_T) (hy : ∀ t ∈ cy, t < 13 ∧ ((am_q t).1 = T ∨ Cond.castable (am_q t).1 T ∈ am_T)) (hn : ∀ t ∈ cn, t < 13 ∧ ((am_q t).1, T) ∈ am_ncs) : am_RF own nm b nL fr lo pc (i_inst cy cn) := by
  intro L st h f' e
  unfold i_inst at e
  dsimp only at e
  split at e
  · rename_i a st1
    split at e
    · rename_i ht
      cases e
      refine ⟨⟨Nat.le_refl _, Nat.le_refl _⟩, fun G p l e R s m args below meth c n0 s0 Q hC _ _ _ _ _ _ k1 H locs ls hS hlo hl => ?_⟩
      obtain ⟨t1, t2⟩ := hy _ ht
      have hr := am_recv hC.2.2.2.2.2.1 hS t1
      rcases t2 with z | z
      · have hc := ((am_KV hC.2.2.2.2.2.1).1 _ _ (am_q_some t1)).2
        rw [z] at hc hr
        exact va_instS hC.1 hC.2.1 hC.2.2.2.1 (hC.2.2.2.2.1 _ hw) hc hr hd (k1 H locs ls hS hlo hl)
      · exact va_instY hC.1 hC.2.1 hC.2.2.2.1 (hC.2.2.2.2.1 _ hw) (va_Nw.of rfl (hC.2.2.2.2.1 _ z)) hr hd (k1 H locs ls hS hlo hl)
    · split at e
      · rename_i ht
        cases e
        refine ⟨⟨Nat.le_refl _, Nat.le_refl _⟩, fun G p l e R s m args below meth c n0 s0 Q hC _ _ _ _ _ _ k1 H locs ls hS hlo hl => ?_⟩
        obtain ⟨t1, t2⟩ := hn _ ht
        exact va_instNo hC.1 hC.2.1 hC.2.2.2.1 (hC.2.2.2.2.1 _ hw) (hC.2.2.2.2.2.1.2.2.2.2.2.2.2.2.2.1 _ t2) (am_recv hC.2.2.2.2.2.1 hS t1) hd (k1 H locs ls hS hlo hl)
      · cases e
  · cases e
/-- Object's constructor -/
def i_oin : am_I := fun f => match f.2.2.1 with
  | .inr (.inr (some _)) :: st => if am_cats st ≤ 8 then some (.inl (f.1 + 3, f.2.1, st, f.2.2.2)) else none
  | _ => none
theorem am_cats_cv (G : am_G) (l : List am_V) : ((l.map (am_cv G)).map fun v => v.category).sum = am_cats l := by
  unfold am_cats
  rw [List.map_map]
  congr 1
  apply List.map_congr_left
  intro v _
  exact am_cat_cv G v
theorem r_oin {x : Nat} (hd : decode b pc = .ok (.invokespecial x, 3)) (h1 : Cond.methodLink own x objectInit ∈ am_T) (h2 : Cond.instanceMethod objectInit ∈ am_T) (h3 : Cond.code objectInit ⟨#[0xb1]⟩ 1 none ∈ am_T) (hfr : 1 ≤ fr) (hlo9 : 20 ≤ lo) : am_RF own nm b nL fr lo pc i_oin := by
  intro L st h f' e
  unfold i_oin at e
  dsimp only at e
  split at e
  · rename_i a st1
    split at e
    · rename_i hc
      cases e
      refine ⟨⟨Nat.le_refl _, Nat.le_refl _⟩, fun G p l e R s m args below meth c n0 s0 Q hC q1 q2 _ _ _ _ k1 H locs ls hS hlo hl => ?_⟩
      have e1 := am_cats_cv G st1
      exact W.objInit hC.1 hC.2.1 hC.2.2.2.1 (hC.2.2.2.2.1 _ h1) (hC.2.2.2.2.1 _ h2) (hC.2.2.2.2.1 _ h3) rfl (by rw [hC.2.2.1]; exact hl.1) rfl hd (by omega) (by rw [e1]; show 2 * 0 + _ + 12 ≤ _; omega) (k1 H locs ls hS hlo hl)
    · cases e
  · cases e
end AMN
