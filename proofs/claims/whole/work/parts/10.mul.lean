section AMM
variable {own nm : String} {b : ByteArray} {nL fr lo pc : Nat}
/-- an array of n arrays of m ints (t 104), of m longs (t 105) -/
def i_mul (t ti : Nat) : am_I := fun f => match f.2.2.1 with
  | .inl k :: .inl n :: st => if n < 0 ∨ k < 0 then none else if n.toNatClampNeg ≤ 10000 ∧ k.toNatClampNeg ≤ 10000 then some (.inl (f.1 + 4, f.2.1, vr (some (hN f.2.2.2)) :: st, am_mul f.2.2.2 t ti n.toNatClampNeg k.toNatClampNeg)) else none
  | _ => none
theorem am_cell_mul {G : am_G} {h : am_H} {t ti n m a : Nat} (ha : ¬ (hN h ≤ a ∧ a ≤ hN h + n)) : am_cell G (am_mul h t ti n m) a = am_cell G h a := by
  have n1 : ¬ a = hN h := fun z => ha ⟨by omega, by omega⟩
  have n2 : ¬ (hN h < a ∧ a ≤ hN h + n) := fun z => ha ⟨by omega, z.2⟩
  have e0 : hK (am_mul h t ti n m) a = hK h a := by
    show (if a = hN h then _ else if hN h < a ∧ a ≤ hN h + n then _ else hK h a) = _
    rw [if_neg n1, if_neg n2]
  have e1 : hI (am_mul h t ti n m) a = hI h a := by funext k; exact if_neg ha
  have e2 : hL (am_mul h t ti n m) a = hL h a := by funext k; exact if_neg ha
  have e3 : hR (am_mul h t ti n m) a = hR h a := by
    funext k
    show (if a = hN h then _ else if hN h < a ∧ a ≤ hN h + n then _ else hR h a k) = _
    rw [if_neg n1, if_neg n2]
  unfold am_cell
  rw [e0, e1, e2, e3]
  have e5 : ∀ j ty, am_fv G (am_mul h t ti n m) a j ty = am_fv G h a j ty := fun j ty => by unfold am_fv; rw [e1, e2, e3]
  simp only [e5]
theorem am_Wmul {ty : FieldType} {i9 t x : Nat} (hd : decode b pc = .ok (.multianewarray x 2, 4)) (hrt : am_rt t = some (i9, .array ty)) (h1 : Cond.classLink own x ("[" ++ (FieldType.array ty).toString) ∈ am_T) (h2 : Cond.arrayOver (.array ty) ∈ am_T) (h3 : Cond.arrayClass ty ∈ am_T) (hb9 : componentBytes ty ≤ 8) (hdf : fits ty (defaultValue ty) = true) (hdd : (defaultValue ty).isDefault = true)
    {G : am_G} {p : Program} {l : Launch} {e : Env} {R : Room} {s : State} {m : MethodId} {args : Array Value} {below : List Frame} {meth : Method} {c : Code} {H : Heap} {locs : List Loc} {cells slots : Nat} {Q : State → Prop} {ls : Array Slot} {rest : List Value} (hC : am_C G p s m args meth c own nm b nL)
    {cy : ClassId} (hcy : s.vm.findClass (FieldType.array ty).toString = some cy) {z : vp_A} {n k : Int32} (hz : ∀ c : ClassId, Jvm.Free.Multi.innerC c k.toNatClampNeg (defaultValue ty) = vp_cell c z) (hn : ¬ n < 0) (hk : ¬ k < 0) (hn9 : n.toNatClampNeg ≤ 10000) (hk9 : k.toNatClampNeg ≤ 10000)
    (hcells : cells + (1 + n.toNatClampNeg) ≤ R.cells) (hslots : slots + (n.toNatClampNeg + n.toNatClampNeg * k.toNatClampNeg) ≤ R.slots)
    (kk : ∀ H1 : Heap, H1.size = H.size + (1 + n.toNatClampNeg) → (∀ q : Nat, q < H.size → H1[q]? = H[q]?) → H1[H.size]? = some (vp_cell (gE G t) (n.toNatClampNeg, .inr (.inr (.inr (.inr (fun i => if i < n.toNatClampNeg then some (H.size + 1 + i) else none)))))) → (∀ j : Nat, j < n.toNatClampNeg → H1[H.size + 1 + j]? = some (vp_cell cy z)) → W p l e R s m args below meth c H1 locs (cells + 1 + n.toNatClampNeg) (slots + n.toNatClampNeg + n.toNatClampNeg * k.toNatClampNeg) Q (F0 m (pc + 4) ls (.ref H.size :: rest))) :
    W p l e R s m args below meth c H locs cells slots Q (F0 m pc ls (.int k :: .int n :: rest)) := by
  have hts := hC.2.2.2.2.1
  have hcb : c.code = b := hC.2.1
  have hbytes : k.toNatClampNeg * componentBytes ty ≤ 80000 := Nat.le_trans (Nat.mul_le_mul hk9 hb9) (Nat.le_refl _)
  intro T hT Xs
  obtain ⟨vm₁, cA, comp, -, fA, fC, hO, -, X', step⟩ := Xs.multianewarray2F hC.1 hC.2.2.2.1 (hts _ h1) (hts _ h2) (hts _ h3) (g := F0 m pc ls (.int k :: .int n :: rest)) rfl (by rw [hcb]; exact hd) rfl hn hk (by omega) (by omega) (by omega) hdf hdd hcells hslots
  have ec : some cy = some comp := hcy.symm.trans fC
  cases ec
  generalize hF : Jvm.Free.Multi.fill (T.setVm vm₁) cA cy n.toNatClampNeg k.toNatClampNeg (defaultValue ty) n.toNatClampNeg = F at X' step
  have hTh : (T.setVm vm₁).heap = H := hT
  obtain ⟨f1, f2, -, -⟩ := Jvm.Free.Multi.fill_facts (T.setVm vm₁) cA cy n.toNatClampNeg k.toNatClampNeg (defaultValue ty) n.toNatClampNeg
  rw [hF, hTh] at f1 f2
  have hold : ∀ x : Nat, x < H.size → F.heap[x]? = H[x]? := fun x hx => by
    have := Jvm.Free.Multi.fill_old (T.setVm vm₁) cA cy n.toNatClampNeg k.toNatClampNeg (defaultValue ty) (a := x) (by rw [hTh]; exact hx) n.toNatClampNeg
    rw [hF, hTh] at this
    exact this
  have hrow : ∀ j : Nat, j < n.toNatClampNeg → F.heap[H.size + 1 + j]? = some (vp_cell cy z) := fun j hj => by
    have := Jvm.Free.Multi.fill_inner (T.setVm vm₁) cA cy n.toNatClampNeg k.toNatClampNeg (defaultValue ty) n.toNatClampNeg j hj
    rw [hF, hTh, hz] at this
    exact this
  have hout : Jvm.Free.Multi.outerC cA n.toNatClampNeg H.size n.toNatClampNeg = vp_cell cA (n.toNatClampNeg, .inr (.inr (.inr (.inr (fun i => if i < n.toNatClampNeg then some (H.size + 1 + i) else none))))) := by
    rw [vp_cell_q]
    exact vr_outer cA n.toNatClampNeg H.size n.toNatClampNeg
  rw [hout] at f2
  obtain ⟨t1, -, -, -⟩ := am_rt_t hrt G
  have hcA : cA = gE G t := Option.some.inj (fA.symm.trans ((am_KV hC.2.2.2.2.2.1).2 i9 _ t1).2)
  subst hcA
  obtain ⟨t9, a1, b1⟩ := kk F.heap (by rw [f1]; omega) hold f2 hrow F rfl X'
  refine ⟨t9, step t9 ?_, b1⟩
  have e9 : T.heap.size = H.size := by rw [hT]
  rw [e9]
  exact a1
theorem am_S_mul {G : am_G} {h : am_H} {H H1 : Heap} {t ti n m : Nat} (hS : am_S G h H) (z : H1.size = H.size + (1 + n)) (o : ∀ q : Nat, q < H.size → H1[q]? = H[q]?) (e0 : va_at (gD G) vwCl (am_ad G (hN h), am_cell G (am_mul h t ti n m) (hN h)) H1) (e1 : ∀ j : Nat, j < n → va_at (gD G) vwCl (am_ad G (hN h + 1 + j), am_cell G (am_mul h t ti n m) (hN h + 1 + j)) H1) : am_S G (am_mul h t ti n m) H1 := by
  obtain ⟨h1, h2, h3, h4, h5, h6⟩ := hS
  have eN : hN (am_mul h t ti n m) = hN h + 1 + n := rfl
  have eK : ∀ c, ¬ (hN h ≤ c ∧ c ≤ hN h + n) → hK (am_mul h t ti n m) c = hK h c := fun c hc => by
    show (if c = hN h then _ else if hN h < c ∧ c ≤ hN h + n then _ else hK h c) = _
    rw [if_neg (fun z => hc ⟨by omega, by omega⟩), if_neg (fun z => hc ⟨by omega, z.2⟩)]
  refine ⟨?_, ?_, fun q hq => ?_, fun c c1 c2 => ?_, fun c hc => ?_, fun c hc => ?_⟩
  · rw [eN]; omega
  · rw [eN]; omega
  · rw [o q (by omega)]; exact h3 q hq
  · rw [eN] at c2
    by_cases hc : hN h ≤ c
    · by_cases hc0 : c = hN h
      · rw [hc0]; exact e0
      · have := e1 (c - hN h - 1) (by omega)
        rw [show hN h + 1 + (c - hN h - 1) = c by omega] at this
        exact this
    · rw [am_cell_mul (fun z => hc z.1)]
      have hat := h4 c c1 (by omega)
      exact hat.kept (o _ hat.lt)
  · rw [eK c (fun z => by omega)]
    refine ⟨(h5 c hc).1, fun j => ?_⟩
    show (if hN h ≤ c ∧ c ≤ hN h + n then (0 : Int32) else hI h c j) = _
    rw [if_neg (fun z => by omega)]
    exact (h5 c hc).2 j
  · rw [eN] at hc
    rw [eK c (fun z => by omega)]
    exact h6 c (by omega)
theorem r_muli {x : Nat} (hd : decode b pc = .ok (.multianewarray x 2, 4)) (h1 : Cond.classLink own x "[[I" ∈ am_T) (h2 : Cond.arrayOver (.array .int) ∈ am_T) (h3 : Cond.arrayClass .int ∈ am_T) : am_RF own nm b nL fr lo pc (i_mul 104 100) := by
  intro L st h f' e
  unfold i_mul at e
  dsimp only at e
  split at e
  · rename_i k n st1
    split at e
    · cases e
    · rename_i hnk
      split at e
      · rename_i hb
        cases e
        refine ⟨⟨by show hN h ≤ hN h + 1 + _; omega, by show hSl h ≤ hSl h + _ + _; omega⟩, fun G p l e R s m args below meth c n0 s0 Q hC _ _ hn0 hs0 hcl hsl k1 H locs ls hS hlo hl => ?_⟩
        have hcl' : hN h + 1 + n.toNatClampNeg - n0 ≤ R.cells := hcl
        have hsl' : hSl h + n.toNatClampNeg + n.toNatClampNeg * k.toNatClampNeg - s0 ≤ R.slots := hsl
        have hn0' : n0 ≤ hN h := hn0
        have hs0' : s0 ≤ hSl h := hs0
        have hadn := am_ad_new hS
        have hE := (am_KV hC.2.2.2.2.2.1).2 0 _ rfl
        have hnn : (FieldType.array FieldType.int).toString = "[" ++ FieldType.int.toString := rfl
        refine am_Wmul (ty := .int) (i9 := 4) (t := 104) (cy := gE G 100) (z := (k.toNatClampNeg, .inl (fun _ => 0))) hd rfl (by rw [show "[" ++ (FieldType.array FieldType.int).toString = "[[I" by decide +kernel]; exact h1) h2 h3 (by decide) rfl rfl hC (by rw [hnn]; exact hE.2) (fun c => by rw [vp_cell_i]; exact arrV_new c _ _) (fun z => hnk (Or.inl z)) (fun z => hnk (Or.inr z)) hb.1 hb.2 (by show hN h - n0 + _ ≤ _; omega) (by show hSl h - s0 + _ ≤ _; omega) fun H1 z o e0 e1 => ?_
        have hS1 : am_S G (am_mul h 104 100 n.toNatClampNeg k.toNatClampNeg) H1 := by
          refine am_S_mul hS z o ?_ fun j hj => ?_
          · have q0 : hK (am_mul h 104 100 n.toNatClampNeg k.toNatClampNeg) (hN h) = (104, n.toNatClampNeg) := if_pos rfl
            have q1 : hR (am_mul h 104 100 n.toNatClampNeg k.toNatClampNeg) (hN h) = fun i => if i < n.toNatClampNeg then some (hN h + 1 + i) else none := by funext i; exact if_pos rfl
            rw [am_cell_r (t := 104) (by rw [q0]) (by decide), q0, q1]
            show H1[am_ad G (hN h)]? = some (vp_cell _ _)
            rw [hadn, e0]
            refine congrArg (fun f => some (vp_cell (gE G 104) (n.toNatClampNeg, Sum.inr (Sum.inr (Sum.inr (Sum.inr f)))))) ?_
            funext i
            show _ = Option.map (am_ad G) (if i < n.toNatClampNeg then some (hN h + 1 + i) else none)
            by_cases hi : i < n.toNatClampNeg
            · rw [if_pos hi, if_pos hi]
              show some _ = some (am_ad G _)
              have hA : 16 ≤ hN h := hS.1
              rw [← hadn, am_ad_own hA, am_ad_own (show 16 ≤ hN h + 1 + i by omega)]
              congr 1
              omega
            · rw [if_neg hi, if_neg hi]; rfl
          · have q0 : hK (am_mul h 104 100 n.toNatClampNeg k.toNatClampNeg) (hN h + 1 + j) = (100, k.toNatClampNeg) := by
              show (if hN h + 1 + j = hN h then _ else if hN h < hN h + 1 + j ∧ hN h + 1 + j ≤ hN h + n.toNatClampNeg then _ else _) = _
              rw [if_neg (by omega), if_pos ⟨by omega, by omega⟩]
            have q1 : hI (am_mul h 104 100 n.toNatClampNeg k.toNatClampNeg) (hN h + 1 + j) = fun _ => 0 := by funext i; exact if_pos ⟨by omega, by omega⟩
            rw [am_cell_i (by rw [q0]), q0, q1]
            show H1[am_ad G (hN h + 1 + j)]? = some (vp_cell _ _)
            have hA : 16 ≤ hN h := hS.1
            rw [am_ad_own (show 16 ≤ hN h + 1 + j by omega)]
            have e1j := e1 j hj
            rw [← hadn, am_ad_own hA] at e1j
            rw [show gB G + (hN h + 1 + j - 16) = gB G + (hN h - 16) + 1 + j by omega]
            exact e1j
        have k2 := k1 H1 locs ls hS1 hlo hl
        have e5 : am_cv G (vr (some (hN h))) = .ref H.size := by rw [← hadn]; rfl
        rw [List.map_cons, e5] at k2
        have w1 : hN h - n0 + 1 + n.toNatClampNeg = hN h + 1 + n.toNatClampNeg - n0 := by omega
        have w2 : hSl h - s0 + n.toNatClampNeg + n.toNatClampNeg * k.toNatClampNeg = hSl h + n.toNatClampNeg + n.toNatClampNeg * k.toNatClampNeg - s0 := by omega
        show W p l e R s m args below meth c H1 locs (hN h - n0 + 1 + n.toNatClampNeg) (hSl h - s0 + n.toNatClampNeg + n.toNatClampNeg * k.toNatClampNeg) Q _
        rw [w1, w2]
        exact k2
      · cases e
  · cases e
theorem r_mull {x : Nat} (hd : decode b pc = .ok (.multianewarray x 2, 4)) (h1 : Cond.classLink own x "[[J" ∈ am_T) (h2 : Cond.arrayOver (.array .long) ∈ am_T) (h3 : Cond.arrayClass .long ∈ am_T) : am_RF own nm b nL fr lo pc (i_mul 105 101) := by
  intro L st h f' e
  unfold i_mul at e
  dsimp only at e
  split at e
  · rename_i k n st1
    split at e
    · cases e
    · rename_i hnk
      split at e
      · rename_i hb
        cases e
        refine ⟨⟨by show hN h ≤ hN h + 1 + _; omega, by show hSl h ≤ hSl h + _ + _; omega⟩, fun G p l e R s m args below meth c n0 s0 Q hC _ _ hn0 hs0 hcl hsl k1 H locs ls hS hlo hl => ?_⟩
        have hcl' : hN h + 1 + n.toNatClampNeg - n0 ≤ R.cells := hcl
        have hsl' : hSl h + n.toNatClampNeg + n.toNatClampNeg * k.toNatClampNeg - s0 ≤ R.slots := hsl
        have hn0' : n0 ≤ hN h := hn0
        have hs0' : s0 ≤ hSl h := hs0
        have hadn := am_ad_new hS
        have hE := (am_KV hC.2.2.2.2.2.1).2 1 _ rfl
        have hnn : (FieldType.array FieldType.long).toString = "[" ++ FieldType.long.toString := rfl
        refine am_Wmul (ty := .long) (i9 := 5) (t := 105) (cy := gE G 101) (z := (k.toNatClampNeg, .inr (.inl (fun _ => 0)))) hd rfl (by rw [show "[" ++ (FieldType.array FieldType.long).toString = "[[J" by decide +kernel]; exact h1) h2 h3 (by decide) rfl rfl hC (by rw [hnn]; exact hE.2) (fun c => by rw [vp_cell_l]; exact arrV_new c _ _) (fun z => hnk (Or.inl z)) (fun z => hnk (Or.inr z)) hb.1 hb.2 (by show hN h - n0 + _ ≤ _; omega) (by show hSl h - s0 + _ ≤ _; omega) fun H1 z o e0 e1 => ?_
        have hS1 : am_S G (am_mul h 105 101 n.toNatClampNeg k.toNatClampNeg) H1 := by
          refine am_S_mul hS z o ?_ fun j hj => ?_
          · have q0 : hK (am_mul h 105 101 n.toNatClampNeg k.toNatClampNeg) (hN h) = (105, n.toNatClampNeg) := if_pos rfl
            have q1 : hR (am_mul h 105 101 n.toNatClampNeg k.toNatClampNeg) (hN h) = fun i => if i < n.toNatClampNeg then some (hN h + 1 + i) else none := by funext i; exact if_pos rfl
            rw [am_cell_r (t := 105) (by rw [q0]) (by decide), q0, q1]
            show H1[am_ad G (hN h)]? = some (vp_cell _ _)
            rw [hadn, e0]
            refine congrArg (fun f => some (vp_cell (gE G 105) (n.toNatClampNeg, Sum.inr (Sum.inr (Sum.inr (Sum.inr f)))))) ?_
            funext i
            show _ = Option.map (am_ad G) (if i < n.toNatClampNeg then some (hN h + 1 + i) else none)
            by_cases hi : i < n.toNatClampNeg
            · rw [if_pos hi, if_pos hi]
              show some _ = some (am_ad G _)
              have hA : 16 ≤ hN h := hS.1
              rw [← hadn, am_ad_own hA, am_ad_own (show 16 ≤ hN h + 1 + i by omega)]
              congr 1
              omega
            · rw [if_neg hi, if_neg hi]; rfl
          · have q0 : hK (am_mul h 105 101 n.toNatClampNeg k.toNatClampNeg) (hN h + 1 + j) = (101, k.toNatClampNeg) := by
              show (if hN h + 1 + j = hN h then _ else if hN h < hN h + 1 + j ∧ hN h + 1 + j ≤ hN h + n.toNatClampNeg then _ else _) = _
              rw [if_neg (by omega), if_pos ⟨by omega, by omega⟩]
            have q1 : hL (am_mul h 105 101 n.toNatClampNeg k.toNatClampNeg) (hN h + 1 + j) = fun _ => 0 := by funext i; exact if_pos ⟨by omega, by omega⟩
            rw [am_cell_l (by rw [q0]), q0, q1]
            show H1[am_ad G (hN h + 1 + j)]? = some (vp_cell _ _)
            have hA : 16 ≤ hN h := hS.1
            rw [am_ad_own (show 16 ≤ hN h + 1 + j by omega)]
            have e1j := e1 j hj
            rw [← hadn, am_ad_own hA] at e1j
            rw [show gB G + (hN h + 1 + j - 16) = gB G + (hN h - 16) + 1 + j by omega]
            exact e1j
        have k2 := k1 H1 locs ls hS1 hlo hl
        have e5 : am_cv G (vr (some (hN h))) = .ref H.size := by rw [← hadn]; rfl
        rw [List.map_cons, e5] at k2
        have w1 : hN h - n0 + 1 + n.toNatClampNeg = hN h + 1 + n.toNatClampNeg - n0 := by omega
        have w2 : hSl h - s0 + n.toNatClampNeg + n.toNatClampNeg * k.toNatClampNeg = hSl h + n.toNatClampNeg + n.toNatClampNeg * k.toNatClampNeg - s0 := by omega
        show W p l e R s m args below meth c H1 locs (hN h - n0 + 1 + n.toNatClampNeg) (hSl h - s0 + n.toNatClampNeg + n.toNatClampNeg * k.toNatClampNeg) Q _
        rw [w1, w2]
        exact k2
      · cases e
  · cases e
end AMM
