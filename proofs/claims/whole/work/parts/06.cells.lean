section AMC
variable {own nm : String} {b : ByteArray} {nL fr lo pc : Nat}
theorem am_KV {G : am_G} {s : State} (h : am_K G s) : va_K (gD G) vwCl (am_tys G) s := h.1
theorem am_P1 {D : va_G} {cl : List vw_C} {q : Nat × va_E} {H : Heap} (h : va_at D cl q H) : va_P D cl [q] H := by
  intro k q' hk
  cases k with
  | zero => cases hk; exact h
  | succ k => cases hk
/-- a class's tag says that the cell is ours -/
theorem am_own {G : am_G} {h : am_H} {H : Heap} {a : Nat} (hS : am_S G h H) (ht : (hK h a).1 < 13 ∨ (100 < (hK h a).1 ∧ (hK h a).1 < 200) ∨ (16 ≤ a ∧ (hK h a).1 < 200)) : 16 ≤ a ∧ a < hN h := by
  obtain ⟨-, -, -, -, h5, h6⟩ := hS
  constructor
  · rcases Nat.lt_or_ge a 16 with z | z
    · exfalso
      rw [(h5 a z).1] at ht
      have : (am_spK G a).1 = 100 ∨ 200 ≤ (am_spK G a).1 := by
        unfold am_spK
        split <;> first | exact Or.inl rfl | exact Or.inr (by decide)
      omega
    · exact z
  · rcases Nat.lt_or_ge a (hN h) with z | z
    · exact z
    · have := h6 a z
      omega
theorem am_ad_own {G : am_G} {a : Nat} (h : 16 ≤ a) : am_ad G a = gB G + (a - 16) := if_neg (by omega)
theorem am_A_own {G : am_G} {a : Nat} (h : 16 ≤ a) : am_A G (am_ad G a) := by
  rw [am_ad_own h]
  exact Nat.le_add_right _ _
theorem am_ad_ne {G : am_G} {a c : Nat} (ha : 16 ≤ a) (hc : 16 ≤ c) (h : a ≠ c) : am_ad G a ≠ am_ad G c := by
  rw [am_ad_own ha, am_ad_own hc]
  omega
theorem am_S_at {G : am_G} {h : am_H} {H : Heap} {a : Nat} (hS : am_S G h H) (h1 : 16 ≤ a) (h2 : a < hN h) : va_at (gD G) vwCl (am_ad G a, am_cell G h a) H := hS.2.2.2.1 a h1 h2
theorem am_cell_o {G : am_G} {h : am_H} {a t : Nat} (e : (hK h a).1 = t) (ht : t < 13) : am_cell G h a = .inr (t, (List.range (am_q t).2.2).map fun k => am_fv G h a k (am_tc (am_ty t k))) := by
  subst e
  exact if_pos ht
theorem am_cell_i {G : am_G} {h : am_H} {a : Nat} (e : (hK h a).1 = 100) : am_cell G h a = .inl (gE G 100, (hK h a).2, .inl (hI h a)) := by
  unfold am_cell
  rw [if_neg (by omega), if_pos e, e]
theorem am_cell_l {G : am_G} {h : am_H} {a : Nat} (e : (hK h a).1 = 101) : am_cell G h a = .inl (gE G 101, (hK h a).2, .inr (.inl (hL h a))) := by
  unfold am_cell
  rw [if_neg (by omega), if_neg (by omega), if_pos e, e]
theorem am_cell_r {G : am_G} {h : am_H} {a t : Nat} (e : (hK h a).1 = t) (ht : 101 < t) : am_cell G h a = .inl (gE G t, (hK h a).2, .inr (.inr (.inr (.inr fun j => (hR h a j).map (am_ad G))))) := by
  subst e
  unfold am_cell
  rw [if_neg (by omega), if_neg (by omega), if_neg (by omega)]
theorem am_fs_at {G : am_G} {h : am_H} {a t k : Nat} (hk : k < (am_q t).2.2) : ((List.range (am_q t).2.2).map fun k => am_fv G h a k (am_tc (am_ty t k)))[k]? = some (am_fv G h a k (am_tc (am_ty t k))) := by
  rw [List.getElem?_map, List.getElem?_range hk]
  rfl
/-- what an instruction that names a field k must find in the tables, for each class of cs -/
def am_fok (cs : List Nat) (k : Nat) (O n d : String) (ty : Nat) : Prop := ∀ t ∈ cs, t < 13 ∧ k < (am_q t).2.2 ∧ ((am_q t).2.1 k).1 = O ∧ ((am_q t).2.1 k).2.1 = n ∧ ((am_q t).2.1 k).2.2.1 = d ∧ am_tc (am_ty t k) = ty
def i_gI (cs : List Nat) (k : Nat) : am_I := fun f => match f.2.2.1 with
  | .inr (.inr (some a)) :: st => if (hK f.2.2.2 a).1 ∈ cs then some (.inl (f.1 + 3, f.2.1, vi (hI f.2.2.2 a k) :: st, f.2.2.2)) else none
  | _ => none
def i_gL (cs : List Nat) (k : Nat) : am_I := fun f => match f.2.2.1 with
  | .inr (.inr (some a)) :: st => if (hK f.2.2.2 a).1 ∈ cs then some (.inl (f.1 + 3, f.2.1, vl (hL f.2.2.2 a k) :: st, f.2.2.2)) else none
  | _ => none
def i_gR (cs : List Nat) (k : Nat) : am_I := fun f => match f.2.2.1 with
  | .inr (.inr (some a)) :: st => if (hK f.2.2.2 a).1 ∈ cs then some (.inl (f.1 + 3, f.2.1, vr (hR f.2.2.2 a k) :: st, f.2.2.2)) else none
  | _ => none
theorem am_getf {G : am_G} {p : Program} {l : Launch} {e : Env} {R : Room} {s : State} {m : MethodId} {args : Array Value} {below : List Frame} {meth : Method} {c : Code} {H : Heap} {locs : List Loc} {cells slots : Nat} {Q : State → Prop} {ls : Array Slot} {rest : List Value} {h : am_H} {a k x : Nat} {cs : List Nat} {ref O n d : String} {ty : Nat}
    (hC : am_C G p s m args meth c own nm b nL) (hS : am_S G h H) (ht : (hK h a).1 ∈ cs) (hcs : am_fok cs k O n d ty) (hw : Cond.fieldLink own x ref n d ∈ am_T) (hsame : ref = O ∨ Cond.sameField ref O n d ∈ am_T) (hd : decode b pc = .ok (.getfield x, 3))
    (kk : W p l e R s m args below meth c H locs cells slots Q (F0 m (pc + 3) ls (am_fv G h a k ty :: rest))) : W p l e R s m args below meth c H locs cells slots Q (F0 m pc ls (.ref (am_ad G a) :: rest)) := by
  obtain ⟨g1, g2, g3, g4, g5, g6⟩ := hcs _ ht
  obtain ⟨o1, o2⟩ := am_own hS (Or.inl g1)
  have hat := am_S_at hS o1 o2
  rw [am_cell_o rfl g1] at hat
  obtain ⟨hx, hb, -, hown, hts, hKK, -⟩ := hC
  refine va_get (q0 := 0) (k := k) (C := (am_q (hK h a).1).1) (T := (am_q (hK h a).1).2.1) (N := (am_q (hK h a).1).2.2) (ref := ref) (index := x) hx hb hts (am_hin _ g1) hown (am_KV hKK) (am_P1 hat) rfl (am_q_some g1) g2 ?_ ?_ (am_fs_at g2) hd (by rw [g6]; exact kk)
  · rw [g4, g5]; exact hts _ hw
  · rw [g3, g4, g5]
    rcases hsame with z | z
    · rw [z]; exact fun _ h9 => h9
    · exact fun x9 h9 => u_same (hts _ z) x9 h9
theorem r_gI {cs : List Nat} {k x : Nat} {ref O n d : String} (hd : decode b pc = .ok (.getfield x, 3)) (hcs : am_fok cs k O n d 0) (hw : Cond.fieldLink own x ref n d ∈ am_T) (hsame : ref = O ∨ Cond.sameField ref O n d ∈ am_T) : am_RF own nm b nL fr lo pc (i_gI cs k) := by
  intro L st h f' e
  unfold i_gI at e
  dsimp only at e
  split at e
  · split at e
    · rename_i ht
      cases e
      exact ⟨⟨Nat.le_refl _, Nat.le_refl _⟩, fun G p l e R s m args below meth c n0 s0 Q hC _ _ _ _ _ _ k1 H locs ls hS hlo hl => am_getf hC hS ht hcs hw hsame hd (k1 H locs ls hS hlo hl)⟩
    · cases e
  · cases e
theorem r_gL {cs : List Nat} {k x : Nat} {ref O n d : String} (hd : decode b pc = .ok (.getfield x, 3)) (hcs : am_fok cs k O n d 1) (hw : Cond.fieldLink own x ref n d ∈ am_T) (hsame : ref = O ∨ Cond.sameField ref O n d ∈ am_T) : am_RF own nm b nL fr lo pc (i_gL cs k) := by
  intro L st h f' e
  unfold i_gL at e
  dsimp only at e
  split at e
  · split at e
    · rename_i ht
      cases e
      exact ⟨⟨Nat.le_refl _, Nat.le_refl _⟩, fun G p l e R s m args below meth c n0 s0 Q hC _ _ _ _ _ _ k1 H locs ls hS hlo hl => am_getf hC hS ht hcs hw hsame hd (k1 H locs ls hS hlo hl)⟩
    · cases e
  · cases e
theorem r_gR {cs : List Nat} {k x : Nat} {ref O n d : String} (hd : decode b pc = .ok (.getfield x, 3)) (hcs : am_fok cs k O n d 2) (hw : Cond.fieldLink own x ref n d ∈ am_T) (hsame : ref = O ∨ Cond.sameField ref O n d ∈ am_T) : am_RF own nm b nL fr lo pc (i_gR cs k) := by
  intro L st h f' e
  unfold i_gR at e
  dsimp only at e
  split at e
  · split at e
    · rename_i ht
      cases e
      exact ⟨⟨Nat.le_refl _, Nat.le_refl _⟩, fun G p l e R s m args below meth c n0 s0 Q hC _ _ _ _ _ _ k1 H locs ls hS hlo hl => am_getf hC hS ht hcs hw hsame hd (k1 H locs ls hS hlo hl)⟩
    · cases e
  · cases e
-- a write
theorem am_S_put {G : am_G} {h h' : am_H} {H H1 : Heap} {a : Nat} (hS : am_S G h H) (ha : 16 ≤ a) (z : H1.size = H.size) (oq : ∀ q : Nat, q ≠ am_ad G a → H1[q]? = H[q]?) (e : va_at (gD G) vwCl (am_ad G a, am_cell G h' a) H1) (hn : hN h' = hN h) (hk : hK h' = hK h) (hc : ∀ c, c ≠ a → am_cell G h' c = am_cell G h c) (hsp : ∀ c, c < 16 → ∀ j, hI h' c j = hI h c j) : am_S G h' H1 := by
  obtain ⟨h1, h2, h3, h4, h5, h6⟩ := hS
  refine ⟨by rw [hn]; exact h1, by rw [z, hn]; exact h2, fun q hq => ?_, fun c c1 c2 => ?_, fun c hc1 => ?_, fun c hc1 => ?_⟩
  · rw [oq q (fun z => ?_)]
    · exact h3 q hq
    · rw [z, am_ad_own ha] at hq
      exact absurd hq (Nat.not_lt.mpr (Nat.le_add_right _ _))
  · by_cases hca : c = a
    · subst hca; exact e
    · rw [hc c hca]
      exact (h4 c c1 (by rw [← hn]; exact c2)).kept (oq _ (am_ad_ne c1 ha hca))
  · rw [hk]
    exact ⟨(h5 c hc1).1, fun j => by rw [hsp c hc1 j]; exact (h5 c hc1).2 j⟩
  · rw [hk]; exact h6 c (by rw [← hn]; exact hc1)
theorem am_vpV {n : Nat} {g : Nat → Value} {j : Nat} (hj : j < n) : vp_V ((List.range n).map g) j = g j := by
  unfold vp_V
  rw [List.getD_eq_getElem?_getD, List.getElem?_map, List.getElem?_range hj]
  rfl
theorem am_locs {G : am_G} {locs : List Loc} {a k : Nat} (hlo : ∀ q ∈ locs, am_A G q.base) (ha : am_A G a) : ∀ q ∈ locs ++ [(⟨a, k⟩ : Loc)], am_A G q.base := by
  intro q hq
  rcases List.mem_append.mp hq with z | z
  · exact hlo q z
  · have := List.mem_singleton.mp z
    subst this
    exact ha
/-- a field's write: nf says how the tables let it be written -/
theorem am_putf {G : am_G} {p : Program} {l : Launch} {e : Env} {R : Room} {s : State} {m : MethodId} {args : Array Value} {below : List Frame} {meth : Method} {c : Code} {H : Heap} {locs : List Loc} {cells slots : Nat} {Q : State → Prop} {ls : Array Slot} {rest : List Value} {h h' : am_H} {a k x t : Nat} {O n d : String} {fin : Bool} {v : Value}
    (hC : am_C G p s m args meth c own nm b nL) (hS : am_S G h H) (ht : (hK h a).1 = t) (h13 : t < 13) (hk : k < (am_q t).2.2) (hq : (am_q t).2.1 k = (O, n, d, fin)) (hfin : fin = false ∨ (nm = "<init>" ∧ O = own)) (hw : Cond.fieldLink own x O n d ∈ am_T)
    (hn : narrow (am_ty t k) v = v) (hfit : fits (am_ty t k) v = true) (hd : decode b pc = .ok (.putfield x, 3)) (hlo : ∀ q ∈ locs, am_A G q.base)
    (hN' : hN h' = hN h) (hK' : hK h' = hK h) (hc : ∀ c, c ≠ a → am_cell G h' c = am_cell G h c) (hsp : ∀ c, c < 16 → ∀ j, hI h' c j = hI h c j) (hv : ∀ j, j < (am_q t).2.2 → am_fv G h' a j (am_tc (am_ty t j)) = if j = k then v else am_fv G h a j (am_tc (am_ty t j)))
    (kk : ∀ (H1 : Heap) (locs1 : List Loc), am_S G h' H1 → (∀ q ∈ locs1, am_A G q.base) → W p l e R s m args below meth c H1 locs1 cells slots Q (F0 m (pc + 3) ls rest)) : W p l e R s m args below meth c H locs cells slots Q (F0 m pc ls (v :: .ref (am_ad G a) :: rest)) := by
  obtain ⟨o1, o2⟩ := am_own hS (Or.inl (by rw [ht]; exact h13))
  have hat := am_S_at hS o1 o2
  rw [am_cell_o ht h13] at hat
  obtain ⟨hx, hb, -, hown, hts, hKK, -, hnm, -⟩ := hC
  have hin := am_hin t h13
  have hKv := am_KV hKK
  have hap := va_apart (own := own) hts hin (am_ty t) (am_hty t h13) (am_hnm t h13) hKv (am_q_some h13)
  obtain ⟨r, h1, cell, q1, q2, q3, q4⟩ := hat
  have hr : r = am_q t := Option.some.inj (h1.symm.trans (am_q_some h13))
  subst hr
  obtain ⟨hSl, hfc, kC, hkC, hkind⟩ := hKv.1 t _ (am_q_some h13)
  obtain ⟨cf, kf, fi, f, hi, hsl⟩ := hSl k hk
  have hlay := hts _ (hin _ (u_in_lay hk))
  have hst := (u_facts hfc hkC (u_lays hts hin hk) hi).1
  have hlink : (Cond.fieldLink own x ((am_q t).2.1 k).1 ((am_q t).2.1 k).2.1 ((am_q t).2.1 k).2.2.1).before args s = true := by rw [hq]; exact hts _ hw
  have fin' : ∀ (H' : Heap), H'[am_ad G a]? = some (cell.setSlot f.slot v) → H'.size = H.size → (∀ q : Nat, q ≠ am_ad G a → H'[q]? = H[q]?) → W p l e R s m args below meth c H' (locs ++ [⟨am_ad G a, f.slot⟩]) cells slots Q (F0 m (pc + 3) ls rest) := by
    intro H' e1 e2 e3
    rw [hsl] at e1
    refine kk H' _ (am_S_put hS o1 e2 e3 ?_ hN' hK' hc hsp) (am_locs hlo (am_A_own o1))
    rw [am_cell_o (by rw [hK']; exact ht) h13]
    refine ⟨_, am_q_some h13, t_OB.to (V := updV (vp_V ((List.range (am_q t).2.2).map fun k => am_fv G h a k (am_tc (am_ty t k)))) k v) ⟨_, e1, q2, q3, t_set q4 hap hk v⟩ (fun j hj => ?_)⟩
    rw [am_vpV hj, hv j hj]
    unfold updV
    by_cases hjk : j = k
    · rw [if_pos hjk, if_pos hjk]
    · rw [if_neg hjk, if_neg hjk, am_vpV hj]
  unfold u_lay at hlay
  rcases hfin with z | ⟨z1, z2⟩
  · rw [if_neg (by rw [hq, z]; exact Bool.false_ne_true)] at hlay
    have h6 := u_store hfc hkC hkind hlay hi (am_hty t h13 k hk) hn hfit
    exact W.putK hx hb (f := f) ⟨hown, hlink, ⟨_, _, _, hi⟩, hst⟩ (by rw [q2]; exact h6) q1 q3 (by rw [hsl]; exact k2_hasslot (q4 k hk)) rfl rfl hd fin'
  · cases hf : fin with
    | false =>
      rw [if_neg (by rw [hq, hf]; exact Bool.false_ne_true)] at hlay
      have h6 := u_store hfc hkC hkind hlay hi (am_hty t h13 k hk) hn hfit
      exact W.putK hx hb (f := f) ⟨hown, hlink, ⟨_, _, _, hi⟩, hst⟩ (by rw [q2]; exact h6) q1 q3 (by rw [hsl]; exact k2_hasslot (q4 k hk)) rfl rfl hd fin'
    | true =>
      rw [if_pos (by rw [hq, hf])] at hlay
      have hcf : m.cls = cf := by
        obtain ⟨_, _, c', _, _, _, -, -, hf', -, -, -, hown2, -⟩ := Cond.laysFinal_spec hlay
        have e1 : c' = cf := by have := hi.symm.trans hf'; simp at this; exact this.1.symm
        have e2 : ((am_q t).2.1 k).1 = own := by rw [hq]; exact z2
        rw [e2] at hown2
        rw [← e1]; exact Option.some.inj (hown.symm.trans hown2)
      have h6 := u_fits hfc hkC hkind (Or.inr hlay) hi (am_hty t h13 k hk) hn hfit
      exact W.putFinK hx hb hown hlink hi hst hcf (hnm.trans z1) (by rw [q2]; exact h6) q1 q3 (by rw [hsl]; exact k2_hasslot (q4 k hk)) rfl rfl hd fin'
/-- the class's cell, or one of a class under it -/
def am_pok (own nm : String) (cs : List Nat) (k : Nat) (O n d : String) (fin : Bool) (ty : FieldType) : Prop := (∀ t ∈ cs, t < 13 ∧ k < (am_q t).2.2 ∧ (am_q t).2.1 k = (O, n, d, fin) ∧ am_ty t k = ty) ∧ (fin = false ∨ (nm = "<init>" ∧ O = own))
def i_pI (cs : List Nat) (k : Nat) : am_I := fun f => match f.2.2.1 with
  | .inl x :: .inr (.inr (some a)) :: st => if (hK f.2.2.2 a).1 ∈ cs then some (.inl (f.1 + 3, f.2.1, st, pI f.2.2.2 a k x)) else none
  | _ => none
/-- a boolean's -/
def i_pZ (cs : List Nat) (k : Nat) : am_I := fun f => match f.2.2.1 with
  | .inl x :: .inr (.inr (some a)) :: st => if (hK f.2.2.2 a).1 ∈ cs ∧ (x = 0 ∨ x = 1) then some (.inl (f.1 + 3, f.2.1, st, pI f.2.2.2 a k x)) else none
  | _ => none
def i_pR (cs : List Nat) (k : Nat) : am_I := fun f => match f.2.2.1 with
  | .inr (.inr x) :: .inr (.inr (some a)) :: st => if (hK f.2.2.2 a).1 ∈ cs then some (.inl (f.1 + 3, f.2.1, st, pR f.2.2.2 a k x)) else none
  | _ => none
theorem am_fv_pI {G : am_G} {h : am_H} {a k : Nat} {x : Int32} {c j ty : Nat} : am_fv G (pI h a k x) c j ty = if c = a ∧ j = k ∧ ty = 0 then .int x else am_fv G h c j ty := by
  unfold am_fv
  split
  · unfold pI hI am_u
    dsimp only
    by_cases z : c = a ∧ j = k
    · rw [if_pos z, if_pos ⟨z.1, z.2, rfl⟩]
    · rw [if_neg z, if_neg (fun w => z ⟨w.1, w.2.1⟩)]
  · rw [if_neg (fun w => by cases w.2.2)]; rfl
  · rename_i n0 n1
    rw [if_neg (fun w => n0 w.2.2)]; rfl
theorem am_fv_pR {G : am_G} {h : am_H} {a k : Nat} {x : Option Nat} {c j ty : Nat} : am_fv G (pR h a k x) c j ty = if c = a ∧ j = k ∧ ¬ ty = 0 ∧ ¬ ty = 1 then am_rf G x else am_fv G h c j ty := by
  unfold am_fv
  split
  · rw [if_neg (fun w => w.2.2.1 rfl)]; rfl
  · rw [if_neg (fun w => w.2.2.2 rfl)]; rfl
  · rename_i n0 n1
    unfold pR hR am_u
    dsimp only
    by_cases z : c = a ∧ j = k
    · rw [if_pos z, if_pos ⟨z.1, z.2, n0, n1⟩]
    · rw [if_neg z, if_neg (fun w => z ⟨w.1, w.2.1⟩)]
theorem am_cell_pI {G : am_G} {h : am_H} {a k : Nat} {x : Int32} {c : Nat} (hc : c ≠ a) : am_cell G (pI h a k x) c = am_cell G h c := by
  have e1 : hK (pI h a k x) = hK h := rfl
  have e2 : hL (pI h a k x) = hL h := rfl
  have e3 : hR (pI h a k x) = hR h := rfl
  have e4 : hI (pI h a k x) c = hI h c := by
    funext j
    show am_u (hI h) a k x c j = _
    unfold am_u
    rw [if_neg (fun w => hc w.1)]
  unfold am_cell
  rw [e1, e2, e3, e4]
  have e5 : ∀ j ty, am_fv G (pI h a k x) c j ty = am_fv G h c j ty := fun j ty => by rw [am_fv_pI, if_neg (fun w => hc w.1)]
  simp only [e5]
theorem am_cell_pL {G : am_G} {h : am_H} {a k : Nat} {x : Int64} {c : Nat} (hc : c ≠ a) : am_cell G (pL h a k x) c = am_cell G h c := by
  have e1 : hK (pL h a k x) = hK h := rfl
  have e2 : hI (pL h a k x) = hI h := rfl
  have e3 : hR (pL h a k x) = hR h := rfl
  have e4 : hL (pL h a k x) c = hL h c := by
    funext j
    show am_u (hL h) a k x c j = _
    unfold am_u
    rw [if_neg (fun w => hc w.1)]
  unfold am_cell
  rw [e1, e2, e3, e4]
  have e5 : ∀ j ty, am_fv G (pL h a k x) c j ty = am_fv G h c j ty := fun j ty => by
    unfold am_fv
    rw [e2, e3, e4]
  simp only [e5]
theorem am_cell_pR {G : am_G} {h : am_H} {a k : Nat} {x : Option Nat} {c : Nat} (hc : c ≠ a) : am_cell G (pR h a k x) c = am_cell G h c := by
  have e1 : hK (pR h a k x) = hK h := rfl
  have e2 : hL (pR h a k x) = hL h := rfl
  have e3 : hI (pR h a k x) = hI h := rfl
  have e4 : hR (pR h a k x) c = hR h c := by
    funext j
    show am_u (hR h) a k x c j = _
    unfold am_u
    rw [if_neg (fun w => hc w.1)]
  unfold am_cell
  rw [e1, e2, e3, e4]
  have e5 : ∀ j ty, am_fv G (pR h a k x) c j ty = am_fv G h c j ty := fun j ty => by rw [am_fv_pR, if_neg (fun w => hc w.1)]
  simp only [e5]
theorem am_tc2 {ty : FieldType} (h : am_tc ty = 2) : ¬ am_tc ty = 0 ∧ ¬ am_tc ty = 1 := by omega
theorem am_sp_pI {h : am_H} {a k : Nat} {x : Int32} (ha : 16 ≤ a) : ∀ c, c < 16 → ∀ j, hI (pI h a k x) c j = hI h c j := by
  intro c hc j
  show am_u (hI h) a k x c j = _
  unfold am_u
  rw [if_neg (fun w => by omega)]
theorem r_pI {cs : List Nat} {k x : Nat} {O n d : String} {fin : Bool} (hd : decode b pc = .ok (.putfield x, 3)) (hcs : am_pok own nm cs k O n d fin .int) (hw : Cond.fieldLink own x O n d ∈ am_T) : am_RF own nm b nL fr lo pc (i_pI cs k) := by
  intro L st h f' e
  unfold i_pI at e
  dsimp only at e
  split at e
  · split at e
    · rename_i ht
      cases e
      refine ⟨⟨Nat.le_refl _, Nat.le_refl _⟩, fun G p l e R s m args below meth c n0 s0 Q hC _ _ _ _ _ _ k1 H locs ls hS hlo hl => ?_⟩
      obtain ⟨g1, g2, g3, g4⟩ := hcs.1 _ ht
      have ho := am_own hS (Or.inl g1)
      exact am_putf (h' := pI h _ k _) hC hS rfl g1 g2 g3 hcs.2 hw (by rw [g4]; rfl) (by rw [g4]; rfl) hd hlo rfl rfl (fun _ z => am_cell_pI z) (am_sp_pI ho.1)
        (fun j _ => by
          rw [am_fv_pI]
          by_cases hj : j = k
          · rw [if_pos hj, if_pos ⟨rfl, hj, by rw [hj, g4]; rfl⟩]; rfl
          · rw [if_neg hj, if_neg (fun w => hj w.2.1)])
        (fun H1 locs1 hS1 hlo1 => k1 H1 locs1 ls hS1 hlo1 hl)
    · cases e
  · cases e
theorem r_pZ {cs : List Nat} {k x : Nat} {O n d : String} {fin : Bool} (hd : decode b pc = .ok (.putfield x, 3)) (hcs : am_pok own nm cs k O n d fin .boolean) (hw : Cond.fieldLink own x O n d ∈ am_T) : am_RF own nm b nL fr lo pc (i_pZ cs k) := by
  intro L st h f' e
  unfold i_pZ at e
  dsimp only at e
  split at e
  · split at e
    · rename_i ht
      cases e
      refine ⟨⟨Nat.le_refl _, Nat.le_refl _⟩, fun G p l e R s m args below meth c n0 s0 Q hC _ _ _ _ _ _ k1 H locs ls hS hlo hl => ?_⟩
      obtain ⟨g1, g2, g3, g4⟩ := hcs.1 _ ht.1
      have ho := am_own hS (Or.inl g1)
      exact am_putf (h' := pI h _ k _) hC hS rfl g1 g2 g3 hcs.2 hw (by rw [g4]; rcases ht.2 with z | z <;> subst z <;> rfl) (by rw [g4]; rcases ht.2 with z | z <;> subst z <;> rfl) hd hlo rfl rfl (fun _ z => am_cell_pI z) (am_sp_pI ho.1)
        (fun j _ => by
          rw [am_fv_pI]
          by_cases hj : j = k
          · rw [if_pos hj, if_pos ⟨rfl, hj, by rw [hj, g4]; rfl⟩]; rfl
          · rw [if_neg hj, if_neg (fun w => hj w.2.1)])
        (fun H1 locs1 hS1 hlo1 => k1 H1 locs1 ls hS1 hlo1 hl)
    · cases e
  · cases e
theorem am_rf_n {G : am_G} {r : Option Nat} {ty : FieldType} (h : (∃ n, ty = .object n) ∨ ∃ t, ty = .array t) : narrow ty (am_rf G r) = am_rf G r ∧ fits ty (am_rf G r) = true ∧ am_tc ty = 2 := by
  rcases h with ⟨n, rfl⟩ | ⟨t, rfl⟩ <;> cases r <;> exact ⟨rfl, rfl, rfl⟩
theorem r_pR {cs : List Nat} {k x : Nat} {O n d : String} {fin : Bool} {ty : FieldType} (hd : decode b pc = .ok (.putfield x, 3)) (hcs : am_pok own nm cs k O n d fin ty) (hty : (∃ n, ty = .object n) ∨ ∃ t, ty = .array t) (hw : Cond.fieldLink own x O n d ∈ am_T) : am_RF own nm b nL fr lo pc (i_pR cs k) := by
  intro L st h f' e
  unfold i_pR at e
  dsimp only at e
  split at e
  · split at e
    · rename_i ht
      cases e
      refine ⟨⟨Nat.le_refl _, Nat.le_refl _⟩, fun G p l e R s m args below meth c n0 s0 Q hC _ _ _ _ _ _ k1 H locs ls hS hlo hl => ?_⟩
      obtain ⟨g1, g2, g3, g4⟩ := hcs.1 _ ht
      have hrn := fun r => am_rf_n (G := G) (r := r) hty
      exact am_putf (h' := pR h _ k _) hC hS rfl g1 g2 g3 hcs.2 hw (by rw [g4]; exact (hrn _).1) (by rw [g4]; exact (hrn _).2.1) hd hlo rfl rfl (fun _ z => am_cell_pR z) (fun _ _ _ => rfl)
        (fun j _ => by
          rw [am_fv_pR]
          by_cases hj : j = k
          · rw [if_pos hj, if_pos ⟨rfl, hj, am_tc2 (by rw [hj, g4]; exact (hrn none).2.2)⟩]
            rfl
          · rw [if_neg hj, if_neg (fun w => hj w.2.1)])
        (fun H1 locs1 hS1 hlo1 => k1 H1 locs1 ls hS1 hlo1 hl)
    · cases e
  · cases e
end AMC
