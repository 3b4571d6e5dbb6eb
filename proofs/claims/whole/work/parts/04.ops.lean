/-! arithmetic, stack, branches -/
section AMR2
variable {own nm : String} {b : ByteArray} {nL fr lo pc : Nat}
theorem am_lvI {G : am_G} {ls : Array Slot} {L : am_L} {i : Nat} {x : Int32} (hl : am_lv G nL ls L) (h : am_get L i = some (.inl x)) : lv_has ls nL ((i, Value.int x) :: am_as G L) := by
  refine ⟨hl.1, hl.2.1, fun q hq => ?_⟩
  rcases List.mem_cons.mp hq with z | z
  · subst z
    exact am_get_at hl h
  · exact (am_as_has hl).2.2 q z
def i_inc (i : Nat) (n : Int) : am_I := fun f => match am_get f.2.1 i with
  | some (.inl x) => some (.inl (f.1 + 3, am_s1 f.2.1 i (vi (x + Int32.ofInt n)), f.2.2.1, f.2.2.2))
  | _ => none
theorem r_iinc {i : Nat} {n : Int} (hd : decode b pc = .ok (.iinc i n, 3)) (hn : i < nL) : am_RF own nm b nL fr lo pc (i_inc i n) := by
  intro L st h f' e
  unfold i_inc at e
  dsimp only at e
  split at e
  · rename_i x hx
    cases e
    exact ⟨⟨Nat.le_refl _, Nat.le_refl _⟩, fun G p l e R s m args below meth c n0 s0 Q hC _ _ _ _ _ _ k H locs ls hS hlo hl => lv_iinc (k := 0) hC.1 hC.2.1 hd (am_lvI hl hx) rfl rfl hn rfl (fun ls' hl' => k H locs ls' hS hlo (am_lv1 (v := vi _) (by rw [List.filter_cons_of_neg (by simp)] at hl'; exact hl')))⟩
  · cases e

def i_ib (g : Int32 → Int32 → Int32) : am_I := fun f => match f.2.2.1 with
  | .inl y :: .inl x :: st => some (.inl (f.1 + 1, f.2.1, vi (g x y) :: st, f.2.2.2))
  | _ => none

theorem r_iadd (hd : decode b pc = .ok (.iadd, 1)) : am_RF own nm b nL fr lo pc (i_ib (fun x y => x + y)) := by
  intro L st h f' e
  unfold i_ib at e
  dsimp only at e
  split at e
  · cases e
    exact ⟨⟨Nat.le_refl _, Nat.le_refl _⟩, fun G p l e R s m args below meth c n0 s0 Q hC _ _ _ _ _ _ k H locs ls hS hlo hl => lv_iadd hC.1 hC.2.1 hd (k H locs ls hS hlo hl)⟩
  · cases e

theorem r_isub (hd : decode b pc = .ok (.isub, 1)) : am_RF own nm b nL fr lo pc (i_ib (fun x y => x - y)) := by
  intro L st h f' e
  unfold i_ib at e
  dsimp only at e
  split at e
  · cases e
    exact ⟨⟨Nat.le_refl _, Nat.le_refl _⟩, fun G p l e R s m args below meth c n0 s0 Q hC _ _ _ _ _ _ k H locs ls hS hlo hl => lv_isub hC.1 hC.2.1 hd (k H locs ls hS hlo hl)⟩
  · cases e

theorem r_imul (hd : decode b pc = .ok (.imul, 1)) : am_RF own nm b nL fr lo pc (i_ib (fun x y => x * y)) := by
  intro L st h f' e
  unfold i_ib at e
  dsimp only at e
  split at e
  · cases e
    exact ⟨⟨Nat.le_refl _, Nat.le_refl _⟩, fun G p l e R s m args below meth c n0 s0 Q hC _ _ _ _ _ _ k H locs ls hS hlo hl => lv_imul hC.1 hC.2.1 hd (k H locs ls hS hlo hl)⟩
  · cases e

theorem r_iand (hd : decode b pc = .ok (.iand, 1)) : am_RF own nm b nL fr lo pc (i_ib (fun x y => x &&& y)) := by
  intro L st h f' e
  unfold i_ib at e
  dsimp only at e
  split at e
  · cases e
    exact ⟨⟨Nat.le_refl _, Nat.le_refl _⟩, fun G p l e R s m args below meth c n0 s0 Q hC _ _ _ _ _ _ k H locs ls hS hlo hl => lv_iand hC.1 hC.2.1 hd (k H locs ls hS hlo hl)⟩
  · cases e

theorem r_ior (hd : decode b pc = .ok (.ior, 1)) : am_RF own nm b nL fr lo pc (i_ib (fun x y => x ||| y)) := by
  intro L st h f' e
  unfold i_ib at e
  dsimp only at e
  split at e
  · cases e
    exact ⟨⟨Nat.le_refl _, Nat.le_refl _⟩, fun G p l e R s m args below meth c n0 s0 Q hC _ _ _ _ _ _ k H locs ls hS hlo hl => lv_ior hC.1 hC.2.1 hd (k H locs ls hS hlo hl)⟩
  · cases e

theorem r_ixor (hd : decode b pc = .ok (.ixor, 1)) : am_RF own nm b nL fr lo pc (i_ib (fun x y => x ^^^ y)) := by
  intro L st h f' e
  unfold i_ib at e
  dsimp only at e
  split at e
  · cases e
    exact ⟨⟨Nat.le_refl _, Nat.le_refl _⟩, fun G p l e R s m args below meth c n0 s0 Q hC _ _ _ _ _ _ k H locs ls hS hlo hl => lv_ixor hC.1 hC.2.1 hd (k H locs ls hS hlo hl)⟩
  · cases e

theorem r_ishl (hd : decode b pc = .ok (.ishl, 1)) : am_RF own nm b nL fr lo pc (i_ib (fun x y => x <<< (y &&& 31))) := by
  intro L st h f' e
  unfold i_ib at e
  dsimp only at e
  split at e
  · cases e
    exact ⟨⟨Nat.le_refl _, Nat.le_refl _⟩, fun G p l e R s m args below meth c n0 s0 Q hC _ _ _ _ _ _ k H locs ls hS hlo hl => lv_ishl hC.1 hC.2.1 hd (k H locs ls hS hlo hl)⟩
  · cases e

theorem r_ishr (hd : decode b pc = .ok (.ishr, 1)) : am_RF own nm b nL fr lo pc (i_ib (fun x y => x >>> (y &&& 31))) := by
  intro L st h f' e
  unfold i_ib at e
  dsimp only at e
  split at e
  · cases e
    exact ⟨⟨Nat.le_refl _, Nat.le_refl _⟩, fun G p l e R s m args below meth c n0 s0 Q hC _ _ _ _ _ _ k H locs ls hS hlo hl => lv_ishr hC.1 hC.2.1 hd (k H locs ls hS hlo hl)⟩
  · cases e

theorem r_iushr (hd : decode b pc = .ok (.iushr, 1)) : am_RF own nm b nL fr lo pc (i_ib (fun x y => (x.toUInt32 >>> (y.toUInt32 &&& Int32.toUInt32 31)).toInt32)) := by
  intro L st h f' e
  unfold i_ib at e
  dsimp only at e
  split at e
  · cases e
    exact ⟨⟨Nat.le_refl _, Nat.le_refl _⟩, fun G p l e R s m args below meth c n0 s0 Q hC _ _ _ _ _ _ k H locs ls hS hlo hl => lv_iushr hC.1 hC.2.1 hd rfl (k H locs ls hS hlo hl)⟩
  · cases e

def i_idv (g : Int32 → Int32 → Int32) : am_I := fun f => match f.2.2.1 with
  | .inl y :: .inl x :: st => if y = 0 then none else some (.inl (f.1 + 1, f.2.1, vi (g x y) :: st, f.2.2.2))
  | _ => none

theorem r_idiv (hd : decode b pc = .ok (.idiv, 1)) : am_RF own nm b nL fr lo pc (i_idv (fun x y => x / y)) := by
  intro L st h f' e
  unfold i_idv at e
  dsimp only at e
  split at e
  · split at e
    · cases e
    · rename_i hz
      cases e
      exact ⟨⟨Nat.le_refl _, Nat.le_refl _⟩, fun G p l e R s m args below meth c n0 s0 Q hC _ _ _ _ _ _ k H locs ls hS hlo hl => lv_idiv hC.1 hC.2.1 hd hz (k H locs ls hS hlo hl)⟩
  · cases e

theorem r_irem (hd : decode b pc = .ok (.irem, 1)) : am_RF own nm b nL fr lo pc (i_idv (fun x y => x - x / y * y)) := by
  intro L st h f' e
  unfold i_idv at e
  dsimp only at e
  split at e
  · split at e
    · cases e
    · rename_i hz
      cases e
      exact ⟨⟨Nat.le_refl _, Nat.le_refl _⟩, fun G p l e R s m args below meth c n0 s0 Q hC _ _ _ _ _ _ k H locs ls hS hlo hl => lv_irem hC.1 hC.2.1 hd hz (k H locs ls hS hlo hl)⟩
  · cases e

def i_iu (g : Int32 → Int32) : am_I := fun f => match f.2.2.1 with
  | .inl x :: st => some (.inl (f.1 + 1, f.2.1, vi (g x) :: st, f.2.2.2))
  | _ => none

theorem r_ineg (hd : decode b pc = .ok (.ineg, 1)) : am_RF own nm b nL fr lo pc (i_iu (fun x => -x)) := by
  intro L st h f' e
  unfold i_iu at e
  dsimp only at e
  split at e
  · cases e
    exact ⟨⟨Nat.le_refl _, Nat.le_refl _⟩, fun G p l e R s m args below meth c n0 s0 Q hC _ _ _ _ _ _ k H locs ls hS hlo hl => lv_ineg hC.1 hC.2.1 hd (k H locs ls hS hlo hl)⟩
  · cases e

theorem r_i2b (hd : decode b pc = .ok (.i2b, 1)) : am_RF own nm b nL fr lo pc (i_iu (fun x => x.toInt8.toInt32)) := by
  intro L st h f' e
  unfold i_iu at e
  dsimp only at e
  split at e
  · cases e
    exact ⟨⟨Nat.le_refl _, Nat.le_refl _⟩, fun G p l e R s m args below meth c n0 s0 Q hC _ _ _ _ _ _ k H locs ls hS hlo hl => lv_i2b hC.1 hC.2.1 hd rfl (k H locs ls hS hlo hl)⟩
  · cases e

theorem r_i2s (hd : decode b pc = .ok (.i2s, 1)) : am_RF own nm b nL fr lo pc (i_iu (fun x => x.toInt16.toInt32)) := by
  intro L st h f' e
  unfold i_iu at e
  dsimp only at e
  split at e
  · cases e
    exact ⟨⟨Nat.le_refl _, Nat.le_refl _⟩, fun G p l e R s m args below meth c n0 s0 Q hC _ _ _ _ _ _ k H locs ls hS hlo hl => lv_i2s hC.1 hC.2.1 hd rfl (k H locs ls hS hlo hl)⟩
  · cases e

def i_i2l : am_I := fun f => match f.2.2.1 with
  | .inl x :: st => some (.inl (f.1 + 1, f.2.1, vl x.toInt64 :: st, f.2.2.2))
  | _ => none

theorem r_i2l (hd : decode b pc = .ok (.i2l, 1)) : am_RF own nm b nL fr lo pc (i_i2l) := by
  intro L st h f' e
  unfold i_i2l at e
  dsimp only at e
  split at e
  · cases e
    exact ⟨⟨Nat.le_refl _, Nat.le_refl _⟩, fun G p l e R s m args below meth c n0 s0 Q hC _ _ _ _ _ _ k H locs ls hS hlo hl => lv_i2l hC.1 hC.2.1 hd rfl (k H locs ls hS hlo hl)⟩
  · cases e

def i_l2i : am_I := fun f => match f.2.2.1 with
  | .inr (.inl x) :: st => some (.inl (f.1 + 1, f.2.1, vi x.toInt32 :: st, f.2.2.2))
  | _ => none

theorem r_l2i (hd : decode b pc = .ok (.l2i, 1)) : am_RF own nm b nL fr lo pc (i_l2i) := by
  intro L st h f' e
  unfold i_l2i at e
  dsimp only at e
  split at e
  · cases e
    exact ⟨⟨Nat.le_refl _, Nat.le_refl _⟩, fun G p l e R s m args below meth c n0 s0 Q hC _ _ _ _ _ _ k H locs ls hS hlo hl => lv_l2i hC.1 hC.2.1 hd rfl (k H locs ls hS hlo hl)⟩
  · cases e

def i_lb (g : Int64 → Int64 → Int64) : am_I := fun f => match f.2.2.1 with
  | .inr (.inl y) :: .inr (.inl x) :: st => some (.inl (f.1 + 1, f.2.1, vl (g x y) :: st, f.2.2.2))
  | _ => none

theorem r_ladd (hd : decode b pc = .ok (.ladd, 1)) : am_RF own nm b nL fr lo pc (i_lb (fun x y => x + y)) := by
  intro L st h f' e
  unfold i_lb at e
  dsimp only at e
  split at e
  · cases e
    exact ⟨⟨Nat.le_refl _, Nat.le_refl _⟩, fun G p l e R s m args below meth c n0 s0 Q hC _ _ _ _ _ _ k H locs ls hS hlo hl => lv_ladd hC.1 hC.2.1 hd (k H locs ls hS hlo hl)⟩
  · cases e

theorem r_lsub (hd : decode b pc = .ok (.lsub, 1)) : am_RF own nm b nL fr lo pc (i_lb (fun x y => x - y)) := by
  intro L st h f' e
  unfold i_lb at e
  dsimp only at e
  split at e
  · cases e
    exact ⟨⟨Nat.le_refl _, Nat.le_refl _⟩, fun G p l e R s m args below meth c n0 s0 Q hC _ _ _ _ _ _ k H locs ls hS hlo hl => lv_lsub hC.1 hC.2.1 hd (k H locs ls hS hlo hl)⟩
  · cases e

theorem r_land (hd : decode b pc = .ok (.land, 1)) : am_RF own nm b nL fr lo pc (i_lb (fun x y => x &&& y)) := by
  intro L st h f' e
  unfold i_lb at e
  dsimp only at e
  split at e
  · cases e
    exact ⟨⟨Nat.le_refl _, Nat.le_refl _⟩, fun G p l e R s m args below meth c n0 s0 Q hC _ _ _ _ _ _ k H locs ls hS hlo hl => lv_land hC.1 hC.2.1 hd (k H locs ls hS hlo hl)⟩
  · cases e

theorem r_lor (hd : decode b pc = .ok (.lor, 1)) : am_RF own nm b nL fr lo pc (i_lb (fun x y => x ||| y)) := by
  intro L st h f' e
  unfold i_lb at e
  dsimp only at e
  split at e
  · cases e
    exact ⟨⟨Nat.le_refl _, Nat.le_refl _⟩, fun G p l e R s m args below meth c n0 s0 Q hC _ _ _ _ _ _ k H locs ls hS hlo hl => lv_lor hC.1 hC.2.1 hd (k H locs ls hS hlo hl)⟩
  · cases e

theorem r_lxor (hd : decode b pc = .ok (.lxor, 1)) : am_RF own nm b nL fr lo pc (i_lb (fun x y => x ^^^ y)) := by
  intro L st h f' e
  unfold i_lb at e
  dsimp only at e
  split at e
  · cases e
    exact ⟨⟨Nat.le_refl _, Nat.le_refl _⟩, fun G p l e R s m args below meth c n0 s0 Q hC _ _ _ _ _ _ k H locs ls hS hlo hl => lv_lxor hC.1 hC.2.1 hd (k H locs ls hS hlo hl)⟩
  · cases e

def i_lu (g : Int64 → Int64) : am_I := fun f => match f.2.2.1 with
  | .inr (.inl x) :: st => some (.inl (f.1 + 1, f.2.1, vl (g x) :: st, f.2.2.2))
  | _ => none

theorem r_lneg (hd : decode b pc = .ok (.lneg, 1)) : am_RF own nm b nL fr lo pc (i_lu (fun x => -x)) := by
  intro L st h f' e
  unfold i_lu at e
  dsimp only at e
  split at e
  · cases e
    exact ⟨⟨Nat.le_refl _, Nat.le_refl _⟩, fun G p l e R s m args below meth c n0 s0 Q hC _ _ _ _ _ _ k H locs ls hS hlo hl => lv_lneg hC.1 hC.2.1 hd (k H locs ls hS hlo hl)⟩
  · cases e

def i_lh (g : Int64 → Int32 → Int64) : am_I := fun f => match f.2.2.1 with
  | .inl y :: .inr (.inl x) :: st => some (.inl (f.1 + 1, f.2.1, vl (g x y) :: st, f.2.2.2))
  | _ => none

theorem r_lshl (hd : decode b pc = .ok (.lshl, 1)) : am_RF own nm b nL fr lo pc (i_lh (fun x y => x <<< (y.toInt64 &&& 63))) := by
  intro L st h f' e
  unfold i_lh at e
  dsimp only at e
  split at e
  · cases e
    exact ⟨⟨Nat.le_refl _, Nat.le_refl _⟩, fun G p l e R s m args below meth c n0 s0 Q hC _ _ _ _ _ _ k H locs ls hS hlo hl => lv_lshl hC.1 hC.2.1 hd rfl (k H locs ls hS hlo hl)⟩
  · cases e

theorem r_lshr (hd : decode b pc = .ok (.lshr, 1)) : am_RF own nm b nL fr lo pc (i_lh (fun x y => x >>> (y.toInt64 &&& 63))) := by
  intro L st h f' e
  unfold i_lh at e
  dsimp only at e
  split at e
  · cases e
    exact ⟨⟨Nat.le_refl _, Nat.le_refl _⟩, fun G p l e R s m args below meth c n0 s0 Q hC _ _ _ _ _ _ k H locs ls hS hlo hl => lv_lshr hC.1 hC.2.1 hd rfl (k H locs ls hS hlo hl)⟩
  · cases e

theorem r_lushr (hd : decode b pc = .ok (.lushr, 1)) : am_RF own nm b nL fr lo pc (i_lh (fun x y => (x.toUInt64 >>> (y.toInt64.toUInt64 &&& Int64.toUInt64 63)).toInt64)) := by
  intro L st h f' e
  unfold i_lh at e
  dsimp only at e
  split at e
  · cases e
    exact ⟨⟨Nat.le_refl _, Nat.le_refl _⟩, fun G p l e R s m args below meth c n0 s0 Q hC _ _ _ _ _ _ k H locs ls hS hlo hl => lv_lushr hC.1 hC.2.1 hd rfl (k H locs ls hS hlo hl)⟩
  · cases e

def i_lcmp : am_I := fun f => match f.2.2.1 with
  | .inr (.inl y) :: .inr (.inl x) :: st => some (.inl (f.1 + 1, f.2.1, vi (lg_cmp x y) :: st, f.2.2.2))
  | _ => none

theorem r_lcmp (hd : decode b pc = .ok (.lcmp, 1)) : am_RF own nm b nL fr lo pc (i_lcmp) := by
  intro L st h f' e
  unfold i_lcmp at e
  dsimp only at e
  split at e
  · cases e
    exact ⟨⟨Nat.le_refl _, Nat.le_refl _⟩, fun G p l e R s m args below meth c n0 s0 Q hC _ _ _ _ _ _ k H locs ls hS hlo hl => W.lcmp hC.1 hC.2.1 hd (k H locs ls hS hlo hl)⟩
  · cases e

theorem am_c1 {G : am_G} {v : am_V} (h : am_cat v = 1) : (am_cv G v).category = 1 := (am_cat_cv G v).trans h

def i_dup : am_I := fun f => match f.2.2.1 with
  | v :: st => if am_cat v = 1 then some (.inl (f.1 + 1, f.2.1, v :: v :: st, f.2.2.2)) else none
  | _ => none
theorem r_dup (hd : decode b pc = .ok (.dup, 1)) : am_RF own nm b nL fr lo pc i_dup := by
  intro L st h f' e
  unfold i_dup at e
  dsimp only at e
  split at e
  · split at e
    · rename_i hz
      cases e
      exact ⟨⟨Nat.le_refl _, Nat.le_refl _⟩, fun G p l e R s m args below meth c n0 s0 Q hC _ _ _ _ _ _ k H locs ls hS hlo hl => lv_dup hC.1 hC.2.1 hd (am_c1 hz) (k H locs ls hS hlo hl)⟩
    · cases e
  · cases e

def i_pop : am_I := fun f => match f.2.2.1 with
  | v :: st => if am_cat v = 1 then some (.inl (f.1 + 1, f.2.1, st, f.2.2.2)) else none
  | _ => none
theorem r_pop (hd : decode b pc = .ok (.pop, 1)) : am_RF own nm b nL fr lo pc i_pop := by
  intro L st h f' e
  unfold i_pop at e
  dsimp only at e
  split at e
  · split at e
    · rename_i hz
      cases e
      exact ⟨⟨Nat.le_refl _, Nat.le_refl _⟩, fun G p l e R s m args below meth c n0 s0 Q hC _ _ _ _ _ _ k H locs ls hS hlo hl => lv_pop hC.1 hC.2.1 hd (am_c1 hz) (k H locs ls hS hlo hl)⟩
    · cases e
  · cases e

def i_dx1 : am_I := fun f => match f.2.2.1 with
  | v :: w :: st => if am_cat v = 1 ∧ am_cat w = 1 then some (.inl (f.1 + 1, f.2.1, v :: w :: v :: st, f.2.2.2)) else none
  | _ => none
theorem r_dup_x1 (hd : decode b pc = .ok (.dup_x1, 1)) : am_RF own nm b nL fr lo pc i_dx1 := by
  intro L st h f' e
  unfold i_dx1 at e
  dsimp only at e
  split at e
  · split at e
    · rename_i hz
      cases e
      exact ⟨⟨Nat.le_refl _, Nat.le_refl _⟩, fun G p l e R s m args below meth c n0 s0 Q hC _ _ _ _ _ _ k H locs ls hS hlo hl => lv_dup_x1 hC.1 hC.2.1 hd (am_c1 hz.1) (am_c1 hz.2) (k H locs ls hS hlo hl)⟩
    · cases e
  · cases e

def i_dx2 : am_I := fun f => match f.2.2.1 with
  | v :: w :: u :: st => if am_cat v = 1 ∧ am_cat w = 1 ∧ am_cat u = 1 then some (.inl (f.1 + 1, f.2.1, v :: w :: u :: v :: st, f.2.2.2)) else none
  | _ => none
theorem r_dup_x2 (hd : decode b pc = .ok (.dup_x2, 1)) : am_RF own nm b nL fr lo pc i_dx2 := by
  intro L st h f' e
  unfold i_dx2 at e
  dsimp only at e
  split at e
  · split at e
    · rename_i hz
      cases e
      exact ⟨⟨Nat.le_refl _, Nat.le_refl _⟩, fun G p l e R s m args below meth c n0 s0 Q hC _ _ _ _ _ _ k H locs ls hS hlo hl => lv_dup_x2 hC.1 hC.2.1 hd (am_c1 hz.1) (am_c1 hz.2.1) (am_c1 hz.2.2) (k H locs ls hS hlo hl)⟩
    · cases e
  · cases e

def i_dup2 : am_I := fun f => match f.2.2.1 with
  | v :: w :: st => if am_cat v = 1 ∧ am_cat w = 1 then some (.inl (f.1 + 1, f.2.1, v :: w :: v :: w :: st, f.2.2.2)) else none
  | _ => none
theorem r_dup2 (hd : decode b pc = .ok (.dup2, 1)) : am_RF own nm b nL fr lo pc i_dup2 := by
  intro L st h f' e
  unfold i_dup2 at e
  dsimp only at e
  split at e
  · split at e
    · rename_i hz
      cases e
      exact ⟨⟨Nat.le_refl _, Nat.le_refl _⟩, fun G p l e R s m args below meth c n0 s0 Q hC _ _ _ _ _ _ k H locs ls hS hlo hl => lv_dup2_11 hC.1 hC.2.1 hd (am_c1 hz.1) (am_c1 hz.2) (k H locs ls hS hlo hl)⟩
    · cases e
  · cases e

def i_dup2L : am_I := fun f => match f.2.2.1 with
  | v :: st => if am_cat v = 2 then some (.inl (f.1 + 1, f.2.1, v :: v :: st, f.2.2.2)) else none
  | _ => none
theorem r_dup2L (hd : decode b pc = .ok (.dup2, 1)) : am_RF own nm b nL fr lo pc i_dup2L := by
  intro L st h f' e
  unfold i_dup2L at e
  dsimp only at e
  split at e
  · split at e
    · rename_i hz
      cases e
      exact ⟨⟨Nat.le_refl _, Nat.le_refl _⟩, fun G p l e R s m args below meth c n0 s0 Q hC _ _ _ _ _ _ k H locs ls hS hlo hl => lv_dup2_2 hC.1 hC.2.1 hd ((am_cat_cv G _).trans hz) (k H locs ls hS hlo hl)⟩
    · cases e
  · cases e

def i_if_eq (t : Nat) : am_I := fun f => match f.2.2.1 with
  | .inl x :: st => some (.inl (if x = 0 then (t, f.2.1, st, f.2.2.2) else (f.1 + 3, f.2.1, st, f.2.2.2)))
  | _ => none
theorem r_if_eq {off : Int} {t : Nat} (hd : decode b pc = .ok (.ifCond .eq off, 3)) (ht : (pc : Int) + off = (t : Int)) : am_RF own nm b nL fr lo pc (i_if_eq t) := by
  intro L st h f' e
  unfold i_if_eq at e
  dsimp only at e
  split at e
  · rename_i x st1 
    cases e
    by_cases hz : x = 0
    · rw [if_pos hz]
      exact ⟨⟨Nat.le_refl _, Nat.le_refl _⟩, fun G p l e R s m args below meth c n0 s0 Q hC _ _ _ _ _ _ k H locs ls hS hlo hl => lv_if_eq hC.1 hC.2.1 hd ht (fun _ => k H locs ls hS hlo hl) (fun z => absurd hz z)⟩
    · rw [if_neg hz]
      exact ⟨⟨Nat.le_refl _, Nat.le_refl _⟩, fun G p l e R s m args below meth c n0 s0 Q hC _ _ _ _ _ _ k H locs ls hS hlo hl => lv_if_eq hC.1 hC.2.1 hd ht (fun z => absurd z hz) (fun _ => k H locs ls hS hlo hl)⟩
  · cases e

def i_icmp_eq (t : Nat) : am_I := fun f => match f.2.2.1 with
  | .inl y :: .inl x :: st => some (.inl (if x = y then (t, f.2.1, st, f.2.2.2) else (f.1 + 3, f.2.1, st, f.2.2.2)))
  | _ => none
theorem r_icmp_eq {off : Int} {t : Nat} (hd : decode b pc = .ok (.if_icmp .eq off, 3)) (ht : (pc : Int) + off = (t : Int)) : am_RF own nm b nL fr lo pc (i_icmp_eq t) := by
  intro L st h f' e
  unfold i_icmp_eq at e
  dsimp only at e
  split at e
  · rename_i y x st1 
    cases e
    by_cases hz : x = y
    · rw [if_pos hz]
      exact ⟨⟨Nat.le_refl _, Nat.le_refl _⟩, fun G p l e R s m args below meth c n0 s0 Q hC _ _ _ _ _ _ k H locs ls hS hlo hl => lv_icmp_eq hC.1 hC.2.1 hd ht (fun _ => k H locs ls hS hlo hl) (fun z => absurd hz z)⟩
    · rw [if_neg hz]
      exact ⟨⟨Nat.le_refl _, Nat.le_refl _⟩, fun G p l e R s m args below meth c n0 s0 Q hC _ _ _ _ _ _ k H locs ls hS hlo hl => lv_icmp_eq hC.1 hC.2.1 hd ht (fun z => absurd z hz) (fun _ => k H locs ls hS hlo hl)⟩
  · cases e

def i_if_ne (t : Nat) : am_I := fun f => match f.2.2.1 with
  | .inl x :: st => some (.inl (if ¬ x = 0 then (t, f.2.1, st, f.2.2.2) else (f.1 + 3, f.2.1, st, f.2.2.2)))
  | _ => none
theorem r_if_ne {off : Int} {t : Nat} (hd : decode b pc = .ok (.ifCond .ne off, 3)) (ht : (pc : Int) + off = (t : Int)) : am_RF own nm b nL fr lo pc (i_if_ne t) := by
  intro L st h f' e
  unfold i_if_ne at e
  dsimp only at e
  split at e
  · rename_i x st1 
    cases e
    by_cases hz : ¬ x = 0
    · rw [if_pos hz]
      exact ⟨⟨Nat.le_refl _, Nat.le_refl _⟩, fun G p l e R s m args below meth c n0 s0 Q hC _ _ _ _ _ _ k H locs ls hS hlo hl => lv_if_ne hC.1 hC.2.1 hd ht (fun _ => k H locs ls hS hlo hl) (fun z => absurd z hz)⟩
    · rw [if_neg hz]
      exact ⟨⟨Nat.le_refl _, Nat.le_refl _⟩, fun G p l e R s m args below meth c n0 s0 Q hC _ _ _ _ _ _ k H locs ls hS hlo hl => lv_if_ne hC.1 hC.2.1 hd ht (fun z => absurd z hz) (fun _ => k H locs ls hS hlo hl)⟩
  · cases e

def i_icmp_ne (t : Nat) : am_I := fun f => match f.2.2.1 with
  | .inl y :: .inl x :: st => some (.inl (if ¬ x = y then (t, f.2.1, st, f.2.2.2) else (f.1 + 3, f.2.1, st, f.2.2.2)))
  | _ => none
theorem r_icmp_ne {off : Int} {t : Nat} (hd : decode b pc = .ok (.if_icmp .ne off, 3)) (ht : (pc : Int) + off = (t : Int)) : am_RF own nm b nL fr lo pc (i_icmp_ne t) := by
  intro L st h f' e
  unfold i_icmp_ne at e
  dsimp only at e
  split at e
  · rename_i y x st1 
    cases e
    by_cases hz : ¬ x = y
    · rw [if_pos hz]
      exact ⟨⟨Nat.le_refl _, Nat.le_refl _⟩, fun G p l e R s m args below meth c n0 s0 Q hC _ _ _ _ _ _ k H locs ls hS hlo hl => lv_icmp_ne hC.1 hC.2.1 hd ht (fun _ => k H locs ls hS hlo hl) (fun z => absurd z hz)⟩
    · rw [if_neg hz]
      exact ⟨⟨Nat.le_refl _, Nat.le_refl _⟩, fun G p l e R s m args below meth c n0 s0 Q hC _ _ _ _ _ _ k H locs ls hS hlo hl => lv_icmp_ne hC.1 hC.2.1 hd ht (fun z => absurd z hz) (fun _ => k H locs ls hS hlo hl)⟩
  · cases e

def i_if_lt (t : Nat) : am_I := fun f => match f.2.2.1 with
  | .inl x :: st => some (.inl (if x < 0 then (t, f.2.1, st, f.2.2.2) else (f.1 + 3, f.2.1, st, f.2.2.2)))
  | _ => none
theorem r_if_lt {off : Int} {t : Nat} (hd : decode b pc = .ok (.ifCond .lt off, 3)) (ht : (pc : Int) + off = (t : Int)) : am_RF own nm b nL fr lo pc (i_if_lt t) := by
  intro L st h f' e
  unfold i_if_lt at e
  dsimp only at e
  split at e
  · rename_i x st1 
    cases e
    by_cases hz : x < 0
    · rw [if_pos hz]
      exact ⟨⟨Nat.le_refl _, Nat.le_refl _⟩, fun G p l e R s m args below meth c n0 s0 Q hC _ _ _ _ _ _ k H locs ls hS hlo hl => lv_if_lt hC.1 hC.2.1 hd ht (fun _ => k H locs ls hS hlo hl) (fun z => absurd hz z)⟩
    · rw [if_neg hz]
      exact ⟨⟨Nat.le_refl _, Nat.le_refl _⟩, fun G p l e R s m args below meth c n0 s0 Q hC _ _ _ _ _ _ k H locs ls hS hlo hl => lv_if_lt hC.1 hC.2.1 hd ht (fun z => absurd z hz) (fun _ => k H locs ls hS hlo hl)⟩
  · cases e

def i_icmp_lt (t : Nat) : am_I := fun f => match f.2.2.1 with
  | .inl y :: .inl x :: st => some (.inl (if x < y then (t, f.2.1, st, f.2.2.2) else (f.1 + 3, f.2.1, st, f.2.2.2)))
  | _ => none
theorem r_icmp_lt {off : Int} {t : Nat} (hd : decode b pc = .ok (.if_icmp .lt off, 3)) (ht : (pc : Int) + off = (t : Int)) : am_RF own nm b nL fr lo pc (i_icmp_lt t) := by
  intro L st h f' e
  unfold i_icmp_lt at e
  dsimp only at e
  split at e
  · rename_i y x st1 
    cases e
    by_cases hz : x < y
    · rw [if_pos hz]
      exact ⟨⟨Nat.le_refl _, Nat.le_refl _⟩, fun G p l e R s m args below meth c n0 s0 Q hC _ _ _ _ _ _ k H locs ls hS hlo hl => lv_icmp_lt hC.1 hC.2.1 hd ht (fun _ => k H locs ls hS hlo hl) (fun z => absurd hz z)⟩
    · rw [if_neg hz]
      exact ⟨⟨Nat.le_refl _, Nat.le_refl _⟩, fun G p l e R s m args below meth c n0 s0 Q hC _ _ _ _ _ _ k H locs ls hS hlo hl => lv_icmp_lt hC.1 hC.2.1 hd ht (fun z => absurd z hz) (fun _ => k H locs ls hS hlo hl)⟩
  · cases e

def i_if_ge (t : Nat) : am_I := fun f => match f.2.2.1 with
  | .inl x :: st => some (.inl (if 0 ≤ x then (t, f.2.1, st, f.2.2.2) else (f.1 + 3, f.2.1, st, f.2.2.2)))
  | _ => none
theorem r_if_ge {off : Int} {t : Nat} (hd : decode b pc = .ok (.ifCond .ge off, 3)) (ht : (pc : Int) + off = (t : Int)) : am_RF own nm b nL fr lo pc (i_if_ge t) := by
  intro L st h f' e
  unfold i_if_ge at e
  dsimp only at e
  split at e
  · rename_i x st1 
    cases e
    by_cases hz : 0 ≤ x
    · rw [if_pos hz]
      exact ⟨⟨Nat.le_refl _, Nat.le_refl _⟩, fun G p l e R s m args below meth c n0 s0 Q hC _ _ _ _ _ _ k H locs ls hS hlo hl => lv_if_ge hC.1 hC.2.1 hd ht (fun _ => k H locs ls hS hlo hl) (fun z => absurd hz z)⟩
    · rw [if_neg hz]
      exact ⟨⟨Nat.le_refl _, Nat.le_refl _⟩, fun G p l e R s m args below meth c n0 s0 Q hC _ _ _ _ _ _ k H locs ls hS hlo hl => lv_if_ge hC.1 hC.2.1 hd ht (fun z => absurd z hz) (fun _ => k H locs ls hS hlo hl)⟩
  · cases e

def i_icmp_ge (t : Nat) : am_I := fun f => match f.2.2.1 with
  | .inl y :: .inl x :: st => some (.inl (if y ≤ x then (t, f.2.1, st, f.2.2.2) else (f.1 + 3, f.2.1, st, f.2.2.2)))
  | _ => none
theorem r_icmp_ge {off : Int} {t : Nat} (hd : decode b pc = .ok (.if_icmp .ge off, 3)) (ht : (pc : Int) + off = (t : Int)) : am_RF own nm b nL fr lo pc (i_icmp_ge t) := by
  intro L st h f' e
  unfold i_icmp_ge at e
  dsimp only at e
  split at e
  · rename_i y x st1 
    cases e
    by_cases hz : y ≤ x
    · rw [if_pos hz]
      exact ⟨⟨Nat.le_refl _, Nat.le_refl _⟩, fun G p l e R s m args below meth c n0 s0 Q hC _ _ _ _ _ _ k H locs ls hS hlo hl => lv_icmp_ge hC.1 hC.2.1 hd ht (fun _ => k H locs ls hS hlo hl) (fun z => absurd hz z)⟩
    · rw [if_neg hz]
      exact ⟨⟨Nat.le_refl _, Nat.le_refl _⟩, fun G p l e R s m args below meth c n0 s0 Q hC _ _ _ _ _ _ k H locs ls hS hlo hl => lv_icmp_ge hC.1 hC.2.1 hd ht (fun z => absurd z hz) (fun _ => k H locs ls hS hlo hl)⟩
  · cases e

def i_if_gt (t : Nat) : am_I := fun f => match f.2.2.1 with
  | .inl x :: st => some (.inl (if 0 < x then (t, f.2.1, st, f.2.2.2) else (f.1 + 3, f.2.1, st, f.2.2.2)))
  | _ => none
theorem r_if_gt {off : Int} {t : Nat} (hd : decode b pc = .ok (.ifCond .gt off, 3)) (ht : (pc : Int) + off = (t : Int)) : am_RF own nm b nL fr lo pc (i_if_gt t) := by
  intro L st h f' e
  unfold i_if_gt at e
  dsimp only at e
  split at e
  · rename_i x st1 
    cases e
    by_cases hz : 0 < x
    · rw [if_pos hz]
      exact ⟨⟨Nat.le_refl _, Nat.le_refl _⟩, fun G p l e R s m args below meth c n0 s0 Q hC _ _ _ _ _ _ k H locs ls hS hlo hl => lv_if_gt hC.1 hC.2.1 hd ht (fun _ => k H locs ls hS hlo hl) (fun z => absurd hz z)⟩
    · rw [if_neg hz]
      exact ⟨⟨Nat.le_refl _, Nat.le_refl _⟩, fun G p l e R s m args below meth c n0 s0 Q hC _ _ _ _ _ _ k H locs ls hS hlo hl => lv_if_gt hC.1 hC.2.1 hd ht (fun z => absurd z hz) (fun _ => k H locs ls hS hlo hl)⟩
  · cases e

def i_icmp_gt (t : Nat) : am_I := fun f => match f.2.2.1 with
  | .inl y :: .inl x :: st => some (.inl (if y < x then (t, f.2.1, st, f.2.2.2) else (f.1 + 3, f.2.1, st, f.2.2.2)))
  | _ => none
theorem r_icmp_gt {off : Int} {t : Nat} (hd : decode b pc = .ok (.if_icmp .gt off, 3)) (ht : (pc : Int) + off = (t : Int)) : am_RF own nm b nL fr lo pc (i_icmp_gt t) := by
  intro L st h f' e
  unfold i_icmp_gt at e
  dsimp only at e
  split at e
  · rename_i y x st1 
    cases e
    by_cases hz : y < x
    · rw [if_pos hz]
      exact ⟨⟨Nat.le_refl _, Nat.le_refl _⟩, fun G p l e R s m args below meth c n0 s0 Q hC _ _ _ _ _ _ k H locs ls hS hlo hl => lv_icmp_gt hC.1 hC.2.1 hd ht (fun _ => k H locs ls hS hlo hl) (fun z => absurd hz z)⟩
    · rw [if_neg hz]
      exact ⟨⟨Nat.le_refl _, Nat.le_refl _⟩, fun G p l e R s m args below meth c n0 s0 Q hC _ _ _ _ _ _ k H locs ls hS hlo hl => lv_icmp_gt hC.1 hC.2.1 hd ht (fun z => absurd z hz) (fun _ => k H locs ls hS hlo hl)⟩
  · cases e

def i_if_le (t : Nat) : am_I := fun f => match f.2.2.1 with
  | .inl x :: st => some (.inl (if x ≤ 0 then (t, f.2.1, st, f.2.2.2) else (f.1 + 3, f.2.1, st, f.2.2.2)))
  | _ => none
theorem r_if_le {off : Int} {t : Nat} (hd : decode b pc = .ok (.ifCond .le off, 3)) (ht : (pc : Int) + off = (t : Int)) : am_RF own nm b nL fr lo pc (i_if_le t) := by
  intro L st h f' e
  unfold i_if_le at e
  dsimp only at e
  split at e
  · rename_i x st1 
    cases e
    by_cases hz : x ≤ 0
    · rw [if_pos hz]
      exact ⟨⟨Nat.le_refl _, Nat.le_refl _⟩, fun G p l e R s m args below meth c n0 s0 Q hC _ _ _ _ _ _ k H locs ls hS hlo hl => lv_if_le hC.1 hC.2.1 hd ht (fun _ => k H locs ls hS hlo hl) (fun z => absurd hz z)⟩
    · rw [if_neg hz]
      exact ⟨⟨Nat.le_refl _, Nat.le_refl _⟩, fun G p l e R s m args below meth c n0 s0 Q hC _ _ _ _ _ _ k H locs ls hS hlo hl => lv_if_le hC.1 hC.2.1 hd ht (fun z => absurd z hz) (fun _ => k H locs ls hS hlo hl)⟩
  · cases e

def i_icmp_le (t : Nat) : am_I := fun f => match f.2.2.1 with
  | .inl y :: .inl x :: st => some (.inl (if x ≤ y then (t, f.2.1, st, f.2.2.2) else (f.1 + 3, f.2.1, st, f.2.2.2)))
  | _ => none
theorem r_icmp_le {off : Int} {t : Nat} (hd : decode b pc = .ok (.if_icmp .le off, 3)) (ht : (pc : Int) + off = (t : Int)) : am_RF own nm b nL fr lo pc (i_icmp_le t) := by
  intro L st h f' e
  unfold i_icmp_le at e
  dsimp only at e
  split at e
  · rename_i y x st1 
    cases e
    by_cases hz : x ≤ y
    · rw [if_pos hz]
      exact ⟨⟨Nat.le_refl _, Nat.le_refl _⟩, fun G p l e R s m args below meth c n0 s0 Q hC _ _ _ _ _ _ k H locs ls hS hlo hl => lv_icmp_le hC.1 hC.2.1 hd ht (fun _ => k H locs ls hS hlo hl) (fun z => absurd hz z)⟩
    · rw [if_neg hz]
      exact ⟨⟨Nat.le_refl _, Nat.le_refl _⟩, fun G p l e R s m args below meth c n0 s0 Q hC _ _ _ _ _ _ k H locs ls hS hlo hl => lv_icmp_le hC.1 hC.2.1 hd ht (fun z => absurd z hz) (fun _ => k H locs ls hS hlo hl)⟩
  · cases e

def i_goto (t : Nat) : am_I := fun f => some (.inl (t, f.2.1, f.2.2.1, f.2.2.2))
theorem r_goto {off : Int} {t : Nat} (hd : decode b pc = .ok (.goto off, 3)) (ht : (pc : Int) + off = (t : Int)) : am_RF own nm b nL fr lo pc (i_goto t) := by
  intro L st h f' e; cases e
  exact ⟨⟨Nat.le_refl _, Nat.le_refl _⟩, fun G p l e R s m args below meth c n0 s0 Q hC _ _ _ _ _ _ k H locs ls hS hlo hl => lv_goto hC.1 hC.2.1 hd ht (k H locs ls hS hlo hl)⟩
def i_ifnull (t : Nat) : am_I := fun f => match f.2.2.1 with
  | .inr (.inr x) :: st => some (.inl (if x = none then (t, f.2.1, st, f.2.2.2) else (f.1 + 3, f.2.1, st, f.2.2.2)))
  | _ => none
def i_ifnn (t : Nat) : am_I := fun f => match f.2.2.1 with
  | .inr (.inr x) :: st => some (.inl (if x = none then (f.1 + 3, f.2.1, st, f.2.2.2) else (t, f.2.1, st, f.2.2.2)))
  | _ => none
theorem r_ifnull {off : Int} {t : Nat} (hd : decode b pc = .ok (.ifnull off, 3)) (ht : (pc : Int) + off = (t : Int)) : am_RF own nm b nL fr lo pc (i_ifnull t) := by
  intro L st h f' e
  unfold i_ifnull at e
  dsimp only at e
  split at e
  · rename_i x st1
    cases e
    cases x with
    | none => exact ⟨⟨Nat.le_refl _, Nat.le_refl _⟩, fun G p l e R s m args below meth c n0 s0 Q hC _ _ _ _ _ _ k H locs ls hS hlo hl => lv_ifnullN hC.1 hC.2.1 hd ht (k H locs ls hS hlo hl)⟩
    | some a => exact ⟨⟨Nat.le_refl _, Nat.le_refl _⟩, fun G p l e R s m args below meth c n0 s0 Q hC _ _ _ _ _ _ k H locs ls hS hlo hl => lv_ifnull hC.1 hC.2.1 hd (k H locs ls hS hlo hl)⟩
  · cases e
theorem r_ifnn {off : Int} {t : Nat} (hd : decode b pc = .ok (.ifnonnull off, 3)) (ht : (pc : Int) + off = (t : Int)) : am_RF own nm b nL fr lo pc (i_ifnn t) := by
  intro L st h f' e
  unfold i_ifnn at e
  dsimp only at e
  split at e
  · rename_i x st1
    cases e
    cases x with
    | none => exact ⟨⟨Nat.le_refl _, Nat.le_refl _⟩, fun G p l e R s m args below meth c n0 s0 Q hC _ _ _ _ _ _ k H locs ls hS hlo hl => lv_ifnonnullN hC.1 hC.2.1 hd (k H locs ls hS hlo hl)⟩
    | some a => exact ⟨⟨Nat.le_refl _, Nat.le_refl _⟩, fun G p l e R s m args below meth c n0 s0 Q hC _ _ _ _ _ _ k H locs ls hS hlo hl => lv_ifnonnull hC.1 hC.2.1 hd ht (k H locs ls hS hlo hl)⟩
  · cases e
/-- a switch from lo0 on -/
def am_tg (lo0 : Int) (ts : List Nat) (d : Nat) (x : Int32) : Nat := if x.toInt < lo0 then d else (ts[(x.toInt - lo0).toNat]?).getD d
def i_tsw (lo0 : Int) (ts : List Nat) (d : Nat) : am_I := fun f => match f.2.2.1 with
  | .inl x :: st => some (.inl (am_tg lo0 ts d x, f.2.1, st, f.2.2.2))
  | _ => none
theorem r_tsw {dflt lo0 hi : Int} {offs : Array Int} {len d : Nat} {ts : List Nat} (hd : decode b pc = .ok (.tableswitch dflt lo0 hi offs, len)) (h1 : (pc : Int) + dflt = (d : Int)) (h2 : offs.toList.map (fun o => (pc : Int) + o) = ts.map (fun (t : Nat) => (t : Int))) (h3 : lo0 + (ts.length : Int) = hi + 1) : am_RF own nm b nL fr lo pc (i_tsw lo0 ts d) := by
  intro L st h f' e
  unfold i_tsw at e
  dsimp only at e
  split at e
  · rename_i x st1
    cases e
    refine ⟨⟨Nat.le_refl _, Nat.le_refl _⟩, fun G p l e R s m args below meth c n0 s0 Q hC _ _ _ _ _ _ k H locs ls hS hlo hl => ?_⟩
    have k := k H locs ls hS hlo hl
    dsimp only at k
    by_cases c1 : x.toInt < lo0
    · have e1 : am_tg lo0 ts d x = d := if_pos c1
      rw [e1] at k
      exact lv_tableOut hC.1 hC.2.1 hd (Or.inl c1) h1 k
    · by_cases c2 : hi < x.toInt
      · have e1 : am_tg lo0 ts d x = d := by
          unfold am_tg
          rw [if_neg c1, List.getElem?_eq_none (by omega)]
          rfl
        rw [e1] at k
        exact lv_tableOut hC.1 hC.2.1 hd (Or.inr c2) h1 k
      · have hlt : (x.toInt - lo0).toNat < ts.length := by omega
        have e1 : am_tg lo0 ts d x = ts[(x.toInt - lo0).toNat] := by
          unfold am_tg
          rw [if_neg c1, List.getElem?_eq_getElem hlt]
          rfl
        rw [e1] at k
        have e2 : (offs.toList.map (fun o => (pc : Int) + o))[(x.toInt - lo0).toNat]? = some ((ts[(x.toInt - lo0).toNat] : Nat) : Int) := by
          rw [h2, List.getElem?_map, List.getElem?_eq_getElem hlt]
          rfl
        rw [List.getElem?_map, Array.getElem?_toList] at e2
        cases e3 : offs[(x.toInt - lo0).toNat]? with
        | none => rw [e3] at e2; cases e2
        | some off =>
          rw [e3] at e2
          exact lv_tableIn hC.1 hC.2.1 hd c1 c2 e3 (Option.some.inj e2) k
  · cases e
end AMR2
