/-! the class's way through the doors -/
def adP (adj : Nat → Nat → Bool) (u v a b : Nat) : Bool := if a = v ∧ b = u then true else if (u < 24 ∨ v = u - 24) ∧ a = u ∧ b = v then false else adj a b
theorem D182 {h : am_H} (hs : Sh h) {adj : Nat → Nat → Bool} (r : RB h adj) {u v : Nat} (hu : u < 49) (hv : v < 49) (ne : u ≠ v) : ∃ h1, am_D 182 [vr (some 254), vi (ni u), vi (ni v)] h = some (none, h1) ∧ Kg (fun a _ => a = 256) h h1 ∧ RB h1 (adP adj u v) := by
  -- the second half
  have two : ∀ {h2 : am_H} {ad : Nat → Nat → Bool}, Sh h2 → RB h2 ad → ∃ h1, am_E 182 (30, [some (vr (some 254)), some (vi (ni u)), some (vi (ni v))], [], h2) = some (none, h1) ∧ Kg (fun a _ => a = 256) h2 h1 ∧ RB h1 (fun a b => if a = v ∧ b = u then true else ad a b) := fun {h2 ad} hs2 r2 => by
    refine ⟨pL h2 256 v (hL h2 256 v ||| ((1 : Int64) <<< ((ni u).toInt64 &&& 63))), ?_, Kg_pL rfl (Kg_refl h2), fun a ha k hk => ?_⟩
    · rw [e_182_30 hs2, ixb _ hv (by omega), ixb _ hv (by omega)]
    · rw [hL_pL]
      show _ = (decide (k < 49) && (if a = v ∧ k = u then true else ad a k))
      by_cases y : a = v
      · rw [if_pos ⟨rfl, y⟩, bl_or, r2 v hv k hk, bl_one u (by omega) k hk, y]
        by_cases z : k = u
        · rw [if_pos ⟨rfl, z⟩, decide_eq_true z, decide_eq_true (show k < 49 by omega), Bool.or_true]; rfl
        · rw [if_neg (fun w => z w.2), decide_eq_false z, Bool.or_false]
      · rw [if_neg (fun w => y w.2), if_neg (fun w => y w.1)]
        exact r2 a ha k hk
  have d0 := d_182 (x1 := ni u) (x2 := ni v) hs
  by_cases c : u < 24 ∨ v = u - 24
  · have hs1 : Sh (pL h 256 u (hL h 256 u &&& (((1 : Int64) <<< ((ni v).toInt64 &&& 63)) ^^^ (-1)))) := hs
    have r1 : RB (pL h 256 u (hL h 256 u &&& (((1 : Int64) <<< ((ni v).toInt64 &&& 63)) ^^^ (-1)))) (fun a b => if a = u ∧ b = v then false else adj a b) := fun a ha k hk => by
      rw [hL_pL]
      show _ = (decide (k < 49) && (if a = u ∧ k = v then false else adj a k))
      by_cases y : a = u
      · rw [if_pos ⟨rfl, y⟩, bl_and, bl_not _ hk, r u hu k hk, bl_one v (by omega) k hk, y]
        by_cases z : k = v
        · rw [if_pos ⟨rfl, z⟩, decide_eq_true z, Bool.not_true, Bool.and_false, Bool.and_false]
        · rw [if_neg (fun w => z w.2), decide_eq_false z, Bool.not_false, Bool.and_true]
      · rw [if_neg (fun w => y w.2), if_neg (fun w => y w.1)]
        exact r a ha k hk
    obtain ⟨h1, d, k, g⟩ := two hs1 r1
    refine ⟨h1, ?_, Kg_trans (Kg_pL rfl (Kg_refl h)) k, fun a ha j hj => ?_⟩
    · have e14 : am_E 182 (14, [some (vr (some 254)), some (vi (ni u)), some (vi (ni v))], [], h) = some (none, h1) := by
        rw [e_182_14 hs, ixb _ hu (by omega), ixb _ hu (by omega)]
        exact d
      rw [d0]
      by_cases c1 : u < 24
      · rw [if_pos (show ni u < 24 by rw [show (24 : Int32) = ni 24 from rfl, ni_lt (by omega) (by omega)]; exact c1)]
        exact e14
      · rw [if_neg (show ¬ ni u < 24 by rw [show (24 : Int32) = ni 24 from rfl, ni_lt (by omega) (by omega)]; exact c1), if_pos (show ni v = ni u - 24 by rw [show (24 : Int32) = ni 24 from rfl, ni_sub (by omega)]; congr 1; omega)]
        exact e14
    · rw [g a ha j hj]
      unfold adP
      show (decide (j < 49) && (if a = v ∧ j = u then true else if a = u ∧ j = v then false else adj a j)) = _
      by_cases y : a = v ∧ j = u
      · rw [if_pos y, if_pos y]
      · rw [if_neg y, if_neg y]
        by_cases z : a = u ∧ j = v
        · rw [if_pos z, if_pos ⟨c, z.1, z.2⟩]
        · rw [if_neg z, if_neg (fun w => z w.2)]
  · obtain ⟨h1, d, k, g⟩ := two hs r
    refine ⟨h1, ?_, k, fun a ha j hj => ?_⟩
    · rw [d0, if_neg (show ¬ ni u < 24 by rw [show (24 : Int32) = ni 24 from rfl, ni_lt (by omega) (by omega)]; omega), if_neg (show ¬ ni v = ni u - 24 by rw [show (24 : Int32) = ni 24 from rfl, ni_sub (by omega), ni_eq (by omega) (by omega)]; omega)]
      exact d
    · rw [g a ha j hj]
      unfold adP
      show (decide (j < 49) && (if a = v ∧ j = u then true else adj a j)) = _
      by_cases y : a = v ∧ j = u
      · rw [if_pos y, if_pos y]
      · rw [if_neg y, if_neg y, if_neg (fun w => c w.1)]
/-- back along the ways in, from x -/
def adT (par : Nat → Nat) : Nat → (Nat → Nat → Bool) → Nat → (Nat → Nat → Bool)
  | 0, p, _ => p
  | n + 1, p, x => if x = 48 then p else adT par n (adP p (par x) x) (par x)
theorem adT_s {par : Nat → Nat} {n x : Nat} {p : Nat → Nat → Bool} : adT par (n + 1) p x = if x = 48 then p else adT par n (adP p (par x) x) (par x) := rfl
theorem L183 {adj0 : Nat → Nat → Bool} {par rk : Nat → Nat} {sn : Nat → Bool} (t : Tree (fun x => sn x = true) par rk (adN adj0)) : ∀ m {h : am_H} {adj : Nat → Nat → Bool} i x, i + m = 49 → sn x = true → (x = 48 ∨ rk x ≤ m) → x < 49 → Sh h → RB h adj → (∀ y, y < 49 → sn y = true → y ≠ 48 → hI h 257 y = ni (par y)) → ∃ h1, am_E 183 (7, [some (vr (some 254)), some (vi (ni x)), some (vi (ni i))], [], h) = some (none, h1) ∧ Kg (fun a _ => a = 256) h h1 ∧ RB h1 (adT par m adj x) := by
  intro m
  induction m with
  | zero =>
    intro h adj i x hi sx hr x49 hs r g
    have e : i = 49 := by omega
    subst e
    refine ⟨h, ?_, Kg_refl h, r⟩
    rw [e_183_7 hs, if_pos (show (49 : Int32) ≤ ni 49 by decide)]
  | succ m ih =>
    intro h adj i x hi sx hr x49 hs r g
    have b0 := e_183_7 (x1 := ni x) (x2 := ni i) hs
    rw [if_neg (show ¬ (49 : Int32) ≤ ni i by rw [show (49 : Int32) = ni 49 from rfl, ni_le (by omega) (by omega)]; omega)] at b0
    by_cases e : x = 48
    · rw [if_pos (show ni x = 48 by rw [e]; rfl)] at b0
      refine ⟨h, b0, Kg_refl h, ?_⟩
      rw [adT_s, if_pos e]; exact r
    · obtain ⟨t1, t2, t3, t4, t5⟩ := t x sx e
      have t2' : sn (par x) = true := t2
      have ne : par x ≠ x := fun y => by rw [y] at t4; omega
      obtain ⟨h2, d2, k2, r2⟩ := D182 hs r t3 x49 ne
      have hs2 := Kg_Sh k2 hs
      have q : ∀ y, y < 49 → sn y = true → y ≠ 48 → hI h2 257 y = ni (par y) := fun y hy sy n => by
        rw [k2.2.2.2.2.1 257 y (by omega)]; exact g y hy sy n
      obtain ⟨h1, d1, k1, r1⟩ := ih (h := h2) (i + 1) (par x) (by omega) t2' (by omega) t3 hs2 r2 q
      refine ⟨h1, ?_, Kg_trans k2 k1, ?_⟩
      · rw [if_neg (show ¬ ni x = 48 by rw [show (48 : Int32) = ni 48 from rfl, ni_eq (by omega) (by omega)]; exact e), ixb _ x49 (by omega), g x x49 sx e, d2] at b0
        simp only [Option.bind_some, Option.toList_none, List.nil_append] at b0
        rw [b0, e_183_30 hs2, ixb _ x49 (by omega), q x x49 sx e, ni_add1]
        exact d1
      · rw [adT_s, if_neg e]; exact r1
theorem D183 {h : am_H} {adj : Nat → Nat → Bool} {par rk : Nat → Nat} {sn : Nat → Bool} {T : Nat} (hT : T < 24) (t : Tree (fun x => sn x = true) par rk (adN adj)) (sT : sn T = true) (rT : rk T ≤ 49) (hs : Sh h) (r : RB h adj) (h0 : hI h 254 0 = ni T) (g : ∀ y, y < 49 → sn y = true → y ≠ 48 → hI h 257 y = ni (par y)) : ∃ h1, am_D 183 [vr (some 254)] h = some (none, h1) ∧ Kg (fun a _ => a = 256) h h1 ∧ RB h1 (adT par 49 adj T) := by
  obtain ⟨h1, d, k, r1⟩ := L183 t 49 (h := h) (adj := adj) 0 T (by omega) sT (Or.inr rT) (by omega) hs r g
  refine ⟨h1, ?_, k, r1⟩
  rw [d_183 hs, h0]
  exact d
