/-! the class's room -/
theorem bl_i64 (f : Nat → Bool) (k : Nat) (hk : k < 64) : bl ((sb f 24).toInt64) k = (decide (k < 24) && f k) := by
  have m : ∀ j, j < 32 → (sb f 24).toBitVec.getLsbD j = (decide (j < 24) && f j) := fun j hj => bt_sb (f := f) 24 (by omega) j hj
  unfold bl
  rw [Int32.toBitVec_toInt64, BitVec.getLsbD_signExtend, decide_eq_true hk, Bool.true_and]
  by_cases z : k < 32
  · rw [if_pos z, m k z]
  · rw [if_neg z, BitVec.msb_eq_getLsbD_last, m 31 (by omega), decide_eq_false (show ¬ 31 < 24 by omega), decide_eq_false (show ¬ k < 24 by omega)]; rfl
/-- the doors as they are opened -/
def ad0 (B : Nat → Bool) (A : Nat → Nat → Bool) (T u v : Nat) : Bool := if u < 24 then (!(u == T) && (v == 24 + u)) else if u < 48 then (decide (v < 24) && A (u - 24) v) else (decide (v < 24) && B v)
section RMO
def ROK (h : am_H) (B : Nat → Bool) (A : Nat → Nat → Bool) (T i : Nat) : Prop := ∀ u, u < 49 → (u < 24 ∧ u < i ∨ 24 ≤ u ∧ u < 24 + i ∨ u = 48) → ∀ k, k < 64 → bl (hL h 256 u) k = (decide (k < 49) && ad0 B A T u k)
theorem hLe {h : am_H} {a j : Nat} {v : Int64} : hL (pL h a j v) a j = v := by rw [hL_pL, if_pos ⟨rfl, rfl⟩]
theorem L179 {B : Nat → Bool} {A : Nat → Nat → Bool} {T : Nat} : ∀ m {h : am_H} i, i + m = 24 → T < 24 → Sh h → hI h 254 0 = ni T → (∀ x, x < 24 → hI h 255 x = sb (A x) 24) → ROK h B A T i → ∃ h1, am_E 179 (14, [some (vr (some 254)), some (vi (ni i))], [], h) = some (none, h1) ∧ Kg (fun a _ => a = 256) h h1 ∧ RB h1 (ad0 B A T) := by
  intro m
  induction m with
  | zero =>
    intro h i hi hT hs h254 hA r
    have e : i = 24 := by omega
    subst e
    refine ⟨h, ?_, Kg_refl h, fun u hu k hk => r u hu (by omega) k hk⟩
    rw [e_179_14 hs, if_pos (show (24 : Int32) ≤ ni 24 by decide)]
  | succ m ih =>
    intro h i hi hT hs h254 hA r
    have i24 : i < 24 := by omega
    have fin : ∀ x : Int64, (∀ k, k < 64 → bl x k = (decide (k < 49) && ad0 B A T i k)) → am_E 179 (14, [some (vr (some 254)), some (vi (ni i))], [], h) = am_E 179 (43, [some (vr (some 254)), some (vi (ni i))], [vl x, vi (ni i), vr (some 256)], h) → ∃ h1, am_E 179 (14, [some (vr (some 254)), some (vi (ni i))], [], h) = some (none, h1) ∧ Kg (fun a _ => a = 256) h h1 ∧ RB h1 (ad0 B A T) := fun x hx e => by
      have e255 : hI (pL h 256 i x) 255 i = sb (A i) 24 := hA i i24
      have hs1 : Sh (pL (pL h 256 i x) 256 (24 + i) ((sb (A i) 24).toInt64)) := hs
      obtain ⟨h1, d, k, g⟩ := ih (h := pL (pL h 256 i x) 256 (24 + i) ((sb (A i) 24).toInt64)) (i + 1) (by omega) hT hs1 h254 hA (fun u hu hc k hk => by
        rw [hL_pL, hL_pL]
        by_cases y1 : u = 24 + i
        · subst y1
          rw [if_pos ⟨rfl, rfl⟩, bl_i64 _ k hk]
          unfold ad0
          rw [if_neg (by omega), if_pos (by omega), show 24 + i - 24 = i by omega]
          by_cases w : k < 24
          · rw [decide_eq_true w, decide_eq_true (show k < 49 by omega)]; rfl
          · rw [decide_eq_false w]; cases decide (k < 49) <;> rfl
        · rw [if_neg (fun z => y1 z.2)]
          by_cases y2 : u = i
          · subst y2
            rw [if_pos ⟨rfl, rfl⟩]
            exact hx k hk
          · rw [if_neg (fun z => y2 z.2)]
            exact r u hu (by omega) k hk)
      refine ⟨h1, ?_, Kg_trans (Kg_pL rfl (Kg_pL rfl (Kg_refl h))) k, g⟩
      rw [e, e_179_43 hs, ixb _ (show i < 49 by omega) (by omega), ixb _ i24 (by omega), show (24 : Int32) + ni i = ni (24 + i) by rw [show (24 : Int32) = ni 24 from rfl, ni_add], ixb _ (show 24 + i < 49 by omega) (by omega), e255, ni_add1]
      exact d
    have b0 := e_179_14 (x1 := ni i) hs
    rw [if_neg (show ¬ (24 : Int32) ≤ ni i by rw [show (24 : Int32) = ni 24 from rfl, ni_le (by omega) (by omega)]; omega), h254, show (24 : Int32) + ni i = ni (24 + i) by rw [show (24 : Int32) = ni 24 from rfl, ni_add]] at b0
    by_cases z : i = T
    · rw [if_pos (show ni i = ni T by rw [z])] at b0
      refine fin 0 (fun k hk => ?_) b0
      rw [bl_0]
      unfold ad0
      rw [if_pos i24, beq_iff_eq.mpr z]
      cases decide (k < 49) <;> rfl
    · rw [if_neg (show ¬ ni i = ni T by rw [ni_eq (by omega) (by omega)]; exact z)] at b0
      refine fin _ (fun k hk => ?_) b0
      rw [bl_one (24 + i) (by omega) k hk]
      unfold ad0
      rw [if_pos i24, beq_eq_false_iff_ne.mpr z]
      by_cases w : k = 24 + i
      · rw [decide_eq_true w, beq_iff_eq.mpr w, decide_eq_true (show k < 49 by omega)]; rfl
      · rw [decide_eq_false w, beq_eq_false_iff_ne.mpr w, Bool.and_false, Bool.and_false]
theorem D179 {h : am_H} {B : Nat → Bool} {A : Nat → Nat → Bool} {T : Nat} (hT : T < 24) (hs : Sh h) (h0 : hI h 254 0 = ni T) (h1 : hI h 254 1 = sb B 24) (hA : ∀ x, x < 24 → hI h 255 x = sb (A x) 24) : ∃ h2, am_D 179 [vr (some 254)] h = some (none, h2) ∧ Kg (fun a _ => a = 256) h h2 ∧ RB h2 (ad0 B A T) := by
  have hs1 : Sh (pL h 256 48 ((sb B 24).toInt64)) := hs
  obtain ⟨h2, d, k, g⟩ := L179 (B := B) (A := A) (T := T) 24 (h := pL h 256 48 ((sb B 24).toInt64)) 0 (by omega) hT hs1 h0 hA (fun u hu hc k hk => by
    have e : u = 48 := by omega
    subst e
    rw [hLe, bl_i64 _ k hk]
    unfold ad0
    rw [if_neg (by omega), if_neg (by omega)]
    by_cases w : k < 24
    · rw [decide_eq_true w, decide_eq_true (show k < 49 by omega)]; rfl
    · rw [decide_eq_false w]; cases decide (k < 49) <;> rfl)
  refine ⟨h2, ?_, Kg_trans (Kg_pL rfl (Kg_refl h)) k, g⟩
  rw [d_179 hs, h1]
  exact d
end RMO
