/-! the lowest bit of a long -/
def bcL (x : Int64) : Int32 :=
  let b1 := x - (((x.toUInt64 >>> ((1 : Int32).toInt64.toUInt64 &&& Int64.toUInt64 63)).toInt64) &&& 6148914691236517205)
  let b2 := (b1 &&& 3689348814741910323) + (((b1.toUInt64 >>> ((2 : Int32).toInt64.toUInt64 &&& Int64.toUInt64 63)).toInt64) &&& 3689348814741910323)
  let b3 := (b2 + ((b2.toUInt64 >>> ((4 : Int32).toInt64.toUInt64 &&& Int64.toUInt64 63)).toInt64)) &&& 1085102592571150095
  let b4 := b3 + ((b3.toUInt64 >>> ((8 : Int32).toInt64.toUInt64 &&& Int64.toUInt64 63)).toInt64)
  let b5 := b4 + ((b4.toUInt64 >>> ((16 : Int32).toInt64.toUInt64 &&& Int64.toUInt64 63)).toInt64)
  let b6 := b5 + ((b5.toUInt64 >>> ((32 : Int32).toInt64.toUInt64 &&& Int64.toUInt64 63)).toInt64)
  b6.toInt32 &&& 127
theorem D180 {h : am_H} (hs : Sh h) (x : Int64) : am_D 180 [vl x] h = some (some (vi (bcL x)), h) := by
  rw [d_180 hs, e_180_10 hs, e_180_24 hs, e_180_34 hs, e_180_41 hs, e_180_48 hs, e_180_55 hs]; rfl
theorem bcL_low : ∀ n, n < 49 → bcL (((1 : Int64) <<< ((ni n).toInt64 &&& 63)) - 1) = ni n := by decide +kernel
theorem bl_neg (x : Int64) {i : Nat} (hi : bl x i = true) (lo : ∀ j, j < i → bl x j = false) (k : Nat) (hk : k < 64) : bl (-x) k = if k ≤ i then bl x k else !bl x k := by
  unfold bl at *
  rw [Int64.toBitVec_neg, BitVec.getLsbD_neg, decide_eq_true hk, Bool.true_and]
  by_cases z : k ≤ i
  · rw [if_pos z, decide_eq_false (fun ⟨j, hj, y⟩ => by rw [lo j (by omega)] at y; cases y), Bool.xor_false]
  · rw [if_neg z, decide_eq_true ⟨i, by omega, hi⟩, Bool.xor_true]
theorem bl_lows (x : Int64) {i : Nat} (h49 : i < 49) (hi : bl x i = true) (lo : ∀ j, j < i → bl x j = false) : (x &&& (-x)) = (1 : Int64) <<< ((ni i).toInt64 &&& 63) := bl_ext fun k hk => by
  rw [bl_and, bl_neg x hi lo k hk, bl_one i (by omega) k hk]
  by_cases z : k ≤ i
  · rw [if_pos z, Bool.and_self]
    by_cases y : k = i
    · rw [y, hi, decide_eq_true rfl]
    · rw [lo k (by omega), decide_eq_false y]
  · rw [if_neg z, decide_eq_false (by omega)]
    cases bl x k <;> rfl
theorem sub1_not (x : Int64) : x - 1 = (-x) ^^^ (-1) := bl_ext fun k hk => by
  rw [bl_xor, bl_m1 k hk]
  unfold bl
  rw [Int64.toBitVec_sub, Int64.toBitVec_neg, Bool.xor_true]
  have e : x.toBitVec - (1 : Int64).toBitVec = ~~~(-x.toBitVec) := by
    rw [BitVec.not_neg]; rfl
  rw [e, BitVec.getLsbD_not, decide_eq_true hk, Bool.true_and]
theorem bl_drop (x : Int64) {i : Nat} (hi : bl x i = true) (lo : ∀ j, j < i → bl x j = false) (k : Nat) (hk : k < 64) : bl (x &&& (x - 1)) k = (bl x k && !(k == i)) := by
  rw [bl_and, sub1_not, bl_xor, bl_m1 k hk, bl_neg x hi lo k hk]
  by_cases z : k ≤ i
  · rw [if_pos z]
    by_cases y : k = i
    · rw [y, hi, beq_self_eq_true]; rfl
    · rw [lo k (by omega)]; rfl
  · rw [if_neg z, beq_eq_false_iff_ne.mpr (by omega)]
    cases bl x k <;> rfl
/-- a long that is not 0 has a lowest bit -/
theorem bl_least (x : Int64) (f : Nat → Bool) (hx : ∀ k, k < 64 → bl x k = (decide (k < 49) && f k)) : (lg_cmp x 0 = 0 ∧ ∀ k, k < 49 → f k = false) ∨ ∃ i, i < 49 ∧ f i = true ∧ (∀ j, j < i → f j = false) ∧ ¬ lg_cmp x 0 = 0 := by
  have hu : ∀ n, n ≤ 49 → (∀ k, k < n → f k = false) ∨ ∃ i, i < 49 ∧ f i = true ∧ ∀ j, j < i → f j = false := by
    intro n
    induction n with
    | zero => intro _; exact Or.inl fun k hk => by omega
    | succ n ih =>
      intro hn
      rcases ih (by omega) with g | g
      · cases y : f n
        · exact Or.inl fun k hk => by
            by_cases z : k = n
            · rw [z]; exact y
            · exact g k (by omega)
        · exact Or.inr ⟨n, by omega, y, g⟩
      · exact Or.inr g
  rw [lg_0]
  rcases hu 49 (Nat.le_refl _) with g | ⟨i, i1, i2, i3⟩
  · refine Or.inl ⟨bl_ext fun k hk => ?_, g⟩
    rw [hx k hk, bl_0]
    by_cases z : k < 49
    · rw [g k z, Bool.and_false]
    · rw [decide_eq_false z, Bool.false_and]
  · refine Or.inr ⟨i, i1, i2, i3, fun z => ?_⟩
    have e := hx i (by omega)
    rw [z, bl_0, decide_eq_true i1, i2] at e
    cases e
