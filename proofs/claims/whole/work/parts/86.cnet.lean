/-! the class's net on its own doors -/
def cC (B : Nat → Bool) (A : Nat → Nat → Bool) (T u v : Nat) : Nat := if u < 24 then (if v = 24 + u ∧ u ≠ T then 1 else 0) else if u < 48 then (if v < 24 ∧ A (u - 24) v = true then 99 else 0) else if v < 24 ∧ B v = true then 99 else 0
theorem cC_in {B : Nat → Bool} {A : Nat → Nat → Bool} {T u v : Nat} (hu : u < 24) : cC B A T u v = if v = 24 + u ∧ u ≠ T then 1 else 0 := if_pos hu
theorem cC_out {B : Nat → Bool} {A : Nat → Nat → Bool} {T u v : Nat} (h1 : ¬ u < 24) (h2 : u < 48) : cC B A T u v = if v < 24 ∧ A (u - 24) v = true then 99 else 0 := by unfold cC; rw [if_neg h1, if_pos h2]
theorem cC_48 {B : Nat → Bool} {A : Nat → Nat → Bool} {T u v : Nat} (h2 : ¬ u < 48) : cC B A T u v = if v < 24 ∧ B v = true then 99 else 0 := by unfold cC; rw [if_neg (by omega), if_neg h2]
theorem cC_no {B : Nat → Bool} {A : Nat → Nat → Bool} {T u v : Nat} (h1 : ¬ u < 24) (h2 : ¬ v < 24) : cC B A T u v = 0 := by
  by_cases z : u < 48
  · rw [cC_out h1 z, if_neg (fun y => h2 y.1)]
  · rw [cC_48 z, if_neg (fun y => h2 y.1)]
theorem okC {B : Nat → Bool} {A : Nat → Nat → Bool} {T k u x : Nat} {p : Nat → Nat → Nat} (r : Rsd (cC B A T) p T k) (pk : ∀ a b, p a b ≤ cC B A T a b + k) (k24 : k ≤ 24) (hT : T < 24) (hA : ∀ m, m < 24 → A m m = false) (hu : u < 49) (hx : x < 49) (x48 : x ≠ 48) (h1 : 1 ≤ p u x) : ((u < 24 ∨ x = u - 24) → p u x ≤ 1) ∧ (¬ (u < 24 ∨ x = u - 24) → 2 ≤ p u x) := by
  have pr := r.2 u x
  refine ⟨fun c => ?_, fun c => ?_⟩
  · by_cases u24 : u < 24
    · by_cases x24 : x < 24
      · rw [cC_in u24, cC_in x24, if_neg (by omega), if_neg (by omega)] at pr; omega
      · by_cases e : x = 24 + u
        · have c2 : cC B A T x u = 0 := by
            rw [cC_out x24 (by omega), show x - 24 = u by omega, if_neg (fun y => by rw [hA u u24] at y; exact absurd y.2 (by decide))]
          have c1 : cC B A T u x ≤ 1 := by rw [cC_in u24]; split <;> omega
          omega
        · exact bal (w := x - 24) r hx hu (by omega) (by omega) x48 (by omega) (by omega) (by omega) (fun v hv => by
            by_cases v24 : v < 24
            · rw [cC_in v24, if_neg (by omega)]
            · exact cC_no v24 x24) (by rw [cC_in (by omega)]; split <;> omega)
    · have c' : x = u - 24 := by omega
      by_cases u48 : u < 48
      · have c1 : cC B A T u x = 0 := by
          rw [cC_out u24 u48, ← c', if_neg (fun y => by rw [hA x y.1] at y; exact absurd y.2 (by decide))]
        have c2 : cC B A T x u ≤ 1 := by rw [cC_in (by omega)]; split <;> omega
        omega
      · rw [cC_no u24 (by omega), cC_no (by omega) u24] at pr; omega
  · have u24 : ¬ u < 24 := fun y => c (Or.inl y)
    have ne : x ≠ u - 24 := fun y => c (Or.inr y)
    by_cases x24 : x < 24
    · have c2 : cC B A T x u = 0 := by rw [cC_in x24, if_neg (by omega)]
      have px := pk x u
      rw [c2] at px pr
      have c1 : cC B A T u x = 0 ∨ cC B A T u x = 99 := by
        by_cases u48 : u < 48
        · rw [cC_out u24 u48]; split <;> omega
        · rw [cC_48 u48]; split <;> omega
      omega
    · rw [cC_no u24 x24, cC_no x24 u24] at pr; omega
theorem ad0_c {B : Nat → Bool} {A : Nat → Nat → Bool} {T u v : Nat} : ad0 B A T u v = decide (1 ≤ cC B A T u v) := by
  unfold ad0
  by_cases u24 : u < 24
  · rw [if_pos u24, cC_in u24]
    by_cases z : v = 24 + u ∧ u ≠ T
    · rw [if_pos z, beq_iff_eq.mpr z.1, beq_eq_false_iff_ne.mpr z.2]; rfl
    · rw [if_neg z]
      by_cases y : u = T
      · rw [beq_iff_eq.mpr y]; rfl
      · rw [beq_eq_false_iff_ne.mpr (fun w => z ⟨w, y⟩), Bool.and_false]; rfl
  · rw [if_neg u24]
    by_cases u48 : u < 48
    · rw [if_pos u48, cC_out u24 u48]
      by_cases z : v < 24 ∧ A (u - 24) v = true
      · rw [if_pos z, decide_eq_true z.1, z.2]; rfl
      · rw [if_neg z]
        by_cases y : v < 24
        · cases w : A (u - 24) v
          · rw [Bool.and_false]; rfl
          · exact absurd ⟨y, w⟩ z
        · rw [decide_eq_false y]; rfl
    · rw [if_neg u48, cC_48 u48]
      by_cases z : v < 24 ∧ B v = true
      · rw [if_pos z, decide_eq_true z.1, z.2]; rfl
      · rw [if_neg z]
        by_cases y : v < 24
        · cases w : B v
          · rw [Bool.and_false]; rfl
          · exact absurd ⟨y, w⟩ z
        · rw [decide_eq_false y]; rfl
