/-! the class's bits follow the residual net along one way -/
theorem lnk1 {p : Nat → Nat → Nat} {adj : Nat → Nat → Bool} {u x : Nat} (ne : u ≠ x) (h1 : 1 ≤ p u x) (k1 : (u < 24 ∨ x = u - 24) → p u x ≤ 1) (k2 : ¬ (u < 24 ∨ x = u - 24) → 2 ≤ p u x) (hu : u < 49) (hx : x < 49) (h : ∀ a b, a < 49 → b < 49 → adj a b = decide (1 ≤ p a b)) (a b : Nat) (ha : a < 49) (hb : b < 49) : adP adj u x a b = decide (1 ≤ agN p u x a b) := by
  unfold adP agN
  by_cases y1 : a = x ∧ b = u
  · rw [if_pos y1, if_neg (show ¬ (a = u ∧ b = x) from fun z => ne (z.1.symm.trans y1.1)), if_pos y1, decide_eq_true (by omega)]
  · rw [if_neg y1]
    by_cases y2 : a = u ∧ b = x
    · obtain ⟨rfl, rfl⟩ := y2
      rw [if_pos (show a = a ∧ b = b from ⟨rfl, rfl⟩)]
      by_cases c : a < 24 ∨ b = a - 24
      · have := k1 c
        rw [if_pos ⟨c, rfl, rfl⟩, decide_eq_false (by omega)]
      · have := k2 c
        rw [if_neg (fun z => c z.1), h a b hu hx, decide_eq_true h1, decide_eq_true (by omega)]
    · rw [if_neg (fun z => y2 z.2), if_neg y2, if_neg y1]
      exact h a b ha hb
theorem lnk {seen : Nat → Prop} {par rk : Nat → Nat} {p0 : Nat → Nat → Nat} (T : Tree seen par rk p0) {R : Nat} (ok : ∀ x, seen x → x ≠ 48 → rk x ≤ R → ((par x < 24 ∨ x = par x - 24) → p0 (par x) x ≤ 1) ∧ (¬ (par x < 24 ∨ x = par x - 24) → 2 ≤ p0 (par x) x)) : ∀ n p adj x, seen x → rk x ≤ R → (∀ a b, rk a ≤ rk x → rk b ≤ rk x → p a b = p0 a b) → (∀ a b, a < 49 → b < 49 → adj a b = decide (1 ≤ p a b)) → ∀ a b, a < 49 → b < 49 → adT par n adj x a b = decide (1 ≤ trc par n p x a b)
  | 0, p, adj, x, hx, hr, h3, h, a, b, ha, hb => h a b ha hb
  | n + 1, p, adj, x, hx, hr, h3, h, a, b, ha, hb => by
    rw [adT_s, trc_s]
    by_cases z : x = 48
    · rw [if_pos z, if_pos z]; exact h a b ha hb
    · obtain ⟨t1, t2, t3, t4, t5⟩ := T x hx z
      have ne : par x ≠ x := fun y => by rw [y] at t4; omega
      have e1 : p (par x) x = p0 (par x) x := h3 _ _ (by omega) (Nat.le_refl _)
      obtain ⟨k1, k2⟩ := ok x hx z hr
      rw [if_neg z, if_neg z]
      exact lnk T ok n (agN p (par x) x) (adP adj (par x) x) (par x) t2 (by omega) (fun a b ha hb => by
        unfold agN
        rw [if_neg (fun y => by rw [y.2] at hb; omega), if_neg (fun y => by rw [y.1] at ha; omega)]
        exact h3 a b (by omega) (by omega)) (fun a b ha hb => lnk1 ne (by omega) (fun c => by rw [e1]; exact k1 c) (fun c => by rw [e1]; exact k2 c) t3 t1 h a b ha hb) a b ha hb
