/-! guards -/
section GRD
variable {h : am_H} {s : Sg}
theorem cM (c : CS h s) : hI h 28 1 = ni (sM s) := c.2.2.2.2.1.1.1
theorem cR (c : CS h s) : hI h 28 3 = ni (sR s) := c.2.2.2.2.1.1.2.1
theorem cS (c : CS h s) : hI h 28 7 = ni (sS s) := c.2.2.2.2.1.1.2.2.1
theorem cF (c : CS h s) : hI h 28 4 = fI (sD s 22 3) := c.2.2.2.2.1.1.2.2.2
theorem mM (c : MS h s) : hI h 261 0 = ni (sM s) := c.1.1
theorem mR (c : MS h s) : hI h 261 1 = ni (sR s) := c.1.2.1
theorem mS (c : MS h s) : hI h 261 2 = ni (sS s) := c.1.2.2.1
theorem mF (c : MS h s) : hI h 261 3 = fI (sD s 22 3) := c.1.2.2.2.1
theorem vM (V : Vs s) : sM s ≤ 24 := V.1.1
theorem vR (V : Vs s) : sR s ≤ 6 := V.1.2.1
theorem vS (V : Vs s) : sS s ≤ 8 := V.1.2.2.1
theorem vN (V : Vs s) {t : Nat} (ht : t < sS s) : sD s 10 t ≤ 8 := (V.1.2.2.2.2.2 t ht).1.2.1
theorem cN (c : CS h s) {t : Nat} (ht : t < sS s) : hI h 38 t = ni (sD s 10 t) := (c.2.2.2.2.1.2.2.2 t ht).1
theorem mN (c : MS h s) {t : Nat} (ht : t < sS s) : hI h 274 t = ni (sD s 10 t) := (c.2.2.2.2.1.2.2 t ht).1
theorem rg (x : Int32) (n : Nat) : (∃ k, k < n ∧ x = ni k) ∨ ∀ k, k < n → x ≠ ni k := by
  by_cases h : ∃ k, k < n ∧ x = ni k
  · exact Or.inl h
  · exact Or.inr fun k hk e => h ⟨k, hk, e⟩
theorem gd_f {α : Type} {x : Int32} {n : Nat} (hx : ∀ k, k < n → x ≠ ni k) (hn : n < 2147483648) (A C : α) : (if x < 0 then A else if ni n ≤ x then A else C) = A := by
  rcases ni_cases x with ⟨z, -⟩ | ⟨k, hk, rfl⟩
  · exact if_pos z
  · have : n ≤ k := by
      rcases Nat.lt_or_ge k n with z | z
      · exact absurd rfl (hx k z)
      · exact z
    rw [if_neg (by rw [show (0 : Int32) = ni 0 from rfl, ni_lt hk (by omega)]; omega), if_pos (by rw [ni_le hn hk]; exact this)]
theorem gd_g {α : Type} {x : Int32} {n : Nat} (hx : ∀ k, k < n → x ≠ ni k) (hn : n < 2147483648) (A C : α) : (if x < 0 then A else if x < ni n then C else A) = A := by
  rcases ni_cases x with ⟨z, -⟩ | ⟨k, hk, rfl⟩
  · exact if_pos z
  · have : n ≤ k := by
      rcases Nat.lt_or_ge k n with z | z
      · exact absurd rfl (hx k z)
      · exact z
    rw [if_neg (by rw [show (0 : Int32) = ni 0 from rfl, ni_lt hk (by omega)]; omega), if_neg (by rw [ni_lt hk hn]; omega)]
theorem D6t (hs : Sh h) {k : Nat} (hk : k < 8) : am_D 6 [vi (ni k)] h = some (some (vi (ni 1)), h) := by
  simp (disch := first | assumption | omega | (simp only [Sh_pI, Sh_pL, Sh_pIs, Sh_pLs]; assumption)) only [Option.bind_some, Option.bind_none, Option.toList_some, Option.toList_none, List.cons_append, List.nil_append, ni_lit, ni_of, ni_add, ni_mul, ni_lt, ni_le, ni_eq, ng_lt, ng_le, ng_lt', ng_le', ng_eq, ng_eq', ng_ng, Int32.neg_neg, ix_ni, if_pos, if_neg, reduceIte, d_6]
theorem D6f (hs : Sh h) {x : Int32} (hx : ∀ k, k < 8 → x ≠ ni k) : am_D 6 [vi x] h = some (some (vi (ni 0)), h) := by
  rw [d_6 hs]; exact gd_f hx (by omega) _ _
theorem D9t (hs : Sh h) {k : Nat} (hk : k < 8) : am_D 9 [vr (some 261), vi (ni k)] h = some (some (vi (ni 1)), h) := by
  simp (disch := first | assumption | omega | (simp only [Sh_pI, Sh_pL, Sh_pIs, Sh_pLs]; assumption)) only [Option.bind_some, Option.bind_none, Option.toList_some, Option.toList_none, List.cons_append, List.nil_append, ni_lit, ni_of, ni_add, ni_mul, ni_lt, ni_le, ni_eq, ng_lt, ng_le, ng_lt', ng_le', ng_eq, ng_eq', ng_ng, Int32.neg_neg, ix_ni, if_pos, if_neg, reduceIte, d_9]
theorem D9f (hs : Sh h) {x : Int32} (hx : ∀ k, k < 8 → x ≠ ni k) : am_D 9 [vr (some 261), vi x] h = some (some (vi (ni 0)), h) := by
  rw [d_9 hs]; exact gd_f hx (by omega) _ _
theorem D7 (hs : Sh h) {k : Nat} (hk : k < 8) : am_D 7 [vr (some 16), vi (-ni k)] h = some (some (vi (-ni k)), pI h 260 k (hI h 260 k + 1)) := by
  rw [d_7 hs, Int32.neg_neg, ix_ni hk (by omega)]; rfl
theorem D10 (hs : Sh h) {k : Nat} (hk : k < 8) : am_D 10 [vr (some 261), vi (-ni k)] h = some (some (vi (-ni k)), pI h 262 k (hI h 262 k + 1)) := by
  rw [d_10 hs, Int32.neg_neg, ix_ni hk (by omega)]; rfl
theorem D102 (hs : Sh h) {k : Nat} (hk : k < 8) : am_D 102 [vr (some 16), vi (-ni k)] h = some (some (vi (-ni k - ni 10)), pI h 260 k (hI h 260 k + 1)) := by
  rw [d_102 hs, D7 hs hk]
  simp only [Option.bind_some, Option.toList_some, List.cons_append, List.nil_append]
  exact e_102_5 (h := pI h 260 k (hI h 260 k + 1)) hs
theorem D104 (hs : Sh h) {k : Nat} (hk : k < 8) : am_D 104 [vr (some 261), vi (-ni k)] h = some (some (vi (-ni k - ni 10)), pI h 262 k (hI h 262 k + 1)) := by
  rw [d_104 hs, Int32.neg_neg, ix_ni hk (by omega)]; rfl
-- who is a man, a saying, rules
theorem D53t (hs : Sh h) (V : Vs s) (c : CS h s) {k : Nat} (hk : k < sM s) : am_D 53 [vr (some 28), vi (ni k)] h = some (some (vi (ni 1)), h) := by
  have := vM V
  simp (disch := first | assumption | omega | (simp only [Sh_pI, Sh_pL, Sh_pIs, Sh_pLs]; assumption)) only [Option.bind_some, Option.bind_none, Option.toList_some, Option.toList_none, List.cons_append, List.nil_append, ni_lit, ni_of, ni_add, ni_mul, ni_lt, ni_le, ni_eq, ng_lt, ng_le, ng_lt', ng_le', ng_eq, ng_eq', ng_ng, Int32.neg_neg, ix_ni, if_pos, if_neg, reduceIte, d_53, cM c]
theorem D53f (hs : Sh h) (V : Vs s) (c : CS h s) {x : Int32} (hx : ∀ k, k < sM s → x ≠ ni k) : am_D 53 [vr (some 28), vi x] h = some (some (vi (ni 0)), h) := by
  have := vM V
  rw [d_53 hs, cM c]; exact gd_f hx (by omega) _ _
theorem D56t (hs : Sh h) (V : Vs s) (c : MS h s) {k : Nat} (hk : k < sM s) : am_D 56 [vr (some 261), vi (ni k)] h = some (some (vi (ni 1)), h) := by
  have := vM V
  simp (disch := first | assumption | omega | (simp only [Sh_pI, Sh_pL, Sh_pIs, Sh_pLs]; assumption)) only [Option.bind_some, Option.bind_none, Option.toList_some, Option.toList_none, List.cons_append, List.nil_append, ni_lit, ni_of, ni_add, ni_mul, ni_lt, ni_le, ni_eq, ng_lt, ng_le, ng_lt', ng_le', ng_eq, ng_eq', ng_ng, Int32.neg_neg, ix_ni, if_pos, if_neg, reduceIte, d_56, mM c]
theorem D56f (hs : Sh h) (V : Vs s) (c : MS h s) {x : Int32} (hx : ∀ k, k < sM s → x ≠ ni k) : am_D 56 [vr (some 261), vi x] h = some (some (vi (ni 0)), h) := by
  have := vM V
  rw [d_56 hs, mM c]; exact gd_f hx (by omega) _ _
theorem D99t (hs : Sh h) (V : Vs s) (c : CS h s) {k : Nat} (hk : k < sR s) : am_D 99 [vr (some 28), vi (ni k)] h = some (some (vi (ni 1)), h) := by
  have := vR V
  simp (disch := first | assumption | omega | (simp only [Sh_pI, Sh_pL, Sh_pIs, Sh_pLs]; assumption)) only [Option.bind_some, Option.bind_none, Option.toList_some, Option.toList_none, List.cons_append, List.nil_append, ni_lit, ni_of, ni_add, ni_mul, ni_lt, ni_le, ni_eq, ng_lt, ng_le, ng_lt', ng_le', ng_eq, ng_eq', ng_ng, Int32.neg_neg, ix_ni, if_pos, if_neg, reduceIte, d_99, cR c]
theorem D99f (hs : Sh h) (V : Vs s) (c : CS h s) {x : Int32} (hx : ∀ k, k < sR s → x ≠ ni k) : am_D 99 [vr (some 28), vi x] h = some (some (vi (ni 0)), h) := by
  have := vR V
  rw [d_99 hs, cR c]; exact gd_f hx (by omega) _ _
theorem D23t (hs : Sh h) (V : Vs s) (c : CS h s) {k : Nat} (hk : k < sS s) : am_D 23 [vr (some 28), vi (ni k)] h = some (some (vi (ni 1)), h) := by
  have := vS V
  simp (disch := first | assumption | omega | (simp only [Sh_pI, Sh_pL, Sh_pIs, Sh_pLs]; assumption)) only [Option.bind_some, Option.bind_none, Option.toList_some, Option.toList_none, List.cons_append, List.nil_append, ni_lit, ni_of, ni_add, ni_mul, ni_lt, ni_le, ni_eq, ng_lt, ng_le, ng_lt', ng_le', ng_eq, ng_eq', ng_ng, Int32.neg_neg, ix_ni, if_pos, if_neg, reduceIte, d_23, cS c]
theorem D23f (hs : Sh h) (V : Vs s) (c : CS h s) {x : Int32} (hx : ∀ k, k < sS s → x ≠ ni k) : am_D 23 [vr (some 28), vi x] h = some (some (vi (ni 0)), h) := by
  have := vS V
  rw [d_23 hs, cS c]; exact gd_f hx (by omega) _ _
theorem D26t (hs : Sh h) (V : Vs s) (c : MS h s) {k : Nat} (hk : k < sS s) : am_D 26 [vr (some 261), vi (ni k)] h = some (some (vi (ni 1)), h) := by
  have := vS V
  simp (disch := first | assumption | omega | (simp only [Sh_pI, Sh_pL, Sh_pIs, Sh_pLs]; assumption)) only [Option.bind_some, Option.bind_none, Option.toList_some, Option.toList_none, List.cons_append, List.nil_append, ni_lit, ni_of, ni_add, ni_mul, ni_lt, ni_le, ni_eq, ng_lt, ng_le, ng_lt', ng_le', ng_eq, ng_eq', ng_ng, Int32.neg_neg, ix_ni, if_pos, if_neg, reduceIte, d_26, mS c]
theorem D26f (hs : Sh h) (V : Vs s) (c : MS h s) {x : Int32} (hx : ∀ k, k < sS s → x ≠ ni k) : am_D 26 [vr (some 261), vi x] h = some (some (vi (ni 0)), h) := by
  have := vS V
  rw [d_26 hs, mS c]; exact gd_f hx (by omega) _ _
/-- both ints name a row -/
def isQ (s : Sg) (x y : Int32) : Prop := ∃ a r, a < sS s ∧ r < sD s 10 a ∧ x = ni a ∧ y = ni r
theorem D24t (hs : Sh h) (V : Vs s) (c : CS h s) {a r : Nat} (ha : a < sS s) (hr : r < sD s 10 a) : am_D 24 [vr (some 28), vi (ni a), vi (ni r)] h = some (some (vr (hR h 37 (8 * a + r))), h) := by
  have v1 := vS V
  have v2 := vN V ha
  rw [d_24 hs, D23t hs V c ha]
  simp (disch := first | assumption | omega | (simp only [Sh_pI, Sh_pL, Sh_pIs, Sh_pLs]; assumption)) only [Option.bind_some, Option.bind_none, Option.toList_some, Option.toList_none, List.cons_append, List.nil_append, ni_lit, ni_of, ni_add, ni_mul, ni_lt, ni_le, ni_eq, ng_lt, ng_le, ng_lt', ng_le', ng_eq, ng_eq', ng_ng, Int32.neg_neg, ix_ni, if_pos, if_neg, reduceIte, e_24_5, cN c ha]
  rw [Nat.mul_comm]
theorem D24f (hs : Sh h) (V : Vs s) (c : CS h s) {x y : Int32} (hx : ¬ isQ s x y) : am_D 24 [vr (some 28), vi x, vi y] h = some (some (vr none), h) := by
  have v1 := vS V
  rcases rg x (sS s) with ⟨a, ha, rfl⟩ | hn
  · have v2 := vN V ha
    rw [d_24 hs, D23t hs V c ha]
    simp (disch := first | assumption | omega | (simp only [Sh_pI, Sh_pL, Sh_pIs, Sh_pLs]; assumption)) only [Option.bind_some, Option.bind_none, Option.toList_some, Option.toList_none, List.cons_append, List.nil_append, ni_lit, ni_of, ni_add, ni_mul, ni_lt, ni_le, ni_eq, ng_lt, ng_le, ng_lt', ng_le', ng_eq, ng_eq', ng_ng, Int32.neg_neg, ix_ni, if_pos, if_neg, reduceIte, e_24_5, cN c ha]
    exact gd_g (fun k hk e => hx ⟨a, k, ha, hk, rfl, e⟩) (by omega) _ _
  · rw [d_24 hs, D23f hs V c hn]
    simp (disch := first | assumption | omega | (simp only [Sh_pI, Sh_pL, Sh_pIs, Sh_pLs]; assumption)) only [Option.bind_some, Option.bind_none, Option.toList_some, Option.toList_none, List.cons_append, List.nil_append, ni_lit, ni_of, ni_add, ni_mul, ni_lt, ni_le, ni_eq, ng_lt, ng_le, ng_lt', ng_le', ng_eq, ng_eq', ng_ng, Int32.neg_neg, ix_ni, if_pos, if_neg, reduceIte, e_24_5]
theorem D27t (hs : Sh h) (V : Vs s) (c : MS h s) {a r : Nat} (ha : a < sS s) (hr : r < sD s 10 a) : am_D 27 [vr (some 261), vi (ni a), vi (ni r)] h = some (some (vi (ni 1)), h) := by
  have v1 := vS V
  have v2 := vN V ha
  rw [d_27 hs, D26t hs V c ha]
  simp (disch := first | assumption | omega | (simp only [Sh_pI, Sh_pL, Sh_pIs, Sh_pLs]; assumption)) only [Option.bind_some, Option.bind_none, Option.toList_some, Option.toList_none, List.cons_append, List.nil_append, ni_lit, ni_of, ni_add, ni_mul, ni_lt, ni_le, ni_eq, ng_lt, ng_le, ng_lt', ng_le', ng_eq, ng_eq', ng_ng, Int32.neg_neg, ix_ni, if_pos, if_neg, reduceIte, e_27_5, mN c ha]
theorem D27f (hs : Sh h) (V : Vs s) (c : MS h s) {x y : Int32} (hx : ¬ isQ s x y) : am_D 27 [vr (some 261), vi x, vi y] h = some (some (vi (ni 0)), h) := by
  have v1 := vS V
  rcases rg x (sS s) with ⟨a, ha, rfl⟩ | hn
  · have v2 := vN V ha
    rw [d_27 hs, D26t hs V c ha]
    simp (disch := first | assumption | omega | (simp only [Sh_pI, Sh_pL, Sh_pIs, Sh_pLs]; assumption)) only [Option.bind_some, Option.bind_none, Option.toList_some, Option.toList_none, List.cons_append, List.nil_append, ni_lit, ni_of, ni_add, ni_mul, ni_lt, ni_le, ni_eq, ng_lt, ng_le, ng_lt', ng_le', ng_eq, ng_eq', ng_ng, Int32.neg_neg, ix_ni, if_pos, if_neg, reduceIte, e_27_5, mN c ha]
    exact gd_f (fun k hk e => hx ⟨a, k, ha, hk, rfl, e⟩) (by omega) _ _
  · rw [d_27 hs, D26f hs V c hn]
    simp (disch := first | assumption | omega | (simp only [Sh_pI, Sh_pL, Sh_pIs, Sh_pLs]; assumption)) only [Option.bind_some, Option.bind_none, Option.toList_some, Option.toList_none, List.cons_append, List.nil_append, ni_lit, ni_of, ni_add, ni_mul, ni_lt, ni_le, ni_eq, ng_lt, ng_le, ng_lt', ng_le', ng_eq, ng_eq', ng_ng, Int32.neg_neg, ix_ni, if_pos, if_neg, reduceIte, e_27_5]
end GRD
