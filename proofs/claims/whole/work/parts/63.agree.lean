/-! agree, wordings, mouths, beside -/
def anyb (f : Nat → Bool) : Nat → Bool
  | 0 => false
  | n + 1 => anyb f n || f n
theorem anyb_s {f : Nat → Bool} {n : Nat} : anyb f (n + 1) = (anyb f n || f n) := rfl
theorem anyb_iff {f : Nat → Bool} : ∀ n, anyb f n = true ↔ ∃ k, k < n ∧ f k = true
  | 0 => ⟨fun h => (by cases h), fun ⟨k, h, _⟩ => absurd h (Nat.not_lt_zero _)⟩
  | n + 1 => by
    rw [anyb_s, Bool.or_eq_true, anyb_iff n]
    constructor
    · rintro (⟨k, h1, h2⟩ | h)
      · exact ⟨k, by omega, h2⟩
      · exact ⟨n, by omega, h⟩
    · rintro ⟨k, h1, h2⟩
      by_cases z : k = n
      · exact Or.inr (z ▸ h2)
      · exact Or.inl ⟨k, by omega, h2⟩
theorem anyb_f {f : Nat → Bool} {n : Nat} : anyb f n = false ↔ ∀ k, k < n → f k = false := by
  constructor
  · intro h k hk
    cases e : f k
    · rfl
    · rw [(anyb_iff n).mpr ⟨k, hk, e⟩] at h; cases h
  · intro h
    cases e : anyb f n
    · rfl
    · obtain ⟨k, h1, h2⟩ := (anyb_iff n).mp e
      rw [h k h1] at h2; cases h2
theorem sb_an0 {f g : Nat → Bool} {n : Nat} (hn : n ≤ 32) : (sb f n &&& sb g n = ni 0) = (anyb (fun k => g k && f k) n = false) := by
  rw [sb_and hn hn, sb_0 hn]
  apply propext
  rw [anyb_f]
  constructor
  · intro h k hk
    have := h k hk
    rw [decide_eq_true hk, Bool.true_and] at this
    rw [Bool.and_comm]; exact this
  · intro h k hk
    rw [decide_eq_true hk, Bool.true_and, Bool.and_comm]; exact h k hk
theorem sb_ane {f g : Nat → Bool} {n : Nat} (hn : n ≤ 32) : (sb f n &&& sb g n = sb g n) = (anyb (fun k => g k && !f k) n = false) := by
  apply propext
  rw [anyb_f]
  constructor
  · intro h k hk
    have e : bt (sb f n &&& sb g n) k = bt (sb g n) k := by rw [h]
    rw [bt_and, bt_sb n hn k (by omega), bt_sb n hn k (by omega), decide_eq_true hk] at e
    simp only [Bool.true_and] at e
    cases x : f k <;> cases y : g k <;> rw [x, y] at e <;> first | rfl | cases e
  · intro h
    apply bt_ext
    intro k hk
    rw [bt_and, bt_sb n hn k hk, bt_sb n hn k hk]
    by_cases z : k < n
    · have e := h k z
      rw [decide_eq_true z]
      cases x : f k <;> cases y : g k <;> rw [x, y] at e <;> first | rfl | cases e
    · rw [decide_eq_false z]; rfl
/-- has a row man m -/
def hasq (D : Nat → Nat → Nat) (q m : Nat) : Bool := anyb (fun i => D 14 (8 * q + i) == m) (D 12 q)
section AGR
variable {h : am_H} {s : Sg} {a w l t r m F : Nat}
theorem L203 (hs : Sh h) (V : Vs s) (ht : t < sS s) (hr : r < sD s 10 t) (q : CQ h (sD s) (8 * t + r) r a w l) (hm : m < 2147483648) : ∀ k i, i + k = sD s 12 (8 * t + r) → anyb (fun i => sD s 14 (8 * (8 * t + r) + i) == m) i = false → am_E 203 (2, [some (vr (some a)), some (vi (ni m)), some (vi (ni i))], [], h) = some (some (vi (bi (hasq (sD s) (8 * t + r) m))), h) := by
  have vM' := vM V
  have v := vq V ht hr
  have v8 := v.2.2.1
  intro k
  induction k with
  | zero =>
    intro i e f
    rw [e_203_2 hs (qR q), qZ q]
    simp (disch := first | assumption | omega | (simp only [Sh_pI, Sh_pL, Sh_pIs, Sh_pLs]; assumption)) only [↓ixb, Option.bind_some, Option.bind_none, Option.toList_some, Option.toList_none, List.cons_append, List.nil_append, ni_lit, ni_of, ni_add, ni_mul, ni_sub, ni_div, ni_lt, ni_le, ni_eq, ng_lt, ng_le, ng_lt', ng_le', ng_eq, ng_eq', ng_ng, Int32.neg_neg, ix_ni, if_pos, if_neg, reduceIte]
    unfold hasq
    rw [show sD s 12 (8 * t + r) = i by omega, f]; rfl
  | succ k ih =>
    intro i e f
    have w1 := v.2.2.2.2.1 i (by omega)
    rw [e_203_2 hs (qR q), qZ q]
    by_cases z : sD s 14 (8 * (8 * t + r) + i) = m
    · simp (disch := first | assumption | omega | (simp only [Sh_pI, Sh_pL, Sh_pIs, Sh_pLs]; assumption)) only [↓ixb, Option.bind_some, Option.bind_none, Option.toList_some, Option.toList_none, List.cons_append, List.nil_append, ni_lit, ni_of, ni_add, ni_mul, ni_sub, ni_div, ni_lt, ni_le, ni_eq, ng_lt, ng_le, ng_lt', ng_le', ng_eq, ng_eq', ng_ng, Int32.neg_neg, ix_ni, if_pos, if_neg, reduceIte, qWh q, z]
      have : hasq (sD s) (8 * t + r) m = true := (anyb_iff _).mpr ⟨i, by omega, beq_iff_eq.mpr z⟩
      rw [this]; rfl
    · have fin := ih (i + 1) (by omega) (by rw [anyb_s, f, beq_eq_false_iff_ne.mpr z]; rfl)
      simp (disch := first | assumption | omega | (simp only [Sh_pI, Sh_pL, Sh_pIs, Sh_pLs]; assumption)) only [↓ixb, Option.bind_some, Option.bind_none, Option.toList_some, Option.toList_none, List.cons_append, List.nil_append, ni_lit, ni_of, ni_add, ni_mul, ni_sub, ni_div, ni_lt, ni_le, ni_eq, ng_lt, ng_le, ng_lt', ng_le', ng_eq, ng_eq', ng_ng, Int32.neg_neg, ix_ni, if_pos, if_neg, reduceIte, qWh q, fin]
theorem D203 (hs : Sh h) (V : Vs s) (ht : t < sS s) (hr : r < sD s 10 t) (q : CQ h (sD s) (8 * t + r) r a w l) (hm : m < 2147483648) : am_D 203 [vr (some a), vi (ni m)] h = some (some (vi (bi (hasq (sD s) (8 * t + r) m))), h) := by
  rw [d_203 hs (qR q)]
  exact L203 hs V ht hr q hm (sD s 12 (8 * t + r)) 0 (by omega) rfl
theorem L204 (hs : Sh h) (V : Vs s) (c : CS h s) (ht : t < sS s) (hm : m < 2147483648) : ∀ k r (o : Option am_V), r + k = sD s 10 t → am_E 204 (5, [some (vr (some 28)), some (vi (ni t)), some (vi (ni m)), some (vi (sb (fun r => hasq (sD s) (8 * t + r) m) r)), some (vi (ni r)), o], [], h) = some (some (vi (sb (fun r => hasq (sD s) (8 * t + r) m) (sD s 10 t))), h) := by
  have vS' := vS V
  have vN' := vN V ht
  intro k
  induction k with
  | zero =>
    intro r o e
    rw [e_204_5 hs]
    simp (disch := first | assumption | omega | (simp only [Sh_pI, Sh_pL, Sh_pIs, Sh_pLs]; assumption)) only [↓ixb, Option.bind_some, Option.bind_none, Option.toList_some, Option.toList_none, List.cons_append, List.nil_append, ni_lit, ni_of, ni_add, ni_mul, ni_sub, ni_div, ni_lt, ni_le, ni_eq, ng_lt, ng_le, ng_lt', ng_le', ng_eq, ng_eq', ng_ng, Int32.neg_neg, ix_ni, if_pos, if_neg, reduceIte, cN c ht]
    rw [show r = sD s 10 t by omega]
  | succ k ih =>
    intro r o e
    have hr : r < sD s 10 t := by omega
    obtain ⟨a, w, l, q1, q⟩ := cRow c ht hr
    have fin := ih (r + 1) (some (vr (some a))) (by omega)
    rw [e_204_5 hs]
    simp (disch := first | assumption | omega | (simp only [Sh_pI, Sh_pL, Sh_pIs, Sh_pLs]; assumption)) only [↓ixb, Option.bind_some, Option.bind_none, Option.toList_some, Option.toList_none, List.cons_append, List.nil_append, ni_lit, ni_of, ni_add, ni_mul, ni_sub, ni_div, ni_lt, ni_le, ni_eq, ng_lt, ng_le, ng_lt', ng_le', ng_eq, ng_eq', ng_ng, Int32.neg_neg, ix_ni, if_pos, if_neg, reduceIte, cN c ht, D24t hs V c ht hr, q1]
    rw [e_204_23_1 hs (qR q), lk_all q]
    simp only [Option.bind_some]
    rw [D203 hs V ht hr q hm]
    simp only [Option.bind_some, Option.toList_some, List.cons_append, List.nil_append]
    rw [e_204_36 hs, e_204_46 hs, e_204_46 hs, ni_add1]
    cases x : hasq (sD s) (8 * t + r) m
    · rw [sb_f (f := fun r => hasq (sD s) (8 * t + r) m) x] at fin
      rw [if_pos (show bi false = 0 from rfl)]; exact fin
    · rw [sb_t (f := fun r => hasq (sD s) (8 * t + r) m) x] at fin
      rw [if_neg (show ¬ bi true = 0 by decide)]; exact fin
theorem D204 (hs : Sh h) (V : Vs s) (c : CS h s) (ht : t < sS s) (hm : m < 2147483648) : am_D 204 [vr (some 28), vi (ni t), vi (ni m)] h = some (some (vi (sb (fun r => hasq (sD s) (8 * t + r) m) (sD s 10 t))), h) := by
  rw [d_204 hs]
  exact L204 hs V c ht hm (sD s 10 t) 0 none (by omega)
theorem L212 (hs : Sh h) (V : Vs s) (c : CS h s) (ht : t < sS s) (hm : m < 2147483648) : ∀ k r (o : Option am_V), r + k = sD s 10 t → am_E 212 (5, [some (vr (some 28)), some (vi (ni t)), some (vi (ni m)), some (vi (sb (fun r => sD s 13 (8 * t + r) == m) r)), some (vi (ni r)), o], [], h) = some (some (vi (sb (fun r => sD s 13 (8 * t + r) == m) (sD s 10 t))), h) := by
  have vS' := vS V
  have vN' := vN V ht
  intro k
  induction k with
  | zero =>
    intro r o e
    rw [e_212_5 hs]
    simp (disch := first | assumption | omega | (simp only [Sh_pI, Sh_pL, Sh_pIs, Sh_pLs]; assumption)) only [↓ixb, Option.bind_some, Option.bind_none, Option.toList_some, Option.toList_none, List.cons_append, List.nil_append, ni_lit, ni_of, ni_add, ni_mul, ni_sub, ni_div, ni_lt, ni_le, ni_eq, ng_lt, ng_le, ng_lt', ng_le', ng_eq, ng_eq', ng_ng, Int32.neg_neg, ix_ni, if_pos, if_neg, reduceIte, cN c ht]
    rw [show r = sD s 10 t by omega]
  | succ k ih =>
    intro r o e
    have hr : r < sD s 10 t := by omega
    obtain ⟨a, w, l, q1, q⟩ := cRow c ht hr
    have v := vq V ht hr
    have v13 := v.2.2.2.1
    have fin := ih (r + 1) (some (vr (some a))) (by omega)
    rw [e_212_5 hs]
    simp (disch := first | assumption | omega | (simp only [Sh_pI, Sh_pL, Sh_pIs, Sh_pLs]; assumption)) only [↓ixb, Option.bind_some, Option.bind_none, Option.toList_some, Option.toList_none, List.cons_append, List.nil_append, ni_lit, ni_of, ni_add, ni_mul, ni_sub, ni_div, ni_lt, ni_le, ni_eq, ng_lt, ng_le, ng_lt', ng_le', ng_eq, ng_eq', ng_ng, Int32.neg_neg, ix_ni, if_pos, if_neg, reduceIte, cN c ht, D24t hs V c ht hr, q1]
    rw [e_212_23_1 hs (qR q), qWd q, e_212_46 hs, e_212_46 hs, ni_add1]
    by_cases x : sD s 13 (8 * t + r) = m
    · rw [sb_t (f := fun r => sD s 13 (8 * t + r) == m) (beq_iff_eq.mpr x)] at fin
      rw [if_pos (by rw [x])]; exact fin
    · rw [sb_f (f := fun r => sD s 13 (8 * t + r) == m) (beq_eq_false_iff_ne.mpr x)] at fin
      rw [if_neg (by rw [ni_eq (by omega) hm]; exact x)]; exact fin
theorem D212 (hs : Sh h) (V : Vs s) (c : CS h s) (ht : t < sS s) (hm : m < 2147483648) : am_D 212 [vr (some 28), vi (ni t), vi (ni m)] h = some (some (vi (sb (fun r => sD s 13 (8 * t + r) == m) (sD s 10 t))), h) := by
  rw [d_212 hs]
  exact L212 hs V c ht hm (sD s 10 t) 0 none (by omega)
/-- wordings of the rows in u -/
def wdb (s : Sg) (t : Nat) (u : Nat → Bool) (k : Nat) : Bool := anyb (fun r => u r && (sD s 13 (8 * t + r) == k)) (sD s 10 t)
theorem L213 (hs : Sh h) (V : Vs s) (c : CS h s) (ht : t < sS s) (u : Nat → Bool) : ∀ k i, i + k = 8 → am_E 213 (5, [some (vr (some 28)), some (vi (ni t)), some (vi (sb u (sD s 10 t))), some (vi (sb (wdb s t u) i)), some (vi (ni i))], [], h) = some (some (vi (sb (wdb s t u) 8)), h) := by
  have vN' := vN V ht
  intro k
  induction k with
  | zero =>
    intro i e
    rw [e_213_5 hs]
    simp (disch := first | assumption | omega | (simp only [Sh_pI, Sh_pL, Sh_pIs, Sh_pLs]; assumption)) only [↓ixb, Option.bind_some, Option.bind_none, Option.toList_some, Option.toList_none, List.cons_append, List.nil_append, ni_lit, ni_of, ni_add, ni_mul, ni_sub, ni_div, ni_lt, ni_le, ni_eq, ng_lt, ng_le, ng_lt', ng_le', ng_eq, ng_eq', ng_ng, Int32.neg_neg, ix_ni, if_pos, if_neg, reduceIte]
    rw [show i = 8 by omega]
  | succ k ih =>
    intro i e
    have fin := ih (i + 1) (by omega)
    rw [e_213_5 hs]
    simp (disch := first | assumption | omega | (simp only [Sh_pI, Sh_pL, Sh_pIs, Sh_pLs]; assumption)) only [↓ixb, Option.bind_some, Option.bind_none, Option.toList_some, Option.toList_none, List.cons_append, List.nil_append, ni_lit, ni_of, ni_add, ni_mul, ni_sub, ni_div, ni_lt, ni_le, ni_eq, ng_lt, ng_le, ng_lt', ng_le', ng_eq, ng_eq', ng_ng, Int32.neg_neg, ix_ni, if_pos, if_neg, reduceIte, D212 hs V c ht (show i < 2147483648 by omega)]
    rw [e_213_19 hs, e_213_31 hs, e_213_31 hs, ni_add1]
    cases x : wdb s t u i
    · rw [sb_f x] at fin
      exact (if_pos (show sb (fun r => sD s 13 (8 * t + r) == i) (sD s 10 t) &&& sb u (sD s 10 t) = ni 0 by rw [sb_an0 (by omega)]; exact x)).trans fin
    · rw [sb_t x] at fin
      exact (if_neg (show ¬ sb (fun r => sD s 13 (8 * t + r) == i) (sD s 10 t) &&& sb u (sD s 10 t) = ni 0 by
        rw [sb_an0 (by omega)]
        intro z
        exact Bool.noConfusion (x.symm.trans z))).trans fin
theorem D213 (hs : Sh h) (V : Vs s) (c : CS h s) (ht : t < sS s) (u : Nat → Bool) : am_D 213 [vr (some 28), vi (ni t), vi (sb u (sD s 10 t))] h = some (some (vi (sb (wdb s t u) 8)), h) := by
  rw [d_213 hs]
  exact L213 hs V c ht u 8 0 (by omega)
-- the model: men of a row
def moq (D : Nat → Nat → Nat) (q : Nat) : Nat → Int32
  | 0 => ni 0
  | i + 1 => moq D q i ||| (ni 1 <<< (ni (D 14 (8 * q + i)) &&& ni 31))
theorem bt_moq {D : Nat → Nat → Nat} {q : Nat} (hw : ∀ i, i < D 12 q → D 14 (8 * q + i) < 24) : ∀ i, i ≤ D 12 q → ∀ k, k < 32 → bt (moq D q i) k = anyb (fun i => D 14 (8 * q + i) == k) i
  | 0, _, k, _ => bt_0 k
  | i + 1, hi, k, hk => by
    have w := hw i (by omega)
    rw [show moq D q (i + 1) = moq D q i ||| (ni 1 <<< (ni (D 14 (8 * q + i)) &&& ni 31)) from rfl, bt_or, bt_moq hw i (by omega) k hk, bt_one _ (by omega) k hk, anyb_s]
    congr 1
    by_cases z : D 14 (8 * q + i) = k
    · rw [beq_iff_eq.mpr z, decide_eq_true z.symm]
    · rw [beq_eq_false_iff_ne.mpr z, decide_eq_false (fun x => z x.symm)]
theorem L206 (hs : Sh h) (V : Vs s) (c : MS h s) (ht : t < sS s) (hr : r < sD s 10 t) : ∀ k i, i + k = sD s 12 (8 * t + r) → am_E 206 (4, [some (vr (some 261)), some (vi (ni (8 * t + r))), some (vi (moq (sD s) (8 * t + r) i)), some (vi (ni i))], [], h) = some (some (vi (moq (sD s) (8 * t + r) (sD s 12 (8 * t + r)))), h) := by
  have vM' := vM V
  have vS' := vS V
  have vN' := vN V ht
  have v := vq V ht hr
  have v8 := v.2.2.1
  intro k
  induction k with
  | zero =>
    intro i e
    rw [e_206_4 hs]
    simp (disch := first | assumption | omega | (simp only [Sh_pI, Sh_pL, Sh_pIs, Sh_pLs]; assumption)) only [↓ixb, Option.bind_some, Option.bind_none, Option.toList_some, Option.toList_none, List.cons_append, List.nil_append, ni_lit, ni_of, ni_add, ni_mul, ni_sub, ni_div, ni_lt, ni_le, ni_eq, ng_lt, ng_le, ng_lt', ng_le', ng_eq, ng_eq', ng_ng, Int32.neg_neg, ix_ni, if_pos, if_neg, reduceIte, mZ c ht hr]
    rw [show i = sD s 12 (8 * t + r) by omega]
  | succ k ih =>
    intro i e
    have e0 := mWh c ht hr (i := i) (by omega)
    rw [e_206_4 hs]
    simp (disch := first | assumption | omega | (simp only [Sh_pI, Sh_pL, Sh_pIs, Sh_pLs]; assumption)) only [↓ixb, Option.bind_some, Option.bind_none, Option.toList_some, Option.toList_none, List.cons_append, List.nil_append, ni_lit, ni_of, ni_add, ni_mul, ni_sub, ni_div, ni_lt, ni_le, ni_eq, ng_lt, ng_le, ng_lt', ng_le', ng_eq, ng_eq', ng_ng, Int32.neg_neg, ix_ni, if_pos, if_neg, reduceIte, mZ c ht hr, e0]
    exact ih (i + 1) (by omega)
theorem D206 (hs : Sh h) (V : Vs s) (c : MS h s) (ht : t < sS s) (hr : r < sD s 10 t) : am_D 206 [vr (some 261), vi (ni (8 * t + r))] h = some (some (vi (moq (sD s) (8 * t + r) (sD s 12 (8 * t + r)))), h) := by
  rw [d_206 hs]
  exact L206 hs V c ht hr (sD s 12 (8 * t + r)) 0 (by omega)
theorem bt_mo (V : Vs s) (ht : t < sS s) (hr : r < sD s 10 t) {k : Nat} (hk : k < 32) : bt (moq (sD s) (8 * t + r) (sD s 12 (8 * t + r))) k = hasq (sD s) (8 * t + r) k := by
  have vM' := vM V
  have v := vq V ht hr
  exact bt_moq (fun i hi => by have := v.2.2.2.2.1 i hi; omega) _ (Nat.le_refl _) k hk
-- agree
def agq (s : Sg) (m t : Nat) : Bool := anyb (fun r => upq (sD s) (lwF s) (8 * t + r) && hasq (sD s) (8 * t + r) m) (sD s 10 t) && anyb (fun r => upq (sD s) (lwF s) (8 * t + r) && !hasq (sD s) (8 * t + r) m) (sD s 10 t)
def cnb (f : Nat → Bool) : Nat → Nat
  | 0 => 0
  | n + 1 => cnb f n + (if f n = true then 1 else 0)
theorem cnb_le {f : Nat → Bool} : ∀ n, cnb f n ≤ n
  | 0 => Nat.le_refl _
  | n + 1 => by
    have := cnb_le (f := f) n
    show cnb f n + (if f n = true then 1 else 0) ≤ n + 1
    split <;> omega
theorem L205 (V : Vs s) (hm : m < sM s) : ∀ k t h (o5 o6 : Option am_V), t + k = sS s → Sh h → CS h s → ∃ h1, am_E 205 (30, [some (vr (some 16)), some (vi (ni m)), some (vr (some (nfa (sD s 22 3)))), some (vi (ni (cnb (agq s m) t))), some (vi (ni t)), o5, o6], [], h) = some (some (vi (ni (cnb (agq s m) (sS s)))), h1) ∧ Kg sc h h1 := by
  have vM' := vM V
  have vR' := vR V
  have vS' := vS V
  have vF := V.2.1
  intro k
  induction k with
  | zero =>
    intro t h o5 o6 e hs c
    refine ⟨h, ?_, Kg_refl h⟩
    rw [e_205_30 hs (nfK hs (show sD s 22 3 ≤ 6 by omega)), cS c]
    simp (disch := first | assumption | omega | (simp only [Sh_pI, Sh_pL, Sh_pIs, Sh_pLs]; assumption)) only [↓ixb, Option.bind_some, Option.bind_none, Option.toList_some, Option.toList_none, List.cons_append, List.nil_append, ni_lit, ni_of, ni_add, ni_mul, ni_sub, ni_div, ni_lt, ni_le, ni_eq, ng_lt, ng_le, ng_lt', ng_le', ng_eq, ng_eq', ng_ng, Int32.neg_neg, ix_ni, if_pos, if_neg, reduceIte]
    rw [show t = sS s by omega]
  | succ k ih =>
    intro t h o5 o6 e hs c
    have ht : t < sS s := by omega
    have vN' := vN V ht
    have hk := nfK hs (show sD s 22 3 ≤ 6 by omega)
    obtain ⟨h1, d, kg, g⟩ := D172 hs V c vF ht
    have hs1 := Kg_Sh kg hs
    have c1 := CS_fr (fun _ _ z => Or.inl z) kg V c
    have hk1 := nfK hs1 (show sD s 22 3 ≤ 6 by omega)
    obtain ⟨h2, f1, f2⟩ := ih (t + 1) h1 (some (vi (sb (fun r => upq (sD s) (lwf (sD s) (sD s 22 3)) (8 * t + r)) (sD s 10 t)))) (some (vi (sb (fun r => hasq (sD s) (8 * t + r) m) (sD s 10 t) &&& sb (fun r => upq (sD s) (lwf (sD s) (sD s 22 3)) (8 * t + r)) (sD s 10 t)))) (by omega) hs1 c1
    refine ⟨h2, ?_, Kg_trans kg f2⟩
    have cl := cnb_le (f := agq s m) t
    rw [← f1, e_205_30 hs hk, cS c, if_neg (show ¬ ni (sS s) ≤ ni t by rw [ni_le (by omega) (by omega)]; omega), d]
    simp only [Option.bind_some, Option.toList_some, List.cons_append, List.nil_append]
    rw [e_205_52 hs1 hk1, D204 hs1 V c1 ht (by omega)]
    simp only [Option.bind_some, Option.toList_some, List.cons_append, List.nil_append]
    rw [e_205_64 hs1 hk1, e_205_84 hs1 hk1, e_205_84 hs1 hk1, ni_add1, ni_add1]
    rw [show cnb (agq s m) (t + 1) = cnb (agq s m) t + (if agq s m t = true then 1 else 0) from rfl]
    have a1 := sb_an0 (f := fun r => hasq (sD s) (8 * t + r) m) (g := fun r => upq (sD s) (lwf (sD s) (sD s 22 3)) (8 * t + r)) (n := sD s 10 t) (by omega)
    have a2 := sb_ane (f := fun r => hasq (sD s) (8 * t + r) m) (g := fun r => upq (sD s) (lwf (sD s) (sD s 22 3)) (8 * t + r)) (n := sD s 10 t) (by omega)
    cases x : anyb (fun r => upq (sD s) (lwF s) (8 * t + r) && hasq (sD s) (8 * t + r) m) (sD s 10 t)
    · have ag : agq s m t = false := by unfold agq; rw [x]; rfl
      refine (if_pos (a1.mpr x)).trans ?_
      rw [ag, if_neg (by decide)]; rfl
    · refine (if_neg (fun z => Bool.noConfusion (x.symm.trans (a1.mp z)))).trans ?_
      cases y : anyb (fun r => upq (sD s) (lwF s) (8 * t + r) && !hasq (sD s) (8 * t + r) m) (sD s 10 t)
      · have ag : agq s m t = false := by unfold agq; rw [x, y]; rfl
        refine (if_pos (a2.mpr y)).trans ?_
        rw [ag, if_neg (by decide)]; rfl
      · have ag : agq s m t = true := by unfold agq; rw [x, y]; rfl
        refine (if_neg (fun z => Bool.noConfusion (y.symm.trans (a2.mp z)))).trans ?_
        rw [ag, if_pos rfl]
theorem L207i (hs : Sh h) (V : Vs s) (c : MS h s) (hby : hI h 261 43 = fI (sD s 22 3)) (ht : t < sS s) (hm : m < 24) {n : Nat} (hn : n < 1000) : ∀ k r, r + k = sD s 10 t → ∃ o4 o5 o6, am_E 207 (46, [some (vr (some 261)), some (vi (ni m)), some (vi (ni n)), some (vi (ni t)), some (vi (bi (anyb (fun r => upq (sD s) (lwF s) (8 * t + r) && hasq (sD s) (8 * t + r) m) r))), some (vi (bi (anyb (fun r => upq (sD s) (lwF s) (8 * t + r) && !hasq (sD s) (8 * t + r) m) r))), some (vi (ni (8 * t + r)))], [], h) = am_E 207 (26, [some (vr (some 261)), some (vi (ni m)), some (vi (ni (n + (if agq s m t = true then 1 else 0)))), some (vi (ni (t + 1))), o4, o5, o6], [], h) := by
  have vS' := vS V
  have vN' := vN V ht
  have vF := V.2.1
  intro k
  induction k with
  | zero =>
    intro r e
    have er : r = sD s 10 t := by omega
    rw [e_207_46 hs]
    simp (disch := first | assumption | omega | (simp only [Sh_pI, Sh_pL, Sh_pIs, Sh_pLs]; assumption)) only [ixb, ni_lit, ni_mul, mN c ht, ni_add, ni_le, if_pos, bi0, e_207_116]
    unfold agq
    rw [← er]
    cases x : anyb (fun r => upq (sD s) (lwF s) (8 * t + r) && hasq (sD s) (8 * t + r) m) r
    · exact ⟨_, _, _, by rw [if_pos rfl, if_neg (by rw [Bool.false_and]; decide)]; rfl⟩
    · cases y : anyb (fun r => upq (sD s) (lwF s) (8 * t + r) && !hasq (sD s) (8 * t + r) m) r
      · exact ⟨_, _, _, by rw [if_neg (by decide), if_pos rfl, if_neg (by rw [Bool.true_and]; decide)]; rfl⟩
      · exact ⟨_, _, _, by rw [if_neg (by decide), if_neg (by decide), if_pos (by rfl)]⟩
  | succ k ih =>
    intro r e
    have hr : r < sD s 10 t := by omega
    obtain ⟨o4, o5, o6, fin⟩ := ih (r + 1) (by omega)
    refine ⟨o4, o5, o6, Eq.trans ?_ fin⟩
    rw [anyb_s, anyb_s, e_207_46 hs]
    simp (disch := first | assumption | omega | (simp only [Sh_pI, Sh_pL, Sh_pIs, Sh_pLs]; assumption)) only [ixb, ni_lit, ni_mul, mN c ht, ni_add, ni_le, if_neg, D168 hs V c vF hby ht hr, ↓ixb, Option.bind_some, Option.toList_some, Option.toList_none, List.cons_append, List.nil_append]
    rw [e_207_68 hs]
    rw [show upq (sD s) (lwf (sD s) (sD s 22 3)) (8 * t + r) = upq (sD s) (lwF s) (8 * t + r) from rfl]
    cases x : upq (sD s) (lwF s) (8 * t + r)
    · rw [if_pos (show bi false = 0 from rfl), e_207_97 hs, ni_add1]
      simp only [Bool.false_and, Bool.or_false]
      rfl
    · rw [if_neg (show ¬ bi true = 0 by decide), D206 hs V c ht hr]
      simp only [Option.bind_some, Option.toList_some, List.cons_append, List.nil_append, Bool.true_and]
      rw [e_207_80 hs, e_207_97 hs, e_207_97 hs, ni_add1]
      have b := bt_shr (moq (sD s) (8 * t + r) (sD s 12 (8 * t + r))) (show m < 32 by omega)
      rw [bt_mo V ht hr (by omega)] at b
      cases y : hasq (sD s) (8 * t + r) m
      · rw [y] at b
        refine (if_neg (show ¬ (moq (sD s) (8 * t + r) (sD s 12 (8 * t + r)) >>> (ni m &&& ni 31) &&& ni 1) = ni 1 by rw [b]; decide)).trans ?_
        simp only [Bool.or_false, Bool.not_false, Bool.or_true]
        rfl
      · rw [y] at b
        refine (if_pos (show (moq (sD s) (8 * t + r) (sD s 12 (8 * t + r)) >>> (ni m &&& ni 31) &&& ni 1) = ni 1 by rw [b]; rfl)).trans ?_
        simp only [Bool.or_false, Bool.not_true, Bool.or_true]
        rfl
theorem L207 (hs : Sh h) (V : Vs s) (c : MS h s) (hby : hI h 261 43 = fI (sD s 22 3)) (hm : m < 24) : ∀ k t (o4 o5 o6 : Option am_V), t + k = sS s → am_E 207 (26, [some (vr (some 261)), some (vi (ni m)), some (vi (ni (cnb (agq s m) t))), some (vi (ni t)), o4, o5, o6], [], h) = some (some (vi (ni (cnb (agq s m) (sS s)))), h) := by
  have vS' := vS V
  intro k
  induction k with
  | zero =>
    intro t o4 o5 o6 e
    rw [e_207_26 hs, mS c]
    simp (disch := first | assumption | omega | (simp only [Sh_pI, Sh_pL, Sh_pIs, Sh_pLs]; assumption)) only [↓ixb, Option.bind_some, Option.bind_none, Option.toList_some, Option.toList_none, List.cons_append, List.nil_append, ni_lit, ni_of, ni_add, ni_mul, ni_sub, ni_div, ni_lt, ni_le, ni_eq, ng_lt, ng_le, ng_lt', ng_le', ng_eq, ng_eq', ng_ng, Int32.neg_neg, ix_ni, if_pos, if_neg, reduceIte]
    rw [show t = sS s by omega]
  | succ k ih =>
    intro t o4 o5 o6 e
    have cl := cnb_le (f := agq s m) t
    obtain ⟨o4', o5', o6', f⟩ := L207i (t := t) hs V c hby (by omega) hm (n := cnb (agq s m) t) (by omega) (sD s 10 t) 0 (by omega)
    rw [e_207_26 hs, mS c]
    simp (disch := first | assumption | omega | (simp only [Sh_pI, Sh_pL, Sh_pIs, Sh_pLs]; assumption)) only [↓ixb, Option.bind_some, Option.bind_none, Option.toList_some, Option.toList_none, List.cons_append, List.nil_append, ni_lit, ni_of, ni_add, ni_mul, ni_sub, ni_div, ni_lt, ni_le, ni_eq, ng_lt, ng_le, ng_lt', ng_le', ng_eq, ng_eq', ng_ng, Int32.neg_neg, ix_ni, if_pos, if_neg, reduceIte]
    exact f.trans (ih (t + 1) o4' o5' o6' (by omega))
end AGR
theorem A32 : ∀ a1, Alike 205 207 [vi a1] := fun a1 => glue fun s V => by
  have vM' := vM V
  have vR' := vR V
  have vF := V.2.1
  rcases rg a1 (sM s) with ⟨m, hm, rfl⟩ | hn
  · refine ⟨ni (cnb (agq s m) (sS s)), s, V, HC_q V fun h hs c => ?_, HM_q V fun h hs c => ⟨hb h s, ?_, hb_K⟩⟩
    · obtain ⟨h1, f1, f2⟩ := L205 V hm (sS s) 0 h none none (by omega) hs c
      refine ⟨h1, ?_, f2⟩
      rw [d_205 hs, D53t hs V c hm]; simp (disch := first | assumption | omega | (simp only [Sh_pI, Sh_pL, Sh_pIs, Sh_pLs]; assumption)) only [↓ixb, Option.bind_some, Option.bind_none, Option.toList_some, Option.toList_none, List.cons_append, List.nil_append, ni_lit, ni_of, ni_add, ni_mul, ni_sub, ni_div, ni_lt, ni_le, ni_eq, ng_lt, ng_le, ng_lt', ng_le', ng_eq, ng_eq', ng_ng, Int32.neg_neg, ix_ni, if_pos, if_neg, reduceIte, e_205_8, D137 hs V c]
      rw [e_205_24 hs (nfK hs (show sD s 22 3 ≤ 6 by omega))]
      exact f1
    · rw [d_207 hs, D56t hs V c hm]; simp (disch := first | assumption | omega | (simp only [Sh_pI, Sh_pL, Sh_pIs, Sh_pLs]; assumption)) only [↓ixb, Option.bind_some, Option.bind_none, Option.toList_some, Option.toList_none, List.cons_append, List.nil_append, ni_lit, ni_of, ni_add, ni_mul, ni_sub, ni_div, ni_lt, ni_le, ni_eq, ng_lt, ng_le, ng_lt', ng_le', ng_eq, ng_eq', ng_ng, Int32.neg_neg, ix_ni, if_pos, if_neg, reduceIte, e_207_5, hb_e c]
      exact L207 (hb_S hs) V (hb_M V c) hb_43 (by omega) (sS s) 0 none none none (by omega)
  · refine refg V 1 (by omega) (fun h hs c => ?_) (fun h hs c => ?_)
    · rw [d_205 hs, D53f hs V c hn]; simp (disch := first | assumption | omega | (simp only [Sh_pI, Sh_pL, Sh_pIs, Sh_pLs]; assumption)) only [↓ixb, Option.bind_some, Option.bind_none, Option.toList_some, Option.toList_none, List.cons_append, List.nil_append, ni_lit, ni_of, ni_add, ni_mul, ni_sub, ni_div, ni_lt, ni_le, ni_eq, ng_lt, ng_le, ng_lt', ng_le', ng_eq, ng_eq', ng_ng, Int32.neg_neg, ix_ni, if_pos, if_neg, reduceIte, e_205_8, D7, e_205_16]
    · rw [d_207 hs, D56f hs V c hn]; simp (disch := first | assumption | omega | (simp only [Sh_pI, Sh_pL, Sh_pIs, Sh_pLs]; assumption)) only [↓ixb, Option.bind_some, Option.bind_none, Option.toList_some, Option.toList_none, List.cons_append, List.nil_append, ni_lit, ni_of, ni_add, ni_mul, ni_sub, ni_div, ni_lt, ni_le, ni_eq, ng_lt, ng_le, ng_lt', ng_le', ng_eq, ng_eq', ng_ng, Int32.neg_neg, ix_ni, if_pos, if_neg, reduceIte, e_207_5, D10, e_207_13]
