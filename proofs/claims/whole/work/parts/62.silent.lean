/-! silent, agree, wordings, beside -/
-- silent
/-- from whom man m has something by the first i links of a row -/
def tlq (D : Nat → Nat → Nat) (q m : Nat) : Nat → Int32
  | 0 => ni 0
  | i + 1 => if D 14 (8 * q + i) = m then tlq D q m i ||| (ni 1 <<< (ni (D 14 (8 * q + (i + 1))) &&& ni 31)) else tlq D q m i
theorem tlq_s {D : Nat → Nat → Nat} {q m i : Nat} : tlq D q m (i + 1) = if D 14 (8 * q + i) = m then tlq D q m i ||| (ni 1 <<< (ni (D 14 (8 * q + (i + 1))) &&& ni 31)) else tlq D q m i := rfl
def tdr (D : Nat → Nat → Nat) (m t : Nat) (T : Int32) : Nat → Int32
  | 0 => T
  | r + 1 => tdr D m t T r ||| tlq D (8 * t + r) m (D 12 (8 * t + r) - 1)
def tds (D : Nat → Nat → Nat) (m : Nat) : Nat → Int32
  | 0 => ni 0
  | t + 1 => tdr D m t (tds D m t) (D 10 t)
theorem or_0 (x : Int32) : x ||| ni 0 = x := bt_ext fun k hk => by rw [bt_or, bt_0, Bool.or_false]
theorem or_as (x y z : Int32) : x ||| (y ||| z) = (x ||| y) ||| z := bt_ext fun k hk => by rw [bt_or, bt_or, bt_or, bt_or, Bool.or_assoc]
theorem andn (x y z : Int32) : (x &&& (y ^^^ -ni 1)) &&& (z ^^^ -ni 1) = x &&& ((y ||| z) ^^^ -ni 1) := bt_ext fun k hk => by
  rw [bt_and, bt_and, bt_not _ hk, bt_not _ hk, bt_and, bt_not _ hk, bt_or]
  cases bt x k <;> cases bt y k <;> cases bt z k <;> rfl
theorem andn0 (x : Int32) : x &&& (ni 0 ^^^ -ni 1) = x := bt_ext fun k hk => by
  rw [bt_and, bt_not _ hk, bt_0]; simp
section SIL
variable {h : am_H} {s : Sg} {a w l t r m : Nat}
theorem L239 (hs : Sh h) (V : Vs s) (ht : t < sS s) (hr : r < sD s 10 t) (q : CQ h (sD s) (8 * t + r) r a w l) (hm : m < 24) : ∀ k i, i + k + 1 = sD s 12 (8 * t + r) → am_E 239 (4, [some (vr (some a)), some (vi (ni m)), some (vi (tlq (sD s) (8 * t + r) m i)), some (vi (ni i))], [], h) = some (some (vi (tlq (sD s) (8 * t + r) m (sD s 12 (8 * t + r) - 1))), h) := by
  have vM' := vM V
  have v := vq V ht hr
  have v8 := v.2.2.1
  intro k
  induction k with
  | zero =>
    intro i e
    rw [e_239_4 hs (qR q), qZ q]
    simp (disch := first | assumption | omega | (simp only [Sh_pI, Sh_pL, Sh_pIs, Sh_pLs]; assumption)) only [↓ixb, Option.bind_some, Option.bind_none, Option.toList_some, Option.toList_none, List.cons_append, List.nil_append, ni_lit, ni_of, ni_add, ni_mul, ni_sub, ni_div, ni_lt, ni_le, ni_eq, ng_lt, ng_le, ng_lt', ng_le', ng_eq, ng_eq', ng_ng, Int32.neg_neg, ix_ni, if_pos, if_neg, reduceIte]
    rw [show i = sD s 12 (8 * t + r) - 1 by omega]
  | succ k ih =>
    intro i e
    have w1 := v.2.2.2.2.1 i (by omega)
    have w2 := v.2.2.2.2.1 (i + 1) (by omega)
    have fin := ih (i + 1) (by omega)
    rw [tlq_s] at fin
    rw [e_239_4 hs (qR q), qZ q]
    by_cases z : sD s 14 (8 * (8 * t + r) + i) = m
    · rw [if_pos z] at fin
      simp (disch := first | assumption | omega | (simp only [Sh_pI, Sh_pL, Sh_pIs, Sh_pLs]; assumption)) only [↓ixb, Option.bind_some, Option.bind_none, Option.toList_some, Option.toList_none, List.cons_append, List.nil_append, ni_lit, ni_of, ni_add, ni_mul, ni_sub, ni_div, ni_lt, ni_le, ni_eq, ng_lt, ng_le, ng_lt', ng_le', ng_eq, ng_eq', ng_ng, Int32.neg_neg, ix_ni, if_pos, if_neg, reduceIte, qWh q, z, e_239_37 hs (qR q), fin]
    · rw [if_neg z] at fin
      simp (disch := first | assumption | omega | (simp only [Sh_pI, Sh_pL, Sh_pIs, Sh_pLs]; assumption)) only [↓ixb, Option.bind_some, Option.bind_none, Option.toList_some, Option.toList_none, List.cons_append, List.nil_append, ni_lit, ni_of, ni_add, ni_mul, ni_sub, ni_div, ni_lt, ni_le, ni_eq, ng_lt, ng_le, ng_lt', ng_le', ng_eq, ng_eq', ng_ng, Int32.neg_neg, ix_ni, if_pos, if_neg, reduceIte, qWh q, e_239_37 hs (qR q), fin]
theorem D239 (hs : Sh h) (V : Vs s) (ht : t < sS s) (hr : r < sD s 10 t) (q : CQ h (sD s) (8 * t + r) r a w l) (hm : m < 24) : am_D 239 [vr (some a), vi (ni m)] h = some (some (vi (tlq (sD s) (8 * t + r) m (sD s 12 (8 * t + r) - 1))), h) := by
  have v := vq V ht hr
  have v2 := v.2.1
  rw [d_239 hs (qR q)]
  exact L239 hs V ht hr q hm (sD s 12 (8 * t + r) - 1) 0 (by omega)
theorem L240r (hs : Sh h) (V : Vs s) (c : CS h s) (ht : t < sS s) (hm : m < 24) (T : Int32) : ∀ k r (o5 : Option am_V), r + k = sD s 10 t → ∃ o4 o5', am_E 240 (15, [some (vr (some 28)), some (vi (ni m)), some (vi (tdr (sD s) m t T r)), some (vi (ni t)), some (vi (ni r)), o5], [], h) = am_E 240 (4, [some (vr (some 28)), some (vi (ni m)), some (vi (tdr (sD s) m t T (sD s 10 t))), some (vi (ni (t + 1))), o4, o5'], [], h) := by
  have vS' := vS V
  have vN' := vN V ht
  intro k
  induction k with
  | zero =>
    intro r o5 e
    refine ⟨some (vi (ni r)), o5, ?_⟩
    rw [e_240_15 hs]
    simp (disch := first | assumption | omega | (simp only [Sh_pI, Sh_pL, Sh_pIs, Sh_pLs]; assumption)) only [↓ixb, Option.bind_some, Option.bind_none, Option.toList_some, Option.toList_none, List.cons_append, List.nil_append, ni_lit, ni_of, ni_add, ni_mul, ni_sub, ni_div, ni_lt, ni_le, ni_eq, ng_lt, ng_le, ng_lt', ng_le', ng_eq, ng_eq', ng_ng, Int32.neg_neg, ix_ni, if_pos, if_neg, reduceIte, cN c ht]
    rw [show r = sD s 10 t by omega]
  | succ k ih =>
    intro r o5 e
    have hr : r < sD s 10 t := by omega
    obtain ⟨a, w, l, q1, q⟩ := cRow c ht hr
    obtain ⟨o4, o5', fin⟩ := ih (r + 1) (some (vr (some a))) (by omega)
    refine ⟨o4, o5', Eq.trans ?_ fin⟩
    rw [e_240_15 hs]
    simp (disch := first | assumption | omega | (simp only [Sh_pI, Sh_pL, Sh_pIs, Sh_pLs]; assumption)) only [↓ixb, Option.bind_some, Option.bind_none, Option.toList_some, Option.toList_none, List.cons_append, List.nil_append, ni_lit, ni_of, ni_add, ni_mul, ni_sub, ni_div, ni_lt, ni_le, ni_eq, ng_lt, ng_le, ng_lt', ng_le', ng_eq, ng_eq', ng_ng, Int32.neg_neg, ix_ni, if_pos, if_neg, reduceIte, cN c ht, D24t hs V c ht hr, q1]
    rw [e_240_33_1 hs (qR q), lk_all q]
    simp only [Option.bind_some]
    rw [D239 hs V ht hr q hm]
    simp (disch := first | assumption | omega | (simp only [Sh_pI, Sh_pL, Sh_pIs, Sh_pLs]; assumption)) only [↓ixb, Option.bind_some, Option.bind_none, Option.toList_some, Option.toList_none, List.cons_append, List.nil_append, ni_lit, ni_of, ni_add, ni_mul, ni_sub, ni_div, ni_lt, ni_le, ni_eq, ng_lt, ng_le, ng_lt', ng_le', ng_eq, ng_eq', ng_ng, Int32.neg_neg, ix_ni, if_pos, if_neg, reduceIte, e_240_47, e_240_49]
    rfl
theorem L240 (hs : Sh h) (V : Vs s) (c : CS h s) (hm : m < 24) : ∀ k t (o4 o5 : Option am_V), t + k = sS s → am_E 240 (4, [some (vr (some 28)), some (vi (ni m)), some (vi (tds (sD s) m t)), some (vi (ni t)), o4, o5], [], h) = some (some (vi (tds (sD s) m (sS s))), h) := by
  have vS' := vS V
  intro k
  induction k with
  | zero =>
    intro t o4 o5 e
    rw [e_240_4 hs, cS c]
    simp (disch := first | assumption | omega | (simp only [Sh_pI, Sh_pL, Sh_pIs, Sh_pLs]; assumption)) only [↓ixb, Option.bind_some, Option.bind_none, Option.toList_some, Option.toList_none, List.cons_append, List.nil_append, ni_lit, ni_of, ni_add, ni_mul, ni_sub, ni_div, ni_lt, ni_le, ni_eq, ng_lt, ng_le, ng_lt', ng_le', ng_eq, ng_eq', ng_ng, Int32.neg_neg, ix_ni, if_pos, if_neg, reduceIte]
    rw [show t = sS s by omega]
  | succ k ih =>
    intro t o4 o5 e
    obtain ⟨o4', o5', f⟩ := L240r (t := t) hs V c (by omega) hm (tds (sD s) m t) (sD s 10 t) 0 o5 (by omega)
    rw [e_240_4 hs, cS c]
    simp (disch := first | assumption | omega | (simp only [Sh_pI, Sh_pL, Sh_pIs, Sh_pLs]; assumption)) only [↓ixb, Option.bind_some, Option.bind_none, Option.toList_some, Option.toList_none, List.cons_append, List.nil_append, ni_lit, ni_of, ni_add, ni_mul, ni_sub, ni_div, ni_lt, ni_le, ni_eq, ng_lt, ng_le, ng_lt', ng_le', ng_eq, ng_eq', ng_ng, Int32.neg_neg, ix_ni, if_pos, if_neg, reduceIte]
    exact f.trans (ih (t + 1) o4' o5' (by omega))
theorem D240 (hs : Sh h) (V : Vs s) (c : CS h s) (hm : m < 24) : am_D 240 [vr (some 28), vi (ni m)] h = some (some (vi (tds (sD s) m (sS s))), h) := by
  rw [d_240 hs]
  exact L240 hs V c hm (sS s) 0 none none (by omega)
/-- whom he could hear -/
def shr (s : Sg) (m o : Nat) : Bool := !(o == m) && hrs s m o
theorem L241 (hs : Sh h) (V : Vs s) (c : CS h s) (hm : m < sM s) : ∀ k i, i + k = sM s → am_E 241 (21, [some (vr (some 16)), some (vi (ni m)), some (vi (sb (shr s m) i)), some (vi (ni i))], [], h) = some (some (vi (sb (shr s m) (sM s) &&& (tds (sD s) m (sS s) ^^^ -ni 1))), h) := by
  have vM' := vM V
  intro k
  induction k with
  | zero =>
    intro i e
    rw [e_241_21 hs, cM c, D240 hs V c (by omega)]
    simp (disch := first | assumption | omega | (simp only [Sh_pI, Sh_pL, Sh_pIs, Sh_pLs]; assumption)) only [↓ixb, Option.bind_some, Option.bind_none, Option.toList_some, Option.toList_none, List.cons_append, List.nil_append, ni_lit, ni_of, ni_add, ni_mul, ni_sub, ni_div, ni_lt, ni_le, ni_eq, ng_lt, ng_le, ng_lt', ng_le', ng_eq, ng_eq', ng_ng, Int32.neg_neg, ix_ni, if_pos, if_neg, reduceIte, e_241_70]
    rw [show i = sM s by omega]
  | succ k ih =>
    intro i e
    have s55 : shr s m i = false → am_E 241 (55, [some (vr (some 16)), some (vi (ni m)), some (vi (sb (shr s m) i)), some (vi (ni i))], [], h) = some (some (vi (sb (shr s m) (sM s) &&& (tds (sD s) m (sS s) ^^^ -ni 1))), h) := by
      intro f
      rw [e_241_55 hs, ni_add1, ← sb_f f]
      exact ih (i + 1) (by omega)
    rw [e_241_21 hs, cM c, if_neg (show ¬ ni (sM s) ≤ ni i by rw [ni_le (by omega) (by omega)]; omega)]
    by_cases z1 : i = m
    · rw [if_pos (by rw [z1])]
      exact s55 (by unfold shr; rw [z1]; simp)
    · rw [if_neg (by rw [ni_eq (by omega) (by omega)]; exact z1), D140 hs V c hm (by omega)]
      simp only [Option.bind_some, Option.toList_some, List.cons_append, List.nil_append]
      rw [e_241_46 hs]
      cases x : (wc (sD s) (lwF s 0) (lwF s 1) m i).isSome
      · rw [if_pos (show bi false = 0 from rfl)]
        exact s55 (by unfold shr hrs; rw [x]; simp)
      · rw [if_neg (show ¬ bi true = 0 by decide), e_241_55 hs, ni_add1]
        have f : shr s m i = true := by unfold shr hrs; rw [x, beq_eq_false_iff_ne.mpr z1]; rfl
        have fin := ih (i + 1) (by omega)
        rw [sb_t f] at fin
        exact fin
-- the model
theorem L242a (hs : Sh h) (V : Vs s) (c : MS h s) (hby : hI h 261 43 = fI (sD s 22 3)) (hm : m < sM s) : ∀ k i (o4 o5 : Option am_V), i + k = sM s → am_E 242 (26, [some (vr (some 261)), some (vi (ni m)), some (vi (sb (shr s m) i)), some (vi (ni i)), o4, o5], [], h) = am_E 242 (63, [some (vr (some 261)), some (vi (ni m)), some (vi (sb (shr s m) (sM s))), some (vi (ni 0)), o4, o5], [], h) := by
  have vM' := vM V
  have vF := V.2.1
  intro k
  induction k with
  | zero =>
    intro i o4 o5 e
    rw [e_242_26 hs, mM c]
    simp (disch := first | assumption | omega | (simp only [Sh_pI, Sh_pL, Sh_pIs, Sh_pLs]; assumption)) only [↓ixb, Option.bind_some, Option.bind_none, Option.toList_some, Option.toList_none, List.cons_append, List.nil_append, ni_lit, ni_of, ni_add, ni_mul, ni_sub, ni_div, ni_lt, ni_le, ni_eq, ng_lt, ng_le, ng_lt', ng_le', ng_eq, ng_eq', ng_ng, Int32.neg_neg, ix_ni, if_pos, if_neg, reduceIte]
    rw [show i = sM s by omega]
  | succ k ih =>
    intro i o4 o5 e
    have s55 : shr s m i = false → am_E 242 (55, [some (vr (some 261)), some (vi (ni m)), some (vi (sb (shr s m) i)), some (vi (ni i)), o4, o5], [], h) = am_E 242 (63, [some (vr (some 261)), some (vi (ni m)), some (vi (sb (shr s m) (sM s))), some (vi (ni 0)), o4, o5], [], h) := by
      intro f
      rw [e_242_55 hs, ni_add1, ← sb_f f]
      exact ih (i + 1) o4 o5 (by omega)
    rw [e_242_26 hs, mM c, if_neg (show ¬ ni (sM s) ≤ ni i by rw [ni_le (by omega) (by omega)]; omega)]
    by_cases z1 : i = m
    · rw [if_pos (by rw [z1])]
      exact s55 (by unfold shr; rw [z1]; simp)
    · rw [if_neg (by rw [ni_eq (by omega) (by omega)]; exact z1), D143 hs V c vF hby hm (show i < sM s by omega)]
      simp only [Option.bind_some, Option.toList_some, List.cons_append, List.nil_append]
      rw [e_242_45 hs]
      refine (oI_c _ (fun y e => by have := wc_b V hm vF y e; omega) _ _).trans ?_
      cases x : (wc (sD s) (lwf (sD s) (sD s 22 3) 0) (lwf (sD s) (sD s 22 3) 1) m i).isSome
      · exact s55 (by unfold shr hrs lwF; rw [x]; simp)
      · rw [cond_true, e_242_55 hs, ni_add1]
        have f : shr s m i = true := by unfold shr hrs lwF; rw [x, beq_eq_false_iff_ne.mpr z1]; rfl
        have fin := ih (i + 1) o4 o5 (by omega)
        rw [sb_t f] at fin
        exact fin
theorem L242l (hs : Sh h) (V : Vs s) (c : MS h s) (ht : t < sS s) (hr : r < sD s 10 t) (hm : m < 24) (S T : Int32) : ∀ k i, i + k + 1 = sD s 12 (8 * t + r) → ∃ o5, am_E 242 (96, [some (vr (some 261)), some (vi (ni m)), some (vi (S &&& ((T ||| tlq (sD s) (8 * t + r) m i) ^^^ -ni 1))), some (vi (ni t)), some (vi (ni (8 * t + r))), some (vi (ni i))], [], h) = am_E 242 (77, [some (vr (some 261)), some (vi (ni m)), some (vi (S &&& ((T ||| tlq (sD s) (8 * t + r) m (sD s 12 (8 * t + r) - 1)) ^^^ -ni 1))), some (vi (ni t)), some (vi (ni (8 * t + (r + 1)))), o5], [], h) := by
  have vM' := vM V
  have vS' := vS V
  have vN' := vN V ht
  have v := vq V ht hr
  have v8 := v.2.2.1
  intro k
  induction k with
  | zero =>
    intro i e
    refine ⟨some (vi (ni i)), ?_⟩
    rw [e_242_96 hs]
    simp (disch := first | assumption | omega | (simp only [Sh_pI, Sh_pL, Sh_pIs, Sh_pLs]; assumption)) only [↓ixb, Option.bind_some, Option.bind_none, Option.toList_some, Option.toList_none, List.cons_append, List.nil_append, ni_lit, ni_of, ni_add, ni_mul, ni_sub, ni_div, ni_lt, ni_le, ni_eq, ng_lt, ng_le, ng_lt', ng_le', ng_eq, ng_eq', ng_ng, Int32.neg_neg, ix_ni, if_pos, if_neg, reduceIte, mZ c ht hr]
    rw [show i = sD s 12 (8 * t + r) - 1 by omega, Nat.add_assoc]
  | succ k ih =>
    intro i e
    have w1 := v.2.2.2.2.1 i (by omega)
    have w2 := v.2.2.2.2.1 (i + 1) (by omega)
    have e0 := mWh c ht hr (i := i) (by omega)
    have e1 := mWh c ht hr (i := i + 1) (by omega)
    have e1' : hI h 278 (8 * (8 * t + r) + i + 1) = ni (sD s 14 (8 * (8 * t + r) + (i + 1))) := e1
    obtain ⟨o5, fin⟩ := ih (i + 1) (by omega)
    refine ⟨o5, Eq.trans ?_ fin⟩
    rw [tlq_s, e_242_96 hs]
    by_cases z : sD s 14 (8 * (8 * t + r) + i) = m
    · rw [if_pos z, or_as]
      simp (disch := first | assumption | omega | (simp only [Sh_pI, Sh_pL, Sh_pIs, Sh_pLs]; assumption)) only [↓ixb, Option.bind_some, Option.bind_none, Option.toList_some, Option.toList_none, List.cons_append, List.nil_append, ni_lit, ni_of, ni_add, ni_mul, ni_sub, ni_div, ni_lt, ni_le, ni_eq, ng_lt, ng_le, ng_lt', ng_le', ng_eq, ng_eq', ng_ng, Int32.neg_neg, ix_ni, if_pos, if_neg, reduceIte, mZ c ht hr, e0, e1', z, e_242_149, andn]
    · rw [if_neg z]
      simp (disch := first | assumption | omega | (simp only [Sh_pI, Sh_pL, Sh_pIs, Sh_pLs]; assumption)) only [↓ixb, Option.bind_some, Option.bind_none, Option.toList_some, Option.toList_none, List.cons_append, List.nil_append, ni_lit, ni_of, ni_add, ni_mul, ni_sub, ni_div, ni_lt, ni_le, ni_eq, ng_lt, ng_le, ng_lt', ng_le', ng_eq, ng_eq', ng_ng, Int32.neg_neg, ix_ni, if_pos, if_neg, reduceIte, mZ c ht hr, e0, e_242_149]
theorem L242r (hs : Sh h) (V : Vs s) (c : MS h s) (ht : t < sS s) (hm : m < 24) (S T : Int32) : ∀ k r (o5 : Option am_V), r + k = sD s 10 t → ∃ o4 o5', am_E 242 (77, [some (vr (some 261)), some (vi (ni m)), some (vi (S &&& (tdr (sD s) m t T r ^^^ -ni 1))), some (vi (ni t)), some (vi (ni (8 * t + r))), o5], [], h) = am_E 242 (63, [some (vr (some 261)), some (vi (ni m)), some (vi (S &&& (tdr (sD s) m t T (sD s 10 t) ^^^ -ni 1))), some (vi (ni (t + 1))), o4, o5'], [], h) := by
  have vS' := vS V
  have vN' := vN V ht
  intro k
  induction k with
  | zero =>
    intro r o5 e
    refine ⟨some (vi (ni (8 * t + r))), o5, ?_⟩
    rw [e_242_77 hs]
    simp (disch := first | assumption | omega | (simp only [Sh_pI, Sh_pL, Sh_pIs, Sh_pLs]; assumption)) only [↓ixb, Option.bind_some, Option.bind_none, Option.toList_some, Option.toList_none, List.cons_append, List.nil_append, ni_lit, ni_of, ni_add, ni_mul, ni_sub, ni_div, ni_lt, ni_le, ni_eq, ng_lt, ng_le, ng_lt', ng_le', ng_eq, ng_eq', ng_ng, Int32.neg_neg, ix_ni, if_pos, if_neg, reduceIte, mN c ht]
    rw [show r = sD s 10 t by omega]
  | succ k ih =>
    intro r o5 e
    have hr : r < sD s 10 t := by omega
    have v := vq V ht hr
    have v2 := v.2.1
    obtain ⟨o5a, f⟩ := L242l hs V c ht hr hm S (tdr (sD s) m t T r) (sD s 12 (8 * t + r) - 1) 0 (by omega)
    rw [show tlq (sD s) (8 * t + r) m 0 = ni 0 from rfl, or_0] at f
    obtain ⟨o4, o5', fin⟩ := ih (r + 1) o5a (by omega)
    refine ⟨o4, o5', Eq.trans ?_ fin⟩
    rw [e_242_77 hs]
    simp (disch := first | assumption | omega | (simp only [Sh_pI, Sh_pL, Sh_pIs, Sh_pLs]; assumption)) only [↓ixb, Option.bind_some, Option.bind_none, Option.toList_some, Option.toList_none, List.cons_append, List.nil_append, ni_lit, ni_of, ni_add, ni_mul, ni_sub, ni_div, ni_lt, ni_le, ni_eq, ng_lt, ng_le, ng_lt', ng_le', ng_eq, ng_eq', ng_ng, Int32.neg_neg, ix_ni, if_pos, if_neg, reduceIte, mN c ht]
    exact f
theorem L242 (hs : Sh h) (V : Vs s) (c : MS h s) (hm : m < 24) (S : Int32) : ∀ k t (o4 o5 : Option am_V), t + k = sS s → am_E 242 (63, [some (vr (some 261)), some (vi (ni m)), some (vi (S &&& (tds (sD s) m t ^^^ -ni 1))), some (vi (ni t)), o4, o5], [], h) = some (some (vi (S &&& (tds (sD s) m (sS s) ^^^ -ni 1))), h) := by
  have vS' := vS V
  intro k
  induction k with
  | zero =>
    intro t o4 o5 e
    rw [e_242_63 hs, mS c]
    simp (disch := first | assumption | omega | (simp only [Sh_pI, Sh_pL, Sh_pIs, Sh_pLs]; assumption)) only [↓ixb, Option.bind_some, Option.bind_none, Option.toList_some, Option.toList_none, List.cons_append, List.nil_append, ni_lit, ni_of, ni_add, ni_mul, ni_sub, ni_div, ni_lt, ni_le, ni_eq, ng_lt, ng_le, ng_lt', ng_le', ng_eq, ng_eq', ng_ng, Int32.neg_neg, ix_ni, if_pos, if_neg, reduceIte]
    rw [show t = sS s by omega]
  | succ k ih =>
    intro t o4 o5 e
    obtain ⟨o4', o5', f⟩ := L242r (t := t) hs V c (by omega) hm S (tds (sD s) m t) (sD s 10 t) 0 o5 (by omega)
    rw [e_242_63 hs, mS c]
    simp (disch := first | assumption | omega | (simp only [Sh_pI, Sh_pL, Sh_pIs, Sh_pLs]; assumption)) only [↓ixb, Option.bind_some, Option.bind_none, Option.toList_some, Option.toList_none, List.cons_append, List.nil_append, ni_lit, ni_of, ni_add, ni_mul, ni_sub, ni_div, ni_lt, ni_le, ni_eq, ng_lt, ng_le, ng_lt', ng_le', ng_eq, ng_eq', ng_ng, Int32.neg_neg, ix_ni, if_pos, if_neg, reduceIte]
    exact f.trans (ih (t + 1) o4' o5' (by omega))
end SIL
theorem A40 : ∀ a1, Alike 241 242 [vi a1] := fun a1 => glue fun s V => by
  have vM' := vM V
  rcases rg a1 (sM s) with ⟨m, hm, rfl⟩ | hn
  · refine ⟨sb (shr s m) (sM s) &&& (tds (sD s) m (sS s) ^^^ -ni 1), s, V, HC_0 fun h hs c => ?_, HM_q V fun h hs c => ⟨hb h s, ?_, hb_K⟩⟩
    · rw [d_241 hs, D53t hs V c hm]; simp (disch := first | assumption | omega | (simp only [Sh_pI, Sh_pL, Sh_pIs, Sh_pLs]; assumption)) only [↓ixb, Option.bind_some, Option.bind_none, Option.toList_some, Option.toList_none, List.cons_append, List.nil_append, ni_lit, ni_of, ni_add, ni_mul, ni_sub, ni_div, ni_lt, ni_le, ni_eq, ng_lt, ng_le, ng_lt', ng_le', ng_eq, ng_eq', ng_ng, Int32.neg_neg, ix_ni, if_pos, if_neg, reduceIte, e_241_8]
      exact L241 hs V c hm (sM s) 0 (by omega)
    · rw [d_242 hs, D56t hs V c hm]; simp (disch := first | assumption | omega | (simp only [Sh_pI, Sh_pL, Sh_pIs, Sh_pLs]; assumption)) only [↓ixb, Option.bind_some, Option.bind_none, Option.toList_some, Option.toList_none, List.cons_append, List.nil_append, ni_lit, ni_of, ni_add, ni_mul, ni_sub, ni_div, ni_lt, ni_le, ni_eq, ng_lt, ng_le, ng_lt', ng_le', ng_eq, ng_eq', ng_ng, Int32.neg_neg, ix_ni, if_pos, if_neg, reduceIte, e_242_5, hb_e c]
      refine (L242a (hb_S hs) V (hb_M V c) hb_43 hm (sM s) 0 none none (by omega)).trans ?_
      have f := L242 (hb_S hs) V (hb_M V c) (show m < 24 by omega) (sb (shr s m) (sM s)) (sS s) 0 none none (by omega)
      rw [show tds (sD s) m 0 = ni 0 from rfl, andn0] at f
      exact f
  · refine refg V 1 (by omega) (fun h hs c => ?_) (fun h hs c => ?_)
    · rw [d_241 hs, D53f hs V c hn]; simp (disch := first | assumption | omega | (simp only [Sh_pI, Sh_pL, Sh_pIs, Sh_pLs]; assumption)) only [↓ixb, Option.bind_some, Option.bind_none, Option.toList_some, Option.toList_none, List.cons_append, List.nil_append, ni_lit, ni_of, ni_add, ni_mul, ni_sub, ni_div, ni_lt, ni_le, ni_eq, ng_lt, ng_le, ng_lt', ng_le', ng_eq, ng_eq', ng_ng, Int32.neg_neg, ix_ni, if_pos, if_neg, reduceIte, e_241_8, D7, e_241_16]
    · rw [d_242 hs, D56f hs V c hn]; simp (disch := first | assumption | omega | (simp only [Sh_pI, Sh_pL, Sh_pIs, Sh_pLs]; assumption)) only [↓ixb, Option.bind_some, Option.bind_none, Option.toList_some, Option.toList_none, List.cons_append, List.nil_append, ni_lit, ni_of, ni_add, ni_mul, ni_sub, ni_div, ni_lt, ni_le, ni_eq, ng_lt, ng_le, ng_lt', ng_le', ng_eq, ng_eq', ng_ng, Int32.neg_neg, ix_ni, if_pos, if_neg, reduceIte, e_242_5, D10, e_242_13]
