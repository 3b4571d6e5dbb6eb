/-! rows of men: what one says -/
theorem gd_h {α : Type} {x : Int32} {n : Nat} (hx : ∀ k, k ≤ n → x ≠ ni k) (hn : n < 2147483647) (A C : α) : (if x < 0 then A else if x ≤ ni n then C else A) = A := by
  rcases ni_cases x with ⟨z, -⟩ | ⟨k, hk, rfl⟩
  · exact if_pos z
  · have : ¬ k ≤ n := fun z => hx k z rfl
    rw [if_neg (by rw [show (0 : Int32) = ni 0 from rfl, ni_lt hk (by omega)]; omega), if_neg (by rw [ni_le hk (by omega)]; omega)]
section ROW
variable {h : am_H} {s : Sg} {D : Nat → Nat → Nat} {M q r a w l : Nat}
theorem cRow (c : CS h s) {t r : Nat} (ht : t < sS s) (hr : r < sD s 10 t) : ∃ a w l, hR h 37 (8 * t + r) = some a ∧ CQ h (sD s) (8 * t + r) r a w l := (c.2.2.2.2.1.2.2.2 t ht).2.2 r hr
theorem vq (V : Vs s) {t r : Nat} (ht : t < sS s) (hr : r < sD s 10 t) : Vq (sD s) (sM s) (8 * t + r) := (V.1.2.2.2.2.2 t ht).1.2.2 r hr
theorem mK (c : MS h s) {t r : Nat} (ht : t < sS s) (hr : r < sD s 10 t) : hI h 275 (8 * t + r) = ni (sD s 11 (8 * t + r)) := ((c.2.2.2.2.1.2.2 t ht).2.2 r hr).1
theorem mZ (c : MS h s) {t r : Nat} (ht : t < sS s) (hr : r < sD s 10 t) : hI h 276 (8 * t + r) = ni (sD s 12 (8 * t + r)) := ((c.2.2.2.2.1.2.2 t ht).2.2 r hr).2.1
theorem mWd (c : MS h s) {t r : Nat} (ht : t < sS s) (hr : r < sD s 10 t) : hI h 277 (8 * t + r) = ni (sD s 13 (8 * t + r)) := ((c.2.2.2.2.1.2.2 t ht).2.2 r hr).2.2.1
theorem mWh (c : MS h s) {t r i : Nat} (ht : t < sS s) (hr : r < sD s 10 t) (hi : i < sD s 12 (8 * t + r)) : hI h 278 (8 * (8 * t + r) + i) = ni (sD s 14 (8 * (8 * t + r) + i)) := ((c.2.2.2.2.1.2.2 t ht).2.2 r hr).2.2.2.1 i hi
theorem mLk (c : MS h s) {t r i : Nat} (ht : t < sS s) (hr : r < sD s 10 t) (hi : i + 1 < sD s 12 (8 * t + r)) : hI h 279 (8 * (8 * t + r) + i) = ni (sD s 15 (8 * (8 * t + r) + i)) := ((c.2.2.2.2.1.2.2 t ht).2.2 r hr).2.2.2.2 i hi
theorem qR (c : CQ h D q r a w l) : Rw h a w l (D 12 q) := c.1
theorem qK (c : CQ h D q r a w l) : (hK h a).1 = kt (D 11 q) := c.2.2.2.2.2.2.2.1
theorem qNo (c : CQ h D q r a w l) : hI h a 0 = ni r := c.2.2.2.2.2.2.2.2.1
theorem qZ (c : CQ h D q r a w l) : hI h a 1 = ni (D 12 q) := c.2.2.2.2.2.2.2.2.2.1
theorem qWd (c : CQ h D q r a w l) : hI h a 2 = ni (D 13 q) := c.2.2.2.2.2.2.2.2.2.2.1
theorem qWh (c : CQ h D q r a w l) {i : Nat} (hi : i < D 12 q) : hI h w i = ni (D 14 (8 * q + i)) := c.2.2.2.2.2.2.2.2.2.2.2.1 i hi
theorem qLk (c : CQ h D q r a w l) {i : Nat} (hi : i + 1 < D 12 q) : hI h l i = ni (D 15 (8 * q + i)) := c.2.2.2.2.2.2.2.2.2.2.2.2 i hi
/-- one method for all kinds -/
theorem lk_all (c : CQ h D q r a w l) (z : Nat) : am_lk [(0, z), (1, z), (2, z), (3, z), (6, z), (7, z), (9, z)] (hK h a).1 = some z := by
  have h1 : (hK h a).1 ∈ ([0, 1, 2, 3, 6, 7, 9] : List Nat) := c.1.1
  revert h1
  generalize (hK h a).1 = t
  intro h1
  simp only [List.mem_cons, List.not_mem_nil, or_false] at h1
  rcases h1 with rfl | rfl | rfl | rfl | rfl | rfl | rfl <;> rfl
/-- is a kind k one of κ, or above it -/
def isK (k κ : Nat) : Bool := k == 0 || k == κ || (k == 2 && κ == 3) || (k == 5 && κ == 6)
theorem D31 (hs : Sh h) (c : CQ h D q r a w l) (hκ : D 11 q ≤ 6) {k : Nat} (hk : k ≤ 6) : am_D 31 [vr (some a), vi (ni k)] h = some (some (vi (bi (isK k (D 11 q)))), h) := by
  rw [d_31 hs (qR c)]
  rcases (show k = 0 ∨ k = 1 ∨ k = 2 ∨ k = 3 ∨ k = 4 ∨ k = 5 ∨ k = 6 by omega) with rfl | rfl | rfl | rfl | rfl | rfl | rfl
  · rw [show am_tg 0 [44, 46, 51, 56, 61, 66, 71] 76 (ni 0) = 44 from by decide, e_31_44 hs]; rfl
  · rw [show am_tg 0 [44, 46, 51, 56, 61, 66, 71] 76 (ni 1) = 46 from by decide, e_31_46 hs (qR c), qK c]
    rcases (show D 11 q = 0 ∨ D 11 q = 1 ∨ D 11 q = 2 ∨ D 11 q = 3 ∨ D 11 q = 4 ∨ D 11 q = 5 ∨ D 11 q = 6 by omega) with e | e | e | e | e | e | e <;> rw [e] <;> rfl
  · rw [show am_tg 0 [44, 46, 51, 56, 61, 66, 71] 76 (ni 2) = 51 from by decide, e_31_51 hs (qR c), qK c]
    rcases (show D 11 q = 0 ∨ D 11 q = 1 ∨ D 11 q = 2 ∨ D 11 q = 3 ∨ D 11 q = 4 ∨ D 11 q = 5 ∨ D 11 q = 6 by omega) with e | e | e | e | e | e | e <;> rw [e] <;> rfl
  · rw [show am_tg 0 [44, 46, 51, 56, 61, 66, 71] 76 (ni 3) = 56 from by decide, e_31_56 hs (qR c), qK c]
    rcases (show D 11 q = 0 ∨ D 11 q = 1 ∨ D 11 q = 2 ∨ D 11 q = 3 ∨ D 11 q = 4 ∨ D 11 q = 5 ∨ D 11 q = 6 by omega) with e | e | e | e | e | e | e <;> rw [e] <;> rfl
  · rw [show am_tg 0 [44, 46, 51, 56, 61, 66, 71] 76 (ni 4) = 61 from by decide, e_31_61 hs (qR c), qK c]
    rcases (show D 11 q = 0 ∨ D 11 q = 1 ∨ D 11 q = 2 ∨ D 11 q = 3 ∨ D 11 q = 4 ∨ D 11 q = 5 ∨ D 11 q = 6 by omega) with e | e | e | e | e | e | e <;> rw [e] <;> rfl
  · rw [show am_tg 0 [44, 46, 51, 56, 61, 66, 71] 76 (ni 5) = 66 from by decide, e_31_66 hs (qR c), qK c]
    rcases (show D 11 q = 0 ∨ D 11 q = 1 ∨ D 11 q = 2 ∨ D 11 q = 3 ∨ D 11 q = 4 ∨ D 11 q = 5 ∨ D 11 q = 6 by omega) with e | e | e | e | e | e | e <;> rw [e] <;> rfl
  · rw [show am_tg 0 [44, 46, 51, 56, 61, 66, 71] 76 (ni 6) = 71 from by decide, e_31_71 hs (qR c), qK c]
    rcases (show D 11 q = 0 ∨ D 11 q = 1 ∨ D 11 q = 2 ∨ D 11 q = 3 ∨ D 11 q = 4 ∨ D 11 q = 5 ∨ D 11 q = 6 by omega) with e | e | e | e | e | e | e <;> rw [e] <;> rfl
/-- the first link that is heard, from the i-th on, of m more -/
def fhv (D : Nat → Nat → Nat) (q : Nat) : Nat → Nat → Int32
  | 0, _ => -ni 1
  | m + 1, i => if D 15 (8 * q + i) = 2 then ni i else fhv D q m (i + 1)
theorem L32 (hs : Sh h) (c : CQ h D q r a w l) (h8 : D 12 q ≤ 8) (h3 : ∀ i, i + 1 < D 12 q → D 15 (8 * q + i) < 3) : ∀ m i, i + m + 1 = D 12 q → am_E 32 (2, [some (vr (some a)), some (vi (ni i))], [], h) = some (some (vi (fhv D q m i)), h) := by
  intro m
  induction m with
  | zero =>
    intro i e
    rw [e_32_2 hs (qR c), qZ c]
    simp (disch := first | assumption | omega | (simp only [Sh_pI, Sh_pL, Sh_pIs, Sh_pLs]; assumption)) only [↓ixb, Option.bind_some, Option.bind_none, Option.toList_some, Option.toList_none, List.cons_append, List.nil_append, ni_lit, ni_of, ni_add, ni_mul, ni_sub, ni_div, ni_lt, ni_le, ni_eq, ng_lt, ng_le, ng_lt', ng_le', ng_eq, ng_eq', ng_ng, Int32.neg_neg, ix_ni, if_pos, if_neg, reduceIte]
    rfl
  | succ m ih =>
    intro i e
    have := h3 i (by omega)
    rw [e_32_2 hs (qR c), qZ c]
    simp (disch := first | assumption | omega | (simp only [Sh_pI, Sh_pL, Sh_pIs, Sh_pLs]; assumption)) only [↓ixb, Option.bind_some, Option.bind_none, Option.toList_some, Option.toList_none, List.cons_append, List.nil_append, ni_lit, ni_of, ni_add, ni_mul, ni_sub, ni_div, ni_lt, ni_le, ni_eq, ng_lt, ng_le, ng_lt', ng_le', ng_eq, ng_eq', ng_ng, Int32.neg_neg, ix_ni, if_pos, if_neg, reduceIte, qLk c]
    unfold fhv
    by_cases y : D 15 (8 * q + i) = 2
    · rw [if_pos y, if_pos y]
    · rw [if_neg y, if_neg y]; exact ih (i + 1) (by omega)
theorem D32 (hs : Sh h) (c : CQ h D q r a w l) (v : Vq D M q) : am_D 32 [vr (some a)] h = some (some (vi (fhv D q (D 12 q - 1) 0)), h) := by
  rw [d_32 hs (qR c)]
  exact L32 hs c v.2.2.1 v.2.2.2.2.2.2 _ 0 (by have := v.2.1; omega)
theorem D33 (hs : Sh h) (c : CQ h D q r a w l) (v : Vq D M q) : am_D 33 [vr (some a)] h = some (some (vi (ni (D 14 (8 * q + (D 12 q - 1))))), h) := by
  have v1 := v.2.1
  have v2 := v.2.2.1
  rw [d_33 hs (qR c), qZ c]
  simp (disch := first | assumption | omega | (simp only [Sh_pI, Sh_pL, Sh_pIs, Sh_pLs]; assumption)) only [↓ixb, Option.bind_some, Option.bind_none, Option.toList_some, Option.toList_none, List.cons_append, List.nil_append, ni_lit, ni_of, ni_add, ni_mul, ni_sub, ni_div, ni_lt, ni_le, ni_eq, ng_lt, ng_le, ng_lt', ng_le', ng_eq, ng_eq', ng_ng, Int32.neg_neg, ix_ni, if_pos, if_neg, reduceIte, qWh c]
/-- what a row says, taken for a kind -/
def sayv (D : Nat → Nat → Nat) (q k : Nat) : Int32 := if k = 0 then ni (D 12 q) else if k = 1 then ni (D 13 q) else if k = 4 then ni (D 14 (8 * q + (D 12 q - 1))) else if k = 2 ∨ k = 3 then fhv D q (D 12 q - 1) 0 else ni (D 14 (8 * q))
theorem D34 (hs : Sh h) (c : CQ h D q r a w l) (v : Vq D M q) {k : Nat} (hk : k ≤ 6) : am_D 34 [vr (some a), vi (ni k)] h = some (some (vi (sayv D q k)), h) := by
  have v1 := v.2.1
  have v2 := v.2.2.1
  have fh : ∀ {o : Option am_V}, am_E 34 (45, [some (vr (some a)), o], [], h) = some (some (vi (fhv D q (D 12 q - 1) 0)), h) := by
    intro o
    rw [e_34_45 hs (qR c), lk_all c]
    simp only [Option.bind_some]
    rw [D32 hs c v]
    simp (disch := first | assumption | omega | (simp only [Sh_pI, Sh_pL, Sh_pIs, Sh_pLs]; assumption)) only [↓ixb, Option.bind_some, Option.toList_some, Option.toList_none, List.cons_append, List.nil_append, e_34_49 hs]
  have lm : ∀ {o : Option am_V}, am_E 34 (50, [some (vr (some a)), o], [], h) = some (some (vi (ni (D 14 (8 * q + (D 12 q - 1))))), h) := by
    intro o
    rw [e_34_50 hs (qR c), lk_all c]
    simp only [Option.bind_some]
    rw [D33 hs c v]
    simp (disch := first | assumption | omega | (simp only [Sh_pI, Sh_pL, Sh_pIs, Sh_pLs]; assumption)) only [↓ixb, Option.bind_some, Option.toList_some, Option.toList_none, List.cons_append, List.nil_append, e_34_54 hs]
  have w0 : ∀ {o : Option am_V}, am_E 34 (55, [some (vr (some a)), o], [], h) = some (some (vi (ni (D 14 (8 * q)))), h) := by
    intro o
    rw [e_34_55 hs (qR c)]
    have := qWh c (i := 0) (by omega)
    simp (disch := first | assumption | omega | (simp only [Sh_pI, Sh_pL, Sh_pIs, Sh_pLs]; assumption)) only [↓ixb, Option.bind_some, Option.bind_none, Option.toList_some, Option.toList_none, List.cons_append, List.nil_append, ni_lit, ni_of, ni_add, ni_mul, ni_sub, ni_div, ni_lt, ni_le, ni_eq, ng_lt, ng_le, ng_lt', ng_le', ng_eq, ng_eq', ng_ng, Int32.neg_neg, ix_ni, if_pos, if_neg, reduceIte, this, Nat.add_zero]
  rw [d_34 hs (qR c)]
  rcases (show k = 0 ∨ k = 1 ∨ k = 2 ∨ k = 3 ∨ k = 4 ∨ k = 5 ∨ k = 6 by omega) with rfl | rfl | rfl | rfl | rfl | rfl | rfl
  · rw [show am_tg 1 [40, 45, 45, 50, 55, 55] 62 (ni 0) = 62 from by decide, e_34_62 hs (qR c), qZ c]; rfl
  · rw [show am_tg 1 [40, 45, 45, 50, 55, 55] 62 (ni 1) = 40 from by decide, e_34_40 hs (qR c), qWd c]; rfl
  · rw [show am_tg 1 [40, 45, 45, 50, 55, 55] 62 (ni 2) = 45 from by decide, fh]; rfl
  · rw [show am_tg 1 [40, 45, 45, 50, 55, 55] 62 (ni 3) = 45 from by decide, fh]; rfl
  · rw [show am_tg 1 [40, 45, 45, 50, 55, 55] 62 (ni 4) = 50 from by decide, lm]; rfl
  · rw [show am_tg 1 [40, 45, 45, 50, 55, 55] 62 (ni 5) = 55 from by decide, w0]; rfl
  · rw [show am_tg 1 [40, 45, 45, 50, 55, 55] 62 (ni 6) = 55 from by decide, w0]; rfl
theorem L36 (hs : Sh h) (V : Vs s) (c : MS h s) {t r : Nat} (ht : t < sS s) (hr : r < sD s 10 t) {o1 o2 : Option am_V} : ∀ m i (o4 : Option am_V), i + m + 1 = sD s 12 (8 * t + r) → am_E 36 (177, [some (vr (some 261)), o1, o2, some (vi (ni (8 * t + r))), o4, some (vi (ni i))], [], h) = some (some (vi (fhv (sD s) (8 * t + r) m i)), h) := by
  have v := vq V ht hr
  have v1 := vS V
  have v2 := vN V ht
  have v3 := v.2.2.1
  intro m
  induction m with
  | zero =>
    intro i o4 e
    rw [e_36_177 hs]
    simp (disch := first | assumption | omega | (simp only [Sh_pI, Sh_pL, Sh_pIs, Sh_pLs]; assumption)) only [↓ixb, Option.bind_some, Option.bind_none, Option.toList_some, Option.toList_none, List.cons_append, List.nil_append, ni_lit, ni_of, ni_add, ni_mul, ni_sub, ni_div, ni_lt, ni_le, ni_eq, ng_lt, ng_le, ng_lt', ng_le', ng_eq, ng_eq', ng_ng, Int32.neg_neg, ix_ni, if_pos, if_neg, reduceIte, mZ c ht hr]
    rfl
  | succ m ih =>
    intro i o4 e
    have := v.2.2.2.2.2.2 i (by omega)
    rw [e_36_177 hs]
    simp (disch := first | assumption | omega | (simp only [Sh_pI, Sh_pL, Sh_pIs, Sh_pLs]; assumption)) only [↓ixb, Option.bind_some, Option.bind_none, Option.toList_some, Option.toList_none, List.cons_append, List.nil_append, ni_lit, ni_of, ni_add, ni_mul, ni_sub, ni_div, ni_lt, ni_le, ni_eq, ng_lt, ng_le, ng_lt', ng_le', ng_eq, ng_eq', ng_ng, Int32.neg_neg, ix_ni, if_pos, if_neg, reduceIte, mZ c ht hr, mLk c ht hr]
    unfold fhv
    by_cases y : sD s 15 (8 * (8 * t + r) + i) = 2
    · rw [if_pos y, if_pos y]
    · rw [if_neg y, if_neg y]; exact ih (i + 1) _ (by omega)
end ROW
theorem A6 : ∀ a1 a2, Alike 35 36 [vi a1, vi a2] := fun a1 a2 => glue fun s V => by
  have v1 := vS V
  by_cases g : (∃ k, k < 8 ∧ a1 = ni k) ∧ ∃ j, j < 7 ∧ a2 = ni j
  · obtain ⟨⟨k, hk, rfl⟩, j, hj, rfl⟩ := g
    rcases V.2.2.1 k hk with z | ⟨z, z1, z2⟩ | ⟨z, z1, z2⟩
    · refine refg V 3 (by omega) (fun h hs c => ?_) (fun h hs c => ?_)
      · rw [d_35 hs, D6t hs hk]; simp (disch := first | assumption | omega | (simp only [Sh_pI, Sh_pL, Sh_pIs, Sh_pLs]; assumption)) only [↓ixb, Option.bind_some, Option.bind_none, Option.toList_some, Option.toList_none, List.cons_append, List.nil_append, ni_lit, ni_of, ni_add, ni_mul, ni_sub, ni_div, ni_lt, ni_le, ni_eq, ng_lt, ng_le, ng_lt', ng_le', ng_eq, ng_eq', ng_ng, Int32.neg_neg, ix_ni, if_pos, if_neg, reduceIte, e_35_4, cH0 c hk z, D16 hs V c hk, z, bi0, dF, e_35_46, e_35_78, D7, e_35_89]
      · rw [d_36 hs, D9t hs hk]; simp (disch := first | assumption | omega | (simp only [Sh_pI, Sh_pL, Sh_pIs, Sh_pLs]; assumption)) only [↓ixb, Option.bind_some, Option.bind_none, Option.toList_some, Option.toList_none, List.cons_append, List.nil_append, ni_lit, ni_of, ni_add, ni_mul, ni_sub, ni_div, ni_lt, ni_le, ni_eq, ng_lt, ng_le, ng_lt', ng_le', ng_eq, ng_eq', ng_ng, Int32.neg_neg, ix_ni, if_pos, if_neg, reduceIte, e_36_5, mH c hk, z, D10, e_36_56]
    · refine refg V 2 (by omega) (fun h hs c => ?_) (fun h hs c => ?_)
      · rw [d_35 hs, D6t hs hk]; simp (disch := first | assumption | omega | (simp only [Sh_pI, Sh_pL, Sh_pIs, Sh_pLs]; assumption)) only [↓ixb, Option.bind_some, Option.bind_none, Option.toList_some, Option.toList_none, List.cons_append, List.nil_append, ni_lit, ni_of, ni_add, ni_mul, ni_sub, ni_div, ni_lt, ni_le, ni_eq, ng_lt, ng_le, ng_lt', ng_le', ng_eq, ng_eq', ng_ng, Int32.neg_neg, ix_ni, if_pos, if_neg, reduceIte, e_35_4, cH1 c hk z, D7, e_35_40]
      · rw [d_36 hs, D9t hs hk]; simp (disch := first | assumption | omega | (simp only [Sh_pI, Sh_pL, Sh_pIs, Sh_pLs]; assumption)) only [↓ixb, Option.bind_some, Option.bind_none, Option.toList_some, Option.toList_none, List.cons_append, List.nil_append, ni_lit, ni_of, ni_add, ni_mul, ni_sub, ni_div, ni_lt, ni_le, ni_eq, ng_lt, ng_le, ng_lt', ng_le', ng_eq, ng_eq', ng_ng, Int32.neg_neg, ix_ni, if_pos, if_neg, reduceIte, e_36_5, mH c hk, z, D10, e_36_40]
    · have v2 := vN V z1
      have v := vq V z1 z2
      obtain ⟨u1, u2, u3, u4, u5, u6, u7⟩ := v
      have C0 : ∀ h, Sh h → CS h s → ∃ a w l, CQ h (sD s) (8 * sD s 20 k + sD s 21 k) (sD s 21 k) a w l ∧ am_D 35 [vr (some 16), vi (ni k), vi (ni j)] h = am_E 35 (95, [some (vr (some 16)), some (vi (ni k)), some (vi (ni j)), some (vr (some a))], [vi (bi (isK j (sD s 11 (8 * sD s 20 k + sD s 21 k))))], h) := fun h hs c => by
        obtain ⟨a, w, l, q1, q2⟩ := cRow c z1 z2
        refine ⟨a, w, l, q2, ?_⟩
        have e1 : (10 * sD s 20 k + sD s 21 k) / 10 = sD s 20 k := by omega
        have e2 : 10 * sD s 20 k + sD s 21 k - sD s 20 k * 10 = sD s 21 k := by omega
        rw [d_35 hs, D6t hs hk]
        simp (disch := first | assumption | omega | (simp only [Sh_pI, Sh_pL, Sh_pIs, Sh_pLs]; assumption)) only [↓ixb, Option.bind_some, Option.bind_none, Option.toList_some, Option.toList_none, List.cons_append, List.nil_append, ni_lit, ni_of, ni_add, ni_mul, ni_sub, ni_div, ni_lt, ni_le, ni_eq, ng_lt, ng_le, ng_lt', ng_le', ng_eq, ng_eq', ng_ng, Int32.neg_neg, ix_ni, if_pos, if_neg, reduceIte, e_35_4, cH2 c hk z, D16 hs V c hk, z, bi0, dF, e_35_46, e1, e2, D24t hs V c z1 z2, q1, not_true_eq_false, decide_true, bi_t]
        rw [e_35_74_1 hs (qR q2), e_35_78_1 hs (qR q2), lk_all q2]
        simp (disch := first | assumption | omega | (simp only [Sh_pI, Sh_pL, Sh_pIs, Sh_pLs]; assumption)) only [↓ixb, Option.bind_some, Option.toList_some, Option.toList_none, List.cons_append, List.nil_append, D31 hs q2 u1]
      by_cases iK : isK j (sD s 11 (8 * sD s 20 k + sD s 21 k)) = true
      · refine ⟨sayv (sD s) (8 * sD s 20 k + sD s 21 k) j, s, V, HC_0 fun h hs c => ?_, HM_0 fun h hs c => ?_⟩
        · obtain ⟨a, w, l, q, e⟩ := C0 h hs c
          rw [e, iK, e_35_95 hs (qR q), lk_all q]
          simp (disch := first | assumption | omega | (simp only [Sh_pI, Sh_pL, Sh_pIs, Sh_pLs]; assumption)) only [↓ixb, Option.bind_some, Option.toList_some, Option.toList_none, List.cons_append, List.nil_append, D34 hs q (vq V z1 z2)]
          rw [if_neg (by decide), e_35_110 hs]
        · have f : ∀ {o4 o5 : Option am_V}, am_E 36 (112, [some (vr (some 261)), some (vi (ni k)), some (vi (ni j)), some (vi (ni (8 * sD s 20 k + sD s 21 k))), o4, o5], [], h) = some (some (vi (sayv (sD s) (8 * sD s 20 k + sD s 21 k) j)), h) := by
            intro o4 o5
            have wl := mWh c z1 z2 (i := sD s 12 (8 * sD s 20 k + sD s 21 k) - 1) (by omega)
            have w0 := mWh c z1 z2 (i := 0) (by omega)
            rw [Nat.add_zero] at w0
            rw [← Nat.add_sub_assoc (by omega)] at wl
            rw [e_36_112 hs]
            unfold sayv
            rcases (show j = 0 ∨ j = 1 ∨ j = 2 ∨ j = 3 ∨ j = 4 ∨ j = 5 ∨ j = 6 by omega) with rfl | rfl | rfl | rfl | rfl | rfl | rfl
            · simp (disch := first | assumption | omega | (simp only [Sh_pI, Sh_pL, Sh_pIs, Sh_pLs]; assumption)) only [↓ixb, Option.bind_some, Option.bind_none, Option.toList_some, Option.toList_none, List.cons_append, List.nil_append, ni_lit, ni_of, ni_add, ni_mul, ni_sub, ni_div, ni_lt, ni_le, ni_eq, ng_lt, ng_le, ng_lt', ng_le', ng_eq, ng_eq', ng_ng, Int32.neg_neg, ix_ni, if_pos, if_neg, reduceIte, mZ c z1 z2]
            · simp (disch := first | assumption | omega | (simp only [Sh_pI, Sh_pL, Sh_pIs, Sh_pLs]; assumption)) only [↓ixb, Option.bind_some, Option.bind_none, Option.toList_some, Option.toList_none, List.cons_append, List.nil_append, ni_lit, ni_of, ni_add, ni_mul, ni_sub, ni_div, ni_lt, ni_le, ni_eq, ng_lt, ng_le, ng_lt', ng_le', ng_eq, ng_eq', ng_ng, Int32.neg_neg, ix_ni, if_pos, if_neg, reduceIte, mWd c z1 z2]
            · simp (disch := first | assumption | omega | (simp only [Sh_pI, Sh_pL, Sh_pIs, Sh_pLs]; assumption)) only [↓ixb, Option.bind_some, Option.bind_none, Option.toList_some, Option.toList_none, List.cons_append, List.nil_append, ni_lit, ni_of, ni_add, ni_mul, ni_sub, ni_div, ni_lt, ni_le, ni_eq, ng_lt, ng_le, ng_lt', ng_le', ng_eq, ng_eq', ng_ng, Int32.neg_neg, ix_ni, if_pos, if_neg, reduceIte]
              exact L36 hs V c z1 z2 _ 0 _ (by omega)
            · simp (disch := first | assumption | omega | (simp only [Sh_pI, Sh_pL, Sh_pIs, Sh_pLs]; assumption)) only [↓ixb, Option.bind_some, Option.bind_none, Option.toList_some, Option.toList_none, List.cons_append, List.nil_append, ni_lit, ni_of, ni_add, ni_mul, ni_sub, ni_div, ni_lt, ni_le, ni_eq, ng_lt, ng_le, ng_lt', ng_le', ng_eq, ng_eq', ng_ng, Int32.neg_neg, ix_ni, if_pos, if_neg, reduceIte]
              exact L36 hs V c z1 z2 _ 0 _ (by omega)
            · simp (disch := first | assumption | omega | (simp only [Sh_pI, Sh_pL, Sh_pIs, Sh_pLs]; assumption)) only [↓ixb, Option.bind_some, Option.bind_none, Option.toList_some, Option.toList_none, List.cons_append, List.nil_append, ni_lit, ni_of, ni_add, ni_mul, ni_sub, ni_div, ni_lt, ni_le, ni_eq, ng_lt, ng_le, ng_lt', ng_le', ng_eq, ng_eq', ng_ng, Int32.neg_neg, ix_ni, if_pos, if_neg, reduceIte, mZ c z1 z2, wl]
              rw [← Nat.add_sub_assoc (by omega)]
            · simp (disch := first | assumption | omega | (simp only [Sh_pI, Sh_pL, Sh_pIs, Sh_pLs]; assumption)) only [↓ixb, Option.bind_some, Option.bind_none, Option.toList_some, Option.toList_none, List.cons_append, List.nil_append, ni_lit, ni_of, ni_add, ni_mul, ni_sub, ni_div, ni_lt, ni_le, ni_eq, ng_lt, ng_le, ng_lt', ng_le', ng_eq, ng_eq', ng_ng, Int32.neg_neg, ix_ni, if_pos, if_neg, reduceIte, w0]
            · simp (disch := first | assumption | omega | (simp only [Sh_pI, Sh_pL, Sh_pIs, Sh_pLs]; assumption)) only [↓ixb, Option.bind_some, Option.bind_none, Option.toList_some, Option.toList_none, List.cons_append, List.nil_append, ni_lit, ni_of, ni_add, ni_mul, ni_sub, ni_div, ni_lt, ni_le, ni_eq, ng_lt, ng_le, ng_lt', ng_le', ng_eq, ng_eq', ng_ng, Int32.neg_neg, ix_ni, if_pos, if_neg, reduceIte, w0]
          rw [d_36 hs, D9t hs hk]
          simp (disch := first | assumption | omega | (simp only [Sh_pI, Sh_pL, Sh_pIs, Sh_pLs]; assumption)) only [↓ixb, Option.bind_some, Option.bind_none, Option.toList_some, Option.toList_none, List.cons_append, List.nil_append, ni_lit, ni_of, ni_add, ni_mul, ni_sub, ni_div, ni_lt, ni_le, ni_eq, ng_lt, ng_le, ng_lt', ng_le', ng_eq, ng_eq', ng_ng, Int32.neg_neg, ix_ni, if_pos, if_neg, reduceIte, e_36_5, mH c hk, z, mH2 c hk z, mK c z1 z2, f, e_36_93]
          unfold isK at iK
          simp only [Bool.or_eq_true, Bool.and_eq_true, beq_iff_eq] at iK
          repeat' split
          all_goals first | rfl | (exfalso; omega)
      · refine refg V 2 (by omega) (fun h hs c => ?_) (fun h hs c => ?_)
        · obtain ⟨a, w, l, q, e⟩ := C0 h hs c
          rw [e, Bool.of_not_eq_true iK, e_35_95 hs (qR q)]
          simp (disch := first | assumption | omega | (simp only [Sh_pI, Sh_pL, Sh_pIs, Sh_pLs]; assumption)) only [↓ixb, Option.bind_some, Option.bind_none, Option.toList_some, Option.toList_none, List.cons_append, List.nil_append, ni_lit, ni_of, ni_add, ni_mul, ni_sub, ni_div, ni_lt, ni_le, ni_eq, ng_lt, ng_le, ng_lt', ng_le', ng_eq, ng_eq', ng_ng, Int32.neg_neg, ix_ni, if_pos, if_neg, reduceIte, bi_f, D7, e_35_104]
        · rw [d_36 hs, D9t hs hk]
          simp (disch := first | assumption | omega | (simp only [Sh_pI, Sh_pL, Sh_pIs, Sh_pLs]; assumption)) only [↓ixb, Option.bind_some, Option.bind_none, Option.toList_some, Option.toList_none, List.cons_append, List.nil_append, ni_lit, ni_of, ni_add, ni_mul, ni_sub, ni_div, ni_lt, ni_le, ni_eq, ng_lt, ng_le, ng_lt', ng_le', ng_eq, ng_eq', ng_ng, Int32.neg_neg, ix_ni, if_pos, if_neg, reduceIte, e_36_5, mH c hk, z, mH2 c hk z, mK c z1 z2, e_36_93, e_36_105, D10, e_36_111]
          unfold isK at iK
          simp only [Bool.or_eq_true, Bool.and_eq_true, beq_iff_eq] at iK
          repeat' split
          all_goals first | rfl | (exfalso; omega)
  · refine refg V 1 (by omega) (fun h hs c => ?_) (fun h hs c => ?_)
    · have fin : ∀ {o3 : Option am_V}, am_E 35 (17, [some (vr (some 16)), some (vi a1), some (vi a2), o3], [], h) = some (some (vi (-ni 1)), pI h 260 1 (hI h 260 1 + 1)) := by
        intro o3; simp (disch := first | assumption | omega | (simp only [Sh_pI, Sh_pL, Sh_pIs, Sh_pLs]; assumption)) only [↓ixb, Option.bind_some, Option.bind_none, Option.toList_some, Option.toList_none, List.cons_append, List.nil_append, ni_lit, ni_of, ni_add, ni_mul, ni_sub, ni_div, ni_lt, ni_le, ni_eq, ng_lt, ng_le, ng_lt', ng_le', ng_eq, ng_eq', ng_ng, Int32.neg_neg, ix_ni, if_pos, if_neg, reduceIte, e_35_17, D7, e_35_22]
      rcases rg a1 8 with ⟨k, hk, rfl⟩ | hn
      · rw [d_35 hs, D6t hs hk]; simp (disch := first | assumption | omega | (simp only [Sh_pI, Sh_pL, Sh_pIs, Sh_pLs]; assumption)) only [↓ixb, Option.bind_some, Option.toList_some, Option.toList_none, List.cons_append, List.nil_append, e_35_4, fin]
        rw [if_neg (by decide)]
        exact gd_h (n := 6) (fun i hi e => g ⟨⟨k, hk, rfl⟩, i, by omega, e⟩) (by omega) _ _
      · rw [d_35 hs, D6f hs hn]; simp (disch := first | assumption | omega | (simp only [Sh_pI, Sh_pL, Sh_pIs, Sh_pLs]; assumption)) only [↓ixb, Option.bind_some, Option.toList_some, Option.toList_none, List.cons_append, List.nil_append, e_35_4, fin]; rfl
    · have fin : ∀ {o3 o4 o5 : Option am_V}, am_E 36 (18, [some (vr (some 261)), some (vi a1), some (vi a2), o3, o4, o5], [], h) = some (some (vi (-ni 1)), pI h 262 1 (hI h 262 1 + 1)) := by
        intro o3 o4 o5; simp (disch := first | assumption | omega | (simp only [Sh_pI, Sh_pL, Sh_pIs, Sh_pLs]; assumption)) only [↓ixb, Option.bind_some, Option.bind_none, Option.toList_some, Option.toList_none, List.cons_append, List.nil_append, ni_lit, ni_of, ni_add, ni_mul, ni_sub, ni_div, ni_lt, ni_le, ni_eq, ng_lt, ng_le, ng_lt', ng_le', ng_eq, ng_eq', ng_ng, Int32.neg_neg, ix_ni, if_pos, if_neg, reduceIte, e_36_18, D10, e_36_23]
      rcases rg a1 8 with ⟨k, hk, rfl⟩ | hn
      · rw [d_36 hs, D9t hs hk]
        simp only [Option.bind_some, Option.toList_some, List.cons_append, List.nil_append]
        rw [e_36_5 hs, if_neg (show ¬ ni 1 = 0 by decide), fin]
        exact gd_h (n := 6) (fun i hi e => g ⟨⟨k, hk, rfl⟩, i, by omega, e⟩) (by omega) _ _
      · rw [d_36 hs, D9f hs hn]
        simp only [Option.bind_some, Option.toList_some, List.cons_append, List.nil_append]
        rw [e_36_5 hs, if_pos (show ni 0 = 0 from rfl), fin]
