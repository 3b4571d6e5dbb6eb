/-! the model's links, sureness, strength -/
section MGR
variable {h : am_H} {s : Sg} {F t r : Nat}
theorem oI_c (o : Option Nat) (ho : ∀ y, o = some y → y < 2147483648) {α : Type} (A C : α) : (if oI o = -ni 1 then A else C) = cond o.isSome C A := by
  cases o with
  | none => exact if_pos rfl
  | some y =>
    have := ho y rfl
    show (if ni y = -ni 1 then A else C) = C
    exact if_neg (by rw [ng_eq this (by omega) (by omega)]; exact fun z => z)
theorem L154 (hs : Sh h) (V : Vs s) (c : MS h s) (hF : F ≤ sR s) (hb : hI h 261 43 = fI F) (ht : t < sS s) (hr : r < sD s 10 t) : ∀ m i (o3 o4 o5 : Option am_V), i + m + 1 = sD s 12 (8 * t + r) → am_E 154 (2, [some (vr (some 261)), some (vi (ni (8 * t + r))), some (vi (ni i)), o3, o4, o5], [], h) = some (some (vi (oI (flk (sD s) (lwf (sD s) F) (8 * t + r) m i))), h) := by
  have vM' := vM V
  have vS' := vS V
  have vN' := vN V ht
  have v := vq V ht hr
  have v8 := v.2.2.1
  intro m
  induction m with
  | zero =>
    intro i o3 o4 o5 e
    rw [e_154_2 hs]
    simp (disch := first | assumption | omega | (simp only [Sh_pI, Sh_pL, Sh_pIs, Sh_pLs]; assumption)) only [↓ixb, Option.bind_some, Option.bind_none, Option.toList_some, Option.toList_none, List.cons_append, List.nil_append, ni_lit, ni_of, ni_add, ni_mul, ni_sub, ni_div, ni_lt, ni_le, ni_eq, ng_lt, ng_le, ng_lt', ng_le', ng_eq, ng_eq', ng_ng, Int32.neg_neg, ix_ni, if_pos, if_neg, reduceIte, mZ c ht hr]
    rfl
  | succ m ih0 =>
    intro i o3 o4 o5 e
    have ih : ∀ o3 o4 o5 : Option am_V, am_E 154 (2, [some (vr (some 261)), some (vi (ni (8 * t + r))), some (vi (ni (i + 1))), o3, o4, o5], [], h) = some (some (vi (oI (flk (sD s) (lwf (sD s) F) (8 * t + r) m (i + 1)))), h) := fun o3 o4 o5 => ih0 (i + 1) o3 o4 o5 (by omega)
    have w1 := v.2.2.2.2.1 i (by omega)
    have w2 := v.2.2.2.2.1 (i + 1) (by omega)
    have w3 := v.2.2.2.2.2.2 i (by omega)
    have c4 := (mmn c w1).2.2.2.1
    have v5 := (vm V w1).2.2.2.1
    have hbb := hrw_b hF V ht hr (show i < sD s 12 (8 * t + r) by omega)
    have hb' : ∀ y, hrw (sD s) (lwf (sD s) F) (8 * t + r) i = some y → y < 2147483648 := fun y e => by have := hbb y e; omega
    have e0 := mWh c ht hr (i := i) (by omega)
    have e1 := mWh c ht hr (i := i + 1) (by omega)
    have e1' : hI h 278 (8 * (8 * t + r) + i + 1) = ni (sD s 14 (8 * (8 * t + r) + (i + 1))) := e1
    have e2 := mLk c ht hr (i := i) (by omega)
    have eK := mK c ht hr
    have vK := v.1
    have dw : am_D 143 [vr (some 261), vi (ni (sD s 14 (8 * (8 * t + r) + i))), vi (ni (sD s 14 (8 * (8 * t + r) + (i + 1))))] h = some (some (vi (oI (hrw (sD s) (lwf (sD s) F) (8 * t + r) i))), h) := D143 hs V c hF hb w1 w2
    have s66 : ∀ (x : Bool) (o5 : Option am_V), am_E 154 (66, [some (vr (some 261)), some (vi (ni (8 * t + r))), some (vi (ni i)), some (vi (ni (sD s 14 (8 * (8 * t + r) + i)))), some (vi (ni (sD s 15 (8 * (8 * t + r) + i)))), o5], [vi (bi x)], h) = some (some (vi (oI (if lkh (sD s 11 (8 * t + r)) (sD s 15 (8 * (8 * t + r) + i)) x (sD s 3 (sD s 14 (8 * (8 * t + r) + i)) == 5) = true then flk (sD s) (lwf (sD s) F) (8 * t + r) m (i + 1) else some i))), h) := by
      intro x o5
      have t171 : ∀ (y : Bool) (o3 o4 : Option am_V), am_E 154 (171, [some (vr (some 261)), some (vi (ni (8 * t + r))), some (vi (ni i)), o3, o4, some (vi (bi y))], [], h) = some (some (vi (oI (if y = true then flk (sD s) (lwf (sD s) F) (8 * t + r) m (i + 1) else some i))), h) := by
        intro y o3 o4
        rw [e_154_171 hs]
        cases y
        · rw [if_pos (show bi false = 0 from rfl), if_neg (by decide)]; rfl
        · rw [if_neg (show ¬ bi true = 0 by decide), if_pos rfl, ni_add1]; exact ih _ _ _
      have t171t := t171 true
      have t171f := t171 false
      rw [bi_t] at t171t
      rw [bi_f] at t171f
      rcases (show sD s 11 (8 * t + r) = 1 ∨ sD s 11 (8 * t + r) = 2 ∨ sD s 11 (8 * t + r) = 3 ∨ (sD s 11 (8 * t + r) ≠ 1 ∧ sD s 11 (8 * t + r) ≠ 2 ∧ sD s 11 (8 * t + r) ≠ 3) by omega) with k | k | k | k
      · rw [k] at eK
        rw [k]
        cases x
        · simp (disch := first | assumption | omega | (simp only [Sh_pI, Sh_pL, Sh_pIs, Sh_pLs]; assumption)) only [↓ixb, Option.bind_some, Option.bind_none, Option.toList_some, Option.toList_none, List.cons_append, List.nil_append, ni_lit, ni_of, ni_add, ni_mul, ni_sub, ni_div, ni_lt, ni_le, ni_eq, ng_lt, ng_le, ng_lt', ng_le', ng_eq, ng_eq', ng_ng, Int32.neg_neg, ix_ni, if_pos, if_neg, reduceIte, bi_f, e_154_66, eK, e_154_92, e_154_93, e_154_95, e_154_133, t171f]
          rfl
        · by_cases z : sD s 15 (8 * (8 * t + r) + i) = 0
          · simp (disch := first | assumption | omega | (simp only [Sh_pI, Sh_pL, Sh_pIs, Sh_pLs]; assumption)) only [↓ixb, Option.bind_some, Option.bind_none, Option.toList_some, Option.toList_none, List.cons_append, List.nil_append, ni_lit, ni_of, ni_add, ni_mul, ni_sub, ni_div, ni_lt, ni_le, ni_eq, ng_lt, ng_le, ng_lt', ng_le', ng_eq, ng_eq', ng_ng, Int32.neg_neg, ix_ni, if_pos, if_neg, reduceIte, bi_t, e_154_66, eK, e_154_92, e_154_93, e_154_95, e_154_133, t171t, z]
            rfl
          · simp (disch := first | assumption | omega | (simp only [Sh_pI, Sh_pL, Sh_pIs, Sh_pLs]; assumption)) only [↓ixb, Option.bind_some, Option.bind_none, Option.toList_some, Option.toList_none, List.cons_append, List.nil_append, ni_lit, ni_of, ni_add, ni_mul, ni_sub, ni_div, ni_lt, ni_le, ni_eq, ng_lt, ng_le, ng_lt', ng_le', ng_eq, ng_eq', ng_ng, Int32.neg_neg, ix_ni, if_pos, if_neg, reduceIte, bi_t, e_154_66, eK, e_154_92, e_154_93, e_154_95, e_154_133, t171f]
            rw [show lkh 1 (sD s 15 (8 * (8 * t + r) + i)) true (sD s 3 (sD s 14 (8 * (8 * t + r) + i)) == 5) = false from by unfold lkh; rw [if_pos rfl, beq_eq_false_iff_ne.mpr z]; rfl]
      · rw [k] at eK
        rw [k]
        cases x
        · by_cases z : sD s 15 (8 * (8 * t + r) + i) = 2
          · simp (disch := first | assumption | omega | (simp only [Sh_pI, Sh_pL, Sh_pIs, Sh_pLs]; assumption)) only [↓ixb, Option.bind_some, Option.bind_none, Option.toList_some, Option.toList_none, List.cons_append, List.nil_append, ni_lit, ni_of, ni_add, ni_mul, ni_sub, ni_div, ni_lt, ni_le, ni_eq, ng_lt, ng_le, ng_lt', ng_le', ng_eq, ng_eq', ng_ng, Int32.neg_neg, ix_ni, if_pos, if_neg, reduceIte, bi_f, e_154_66, eK, e_154_95, e_154_115, e_154_126, e_154_131, e_154_133, t171t, z]
            rfl
          · simp (disch := first | assumption | omega | (simp only [Sh_pI, Sh_pL, Sh_pIs, Sh_pLs]; assumption)) only [↓ixb, Option.bind_some, Option.bind_none, Option.toList_some, Option.toList_none, List.cons_append, List.nil_append, ni_lit, ni_of, ni_add, ni_mul, ni_sub, ni_div, ni_lt, ni_le, ni_eq, ng_lt, ng_le, ng_lt', ng_le', ng_eq, ng_eq', ng_ng, Int32.neg_neg, ix_ni, if_pos, if_neg, reduceIte, bi_f, e_154_66, eK, e_154_95, e_154_115, e_154_126, e_154_131, e_154_133, t171f]
            rw [show lkh 2 (sD s 15 (8 * (8 * t + r) + i)) false (sD s 3 (sD s 14 (8 * (8 * t + r) + i)) == 5) = false from by unfold lkh; rw [if_neg (by omega), if_pos rfl, beq_eq_false_iff_ne.mpr z]; rfl]
        · simp (disch := first | assumption | omega | (simp only [Sh_pI, Sh_pL, Sh_pIs, Sh_pLs]; assumption)) only [↓ixb, Option.bind_some, Option.bind_none, Option.toList_some, Option.toList_none, List.cons_append, List.nil_append, ni_lit, ni_of, ni_add, ni_mul, ni_sub, ni_div, ni_lt, ni_le, ni_eq, ng_lt, ng_le, ng_lt', ng_le', ng_eq, ng_eq', ng_ng, Int32.neg_neg, ix_ni, if_pos, if_neg, reduceIte, bi_t, e_154_66, eK, e_154_95, e_154_115, e_154_126, e_154_131, e_154_133, t171t]
          rfl
      · rw [k] at eK
        rw [k]
        cases x
        · rcases (show sD s 15 (8 * (8 * t + r) + i) = 0 ∨ sD s 15 (8 * (8 * t + r) + i) = 1 ∨ sD s 15 (8 * (8 * t + r) + i) = 2 by omega) with z | z | z
          · simp (disch := first | assumption | omega | (simp only [Sh_pI, Sh_pL, Sh_pIs, Sh_pLs]; assumption)) only [↓ixb, Option.bind_some, Option.bind_none, Option.toList_some, Option.toList_none, List.cons_append, List.nil_append, ni_lit, ni_of, ni_add, ni_mul, ni_sub, ni_div, ni_lt, ni_le, ni_eq, ng_lt, ng_le, ng_lt', ng_le', ng_eq, ng_eq', ng_ng, Int32.neg_neg, ix_ni, if_pos, if_neg, reduceIte, bi_f, e_154_66, eK, e_154_95, e_154_115, e_154_126, e_154_131, e_154_133, e_154_164, e_154_168, e_154_169, t171f, z]
            rfl
          · by_cases y : sD s 3 (sD s 14 (8 * (8 * t + r) + i)) = 5
            · simp (disch := first | assumption | omega | (simp only [Sh_pI, Sh_pL, Sh_pIs, Sh_pLs]; assumption)) only [↓ixb, Option.bind_some, Option.bind_none, Option.toList_some, Option.toList_none, List.cons_append, List.nil_append, ni_lit, ni_of, ni_add, ni_mul, ni_sub, ni_div, ni_lt, ni_le, ni_eq, ng_lt, ng_le, ng_lt', ng_le', ng_eq, ng_eq', ng_ng, Int32.neg_neg, ix_ni, if_pos, if_neg, reduceIte, bi_f, e_154_66, eK, e_154_95, e_154_115, e_154_126, e_154_131, e_154_133, e_154_164, e_154_168, e_154_169, t171t, z, c4, y]
              rfl
            · simp (disch := first | assumption | omega | (simp only [Sh_pI, Sh_pL, Sh_pIs, Sh_pLs]; assumption)) only [↓ixb, Option.bind_some, Option.bind_none, Option.toList_some, Option.toList_none, List.cons_append, List.nil_append, ni_lit, ni_of, ni_add, ni_mul, ni_sub, ni_div, ni_lt, ni_le, ni_eq, ng_lt, ng_le, ng_lt', ng_le', ng_eq, ng_eq', ng_ng, Int32.neg_neg, ix_ni, if_pos, if_neg, reduceIte, bi_f, e_154_66, eK, e_154_95, e_154_115, e_154_126, e_154_131, e_154_133, e_154_164, e_154_168, e_154_169, t171f, z, c4]
              rw [beq_eq_false_iff_ne.mpr y]
              rfl
          · simp (disch := first | assumption | omega | (simp only [Sh_pI, Sh_pL, Sh_pIs, Sh_pLs]; assumption)) only [↓ixb, Option.bind_some, Option.bind_none, Option.toList_some, Option.toList_none, List.cons_append, List.nil_append, ni_lit, ni_of, ni_add, ni_mul, ni_sub, ni_div, ni_lt, ni_le, ni_eq, ng_lt, ng_le, ng_lt', ng_le', ng_eq, ng_eq', ng_ng, Int32.neg_neg, ix_ni, if_pos, if_neg, reduceIte, bi_f, e_154_66, eK, e_154_95, e_154_115, e_154_126, e_154_131, e_154_133, e_154_164, e_154_168, e_154_169, t171t, z]
            rfl
        · simp (disch := first | assumption | omega | (simp only [Sh_pI, Sh_pL, Sh_pIs, Sh_pLs]; assumption)) only [↓ixb, Option.bind_some, Option.bind_none, Option.toList_some, Option.toList_none, List.cons_append, List.nil_append, ni_lit, ni_of, ni_add, ni_mul, ni_sub, ni_div, ni_lt, ni_le, ni_eq, ng_lt, ng_le, ng_lt', ng_le', ng_eq, ng_eq', ng_ng, Int32.neg_neg, ix_ni, if_pos, if_neg, reduceIte, bi_t, e_154_66, eK, e_154_95, e_154_115, e_154_126, e_154_131, e_154_133, e_154_164, e_154_168, e_154_169, t171t]
          rfl
      · have el : lkh (sD s 11 (8 * t + r)) (sD s 15 (8 * (8 * t + r) + i)) x (sD s 3 (sD s 14 (8 * (8 * t + r) + i)) == 5) = x := by unfold lkh; rw [if_neg k.1, if_neg k.2.1, if_neg k.2.2]
        rw [el]
        have k1 := k.1
        have k2 := k.2.1
        have k3 := k.2.2
        simp (disch := first | assumption | omega | (simp only [Sh_pI, Sh_pL, Sh_pIs, Sh_pLs]; assumption)) only [↓ixb, Option.bind_some, Option.bind_none, Option.toList_some, Option.toList_none, List.cons_append, List.nil_append, ni_lit, ni_of, ni_add, ni_mul, ni_sub, ni_div, ni_lt, ni_le, ni_eq, ng_lt, ng_le, ng_lt', ng_le', ng_eq, ng_eq', ng_ng, Int32.neg_neg, ix_ni, if_pos, if_neg, reduceIte, e_154_66, eK, e_154_95, e_154_133, t171]
    rw [e_154_2 hs]
    simp (disch := first | assumption | omega | (simp only [Sh_pI, Sh_pL, Sh_pIs, Sh_pLs]; assumption)) only [↓ixb, Option.bind_some, Option.bind_none, Option.toList_some, Option.toList_none, List.cons_append, List.nil_append, ni_lit, ni_of, ni_add, ni_mul, ni_sub, ni_div, ni_lt, ni_le, ni_eq, ng_lt, ng_le, ng_lt', ng_le', ng_eq, ng_eq', ng_ng, Int32.neg_neg, ix_ni, if_pos, if_neg, reduceIte, mZ c ht hr, e0, e1', e2, dw, e_154_57]
    refine (oI_c _ hb' _ _).trans ?_
    rw [flk_s]
    unfold lkq
    cases hx : (hrw (sD s) (lwf (sD s) F) (8 * t + r) i).isSome
    · exact s66 false _
    · exact s66 true _
theorem D154 (hs : Sh h) (V : Vs s) (c : MS h s) (hF : F ≤ sR s) (hb : hI h 261 43 = fI F) (ht : t < sS s) (hr : r < sD s 10 t) : am_D 154 [vr (some 261), vi (ni (8 * t + r))] h = some (some (vi (oI (flk (sD s) (lwf (sD s) F) (8 * t + r) (sD s 12 (8 * t + r) - 1) 0))), h) := by
  have v := vq V ht hr
  have v2 := v.2.1
  rw [d_154 hs]
  exact L154 hs V c hF hb ht hr (sD s 12 (8 * t + r) - 1) 0 _ _ _ (by omega)
theorem D164 (hs : Sh h) (V : Vs s) (c : MS h s) (hF : F ≤ sR s) (hb : hI h 261 43 = fI F) (ht : t < sS s) (hr : r < sD s 10 t) {i : Nat} (hi : i < sD s 12 (8 * t + r)) : am_D 164 [vr (some 261), vi (ni (8 * t + r)), vi (ni i)] h = some (some (vi (ni (suq (sD s) (lwf (sD s) F) (8 * t + r) i))), h) := by
  have vM' := vM V
  have vS' := vS V
  have vN' := vN V ht
  have v := vq V ht hr
  have v8 := v.2.2.1
  have w1 := v.2.2.2.2.1 i hi
  obtain ⟨c1, c2, c3, c4, c5, c6, c7⟩ := mmn c w1
  obtain ⟨u1, u2, u3, u4, u5, u6, u7⟩ := vm V w1
  have e0 := mWh c ht hr hi
  have d5 := D142 hs V c hF hb (j := 5) (by omega)
  have d3 := D142 hs V c hF hb (j := 3) (by omega)
  have f67 : ∀ {o1 o2 o3 o4 : Option am_V}, am_E 164 (67, [some (vr (some 261)), o1, o2, o3, o4], [], h) = some (some (vi (ni (lwf (sD s) F 5))), h) := by
    intros; simp (disch := first | assumption | omega | (simp only [Sh_pI, Sh_pL, Sh_pIs, Sh_pLs]; assumption)) only [↓ixb, Option.bind_some, Option.bind_none, Option.toList_some, Option.toList_none, List.cons_append, List.nil_append, ni_lit, ni_of, ni_add, ni_mul, ni_sub, ni_div, ni_lt, ni_le, ni_eq, ng_lt, ng_le, ng_lt', ng_le', ng_eq, ng_eq', ng_ng, Int32.neg_neg, ix_ni, if_pos, if_neg, reduceIte, e_164_67, d5, e_164_72, e_164_80]
  rw [d_164 hs]
  unfold suq
  by_cases z : sD s 3 (sD s 14 (8 * (8 * t + r) + i)) = 3
  · rw [if_pos z]
    have c6' := c6 z
    have u6' := u6 z
    cases i with
    | zero =>
      rw [Nat.add_zero] at e0 c4 z w1
      simp (disch := first | assumption | omega | (simp only [Sh_pI, Sh_pL, Sh_pIs, Sh_pLs]; assumption)) only [↓ixb, Option.bind_some, Option.bind_none, Option.toList_some, Option.toList_none, List.cons_append, List.nil_append, ni_lit, ni_of, ni_add, ni_mul, ni_sub, ni_div, ni_lt, ni_le, ni_eq, ng_lt, ng_le, ng_lt', ng_le', ng_eq, ng_eq', ng_ng, Int32.neg_neg, ix_ni, if_pos, if_neg, reduceIte, Nat.add_zero, e0, c4, z, e_164_48, f67]
    | succ i =>
      have w0 := v.2.2.2.2.1 i (by omega)
      have e1 := mWh c ht hr (i := i) (by omega)
      have ex : 8 * (8 * t + r) + (i + 1) - 1 = 8 * (8 * t + r) + i := by omega
      have hbb := hrw_b hF V ht hr (show i < sD s 12 (8 * t + r) by omega)
      have dw : am_D 143 [vr (some 261), vi (ni (sD s 14 (8 * (8 * t + r) + i))), vi (ni (sD s 14 (8 * (8 * t + r) + (i + 1))))] h = some (some (vi (oI (hrw (sD s) (lwf (sD s) F) (8 * t + r) i))), h) := D143 hs V c hF hb w0 w1
      rw [if_neg (show ¬ i + 1 = 0 by omega), Nat.add_sub_cancel]
      simp (disch := first | assumption | omega | (simp only [Sh_pI, Sh_pL, Sh_pIs, Sh_pLs]; assumption)) only [↓ixb, Option.bind_some, Option.bind_none, Option.toList_some, Option.toList_none, List.cons_append, List.nil_append, ni_lit, ni_of, ni_add, ni_mul, ni_sub, ni_div, ni_lt, ni_le, ni_eq, ng_lt, ng_le, ng_lt', ng_le', ng_eq, ng_eq', ng_ng, Int32.neg_neg, ix_ni, if_pos, if_neg, reduceIte, e0, c4, ex, e1, dw, e_164_48, f67]
      cases e : hrw (sD s) (lwf (sD s) F) (8 * t + r) i with
      | none => exact if_pos rfl
      | some y =>
        have := hbb y e
        show (if ni y = -ni 1 then _ else _) = _
        dsimp only
        rw [if_neg (by rw [ng_eq (by omega) (by omega) (by omega)]; exact fun z => z), c6', show oI (some y) = ni y from rfl]
        by_cases x : y < sD s 4 (sD s 14 (8 * (8 * t + r) + (i + 1)))
        · rw [if_pos x]
          simp (disch := first | assumption | omega | (simp only [Sh_pI, Sh_pL, Sh_pIs, Sh_pLs]; assumption)) only [↓ixb, Option.bind_some, Option.bind_none, Option.toList_some, Option.toList_none, List.cons_append, List.nil_append, ni_lit, ni_of, ni_add, ni_mul, ni_sub, ni_div, ni_lt, ni_le, ni_eq, ng_lt, ng_le, ng_lt', ng_le', ng_eq, ng_eq', ng_ng, Int32.neg_neg, ix_ni, if_pos, if_neg, reduceIte, d3, e_164_80]
        · rw [if_neg x]
          simp (disch := first | assumption | omega | (simp only [Sh_pI, Sh_pL, Sh_pIs, Sh_pLs]; assumption)) only [↓ixb, Option.bind_some, Option.bind_none, Option.toList_some, Option.toList_none, List.cons_append, List.nil_append, ni_lit, ni_of, ni_add, ni_mul, ni_sub, ni_div, ni_lt, ni_le, ni_eq, ng_lt, ng_le, ng_lt', ng_le', ng_eq, ng_eq', ng_ng, Int32.neg_neg, ix_ni, if_pos, if_neg, reduceIte]
  · rw [if_neg z]
    have d2 := D142 hs V c hF hb (j := 2 + sD s 3 (sD s 14 (8 * (8 * t + r) + i))) (by omega)
    by_cases y : 3 ≤ sD s 3 (sD s 14 (8 * (8 * t + r) + i))
    · simp (disch := first | assumption | omega | (simp only [Sh_pI, Sh_pL, Sh_pIs, Sh_pLs]; assumption)) only [↓ixb, Option.bind_some, Option.bind_none, Option.toList_some, Option.toList_none, List.cons_append, List.nil_append, ni_lit, ni_of, ni_add, ni_mul, ni_sub, ni_div, ni_lt, ni_le, ni_eq, ng_lt, ng_le, ng_lt', ng_le', ng_eq, ng_eq', ng_ng, Int32.neg_neg, ix_ni, if_pos, if_neg, reduceIte, e0, c4, d2, e_164_118, e_164_103]
    · simp (disch := first | assumption | omega | (simp only [Sh_pI, Sh_pL, Sh_pIs, Sh_pLs]; assumption)) only [↓ixb, Option.bind_some, Option.bind_none, Option.toList_some, Option.toList_none, List.cons_append, List.nil_append, ni_lit, ni_of, ni_add, ni_mul, ni_sub, ni_div, ni_lt, ni_le, ni_eq, ng_lt, ng_le, ng_lt', ng_le', ng_eq, ng_eq', ng_ng, Int32.neg_neg, ix_ni, if_pos, if_neg, reduceIte, e0, c4, d2, e_164_118, e_164_103]
theorem le0 {a b : Nat} (ha : a < 2147483648) (hb : b < 2147483648) : ((0 : Int32) ≤ ni a - ni b) = (b ≤ a) := by
  rw [lett, ni_subi ha hb, show (0 : Int32).toInt = 0 from rfl]
  exact propext (by omega)
theorem ni_ss (a b c : Nat) : ni a - ni b - ni c = ni a - ni (b + c) := by
  rw [Int32.sub_sub, ni_add]
theorem L165a (hs : Sh h) (V : Vs s) (c : MS h s) (hF : F ≤ sR s) (hb : hI h 261 43 = fI F) (ht : t < sS s) (hr : r < sD s 10 t) : ∀ m i (o4 : Option am_V), i + m = sD s 12 (8 * t + r) → ∃ o, am_E 165 (16, [some (vr (some 261)), some (vi (ni (8 * t + r))), some (vi (ni (msq (sD s) (lwf (sD s) F) (8 * t + r) i))), some (vi (ni i)), o4], [], h) = am_E 165 (55, [some (vr (some 261)), some (vi (ni (8 * t + r))), some (vi (ni (msq (sD s) (lwf (sD s) F) (8 * t + r) (sD s 12 (8 * t + r))))), some (vi (ni 0)), o], [], h) := by
  have vS' := vS V
  have vN' := vN V ht
  have v := vq V ht hr
  have v8 := v.2.2.1
  have o := okl_F V hF
  intro m
  induction m with
  | zero =>
    intro i o4 e
    refine ⟨o4, ?_⟩
    rw [e_165_16 hs]
    simp (disch := first | assumption | omega | (simp only [Sh_pI, Sh_pL, Sh_pIs, Sh_pLs]; assumption)) only [↓ixb, Option.bind_some, Option.bind_none, Option.toList_some, Option.toList_none, List.cons_append, List.nil_append, ni_lit, ni_of, ni_add, ni_mul, ni_sub, ni_div, ni_lt, ni_le, ni_eq, ng_lt, ng_le, ng_lt', ng_le', ng_eq, ng_eq', ng_ng, Int32.neg_neg, ix_ni, if_pos, if_neg, reduceIte, mZ c ht hr]
    rw [show i = sD s 12 (8 * t + r) by omega]
  | succ m ih =>
    intro i o4 e
    have w1 := v.2.2.2.2.1 i (by omega)
    have b1 := msq_99 (D := sD s) (L := lwf (sD s) F) (q := 8 * t + r) i
    have b2 := suq_9 (D := sD s) (q := 8 * t + r) (i := i) o (vm V w1).2.2.2.1
    obtain ⟨o', fin⟩ := ih (i + 1) (some (vi (ni (suq (sD s) (lwf (sD s) F) (8 * t + r) i)))) (by omega)
    refine ⟨o', Eq.trans ?_ fin⟩
    rw [e_165_16 hs]
    simp (disch := first | assumption | omega | (simp only [Sh_pI, Sh_pL, Sh_pIs, Sh_pLs]; assumption)) only [↓ixb, Option.bind_some, Option.bind_none, Option.toList_some, Option.toList_none, List.cons_append, List.nil_append, ni_lit, ni_of, ni_add, ni_mul, ni_sub, ni_div, ni_lt, ni_le, ni_eq, ng_lt, ng_le, ng_lt', ng_le', ng_eq, ng_eq', ng_ng, Int32.neg_neg, ix_ni, if_pos, if_neg, reduceIte, mZ c ht hr, D164 hs V c hF hb ht hr, e_165_32, e_165_46]
    rw [msq_s]
    unfold mn
    by_cases x : msq (sD s) (lwf (sD s) F) (8 * t + r) i ≤ suq (sD s) (lwf (sD s) F) (8 * t + r) i
    · rw [if_pos x, if_neg (by omega)]
    · rw [if_neg x, if_pos (by omega)]
theorem L165b (hs : Sh h) (V : Vs s) (c : MS h s) (hF : F ≤ sR s) (hb : hI h 261 43 = fI F) (ht : t < sS s) (hr : r < sD s 10 t) {A : Nat} (hA : A ≤ 99) : ∀ m i (o4 : Option am_V), i + m + 1 = sD s 12 (8 * t + r) → ∃ o3 o4', am_E 165 (55, [some (vr (some 261)), some (vi (ni (8 * t + r))), some (vi (ni A - ni (lsq (sD s) (lwf (sD s) F) (8 * t + r) i))), some (vi (ni i)), o4], [], h) = am_E 165 (150, [some (vr (some 261)), some (vi (ni (8 * t + r))), some (vi (ni A - ni (lsq (sD s) (lwf (sD s) F) (8 * t + r) (sD s 12 (8 * t + r) - 1)))), o3, o4'], [vi (ni (A - lsq (sD s) (lwf (sD s) F) (8 * t + r) (sD s 12 (8 * t + r) - 1)))], h) := by
  have vM' := vM V
  have vS' := vS V
  have vN' := vN V ht
  have v := vq V ht hr
  have v8 := v.2.2.1
  have o := okl_F V hF
  intro m
  induction m with
  | zero =>
    intro i o4 e
    have b2 := lsq_9 (D := sD s) (q := 8 * t + r) o i
    refine ⟨some (vi (ni i)), o4, ?_⟩
    rw [e_165_55 hs]
    simp (disch := first | assumption | omega | (simp only [Sh_pI, Sh_pL, Sh_pIs, Sh_pLs]; assumption)) only [↓ixb, Option.bind_some, Option.bind_none, Option.toList_some, Option.toList_none, List.cons_append, List.nil_append, ni_lit, ni_of, ni_add, ni_mul, ni_sub, ni_div, ni_lt, ni_le, ni_eq, ng_lt, ng_le, ng_lt', ng_le', ng_eq, ng_eq', ng_ng, Int32.neg_neg, ix_ni, if_pos, if_neg, reduceIte, mZ c ht hr]
    rw [show sD s 12 (8 * t + r) - 1 = i by omega]
    by_cases x : lsq (sD s) (lwf (sD s) F) (8 * t + r) i ≤ A
    · refine (if_pos (show (0 : Int32) ≤ ni A - ni (lsq (sD s) (lwf (sD s) F) (8 * t + r) i) by rw [le0 (by omega) (by omega)]; exact x)).trans ?_
      rw [ni_sub x]
    · refine (if_neg (show ¬ (0 : Int32) ≤ ni A - ni (lsq (sD s) (lwf (sD s) F) (8 * t + r) i) by rw [le0 (by omega) (by omega)]; exact x)).trans ?_
      rw [show A - lsq (sD s) (lwf (sD s) F) (8 * t + r) i = 0 by omega]
  | succ m ih =>
    intro i o4 e
    have w1 := v.2.2.2.2.1 i (by omega)
    have w3 := v.2.2.2.2.2.2 i (by omega)
    have c4 := (mmn c w1).2.2.2.1
    have v5 := (vm V w1).2.2.2.1
    have e0 := mWh c ht hr (i := i) (by omega)
    have e2 := mLk c ht hr (i := i) (by omega)
    have d8 := D142 hs V c hF hb (j := 8) (by omega)
    have d9 := D142 hs V c hF hb (j := 9) (by omega)
    obtain ⟨o3', o4', fin⟩ := ih (i + 1) o4 (by omega)
    refine ⟨o3', o4', Eq.trans ?_ fin⟩
    rcases (show sD s 15 (8 * (8 * t + r) + i) = 0 ∨ sD s 15 (8 * (8 * t + r) + i) = 1 ∨ sD s 15 (8 * (8 * t + r) + i) = 2 by omega) with z | z | z
    · rw [show lsq (sD s) (lwf (sD s) F) (8 * t + r) (i + 1) = lsq (sD s) (lwf (sD s) F) (8 * t + r) i from by rw [lsq_s, if_neg (by omega), if_neg (by omega)]; rfl, e_165_55 hs]
      simp (disch := first | assumption | omega | (simp only [Sh_pI, Sh_pL, Sh_pIs, Sh_pLs]; assumption)) only [Option.bind_some, ni_lit, ni_add, ni_mul, ix_ni, ni_le, ni_eq, if_neg, if_pos, mZ c ht hr, e2, z, e_165_111, e_165_135, reduceIte]
    · by_cases y : sD s 3 (sD s 14 (8 * (8 * t + r) + i)) = 5
      · rw [show lsq (sD s) (lwf (sD s) F) (8 * t + r) (i + 1) = lsq (sD s) (lwf (sD s) F) (8 * t + r) i + lwf (sD s) F 8 from by rw [lsq_s, if_neg (by omega), if_pos ⟨z, y⟩], e_165_55 hs]
        simp (disch := first | assumption | omega | (simp only [Sh_pI, Sh_pL, Sh_pIs, Sh_pLs]; assumption)) only [↓ixb, Option.bind_some, Option.toList_some, Option.toList_none, List.cons_append, List.nil_append, ni_lit, ni_add, ni_mul, ix_ni, ni_le, ni_eq, if_neg, if_pos, mZ c ht hr, e0, e2, z, c4, y, d8, e_165_109, ni_ss, e_165_111, e_165_135, reduceIte]
      · rw [show lsq (sD s) (lwf (sD s) F) (8 * t + r) (i + 1) = lsq (sD s) (lwf (sD s) F) (8 * t + r) i from by rw [lsq_s, if_neg (by omega), if_neg (fun k => y k.2)]; rfl, e_165_55 hs]
        simp (disch := first | assumption | omega | (simp only [Sh_pI, Sh_pL, Sh_pIs, Sh_pLs]; assumption)) only [Option.bind_some, ni_lit, ni_add, ni_mul, ix_ni, ni_le, ni_eq, if_neg, if_pos, mZ c ht hr, e0, e2, z, c4, e_165_111, e_165_135, reduceIte]
    · rw [show lsq (sD s) (lwf (sD s) F) (8 * t + r) (i + 1) = lsq (sD s) (lwf (sD s) F) (8 * t + r) i + lwf (sD s) F 9 from by rw [lsq_s, if_pos z], e_165_55 hs]
      simp (disch := first | assumption | omega | (simp only [Sh_pI, Sh_pL, Sh_pIs, Sh_pLs]; assumption)) only [↓ixb, Option.bind_some, Option.toList_some, Option.toList_none, List.cons_append, List.nil_append, ni_lit, ni_add, ni_mul, ix_ni, ni_le, ni_eq, if_neg, if_pos, mZ c ht hr, e2, z, d9, e_165_111, e_165_133, ni_ss, e_165_135, reduceIte]
/-- the model's strength of a row -/
theorem D165 (hs : Sh h) (V : Vs s) (c : MS h s) (hF : F ≤ sR s) (hb : hI h 261 43 = fI F) (ht : t < sS s) (hr : r < sD s 10 t) : am_D 165 [vr (some 261), vi (ni (8 * t + r))] h = some (some (vi (ni ((grq (sD s) (lwf (sD s) F) (8 * t + r)).getD 0))), h) := by
  have vM' := vM V
  have vS' := vS V
  have vN' := vN V ht
  have v := vq V ht hr
  have v8 := v.2.2.1
  have v2 := v.2.1
  have o := okl_F V hF
  have vK := v.1
  have eK := mK c ht hr
  have d10 := D142 hs V c hF hb (j := 10) (by omega)
  have d11 := D142 hs V c hF hb (j := 11) (by omega)
  have b10 := o.1 10 (by omega)
  have b11 := o.1 11 (by omega)
  rw [d_165 hs, D154 hs V c hF hb ht hr]
  simp only [Option.bind_some, Option.toList_some, List.cons_append, List.nil_append]
  rw [e_165_5 hs]
  unfold grq
  cases e : flk (sD s) (lwf (sD s) F) (8 * t + r) (sD s 12 (8 * t + r) - 1) 0 with
  | some y => rw [if_neg (by rw [show oI (some y) = ni y from rfl, show (-1 : Int32) = -ni 1 from rfl, ng_eq (by have := flk_le _ _ _ e; omega) (by omega) (by omega)]; exact fun z => z)]; rfl
  | none =>
    rw [if_pos (show oI none = -1 from rfl)]
    obtain ⟨oa, fa⟩ := L165a hs V c hF hb ht hr (sD s 12 (8 * t + r)) 0 none (by omega)
    have b1 := msq_99 (D := sD s) (L := lwf (sD s) F) (q := 8 * t + r) (sD s 12 (8 * t + r))
    obtain ⟨ob, oc, fb⟩ := L165b hs V c hF hb ht hr b1 (sD s 12 (8 * t + r) - 1) 0 oa (by omega)
    have z0 : ni (msq (sD s) (lwf (sD s) F) (8 * t + r) (sD s 12 (8 * t + r))) - ni (lsq (sD s) (lwf (sD s) F) (8 * t + r) 0) = ni (msq (sD s) (lwf (sD s) F) (8 * t + r) (sD s 12 (8 * t + r))) := ni_sub (Nat.zero_le _)
    rw [z0] at fb
    refine (fa.trans fb).trans ?_
    show _ = some (some (vi (ni (stq (sD s) (lwf (sD s) F) (8 * t + r)))), h)
    unfold stq
    generalize hx : msq (sD s) (lwf (sD s) F) (8 * t + r) (sD s 12 (8 * t + r)) - lsq (sD s) (lwf (sD s) F) (8 * t + r) (sD s 12 (8 * t + r) - 1) = x
    have hx9 : x ≤ 99 := by omega
    have f210 : ∀ {o3 o4 : Option am_V} (a b : Nat), a ≤ 99 → b ≤ 99 → am_E 165 (210, [some (vr (some 261)), some (vi (ni (8 * t + r))), some (vi (ni a - ni b)), o3, o4], [], h) = some (some (vi (ni (if sD s 11 (8 * t + r) = 6 then (a - b) / 2 else a - b))), h) := by
      intro o3 o4 a b ha hb
      have f219 : ∀ {o2 : Option am_V}, am_E 165 (219, [some (vr (some 261)), some (vi (ni (8 * t + r))), o2, o3, o4], [vi (ni (a - b))], h) = some (some (vi (ni (if sD s 11 (8 * t + r) = 6 then (a - b) / 2 else a - b))), h) := by
        intro o2
        rw [e_165_219 hs]
        by_cases k : sD s 11 (8 * t + r) = 6
        · rw [if_pos k]; simp (disch := first | assumption | omega | (simp only [Sh_pI, Sh_pL, Sh_pIs, Sh_pLs]; assumption)) only [↓ixb, Option.bind_some, Option.bind_none, Option.toList_some, Option.toList_none, List.cons_append, List.nil_append, ni_lit, ni_of, ni_add, ni_mul, ni_sub, ni_div, ni_lt, ni_le, ni_eq, ng_lt, ng_le, ng_lt', ng_le', ng_eq, ng_eq', ng_ng, Int32.neg_neg, ix_ni, if_pos, if_neg, reduceIte, eK, k]
        · rw [if_neg k]; simp (disch := first | assumption | omega | (simp only [Sh_pI, Sh_pL, Sh_pIs, Sh_pLs]; assumption)) only [↓ixb, Option.bind_some, Option.bind_none, Option.toList_some, Option.toList_none, List.cons_append, List.nil_append, ni_lit, ni_of, ni_add, ni_mul, ni_sub, ni_div, ni_lt, ni_le, ni_eq, ng_lt, ng_le, ng_lt', ng_le', ng_eq, ng_eq', ng_ng, Int32.neg_neg, ix_ni, if_pos, if_neg, reduceIte, eK]
      rw [e_165_210 hs]
      by_cases q : b ≤ a
      · rw [if_pos (show (0 : Int32) ≤ ni a - ni b by rw [le0 (by omega) (by omega)]; exact q), ni_sub q]; exact f219
      · rw [if_neg (show ¬ (0 : Int32) ≤ ni a - ni b by rw [le0 (by omega) (by omega)]; exact q)]
        rw [show a - b = 0 by omega] at f219 ⊢
        exact f219
    have f210' : ∀ {o3 o4 : Option am_V} (a : Nat), a ≤ 99 → am_E 165 (210, [some (vr (some 261)), some (vi (ni (8 * t + r))), some (vi (ni a)), o3, o4], [], h) = some (some (vi (ni (if sD s 11 (8 * t + r) = 6 then a / 2 else a))), h) := by
      intro o3 o4 a ha
      have := f210 (o3 := o3) (o4 := o4) a 0 ha (by omega)
      rw [ni_sub (Nat.zero_le _)] at this
      exact this
    unfold les
    rcases (show sD s 11 (8 * t + r) = 2 ∨ sD s 11 (8 * t + r) = 3 ∨ sD s 11 (8 * t + r) = 5 ∨ sD s 11 (8 * t + r) = 6 ∨ (sD s 11 (8 * t + r) ≠ 2 ∧ sD s 11 (8 * t + r) ≠ 3 ∧ sD s 11 (8 * t + r) ≠ 5 ∧ sD s 11 (8 * t + r) ≠ 6) by omega) with k | k | k | k | ⟨k1, k2, k3, k4⟩
    · have g := f210 (o3 := ob) (o4 := oc) x (lwf (sD s) F 10) hx9 b10
      rw [if_neg (by omega)] at g
      rw [if_pos (by omega)]
      simp (disch := first | assumption | omega | (simp only [Sh_pI, Sh_pL, Sh_pIs, Sh_pLs]; assumption)) only [↓ixb, Option.bind_some, Option.toList_some, Option.toList_none, List.cons_append, List.nil_append, ni_lit, ix_ni, ni_eq, if_pos, if_neg, eK, e_165_150, k, e_165_171, d10, e_165_178, e_165_180, g, reduceIte]
    · have g := f210 (o3 := ob) (o4 := oc) x (lwf (sD s) F 10) hx9 b10
      rw [if_neg (by omega)] at g
      rw [if_pos (by omega)]
      simp (disch := first | assumption | omega | (simp only [Sh_pI, Sh_pL, Sh_pIs, Sh_pLs]; assumption)) only [↓ixb, Option.bind_some, Option.toList_some, Option.toList_none, List.cons_append, List.nil_append, ni_lit, ix_ni, ni_eq, if_pos, if_neg, eK, e_165_150, k, e_165_171, d10, e_165_178, e_165_180, g, reduceIte]
    · have g := f210 (o3 := ob) (o4 := oc) x (lwf (sD s) F 11) hx9 b11
      rw [if_neg (by omega)] at g
      rw [if_neg (by omega), if_pos k]
      simp (disch := first | assumption | omega | (simp only [Sh_pI, Sh_pL, Sh_pIs, Sh_pLs]; assumption)) only [↓ixb, Option.bind_some, Option.toList_some, Option.toList_none, List.cons_append, List.nil_append, ni_lit, ix_ni, ni_eq, if_pos, if_neg, eK, e_165_150, k, e_165_180, e_165_201, d11, e_165_208, g, reduceIte]
    · have g := f210 (o3 := ob) (o4 := oc) x (lwf (sD s) F 11) hx9 b11
      rw [if_pos k] at g
      rw [if_neg (by omega), if_neg (by omega), if_pos k]
      simp (disch := first | assumption | omega | (simp only [Sh_pI, Sh_pL, Sh_pIs, Sh_pLs]; assumption)) only [↓ixb, Option.bind_some, Option.toList_some, Option.toList_none, List.cons_append, List.nil_append, ni_lit, ix_ni, ni_eq, if_pos, if_neg, eK, e_165_150, k, e_165_180, e_165_201, d11, e_165_208, g, reduceIte]
    · have g := f210' (o3 := ob) (o4 := oc) x hx9
      rw [if_neg (by omega)] at g
      rw [if_neg (by omega), if_neg (by omega), if_neg (by omega)]
      simp (disch := first | assumption | omega | (simp only [Sh_pI, Sh_pL, Sh_pIs, Sh_pLs]; assumption)) only [↓ixb, Option.bind_some, Option.toList_some, Option.toList_none, List.cons_append, List.nil_append, ni_lit, ix_ni, ni_eq, if_pos, if_neg, eK, e_165_150, e_165_180, g, reduceIte]
/-- a row stands -/
def upq (D : Nat → Nat → Nat) (L : Nat → Nat) (q : Nat) : Bool := match grq D L q with
  | none => false
  | some x => decide (L 12 ≤ x)
theorem grq_99 {D : Nat → Nat → Nat} {L : Nat → Nat} {q x : Nat} (e : grq D L q = some x) : x ≤ 99 := by
  unfold grq at e
  split at e
  · cases e
  · cases e; exact stq_99
theorem D168 (hs : Sh h) (V : Vs s) (c : MS h s) (hF : F ≤ sR s) (hb : hI h 261 43 = fI F) (ht : t < sS s) (hr : r < sD s 10 t) : am_D 168 [vr (some 261), vi (ni (8 * t + r))] h = some (some (vi (bi (upq (sD s) (lwf (sD s) F) (8 * t + r)))), h) := by
  have v := vq V ht hr
  have v8 := v.2.2.1
  have d12 := D142 hs V c hF hb (j := 12) (by omega)
  have b12 := (okl_F V hF).1 12 (by omega)
  rw [d_168 hs, D154 hs V c hF hb ht hr]
  simp only [Option.bind_some, Option.toList_some, List.cons_append, List.nil_append]
  rw [e_168_5 hs, D165 hs V c hF hb ht hr]
  unfold upq
  have g9 : ∀ x, grq (sD s) (lwf (sD s) F) (8 * t + r) = some x → x ≤ 99 := fun x e => grq_99 e
  revert g9
  unfold grq
  cases e : flk (sD s) (lwf (sD s) F) (8 * t + r) (sD s 12 (8 * t + r) - 1) 0 with
  | some y =>
    intro _
    rw [if_neg (by rw [show oI (some y) = ni y from rfl, show (-1 : Int32) = -ni 1 from rfl, ng_eq (by have := flk_le _ _ _ e; omega) (by omega) (by omega)]; exact fun z => z)]; rfl
  | none =>
    intro g9
    have g := g9 _ rfl
    rw [if_pos (show oI none = -1 from rfl)]
    simp only [Option.bind_some, Option.toList_some, List.cons_append, List.nil_append, Option.getD_some]
    simp (disch := first | assumption | omega | (simp only [Sh_pI, Sh_pL, Sh_pIs, Sh_pLs]; assumption)) only [↓ixb, Option.bind_some, Option.toList_some, Option.toList_none, List.cons_append, List.nil_append, e_168_14, ni_lit, d12, e_168_20, ni_lt]
    by_cases x : stq (sD s) (lwf (sD s) F) (8 * t + r) < lwf (sD s) F 12
    · rw [if_pos x, decide_eq_false (by omega)]; rfl
    · rw [if_neg x, decide_eq_true (by omega)]; rfl
end MGR
