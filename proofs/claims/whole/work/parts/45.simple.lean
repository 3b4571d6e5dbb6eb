/-! simple questions -/
section SMP
variable {h : am_H} {s : Sg}
theorem cH0 (c : CS h s) {k : Nat} (hk : k < 8) (z : sD s 17 k = 0) : hI h 27 k = -ni 1 := (c.2.2.2.2.2.1 k hk).1 z
theorem cH1 (c : CS h s) {k : Nat} (hk : k < 8) (z : sD s 17 k = 1) : hI h 27 k = ni (100 + sD s 18 k) := ((c.2.2.2.2.2.1 k hk).2.1 z).1
theorem cHn (c : CS h s) {k : Nat} (hk : k < 8) (z : sD s 17 k = 1) : hI h 26 k = ni (sD s 19 k) := ((c.2.2.2.2.2.1 k hk).2.1 z).2.1
theorem cHe (c : CS h s) {k : Nat} (hk : k < 8) (z : sD s 17 k = 1) {i : Nat} (hi : i < sD s 19 k) : hL h (18 + k) i = sE s (100 * k + i) := ((c.2.2.2.2.2.1 k hk).2.1 z).2.2 i hi
theorem cH2 (c : CS h s) {k : Nat} (hk : k < 8) (z : sD s 17 k = 2) : hI h 27 k = ni (10 * sD s 20 k + sD s 21 k) := (c.2.2.2.2.2.1 k hk).2.2 z
theorem mH (c : MS h s) {k : Nat} (hk : k < 8) : hI h 281 k = ni (sD s 17 k) := (c.2.2.2.2.2.1 k hk).1
theorem mH1 (c : MS h s) {k : Nat} (hk : k < 8) (z : sD s 17 k = 1) : hI h 282 k = ni (sD s 18 k) := ((c.2.2.2.2.2.1 k hk).2.1 z).1
theorem mHn (c : MS h s) {k : Nat} (hk : k < 8) (z : sD s 17 k = 1) : hI h 283 k = ni (sD s 19 k) := ((c.2.2.2.2.2.1 k hk).2.1 z).2.1
theorem mHe (c : MS h s) {k : Nat} (hk : k < 8) (z : sD s 17 k = 1) {i : Nat} (hi : i < sD s 19 k) : hL h 285 (100 * k + i) = sE s (100 * k + i) := ((c.2.2.2.2.2.1 k hk).2.1 z).2.2 i hi
theorem mH2 (c : MS h s) {k : Nat} (hk : k < 8) (z : sD s 17 k = 2) : hI h 284 k = ni (8 * sD s 20 k + sD s 21 k) := (c.2.2.2.2.2.1 k hk).2.2 z
/-- a question that is refused, and one that isn't -/
theorem HC_q {y : Nat} {as : List am_V} {v : am_V} (V : Vs s) (H : ∀ h, Sh h → CS h s → ∃ h1, am_D y (vr (some 16) :: as) h = some (some v, h1) ∧ Kg sc h h1) : HC y as s v s := fun h hs c => by
  obtain ⟨h1, d, k⟩ := H h hs c
  exact ⟨h1, d, Cok_q V hs c k⟩
theorem HM_q {y : Nat} {as : List am_V} {v : am_V} (V : Vs s) (H : ∀ h, Sh h → MS h s → ∃ h1, am_D y (vr (some 261) :: as) h = some (some v, h1) ∧ Kg scm h h1) : HM y as s v s := fun h hs c => by
  obtain ⟨h1, d, k⟩ := H h hs c
  exact ⟨h1, d, Mok_q V c k⟩
theorem HC_0 {y : Nat} {as : List am_V} {v : am_V} (H : ∀ h, Sh h → CS h s → am_D y (vr (some 16) :: as) h = some (some v, h)) : HC y as s v s := fun h hs c => ⟨h, H h hs c, Cok_refl hs c⟩
theorem HM_0 {y : Nat} {as : List am_V} {v : am_V} (H : ∀ h, Sh h → MS h s → am_D y (vr (some 261) :: as) h = some (some v, h)) : HM y as s v s := fun h hs c => ⟨h, H h hs c, Mok_refl c⟩
theorem HC_r {y : Nat} {as : List am_V} {v : am_V} (V : Vs s) {k : Nat} (hk : k < 8) (H : ∀ h, Sh h → CS h s → am_D y (vr (some 16) :: as) h = some (some v, pI h 260 k (hI h 260 k + 1))) : HC y as s v (sRf s k) := fun h hs c => ⟨_, H h hs c, Cref V hs c hk⟩
theorem HM_r {y : Nat} {as : List am_V} {v : am_V} {k : Nat} (hk : k < 8) (H : ∀ h, Sh h → MS h s → am_D y (vr (some 261) :: as) h = some (some v, pI h 262 k (hI h 262 k + 1))) : HM y as s v (sRf s k) := fun h hs c => ⟨_, H h hs c, Mref c hk⟩
end SMP
theorem A5 : ∀ a1, Alike 29 30 [vi a1] := fun a1 => glue fun s V => by
  rcases rg a1 8 with ⟨k, hk, rfl⟩ | hn
  · rcases V.2.2.1 k hk with z | ⟨z, z1, z2⟩ | ⟨z, z1, z2⟩
    · refine ⟨-ni 1, s, V, HC_0 fun h hs c => ?_, HM_0 fun h hs c => ?_⟩
      · rw [d_29 hs, D6t hs hk]; simp (disch := first | assumption | omega | (simp only [Sh_pI, Sh_pL, Sh_pIs, Sh_pLs]; assumption)) only [Option.bind_some, Option.bind_none, Option.toList_some, Option.toList_none, List.cons_append, List.nil_append, ni_lit, ni_of, ni_add, ni_mul, ni_sub, ni_div, ni_lt, ni_le, ni_eq, ng_lt, ng_le, ng_lt', ng_le', ng_eq, ng_eq', ng_ng, Int32.neg_neg, ix_ni, if_pos, if_neg, reduceIte, e_29_4, cH0 c hk z]
      · rw [d_30 hs, D9t hs hk]; simp (disch := first | assumption | omega | (simp only [Sh_pI, Sh_pL, Sh_pIs, Sh_pLs]; assumption)) only [Option.bind_some, Option.bind_none, Option.toList_some, Option.toList_none, List.cons_append, List.nil_append, ni_lit, ni_of, ni_add, ni_mul, ni_sub, ni_div, ni_lt, ni_le, ni_eq, ng_lt, ng_le, ng_lt', ng_le', ng_eq, ng_eq', ng_ng, Int32.neg_neg, ix_ni, if_pos, if_neg, reduceIte, e_30_5, mH c hk, z]
    · refine ⟨ni (100 + sD s 18 k), s, V, HC_0 fun h hs c => ?_, HM_0 fun h hs c => ?_⟩
      · rw [d_29 hs, D6t hs hk]; simp (disch := first | assumption | omega | (simp only [Sh_pI, Sh_pL, Sh_pIs, Sh_pLs]; assumption)) only [Option.bind_some, Option.bind_none, Option.toList_some, Option.toList_none, List.cons_append, List.nil_append, ni_lit, ni_of, ni_add, ni_mul, ni_sub, ni_div, ni_lt, ni_le, ni_eq, ng_lt, ng_le, ng_lt', ng_le', ng_eq, ng_eq', ng_ng, Int32.neg_neg, ix_ni, if_pos, if_neg, reduceIte, e_29_4, cH1 c hk z]
      · rw [d_30 hs, D9t hs hk]; simp (disch := first | assumption | omega | (simp only [Sh_pI, Sh_pL, Sh_pIs, Sh_pLs]; assumption)) only [Option.bind_some, Option.bind_none, Option.toList_some, Option.toList_none, List.cons_append, List.nil_append, ni_lit, ni_of, ni_add, ni_mul, ni_sub, ni_div, ni_lt, ni_le, ni_eq, ng_lt, ng_le, ng_lt', ng_le', ng_eq, ng_eq', ng_ng, Int32.neg_neg, ix_ni, if_pos, if_neg, reduceIte, e_30_5, mH c hk, z, mH1 c hk z]
    · have v1 := vS V
      have v2 := vN V z1
      refine ⟨ni (10 * sD s 20 k + sD s 21 k), s, V, HC_0 fun h hs c => ?_, HM_0 fun h hs c => ?_⟩
      · rw [d_29 hs, D6t hs hk]; simp (disch := first | assumption | omega | (simp only [Sh_pI, Sh_pL, Sh_pIs, Sh_pLs]; assumption)) only [Option.bind_some, Option.bind_none, Option.toList_some, Option.toList_none, List.cons_append, List.nil_append, ni_lit, ni_of, ni_add, ni_mul, ni_sub, ni_div, ni_lt, ni_le, ni_eq, ng_lt, ng_le, ng_lt', ng_le', ng_eq, ng_eq', ng_ng, Int32.neg_neg, ix_ni, if_pos, if_neg, reduceIte, e_29_4, cH2 c hk z]
      · rw [d_30 hs, D9t hs hk]; simp (disch := first | assumption | omega | (simp only [Sh_pI, Sh_pL, Sh_pIs, Sh_pLs]; assumption)) only [Option.bind_some, Option.bind_none, Option.toList_some, Option.toList_none, List.cons_append, List.nil_append, ni_lit, ni_of, ni_add, ni_mul, ni_sub, ni_div, ni_lt, ni_le, ni_eq, ng_lt, ng_le, ng_lt', ng_le', ng_eq, ng_eq', ng_ng, Int32.neg_neg, ix_ni, if_pos, if_neg, reduceIte, e_30_5, mH c hk, z, mH2 c hk z]
        exact congrArg (fun z => some (some (vi (ni z)), h)) (by omega)
  · refine ⟨-ni 1, s, V, HC_0 fun h hs c => ?_, HM_0 fun h hs c => ?_⟩
    · rw [d_29 hs, D6f hs hn]; simp (disch := first | assumption | omega | (simp only [Sh_pI, Sh_pL, Sh_pIs, Sh_pLs]; assumption)) only [Option.bind_some, Option.bind_none, Option.toList_some, Option.toList_none, List.cons_append, List.nil_append, ni_lit, ni_of, ni_add, ni_mul, ni_sub, ni_div, ni_lt, ni_le, ni_eq, ng_lt, ng_le, ng_lt', ng_le', ng_eq, ng_eq', ng_ng, Int32.neg_neg, ix_ni, if_pos, if_neg, reduceIte, e_29_4]
    · rw [d_30 hs, D9f hs hn]; simp (disch := first | assumption | omega | (simp only [Sh_pI, Sh_pL, Sh_pIs, Sh_pLs]; assumption)) only [Option.bind_some, Option.bind_none, Option.toList_some, Option.toList_none, List.cons_append, List.nil_append, ni_lit, ni_of, ni_add, ni_mul, ni_sub, ni_div, ni_lt, ni_le, ni_eq, ng_lt, ng_le, ng_lt', ng_le', ng_eq, ng_eq', ng_ng, Int32.neg_neg, ix_ni, if_pos, if_neg, reduceIte, e_30_5]
theorem A15 : Alike 97 98 [] := glue fun s V => ⟨sX s, s, V, HC_0 fun h hs c => by rw [d_97 hs, c.1], HM_0 fun h hs c => by rw [d_98 hs, c.1.2.2.2.2]⟩
theorem A43 : ∀ a1, Alike 264 265 [vi a1] := fun a1 => glue fun s V => by
  have v5 := V.2.2.2.2
  rcases rg a1 (min 20 (sD s 24 0)) with ⟨k, hk, rfl⟩ | hn
  · refine ⟨ni (sD s 25 k), s, V, HC_0 fun h hs c => ?_, HM_0 fun h hs c => ?_⟩
    · have e := c.2.2.2.2.2.2.1.2 k (by omega) (by omega)
      simp (disch := first | assumption | omega | (simp only [Sh_pI, Sh_pL, Sh_pIs, Sh_pLs]; assumption)) only [Option.bind_some, Option.bind_none, Option.toList_some, Option.toList_none, List.cons_append, List.nil_append, ni_lit, ni_of, ni_add, ni_mul, ni_sub, ni_div, ni_lt, ni_le, ni_eq, ng_lt, ng_le, ng_lt', ng_le', ng_eq, ng_eq', ng_ng, Int32.neg_neg, ix_ni, if_pos, if_neg, reduceIte, d_264, c.2.2.2.2.2.2.1.1, e]
    · have e := c.2.2.2.2.2.2.1.2 k (by omega) (by omega)
      simp (disch := first | assumption | omega | (simp only [Sh_pI, Sh_pL, Sh_pIs, Sh_pLs]; assumption)) only [Option.bind_some, Option.bind_none, Option.toList_some, Option.toList_none, List.cons_append, List.nil_append, ni_lit, ni_of, ni_add, ni_mul, ni_sub, ni_div, ni_lt, ni_le, ni_eq, ng_lt, ng_le, ng_lt', ng_le', ng_eq, ng_eq', ng_ng, Int32.neg_neg, ix_ni, if_pos, if_neg, reduceIte, d_265, c.2.2.2.2.2.2.1.1, e]
  · refine ⟨-ni 1, s, V, HC_0 fun h hs c => ?_, HM_0 fun h hs c => ?_⟩
    · rcases ni_cases a1 with ⟨z, -⟩ | ⟨k, hk, rfl⟩
      · rw [d_264 hs, if_pos z]; rfl
      · have : ¬ k < min 20 (sD s 24 0) := fun z => hn k z rfl
        rw [d_264 hs, c.2.2.2.2.2.2.1.1]
        by_cases z : k < 20
        · simp (disch := first | assumption | omega | (simp only [Sh_pI, Sh_pL, Sh_pIs, Sh_pLs]; assumption)) only [Option.bind_some, Option.bind_none, Option.toList_some, Option.toList_none, List.cons_append, List.nil_append, ni_lit, ni_of, ni_add, ni_mul, ni_sub, ni_div, ni_lt, ni_le, ni_eq, ng_lt, ng_le, ng_lt', ng_le', ng_eq, ng_eq', ng_ng, Int32.neg_neg, ix_ni, if_pos, if_neg, reduceIte]
        · by_cases z' : k < sD s 24 0
          · simp (disch := first | assumption | omega | (simp only [Sh_pI, Sh_pL, Sh_pIs, Sh_pLs]; assumption)) only [Option.bind_some, Option.bind_none, Option.toList_some, Option.toList_none, List.cons_append, List.nil_append, ni_lit, ni_of, ni_add, ni_mul, ni_sub, ni_div, ni_lt, ni_le, ni_eq, ng_lt, ng_le, ng_lt', ng_le', ng_eq, ng_eq', ng_ng, Int32.neg_neg, ix_ni, if_pos, if_neg, reduceIte]
          · simp (disch := first | assumption | omega | (simp only [Sh_pI, Sh_pL, Sh_pIs, Sh_pLs]; assumption)) only [Option.bind_some, Option.bind_none, Option.toList_some, Option.toList_none, List.cons_append, List.nil_append, ni_lit, ni_of, ni_add, ni_mul, ni_sub, ni_div, ni_lt, ni_le, ni_eq, ng_lt, ng_le, ng_lt', ng_le', ng_eq, ng_eq', ng_ng, Int32.neg_neg, ix_ni, if_pos, if_neg, reduceIte]
    · rcases ni_cases a1 with ⟨z, -⟩ | ⟨k, hk, rfl⟩
      · rw [d_265 hs, if_pos z]; rfl
      · have : ¬ k < min 20 (sD s 24 0) := fun z => hn k z rfl
        rw [d_265 hs, c.2.2.2.2.2.2.1.1]
        by_cases z : k < 20
        · simp (disch := first | assumption | omega | (simp only [Sh_pI, Sh_pL, Sh_pIs, Sh_pLs]; assumption)) only [Option.bind_some, Option.bind_none, Option.toList_some, Option.toList_none, List.cons_append, List.nil_append, ni_lit, ni_of, ni_add, ni_mul, ni_sub, ni_div, ni_lt, ni_le, ni_eq, ng_lt, ng_le, ng_lt', ng_le', ng_eq, ng_eq', ng_ng, Int32.neg_neg, ix_ni, if_pos, if_neg, reduceIte]
        · simp (disch := first | assumption | omega | (simp only [Sh_pI, Sh_pL, Sh_pIs, Sh_pLs]; assumption)) only [Option.bind_some, Option.bind_none, Option.toList_some, Option.toList_none, List.cons_append, List.nil_append, ni_lit, ni_of, ni_add, ni_mul, ni_sub, ni_div, ni_lt, ni_le, ni_eq, ng_lt, ng_le, ng_lt', ng_le', ng_eq, ng_eq', ng_ng, Int32.neg_neg, ix_ni, if_pos, if_neg, reduceIte]
theorem A16 : ∀ a1 a2, Alike 100 101 [vi a1, vi a2] := fun a1 a2 => glue fun s V => by
  have v := vR V
  by_cases hq : ∃ r j, r < sR s ∧ j < 14 ∧ a1 = ni r ∧ a2 = ni j
  · obtain ⟨r, j, hr, hj, rfl, rfl⟩ := hq
    refine ⟨ni (sD s 9 (14 * r + j)), s, V, HC_0 fun h hs c => ?_, HM_0 fun h hs c => ?_⟩
    · have e : hI h (31 + r) j = _ := c.2.2.2.2.1.2.2.1 r hr j hj
      rw [d_100 hs, D99t hs V c hr]
      simp (disch := first | assumption | omega | (simp only [Sh_pI, Sh_pL, Sh_pIs, Sh_pLs]; assumption)) only [Option.bind_some, Option.bind_none, Option.toList_some, Option.toList_none, List.cons_append, List.nil_append, ni_lit, ni_of, ni_add, ni_mul, ni_sub, ni_div, ni_lt, ni_le, ni_eq, ng_lt, ng_le, ng_lt', ng_le', ng_eq, ng_eq', ng_ng, Int32.neg_neg, ix_ni, if_pos, if_neg, reduceIte, d_100, e_100_8, e_100_21, e_100_27, e]
    · have e : hI h 273 (14 * r + j) = _ := c.2.2.2.2.1.2.1 r hr j hj
      simp (disch := first | assumption | omega | (simp only [Sh_pI, Sh_pL, Sh_pIs, Sh_pLs]; assumption)) only [Option.bind_some, Option.bind_none, Option.toList_some, Option.toList_none, List.cons_append, List.nil_append, ni_lit, ni_of, ni_add, ni_mul, ni_sub, ni_div, ni_lt, ni_le, ni_eq, ng_lt, ng_le, ng_lt', ng_le', ng_eq, ng_eq', ng_ng, Int32.neg_neg, ix_ni, if_pos, if_neg, reduceIte, d_101, e_101_22, e_101_28, mR c, e]
  · refine ⟨-ni 5, sRf s 5, Vs_rf V, HC_r V (by omega) fun h hs c => ?_, HM_r (by omega) fun h hs c => ?_⟩
    · have fin : am_E 100 (21, [some (vr (some 16)), some (vi a1), some (vi a2)], [], h) = some (some (vi (-ni 5)), pI h 260 5 (hI h 260 5 + 1)) := by
        simp (disch := first | assumption | omega | (simp only [Sh_pI, Sh_pL, Sh_pIs, Sh_pLs]; assumption)) only [Option.bind_some, Option.bind_none, Option.toList_some, Option.toList_none, List.cons_append, List.nil_append, ni_lit, ni_of, ni_add, ni_mul, ni_sub, ni_div, ni_lt, ni_le, ni_eq, ng_lt, ng_le, ng_lt', ng_le', ng_eq, ng_eq', ng_ng, Int32.neg_neg, ix_ni, if_pos, if_neg, reduceIte, d_100, e_100_8, e_100_21, e_100_27, D7]
      rcases rg a1 (sR s) with ⟨r, hr, rfl⟩ | hn
      · rw [d_100 hs, D99t hs V c hr]
        simp (disch := first | assumption | omega | (simp only [Sh_pI, Sh_pL, Sh_pIs, Sh_pLs]; assumption)) only [Option.bind_some, Option.toList_some, List.cons_append, List.nil_append, e_100_8]
        rw [if_neg (by simp (disch := first | assumption | omega | (simp only [Sh_pI, Sh_pL, Sh_pIs, Sh_pLs]; assumption)) only [Option.bind_some, Option.bind_none, Option.toList_some, Option.toList_none, List.cons_append, List.nil_append, ni_lit, ni_of, ni_add, ni_mul, ni_sub, ni_div, ni_lt, ni_le, ni_eq, ng_lt, ng_le, ng_lt', ng_le', ng_eq, ng_eq', ng_ng, Int32.neg_neg, ix_ni, if_pos, if_neg, reduceIte]; decide), fin]
        exact gd_g (n := 14) (fun k hk e => hq ⟨r, k, hr, hk, rfl, e⟩) (by omega) _ _
      · rw [d_100 hs, D99f hs V c hn]
        simp (disch := first | assumption | omega | (simp only [Sh_pI, Sh_pL, Sh_pIs, Sh_pLs]; assumption)) only [Option.bind_some, Option.toList_some, List.cons_append, List.nil_append, e_100_8]
        rw [if_pos (show ni 0 = 0 from rfl), fin]
    · have fin : am_E 101 (22, [some (vr (some 261)), some (vi a1), some (vi a2)], [], h) = some (some (vi (-ni 5)), pI h 262 5 (hI h 262 5 + 1)) := by
        simp (disch := first | assumption | omega | (simp only [Sh_pI, Sh_pL, Sh_pIs, Sh_pLs]; assumption)) only [Option.bind_some, Option.bind_none, Option.toList_some, Option.toList_none, List.cons_append, List.nil_append, ni_lit, ni_of, ni_add, ni_mul, ni_sub, ni_div, ni_lt, ni_le, ni_eq, ng_lt, ng_le, ng_lt', ng_le', ng_eq, ng_eq', ng_ng, Int32.neg_neg, ix_ni, if_pos, if_neg, reduceIte, d_101, e_101_22, e_101_28, D10]
      rw [d_101 hs, fin, mR c]
      rcases rg a1 (sR s) with ⟨r, hr, rfl⟩ | hn
      · simp (disch := first | assumption | omega | (simp only [Sh_pI, Sh_pL, Sh_pIs, Sh_pLs]; assumption)) only [Option.bind_some, Option.bind_none, Option.toList_some, Option.toList_none, List.cons_append, List.nil_append, ni_lit, ni_of, ni_add, ni_mul, ni_sub, ni_div, ni_lt, ni_le, ni_eq, ng_lt, ng_le, ng_lt', ng_le', ng_eq, ng_eq', ng_ng, Int32.neg_neg, ix_ni, if_pos, if_neg, reduceIte]
        rcases ni_cases a2 with ⟨z, -⟩ | ⟨k, hk, rfl⟩
        · exact if_pos z
        · have : ¬ k < 14 := fun z => hq ⟨r, k, hr, z, rfl, rfl⟩
          simp (disch := first | assumption | omega | (simp only [Sh_pI, Sh_pL, Sh_pIs, Sh_pLs]; assumption)) only [Option.bind_some, Option.bind_none, Option.toList_some, Option.toList_none, List.cons_append, List.nil_append, ni_lit, ni_of, ni_add, ni_mul, ni_sub, ni_div, ni_lt, ni_le, ni_eq, ng_lt, ng_le, ng_lt', ng_le', ng_eq, ng_eq', ng_ng, Int32.neg_neg, ix_ni, if_pos, if_neg, reduceIte]
      · exact gd_f hn (by omega) _ _
theorem A19 : ∀ a1, Alike 124 125 [vi a1] := fun a1 => glue fun s V => by
  have v := vS V
  rcases rg a1 (sS s) with ⟨t, ht, rfl⟩ | hn
  · refine ⟨ni (sD s 10 t), s, V, HC_0 fun h hs c => ?_, HM_0 fun h hs c => ?_⟩
    · rw [d_124 hs, D23t hs V c ht]; simp (disch := first | assumption | omega | (simp only [Sh_pI, Sh_pL, Sh_pIs, Sh_pLs]; assumption)) only [Option.bind_some, Option.bind_none, Option.toList_some, Option.toList_none, List.cons_append, List.nil_append, ni_lit, ni_of, ni_add, ni_mul, ni_sub, ni_div, ni_lt, ni_le, ni_eq, ng_lt, ng_le, ng_lt', ng_le', ng_eq, ng_eq', ng_ng, Int32.neg_neg, ix_ni, if_pos, if_neg, reduceIte, d_124, e_124_8, e_124_16, cN c ht]
    · rw [d_125 hs, D26t hs V c ht]; simp (disch := first | assumption | omega | (simp only [Sh_pI, Sh_pL, Sh_pIs, Sh_pLs]; assumption)) only [Option.bind_some, Option.bind_none, Option.toList_some, Option.toList_none, List.cons_append, List.nil_append, ni_lit, ni_of, ni_add, ni_mul, ni_sub, ni_div, ni_lt, ni_le, ni_eq, ng_lt, ng_le, ng_lt', ng_le', ng_eq, ng_eq', ng_ng, Int32.neg_neg, ix_ni, if_pos, if_neg, reduceIte, d_125, e_125_5, e_125_22, mN c ht]
  · refine ⟨-ni 1, sRf s 1, Vs_rf V, HC_r V (by omega) fun h hs c => ?_, HM_r (by omega) fun h hs c => ?_⟩
    · rw [d_124 hs, D23f hs V c hn]; simp (disch := first | assumption | omega | (simp only [Sh_pI, Sh_pL, Sh_pIs, Sh_pLs]; assumption)) only [Option.bind_some, Option.bind_none, Option.toList_some, Option.toList_none, List.cons_append, List.nil_append, ni_lit, ni_of, ni_add, ni_mul, ni_sub, ni_div, ni_lt, ni_le, ni_eq, ng_lt, ng_le, ng_lt', ng_le', ng_eq, ng_eq', ng_ng, Int32.neg_neg, ix_ni, if_pos, if_neg, reduceIte, d_124, e_124_8, e_124_16, D7]
    · rw [d_125 hs, D26f hs V c hn]; simp (disch := first | assumption | omega | (simp only [Sh_pI, Sh_pL, Sh_pIs, Sh_pLs]; assumption)) only [Option.bind_some, Option.bind_none, Option.toList_some, Option.toList_none, List.cons_append, List.nil_append, ni_lit, ni_of, ni_add, ni_mul, ni_sub, ni_div, ni_lt, ni_le, ni_eq, ng_lt, ng_le, ng_lt', ng_le', ng_eq, ng_eq', ng_ng, Int32.neg_neg, ix_ni, if_pos, if_neg, reduceIte, d_125, e_125_5, e_125_22, D10]
