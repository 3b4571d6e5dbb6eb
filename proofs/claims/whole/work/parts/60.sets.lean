/-! rowOf, between, silent, agree, wordings -/
theorem A20 : ∀ a1 a2 a3, Alike 133 134 [vi a1, vi a2, vi a3] := fun a1 a2 a3 => glue fun s V => by
  have vS' := vS V
  by_cases g : isQ s a1 a2
  · obtain ⟨t, r, ht, hr, rfl, rfl⟩ := g
    have vN' := vN V ht
    have v := vq V ht hr
    obtain ⟨u1, u2, u3, u4, u5, u6, u7⟩ := v
    have ex : (8 : Int32) * ni t + ni r = ni (8 * t + r) := by rw [show (8 : Int32) = ni 8 from rfl, ni_mul, ni_add]
    by_cases k : ∃ k, a3 = ni k ∧ (k < 3 ∨ (10 ≤ k ∧ k < 10 + sD s 12 (8 * t + r)) ∨ (20 ≤ k ∧ k + 1 < 20 + sD s 12 (8 * t + r)))
    · obtain ⟨k, rfl, hk⟩ := k
      refine ⟨ni (if k = 0 then sD s 11 (8 * t + r) else if k = 1 then sD s 12 (8 * t + r) else if k = 2 then sD s 13 (8 * t + r) else if k < 20 then sD s 14 (8 * (8 * t + r) + (k - 10)) else sD s 15 (8 * (8 * t + r) + (k - 20))), s, V, HC_0 fun h hs c => ?_, HM_0 fun h hs c => ?_⟩
      · obtain ⟨a, w, l, q1, q⟩ := cRow c ht hr
        rw [d_133 hs, D24t hs V c ht hr, q1]
        simp only [Option.bind_some, Option.toList_some, List.cons_append, List.nil_append]
        rw [e_133_9_1 hs (qR q), qZ q, qWd q]
        by_cases k0 : k = 0
        · subst k0
          rw [if_pos (show ni 0 = 0 from rfl), qK q, if_pos rfl]
          rcases (show sD s 11 (8 * t + r) = 0 ∨ sD s 11 (8 * t + r) = 1 ∨ sD s 11 (8 * t + r) = 2 ∨ sD s 11 (8 * t + r) = 3 ∨ sD s 11 (8 * t + r) = 4 ∨ sD s 11 (8 * t + r) = 5 ∨ sD s 11 (8 * t + r) = 6 by omega) with e | e | e | e | e | e | e <;> rw [e]
          · rw [show am_lk [(0, 126), (1, 127), (2, 128), (3, 129), (6, 130), (7, 131), (9, 132)] (kt 0) = some 131 from rfl, Option.bind_some, d_131 hs]; exact e_133_32 hs
          · rw [show am_lk [(0, 126), (1, 127), (2, 128), (3, 129), (6, 130), (7, 131), (9, 132)] (kt 1) = some 132 from rfl, Option.bind_some, d_132 hs]; exact e_133_32 hs
          · rw [show am_lk [(0, 126), (1, 127), (2, 128), (3, 129), (6, 130), (7, 131), (9, 132)] (kt 2) = some 126 from rfl, Option.bind_some, d_126 hs]; exact e_133_32 hs
          · rw [show am_lk [(0, 126), (1, 127), (2, 128), (3, 129), (6, 130), (7, 131), (9, 132)] (kt 3) = some 127 from rfl, Option.bind_some, d_127 hs]; exact e_133_32 hs
          · rw [show am_lk [(0, 126), (1, 127), (2, 128), (3, 129), (6, 130), (7, 131), (9, 132)] (kt 4) = some 128 from rfl, Option.bind_some, d_128 hs]; exact e_133_32 hs
          · rw [show am_lk [(0, 126), (1, 127), (2, 128), (3, 129), (6, 130), (7, 131), (9, 132)] (kt 5) = some 130 from rfl, Option.bind_some, d_130 hs]; exact e_133_32 hs
          · rw [show am_lk [(0, 126), (1, 127), (2, 128), (3, 129), (6, 130), (7, 131), (9, 132)] (kt 6) = some 129 from rfl, Option.bind_some, d_129 hs]; exact e_133_32 hs
        · rw [if_neg k0]
          by_cases k1 : k = 1
          · rw [if_pos k1]; simp (disch := first | assumption | omega | (simp only [Sh_pI, Sh_pL, Sh_pIs, Sh_pLs]; assumption)) only [↓ixb, Option.bind_some, Option.bind_none, Option.toList_some, Option.toList_none, List.cons_append, List.nil_append, ni_lit, ni_of, ni_add, ni_mul, ni_sub, ni_div, ni_lt, ni_le, ni_eq, ng_lt, ng_le, ng_lt', ng_le', ng_eq, ng_eq', ng_ng, Int32.neg_neg, ix_ni, if_pos, if_neg, reduceIte]
          · rw [if_neg k1]
            by_cases k2 : k = 2
            · rw [if_pos k2]; simp (disch := first | assumption | omega | (simp only [Sh_pI, Sh_pL, Sh_pIs, Sh_pLs]; assumption)) only [↓ixb, Option.bind_some, Option.bind_none, Option.toList_some, Option.toList_none, List.cons_append, List.nil_append, ni_lit, ni_of, ni_add, ni_mul, ni_sub, ni_div, ni_lt, ni_le, ni_eq, ng_lt, ng_le, ng_lt', ng_le', ng_eq, ng_eq', ng_ng, Int32.neg_neg, ix_ni, if_pos, if_neg, reduceIte]
            · rw [if_neg k2]
              by_cases k3 : k < 20
              · rw [if_pos k3]; simp (disch := first | assumption | omega | (simp only [Sh_pI, Sh_pL, Sh_pIs, Sh_pLs]; assumption)) only [↓ixb, Option.bind_some, Option.bind_none, Option.toList_some, Option.toList_none, List.cons_append, List.nil_append, ni_lit, ni_of, ni_add, ni_mul, ni_sub, ni_div, ni_lt, ni_le, ni_eq, ng_lt, ng_le, ng_lt', ng_le', ng_eq, ng_eq', ng_ng, Int32.neg_neg, ix_ni, if_pos, if_neg, reduceIte, qWh q]
              · have qq := qLk q (i := k - 20) (by omega)
                rw [if_neg k3]; simp (disch := first | assumption | omega | (simp only [Sh_pI, Sh_pL, Sh_pIs, Sh_pLs]; assumption)) only [↓ixb, Option.bind_some, Option.bind_none, Option.toList_some, Option.toList_none, List.cons_append, List.nil_append, ni_lit, ni_of, ni_add, ni_mul, ni_sub, ni_div, ni_lt, ni_le, ni_eq, ng_lt, ng_le, ng_lt', ng_le', ng_eq, ng_eq', ng_ng, Int32.neg_neg, ix_ni, if_pos, if_neg, reduceIte, e_133_84 hs (qR q), qZ q, qq]
      · rw [d_134 hs, D27t hs V c ht hr]
        simp only [Option.bind_some, Option.toList_some, List.cons_append, List.nil_append]
        rw [e_134_6 hs, if_neg (show ¬ ni 1 = 0 by decide), ex]
        by_cases k0 : k = 0
        · rw [if_pos k0]; simp (disch := first | assumption | omega | (simp only [Sh_pI, Sh_pL, Sh_pIs, Sh_pLs]; assumption)) only [↓ixb, Option.bind_some, Option.bind_none, Option.toList_some, Option.toList_none, List.cons_append, List.nil_append, ni_lit, ni_of, ni_add, ni_mul, ni_sub, ni_div, ni_lt, ni_le, ni_eq, ng_lt, ng_le, ng_lt', ng_le', ng_eq, ng_eq', ng_ng, Int32.neg_neg, ix_ni, if_pos, if_neg, reduceIte, mK c ht hr]
        · rw [if_neg k0]
          by_cases k1 : k = 1
          · rw [if_pos k1]; simp (disch := first | assumption | omega | (simp only [Sh_pI, Sh_pL, Sh_pIs, Sh_pLs]; assumption)) only [↓ixb, Option.bind_some, Option.bind_none, Option.toList_some, Option.toList_none, List.cons_append, List.nil_append, ni_lit, ni_of, ni_add, ni_mul, ni_sub, ni_div, ni_lt, ni_le, ni_eq, ng_lt, ng_le, ng_lt', ng_le', ng_eq, ng_eq', ng_ng, Int32.neg_neg, ix_ni, if_pos, if_neg, reduceIte, mZ c ht hr]
          · rw [if_neg k1]
            by_cases k2 : k = 2
            · rw [if_pos k2]; simp (disch := first | assumption | omega | (simp only [Sh_pI, Sh_pL, Sh_pIs, Sh_pLs]; assumption)) only [↓ixb, Option.bind_some, Option.bind_none, Option.toList_some, Option.toList_none, List.cons_append, List.nil_append, ni_lit, ni_of, ni_add, ni_mul, ni_sub, ni_div, ni_lt, ni_le, ni_eq, ng_lt, ng_le, ng_lt', ng_le', ng_eq, ng_eq', ng_ng, Int32.neg_neg, ix_ni, if_pos, if_neg, reduceIte, mWd c ht hr]
            · rw [if_neg k2]
              by_cases k3 : k < 20
              · have e := mWh c ht hr (i := k - 10) (by omega)
                rw [← Nat.add_sub_assoc (by omega)] at e
                rw [if_pos k3]; simp (disch := first | assumption | omega | (simp only [Sh_pI, Sh_pL, Sh_pIs, Sh_pLs]; assumption)) only [↓ixb, Option.bind_some, Option.bind_none, Option.toList_some, Option.toList_none, List.cons_append, List.nil_append, ni_lit, ni_of, ni_add, ni_mul, ni_sub, ni_div, ni_lt, ni_le, ni_eq, ng_lt, ng_le, ng_lt', ng_le', ng_eq, ng_eq', ng_ng, Int32.neg_neg, ix_ni, if_pos, if_neg, reduceIte, mZ c ht hr, e]
                rw [← Nat.add_sub_assoc (by omega)]
              · have e := mLk c ht hr (i := k - 20) (by omega)
                rw [← Nat.add_sub_assoc (by omega)] at e
                rw [if_neg k3]; simp (disch := first | assumption | omega | (simp only [Sh_pI, Sh_pL, Sh_pIs, Sh_pLs]; assumption)) only [↓ixb, Option.bind_some, Option.bind_none, Option.toList_some, Option.toList_none, List.cons_append, List.nil_append, ni_lit, ni_of, ni_add, ni_mul, ni_sub, ni_div, ni_lt, ni_le, ni_eq, ng_lt, ng_le, ng_lt', ng_le', ng_eq, ng_eq', ng_ng, Int32.neg_neg, ix_ni, if_pos, if_neg, reduceIte, mZ c ht hr, e_134_98, e]
                rw [← Nat.add_sub_assoc (by omega)]
    · refine refg V 5 (by omega) (fun h hs c => ?_) (fun h hs c => ?_)
      · obtain ⟨a, w, l, q1, q⟩ := cRow c ht hr
        have fin : ∀ {o1 o2 o3 o4 : Option am_V}, am_E 133 (115, [some (vr (some 16)), o1, o2, o3, o4], [], h) = some (some (vi (-ni 5)), pI h 260 5 (hI h 260 5 + 1)) := by
          intros; simp (disch := first | assumption | omega | (simp only [Sh_pI, Sh_pL, Sh_pIs, Sh_pLs]; assumption)) only [↓ixb, Option.bind_some, Option.bind_none, Option.toList_some, Option.toList_none, List.cons_append, List.nil_append, ni_lit, ni_of, ni_add, ni_mul, ni_sub, ni_div, ni_lt, ni_le, ni_eq, ng_lt, ng_le, ng_lt', ng_le', ng_eq, ng_eq', ng_ng, Int32.neg_neg, ix_ni, if_pos, if_neg, reduceIte, e_133_115, D7, e_133_121]
        rw [d_133 hs, D24t hs V c ht hr, q1]
        simp only [Option.bind_some, Option.toList_some, List.cons_append, List.nil_append]
        rcases ni_cases a3 with ⟨z, j, hj, rfl⟩ | ⟨j, hj, rfl⟩
        · have z1 : ∀ m : Nat, m < 2147483648 → ¬ -ni j = ni m := fun m hm e => ni_lo z m hm e
          have z2 : -ni j < (10 : Int32) := by rw [ltt] at z ⊢; exact Int.lt_trans z (by decide)
          have z3 : -ni j < (20 : Int32) := by rw [ltt] at z ⊢; exact Int.lt_trans z (by decide)
          rw [e_133_9_1 hs (qR q), if_neg (show ¬ -ni j = (0 : Int32) from z1 0 (by omega)), if_neg (show ¬ -ni j = (1 : Int32) from z1 1 (by omega)), if_neg (show ¬ -ni j = (2 : Int32) from z1 2 (by omega)), if_pos z2, e_133_84 hs (qR q), if_pos z3]
          exact fin
        · rw [e_133_9_1 hs (qR q), qZ q, e_133_84 hs (qR q), qZ q, fin]
          have nk : ¬ (j < 3 ∨ (10 ≤ j ∧ j < 10 + sD s 12 (8 * t + r)) ∨ (20 ≤ j ∧ j + 1 < 20 + sD s 12 (8 * t + r))) := fun x => k ⟨j, rfl, x⟩
          rw [if_neg (show ¬ ni j = (0 : Int32) by rw [show (0 : Int32) = ni 0 from rfl, ni_eq hj (by omega)]; omega), if_neg (show ¬ ni j = (1 : Int32) by rw [show (1 : Int32) = ni 1 from rfl, ni_eq hj (by omega)]; omega), if_neg (show ¬ ni j = (2 : Int32) by rw [show (2 : Int32) = ni 2 from rfl, ni_eq hj (by omega)]; omega)]
          simp (disch := first | assumption | omega | (simp only [Sh_pI, Sh_pL, Sh_pIs, Sh_pLs]; assumption)) only [ni_lit, ni_add, ni_sub, ni_lt, ni_le]
          repeat' split
          all_goals first | rfl | (exfalso; omega)
      · have fin : ∀ {o1 o2 o3 o4 : Option am_V}, am_E 134 (136, [some (vr (some 261)), o1, o2, o3, o4], [], h) = some (some (vi (-ni 5)), pI h 262 5 (hI h 262 5 + 1)) := by
          intros; simp (disch := first | assumption | omega | (simp only [Sh_pI, Sh_pL, Sh_pIs, Sh_pLs]; assumption)) only [↓ixb, Option.bind_some, Option.bind_none, Option.toList_some, Option.toList_none, List.cons_append, List.nil_append, ni_lit, ni_of, ni_add, ni_mul, ni_sub, ni_div, ni_lt, ni_le, ni_eq, ng_lt, ng_le, ng_lt', ng_le', ng_eq, ng_eq', ng_ng, Int32.neg_neg, ix_ni, if_pos, if_neg, reduceIte, e_134_136, D10, e_134_142]
        rw [d_134 hs, D27t hs V c ht hr]
        simp only [Option.bind_some, Option.toList_some, List.cons_append, List.nil_append]
        rw [e_134_6 hs, if_neg (show ¬ ni 1 = 0 by decide), ex]
        rcases ni_cases a3 with ⟨z, j, hj, rfl⟩ | ⟨j, hj, rfl⟩
        · have z1 : ∀ m : Nat, m < 2147483648 → ¬ -ni j = ni m := fun m hm e => ni_lo z m hm e
          have z2 : -ni j < (10 : Int32) := by rw [ltt] at z ⊢; exact Int.lt_trans z (by decide)
          have z3 : -ni j < (20 : Int32) := by rw [ltt] at z ⊢; exact Int.lt_trans z (by decide)
          rw [if_neg (show ¬ -ni j = (0 : Int32) from z1 0 (by omega)), if_neg (show ¬ -ni j = (1 : Int32) from z1 1 (by omega)), if_neg (show ¬ -ni j = (2 : Int32) from z1 2 (by omega)), if_pos z2, e_134_98 hs, if_pos z3]
          exact fin
        · have nk : ¬ (j < 3 ∨ (10 ≤ j ∧ j < 10 + sD s 12 (8 * t + r)) ∨ (20 ≤ j ∧ j + 1 < 20 + sD s 12 (8 * t + r))) := fun x => k ⟨j, rfl, x⟩
          have e98 : ∀ {o1 o2 : Option am_V}, am_E 134 (98, [some (vr (some 261)), o1, o2, some (vi (ni j)), some (vi (ni (8 * t + r)))], [], h) = some (some (vi (-ni 5)), pI h 262 5 (hI h 262 5 + 1)) := by
            intro o1 o2
            rw [e_134_98 hs, fin, ixb _ (show 8 * t + r < 64 by omega) (by omega), mZ c ht hr]
            by_cases j20 : j < 20
            · exact if_pos (show ni j < ni 20 by rw [ni_lt hj (by omega)]; exact j20)
            · rw [if_neg (show ¬ ni j < 20 from by rw [show (20 : Int32) = ni 20 from rfl, ni_lt hj (by omega)]; exact j20)]
              exact if_pos (by rw [show (19 : Int32) = ni 19 from rfl, ni_add, ni_le (by omega) hj]; omega)
          rw [if_neg (show ¬ ni j = (0 : Int32) by rw [show (0 : Int32) = ni 0 from rfl, ni_eq hj (by omega)]; omega), if_neg (show ¬ ni j = (1 : Int32) by rw [show (1 : Int32) = ni 1 from rfl, ni_eq hj (by omega)]; omega), if_neg (show ¬ ni j = (2 : Int32) by rw [show (2 : Int32) = ni 2 from rfl, ni_eq hj (by omega)]; omega), e98]
          by_cases j10 : j < 10
          · exact if_pos (show ni j < ni 10 by rw [ni_lt hj (by omega)]; exact j10)
          · rw [if_neg (show ¬ ni j < 10 from by rw [show (10 : Int32) = ni 10 from rfl, ni_lt hj (by omega)]; exact j10), ixb _ (show 8 * t + r < 64 by omega) (by omega), mZ c ht hr]
            exact if_pos (by rw [show (10 : Int32) = ni 10 from rfl, ni_add, ni_le (by omega) hj]; omega)
  · refine refg V 5 (by omega) (fun h hs c => ?_) (fun h hs c => ?_)
    · rw [d_133 hs, D24f hs V c g]
      simp (disch := first | assumption | omega | (simp only [Sh_pI, Sh_pL, Sh_pIs, Sh_pLs]; assumption)) only [↓ixb, Option.bind_some, Option.bind_none, Option.toList_some, Option.toList_none, List.cons_append, List.nil_append, ni_lit, ni_of, ni_add, ni_mul, ni_sub, ni_div, ni_lt, ni_le, ni_eq, ng_lt, ng_le, ng_lt', ng_le', ng_eq, ng_eq', ng_ng, Int32.neg_neg, ix_ni, if_pos, if_neg, reduceIte, e_133_9, D7, e_133_22]
    · rw [d_134 hs, D27f hs V c g]
      simp only [Option.bind_some, Option.toList_some, List.cons_append, List.nil_append]
      rw [e_134_6 hs, if_pos (show ni 0 = 0 from rfl), show (-5 : Int32) = -ni 5 from rfl, D10 hs (by omega)]
      simp only [Option.bind_some, Option.toList_some, List.cons_append, List.nil_append]
      exact e_134_15 (h := pI h 262 5 (hI h 262 5 + 1)) hs
-- between
def hrs (s : Sg) (a b : Nat) : Bool := (wc (sD s) (lwF s 0) (lwF s 1) a b).isSome
def btw (s : Sg) (a b c : Nat) : Bool := !(c == a) && !(c == b) && hrs s a c && hrs s c b
theorem L237 {h : am_H} {s : Sg} (hs : Sh h) (V : Vs s) (c : CS h s) {a b : Nat} (ha : a < sM s) (hb : b < sM s) : ∀ m i (o3 : Option am_V), i + m = sM s → am_E 237 (23, [some (vr (some 16)), some (vi (ni a)), some (vi (ni b)), o3, some (vi (sb (btw s a b) i)), some (vi (ni i))], [], h) = some (some (vi (sb (btw s a b) (sM s))), h) := by
  have vM' := vM V
  intro m
  induction m with
  | zero =>
    intro i o3 e
    rw [e_237_23 hs, cM c]
    simp (disch := first | assumption | omega | (simp only [Sh_pI, Sh_pL, Sh_pIs, Sh_pLs]; assumption)) only [↓ixb, Option.bind_some, Option.bind_none, Option.toList_some, Option.toList_none, List.cons_append, List.nil_append, ni_lit, ni_of, ni_add, ni_mul, ni_sub, ni_div, ni_lt, ni_le, ni_eq, ng_lt, ng_le, ng_lt', ng_le', ng_eq, ng_eq', ng_ng, Int32.neg_neg, ix_ni, if_pos, if_neg, reduceIte]
    rw [show i = sM s by omega]
  | succ m ih =>
    intro i o3 e
    have s82 : ∀ (o3 : Option am_V), btw s a b i = false → am_E 237 (82, [some (vr (some 16)), some (vi (ni a)), some (vi (ni b)), o3, some (vi (sb (btw s a b) i)), some (vi (ni i))], [], h) = some (some (vi (sb (btw s a b) (sM s))), h) := by
      intro o3 f
      rw [e_237_82 hs, ni_add1, ← sb_f f]
      exact ih (i + 1) o3 (by omega)
    rw [e_237_23 hs, cM c, if_neg (show ¬ ni (sM s) ≤ ni i by rw [ni_le (by omega) (by omega)]; omega)]
    by_cases z1 : i = a
    · rw [if_pos (by rw [z1])]
      exact s82 _ (by unfold btw; rw [z1]; simp)
    · rw [if_neg (by rw [ni_eq (by omega) (by omega)]; exact z1)]
      by_cases z2 : i = b
      · rw [if_pos (by rw [z2])]
        exact s82 _ (by unfold btw; rw [z2]; simp)
      · rw [if_neg (by rw [ni_eq (by omega) (by omega)]; exact z2), D140 hs V c ha (by omega)]
        simp only [Option.bind_some, Option.toList_some, List.cons_append, List.nil_append]
        rw [e_237_57 hs]
        cases x : (wc (sD s) (lwF s 0) (lwF s 1) a i).isSome
        · rw [if_pos (show bi false = 0 from rfl)]
          exact s82 _ (by unfold btw hrs; rw [x]; simp)
        · rw [if_neg (show ¬ bi true = 0 by decide), D140 hs V c (show i < sM s by omega) hb]
          simp only [Option.bind_some, Option.toList_some, List.cons_append, List.nil_append]
          rw [e_237_70 hs]
          cases y : (wc (sD s) (lwF s 0) (lwF s 1) i b).isSome
          · rw [if_pos (show bi false = 0 from rfl)]
            exact s82 _ (by unfold btw hrs; rw [x, y]; simp)
          · rw [if_neg (show ¬ bi true = 0 by decide), e_237_82 hs, ni_add1]
            have f : btw s a b i = true := by
              unfold btw hrs; rw [x, y, beq_eq_false_iff_ne.mpr z1, beq_eq_false_iff_ne.mpr z2]; rfl
            have fin := ih (i + 1) (am_nl o3) (by omega)
            rw [sb_t f] at fin
            exact fin
theorem L238 {h : am_H} {s : Sg} (hs : Sh h) (V : Vs s) (c : MS h s) (hby : hI h 261 43 = fI (sD s 22 3)) {a b : Nat} (ha : a < sM s) (hb : b < sM s) : ∀ m i, i + m = sM s → am_E 238 (47, [some (vr (some 261)), some (vi (ni a)), some (vi (ni b)), some (vi (sb (btw s a b) i)), some (vi (ni i))], [], h) = some (some (vi (sb (btw s a b) (sM s))), h) := by
  have vM' := vM V
  have vF := V.2.1
  intro m
  induction m with
  | zero =>
    intro i e
    rw [e_238_47 hs, mM c]
    simp (disch := first | assumption | omega | (simp only [Sh_pI, Sh_pL, Sh_pIs, Sh_pLs]; assumption)) only [↓ixb, Option.bind_some, Option.bind_none, Option.toList_some, Option.toList_none, List.cons_append, List.nil_append, ni_lit, ni_of, ni_add, ni_mul, ni_sub, ni_div, ni_lt, ni_le, ni_eq, ng_lt, ng_le, ng_lt', ng_le', ng_eq, ng_eq', ng_ng, Int32.neg_neg, ix_ni, if_pos, if_neg, reduceIte]
    rw [show i = sM s by omega]
  | succ m ih =>
    intro i e
    have s82 : btw s a b i = false → am_E 238 (97, [some (vr (some 261)), some (vi (ni a)), some (vi (ni b)), some (vi (sb (btw s a b) i)), some (vi (ni i))], [], h) = some (some (vi (sb (btw s a b) (sM s))), h) := by
      intro f
      rw [e_238_97 hs, ni_add1, ← sb_f f]
      exact ih (i + 1) (by omega)
    rw [e_238_47 hs, mM c, if_neg (show ¬ ni (sM s) ≤ ni i by rw [ni_le (by omega) (by omega)]; omega)]
    by_cases z1 : i = a
    · rw [if_pos (by rw [z1])]
      exact s82 (by unfold btw; rw [z1]; simp)
    · rw [if_neg (by rw [ni_eq (by omega) (by omega)]; exact z1)]
      by_cases z2 : i = b
      · rw [if_pos (by rw [z2])]
        exact s82 (by unfold btw; rw [z2]; simp)
      · rw [if_neg (by rw [ni_eq (by omega) (by omega)]; exact z2), D143 hs V c vF hby ha (show i < sM s by omega)]
        simp only [Option.bind_some, Option.toList_some, List.cons_append, List.nil_append]
        rw [e_238_75 hs]
        refine (oI_c _ (fun y e => by have := wc_b V ha vF y e; omega) _ _).trans ?_
        cases x : (wc (sD s) (lwf (sD s) (sD s 22 3) 0) (lwf (sD s) (sD s 22 3) 1) a i).isSome
        · exact s82 (by unfold btw hrs lwF; rw [x]; simp)
        · rw [cond_true, D143 hs V c vF hby (show i < sM s by omega) hb]
          simp only [Option.bind_some, Option.toList_some, List.cons_append, List.nil_append]
          rw [e_238_86 hs]
          refine (oI_c _ (fun y e => by have := wc_b V (show i < sM s by omega) vF y e; omega) _ _).trans ?_
          cases y : (wc (sD s) (lwf (sD s) (sD s 22 3) 0) (lwf (sD s) (sD s 22 3) 1) i b).isSome
          · exact s82 (by unfold btw hrs lwF; rw [x, y]; simp)
          · rw [cond_true, e_238_97 hs, ni_add1]
            have f : btw s a b i = true := by
              unfold btw hrs lwF; rw [x, y, beq_eq_false_iff_ne.mpr z1, beq_eq_false_iff_ne.mpr z2]; rfl
            have fin := ih (i + 1) (by omega)
            rw [sb_t f] at fin
            exact fin
theorem A39 : ∀ a1 a2, Alike 237 238 [vi a1, vi a2] := fun a1 a2 => glue fun s V => by
  have vM' := vM V
  by_cases g : (∃ a, a < sM s ∧ a1 = ni a) ∧ ∃ b, b < sM s ∧ a2 = ni b
  · obtain ⟨⟨a, ha, rfl⟩, b, hb', rfl⟩ := g
    by_cases e : a = b
    · refine refg V 6 (by omega) (fun h hs c => ?_) (fun h hs c => ?_)
      · rw [d_237 hs, D135t hs V c ha hb', if_pos e]; simp (disch := first | assumption | omega | (simp only [Sh_pI, Sh_pL, Sh_pIs, Sh_pLs]; assumption)) only [↓ixb, Option.bind_some, Option.bind_none, Option.toList_some, Option.toList_none, List.cons_append, List.nil_append, ni_lit, ni_of, ni_add, ni_mul, ni_sub, ni_div, ni_lt, ni_le, ni_eq, ng_lt, ng_le, ng_lt', ng_le', ng_eq, ng_eq', ng_ng, Int32.neg_neg, ix_ni, if_pos, if_neg, reduceIte, e_237_6, D7, e_237_16]
      · rw [d_238 hs, D56t hs V c ha]; simp (disch := first | assumption | omega | (simp only [Sh_pI, Sh_pL, Sh_pIs, Sh_pLs]; assumption)) only [↓ixb, Option.bind_some, Option.bind_none, Option.toList_some, Option.toList_none, List.cons_append, List.nil_append, ni_lit, ni_of, ni_add, ni_mul, ni_sub, ni_div, ni_lt, ni_le, ni_eq, ng_lt, ng_le, ng_lt', ng_le', ng_eq, ng_eq', ng_ng, Int32.neg_neg, ix_ni, if_pos, if_neg, reduceIte, e_238_5, D56t hs V c hb', e_238_13, D10, e_238_33]
    · refine ⟨sb (btw s a b) (sM s), s, V, HC_0 fun h hs c => ?_, HM_q V fun h hs c => ⟨hb h s, ?_, hb_K⟩⟩
      · rw [d_237 hs, D135t hs V c ha hb', if_neg e]; simp (disch := first | assumption | omega | (simp only [Sh_pI, Sh_pL, Sh_pIs, Sh_pLs]; assumption)) only [↓ixb, Option.bind_some, Option.bind_none, Option.toList_some, Option.toList_none, List.cons_append, List.nil_append, ni_lit, ni_of, ni_add, ni_mul, ni_sub, ni_div, ni_lt, ni_le, ni_eq, ng_lt, ng_le, ng_lt', ng_le', ng_eq, ng_eq', ng_ng, Int32.neg_neg, ix_ni, if_pos, if_neg, reduceIte, e_237_6]
        exact L237 hs V c ha hb' (sM s) 0 _ (by omega)
      · rw [d_238 hs, D56t hs V c ha]; simp (disch := first | assumption | omega | (simp only [Sh_pI, Sh_pL, Sh_pIs, Sh_pLs]; assumption)) only [↓ixb, Option.bind_some, Option.bind_none, Option.toList_some, Option.toList_none, List.cons_append, List.nil_append, ni_lit, ni_of, ni_add, ni_mul, ni_sub, ni_div, ni_lt, ni_le, ni_eq, ng_lt, ng_le, ng_lt', ng_le', ng_eq, ng_eq', ng_ng, Int32.neg_neg, ix_ni, if_pos, if_neg, reduceIte, e_238_5, D56t hs V c hb', e_238_13, hb_e c]
        exact L238 (hb_S hs) V (hb_M V c) hb_43 ha hb' (sM s) 0 (by omega)
  · refine refg V 1 (by omega) (fun h hs c => ?_) (fun h hs c => ?_)
    · rw [d_237 hs, D135f hs V c g]; simp (disch := first | assumption | omega | (simp only [Sh_pI, Sh_pL, Sh_pIs, Sh_pLs]; assumption)) only [↓ixb, Option.bind_some, Option.bind_none, Option.toList_some, Option.toList_none, List.cons_append, List.nil_append, ni_lit, ni_of, ni_add, ni_mul, ni_sub, ni_div, ni_lt, ni_le, ni_eq, ng_lt, ng_le, ng_lt', ng_le', ng_eq, ng_eq', ng_ng, Int32.neg_neg, ix_ni, if_pos, if_neg, reduceIte, e_237_6, D7, e_237_16]
    · rcases rg a1 (sM s) with ⟨a, ha, rfl⟩ | hx
      · rcases rg a2 (sM s) with ⟨b, hb, rfl⟩ | hy
        · exact absurd ⟨⟨a, ha, rfl⟩, b, hb, rfl⟩ g
        · rw [d_238 hs, D56t hs V c ha]; simp (disch := first | assumption | omega | (simp only [Sh_pI, Sh_pL, Sh_pIs, Sh_pLs]; assumption)) only [↓ixb, Option.bind_some, Option.bind_none, Option.toList_some, Option.toList_none, List.cons_append, List.nil_append, ni_lit, ni_of, ni_add, ni_mul, ni_sub, ni_div, ni_lt, ni_le, ni_eq, ng_lt, ng_le, ng_lt', ng_le', ng_eq, ng_eq', ng_ng, Int32.neg_neg, ix_ni, if_pos, if_neg, reduceIte, e_238_5, D56f hs V c hy, e_238_13, e_238_16, D10, e_238_21]
      · rw [d_238 hs, D56f hs V c hx]; simp (disch := first | assumption | omega | (simp only [Sh_pI, Sh_pL, Sh_pIs, Sh_pLs]; assumption)) only [↓ixb, Option.bind_some, Option.bind_none, Option.toList_some, Option.toList_none, List.cons_append, List.nil_append, ni_lit, ni_of, ni_add, ni_mul, ni_sub, ni_div, ni_lt, ni_le, ni_eq, ng_lt, ng_le, ng_lt', ng_le', ng_eq, ng_eq', ng_ng, Int32.neg_neg, ix_ni, if_pos, if_neg, reduceIte, e_238_5, e_238_16, D10, e_238_21]
