/-! journey, found, mark, manOf, where, force -/
theorem okm_old {s : Sg} (V : Vs s) {m : Nat} (hm : m < sM s) : okm s m (sM s) := ⟨hm, vM V, Or.inl rfl⟩
-- a journey more
def fjo (D : Nat → Nat → Nat) (m i : Nat) : Nat := if i = 5 then D 5 m + 1 else D i m
def gjo (D : Nat → Nat → Nat) (m p a b i j : Nat) : Nat := if j = D 5 m then (if i = 6 then p else if i = 7 then a else b) else D i (3 * m + j)
theorem okf_jo {D : Nat → Nat → Nat} {m p a b : Nat} (v : Vm D m) (h3 : D 5 m < 3) (hp : p < 8) (hab : a ≤ b) (hb : b ≤ 400) : okf (fjo D m) (gjo D m p a b) := by
  obtain ⟨v1, v2, v3, v4, v5, v6, v7⟩ := v
  refine ⟨v1, v2, v3, v4, ?_, v6, fun j hj => ?_⟩
  · show D 5 m + 1 ≤ 3; omega
  · have hj' : j < D 5 m + 1 := hj
    unfold gjo
    by_cases e : j = D 5 m
    · rw [if_pos e, if_pos e, if_pos e]; exact ⟨hp, hab, hb⟩
    · rw [if_neg e, if_neg e, if_neg e]; exact v7 j (by omega)
theorem A9 : ∀ a1 a2 a3 a4, Alike 55 57 [vi a1, vi a2, vi a3, vi a4] := fun a1 a2 a3 a4 => glue fun s V => by
  have vM' := vM V
  rcases rg a1 (sM s) with ⟨m, hm, rfl⟩ | hn
  · have v := vm V hm
    by_cases o : okP a2 = true ∧ okL a3 a4 = true
    · obtain ⟨p, rfl, hp⟩ := okP_ex o.1
      obtain ⟨a, b, rfl, rfl, hab, hb⟩ := okL_ex o.2
      by_cases h3 : sD s 5 m < 3
      · have okg := okf_jo v h3 hp hab hb
        refine ⟨ni (sD s 5 m + 1), smn s m (sM s) (fjo (sD s) m) (gjo (sD s) m p a b), smn_Vs V (okm_old V hm) okg, fun h hs c => ⟨pI (pI (pI (pI h (43 + 4 * m) (sD s 5 m) (ni p)) (44 + 4 * m) (sD s 5 m) (ni a)) (45 + 4 * m) (sD s 5 m) (ni b)) (42 + 4 * m) 5 (ni (sD s 5 m + 1)), ?_, ?_⟩, fun h hs c => ⟨pI (pI (pI (pI h 269 (3 * m + sD s 5 m) (ni p)) 270 (3 * m + sD s 5 m) (ni a)) 271 (3 * m + sD s 5 m) (ni b)) 268 m (ni (sD s 5 m + 1)), ?_, ?_⟩⟩
        · obtain ⟨c1, c2, c3, c4, c5, c6, c7⟩ := cmn c hm
          rw [d_55 hs, D53t hs V c hm]
          simp (disch := first | assumption | omega | (simp only [Sh_pI, Sh_pL, Sh_pIs, Sh_pLs]; assumption)) only [↓ixb, Option.bind_some, Option.bind_none, Option.toList_some, Option.toList_none, List.cons_append, List.nil_append, ni_lit, ni_of, ni_add, ni_mul, ni_sub, ni_div, ni_lt, ni_le, ni_eq, ng_lt, ng_le, ng_lt', ng_le', ng_eq, ng_eq', ng_ng, Int32.neg_neg, ix_ni, if_pos, if_neg, reduceIte, e_55_8, D38, o.1, bi_t, e_55_21, D37, o.2, e_55_30, c5, d_54, pe, pn, e_55_79]
        · obtain ⟨c1, c2, c3, c4, c5, c6, c7⟩ := cmn c hm
          refine smn_C V (okm_old V hm) okg.2.2.2.2.1 hs c (Kg_pI (by omega) (Kg_pI (by omega) (Kg_pI (by omega) (Kg_pI (by omega) (Kg_refl h))))) ?_ ?_ ?_ ?_ ?_ ?_ (fun z => ?_) (fun j hj => ?_)
          · simp (disch := first | assumption | omega | (simp only [Sh_pI, Sh_pL, Sh_pIs, Sh_pLs]; assumption)) only [pe, pn]; exact cM c
          · simp (disch := first | assumption | omega | (simp only [Sh_pI, Sh_pL, Sh_pIs, Sh_pLs]; assumption)) only [pe, pn]; exact c1
          · simp (disch := first | assumption | omega | (simp only [Sh_pI, Sh_pL, Sh_pIs, Sh_pLs]; assumption)) only [pe, pn]; exact c2
          · simp (disch := first | assumption | omega | (simp only [Sh_pI, Sh_pL, Sh_pIs, Sh_pLs]; assumption)) only [pe, pn]; exact c3
          · simp (disch := first | assumption | omega | (simp only [Sh_pI, Sh_pL, Sh_pIs, Sh_pLs]; assumption)) only [pe, pn]; exact c4
          · simp (disch := first | assumption | omega | (simp only [Sh_pI, Sh_pL, Sh_pIs, Sh_pLs]; assumption)) only [pe, pn]; rfl
          · simp (disch := first | assumption | omega | (simp only [Sh_pI, Sh_pL, Sh_pIs, Sh_pLs]; assumption)) only [pe, pn]; exact c6 z
          · have hj' : j < sD s 5 m + 1 := hj
            unfold gjo
            by_cases e : j = sD s 5 m
            · rw [if_pos e, if_pos e, if_pos e, e]
              simp (disch := first | assumption | omega | (simp only [Sh_pI, Sh_pL, Sh_pIs, Sh_pLs]; assumption)) only [pe, pn]
              exact ⟨rfl, rfl, rfl⟩
            · rw [if_neg e, if_neg e, if_neg e]
              simp (disch := first | assumption | omega | (simp only [Sh_pI, Sh_pL, Sh_pIs, Sh_pLs]; assumption)) only [pe, pn]
              have y := c7 j (by omega)
              rw [show 42 + 4 * m + 1 = 43 + 4 * m by omega, show 42 + 4 * m + 2 = 44 + 4 * m by omega, show 42 + 4 * m + 3 = 45 + 4 * m by omega] at y
              exact y
        · obtain ⟨c1, c2, c3, c4, c5, c6, c7⟩ := mmn c hm
          rw [d_57 hs, D56t hs V c hm]
          simp (disch := first | assumption | omega | (simp only [Sh_pI, Sh_pL, Sh_pIs, Sh_pLs]; assumption)) only [↓ixb, Option.bind_some, Option.bind_none, Option.toList_some, Option.toList_none, List.cons_append, List.nil_append, ni_lit, ni_of, ni_add, ni_mul, ni_sub, ni_div, ni_lt, ni_le, ni_eq, ng_lt, ng_le, ng_lt', ng_le', ng_eq, ng_eq', ng_ng, Int32.neg_neg, ix_ni, if_pos, if_neg, reduceIte, e_57_5, D44, o.1, bi_t, e_57_19, D43, o.2, e_57_29, c5, pe, pn]
        · obtain ⟨c1, c2, c3, c4, c5, c6, c7⟩ := mmn c hm
          refine smn_M V (okm_old V hm) okg.2.2.2.2.1 c (Kg_pI (by omega) (Kg_pI (by omega) (Kg_pI (by omega) (Kg_pI (by omega) (Kg_refl h))))) ?_ ?_ ?_ ?_ ?_ ?_ (fun z => ?_) (fun j hj => ?_)
          · simp (disch := first | assumption | omega | (simp only [Sh_pI, Sh_pL, Sh_pIs, Sh_pLs]; assumption)) only [pe, pn]; exact mM c
          · simp (disch := first | assumption | omega | (simp only [Sh_pI, Sh_pL, Sh_pIs, Sh_pLs]; assumption)) only [pe, pn]; exact c1
          · simp (disch := first | assumption | omega | (simp only [Sh_pI, Sh_pL, Sh_pIs, Sh_pLs]; assumption)) only [pe, pn]; exact c2
          · simp (disch := first | assumption | omega | (simp only [Sh_pI, Sh_pL, Sh_pIs, Sh_pLs]; assumption)) only [pe, pn]; exact c3
          · simp (disch := first | assumption | omega | (simp only [Sh_pI, Sh_pL, Sh_pIs, Sh_pLs]; assumption)) only [pe, pn]; exact c4
          · simp (disch := first | assumption | omega | (simp only [Sh_pI, Sh_pL, Sh_pIs, Sh_pLs]; assumption)) only [pe, pn]; rfl
          · simp (disch := first | assumption | omega | (simp only [Sh_pI, Sh_pL, Sh_pIs, Sh_pLs]; assumption)) only [pe, pn]; exact c6 z
          · have hj' : j < sD s 5 m + 1 := hj
            unfold gjo
            by_cases e : j = sD s 5 m
            · rw [if_pos e, if_pos e, if_pos e, e]
              simp (disch := first | assumption | omega | (simp only [Sh_pI, Sh_pL, Sh_pIs, Sh_pLs]; assumption)) only [pe, pn]
              exact ⟨rfl, rfl, rfl⟩
            · rw [if_neg e, if_neg e, if_neg e]
              simp (disch := first | assumption | omega | (simp only [Sh_pI, Sh_pL, Sh_pIs, Sh_pLs]; assumption)) only [pe, pn]
              exact c7 j (by omega)
      · have h3' : sD s 5 m = 3 := by have := v.2.2.2.2.1; omega
        refine refg V 7 (by omega) (fun h hs c => ?_) (fun h hs c => ?_)
        · obtain ⟨c1, c2, c3, c4, c5, c6, c7⟩ := cmn c hm
          rw [d_55 hs, D53t hs V c hm]
          simp (disch := first | assumption | omega | (simp only [Sh_pI, Sh_pL, Sh_pIs, Sh_pLs]; assumption)) only [↓ixb, Option.bind_some, Option.bind_none, Option.toList_some, Option.toList_none, List.cons_append, List.nil_append, ni_lit, ni_of, ni_add, ni_mul, ni_sub, ni_div, ni_lt, ni_le, ni_eq, ng_lt, ng_le, ng_lt', ng_le', ng_eq, ng_eq', ng_ng, Int32.neg_neg, ix_ni, if_pos, if_neg, reduceIte, e_55_8, D38, o.1, bi_t, e_55_21, D37, o.2, e_55_30, c5, D7, e_55_62]
        · obtain ⟨c1, c2, c3, c4, c5, c6, c7⟩ := mmn c hm
          rw [d_57 hs, D56t hs V c hm]
          simp (disch := first | assumption | omega | (simp only [Sh_pI, Sh_pL, Sh_pIs, Sh_pLs]; assumption)) only [↓ixb, Option.bind_some, Option.bind_none, Option.toList_some, Option.toList_none, List.cons_append, List.nil_append, ni_lit, ni_of, ni_add, ni_mul, ni_sub, ni_div, ni_lt, ni_le, ni_eq, ng_lt, ng_le, ng_lt', ng_le', ng_eq, ng_eq', ng_ng, Int32.neg_neg, ix_ni, if_pos, if_neg, reduceIte, e_57_5, D44, o.1, bi_t, e_57_19, D43, o.2, e_57_29, c5, D10, e_57_55]
    · have oc : okP a2 = false ∨ (okP a2 = true ∧ okL a3 a4 = false) := by
        cases x : okP a2
        · exact Or.inl rfl
        · cases y : okL a3 a4
          · exact Or.inr ⟨rfl, rfl⟩
          · exact absurd ⟨x, y⟩ o
      refine refg V 6 (by omega) (fun h hs c => ?_) (fun h hs c => ?_)
      · rw [d_55 hs, D53t hs V c hm]
        rcases oc with o1 | ⟨o1, o2⟩
        · simp (disch := first | assumption | omega | (simp only [Sh_pI, Sh_pL, Sh_pIs, Sh_pLs]; assumption)) only [↓ixb, Option.bind_some, Option.bind_none, Option.toList_some, Option.toList_none, List.cons_append, List.nil_append, ni_lit, ni_of, ni_add, ni_mul, ni_sub, ni_div, ni_lt, ni_le, ni_eq, ng_lt, ng_le, ng_lt', ng_le', ng_eq, ng_eq', ng_ng, Int32.neg_neg, ix_ni, if_pos, if_neg, reduceIte, e_55_8, D38, o1, bi_f, e_55_21, e_55_33, D7, e_55_39]
        · simp (disch := first | assumption | omega | (simp only [Sh_pI, Sh_pL, Sh_pIs, Sh_pLs]; assumption)) only [↓ixb, Option.bind_some, Option.bind_none, Option.toList_some, Option.toList_none, List.cons_append, List.nil_append, ni_lit, ni_of, ni_add, ni_mul, ni_sub, ni_div, ni_lt, ni_le, ni_eq, ng_lt, ng_le, ng_lt', ng_le', ng_eq, ng_eq', ng_ng, Int32.neg_neg, ix_ni, if_pos, if_neg, reduceIte, e_55_8, D38, o1, bi_t, bi_f, e_55_21, D37, o2, e_55_30, e_55_33, D7, e_55_39]
      · rw [d_57 hs, D56t hs V c hm]
        rcases oc with o1 | ⟨o1, o2⟩
        · simp (disch := first | assumption | omega | (simp only [Sh_pI, Sh_pL, Sh_pIs, Sh_pLs]; assumption)) only [↓ixb, Option.bind_some, Option.bind_none, Option.toList_some, Option.toList_none, List.cons_append, List.nil_append, ni_lit, ni_of, ni_add, ni_mul, ni_sub, ni_div, ni_lt, ni_le, ni_eq, ng_lt, ng_le, ng_lt', ng_le', ng_eq, ng_eq', ng_ng, Int32.neg_neg, ix_ni, if_pos, if_neg, reduceIte, e_57_5, D44, o1, bi_f, e_57_19, e_57_32, D10, e_57_38]
        · simp (disch := first | assumption | omega | (simp only [Sh_pI, Sh_pL, Sh_pIs, Sh_pLs]; assumption)) only [↓ixb, Option.bind_some, Option.bind_none, Option.toList_some, Option.toList_none, List.cons_append, List.nil_append, ni_lit, ni_of, ni_add, ni_mul, ni_sub, ni_div, ni_lt, ni_le, ni_eq, ng_lt, ng_le, ng_lt', ng_le', ng_eq, ng_eq', ng_ng, Int32.neg_neg, ix_ni, if_pos, if_neg, reduceIte, e_57_5, D44, o1, bi_t, bi_f, e_57_19, D43, o2, e_57_29, e_57_32, D10, e_57_38]
  · refine refg V 1 (by omega) (fun h hs c => ?_) (fun h hs c => ?_)
    · rw [d_55 hs, D53f hs V c hn]; simp (disch := first | assumption | omega | (simp only [Sh_pI, Sh_pL, Sh_pIs, Sh_pLs]; assumption)) only [↓ixb, Option.bind_some, Option.bind_none, Option.toList_some, Option.toList_none, List.cons_append, List.nil_append, ni_lit, ni_of, ni_add, ni_mul, ni_sub, ni_div, ni_lt, ni_le, ni_eq, ng_lt, ng_le, ng_lt', ng_le', ng_eq, ng_eq', ng_ng, Int32.neg_neg, ix_ni, if_pos, if_neg, reduceIte, e_55_8, D7, e_55_16]
    · rw [d_57 hs, D56f hs V c hn]; simp (disch := first | assumption | omega | (simp only [Sh_pI, Sh_pL, Sh_pIs, Sh_pLs]; assumption)) only [↓ixb, Option.bind_some, Option.bind_none, Option.toList_some, Option.toList_none, List.cons_append, List.nil_append, ni_lit, ni_of, ni_add, ni_mul, ni_sub, ni_div, ni_lt, ni_le, ni_eq, ng_lt, ng_le, ng_lt', ng_le', ng_eq, ng_eq', ng_ng, Int32.neg_neg, ix_ni, if_pos, if_neg, reduceIte, e_57_5, D10, e_57_13]
-- found
def ffo (D : Nat → Nat → Nat) (m b d i : Nat) : Nat := if i = 0 then b else if i = 1 then d else D i m
def gol (D : Nat → Nat → Nat) (m i j : Nat) : Nat := D i (3 * m + j)
theorem A10 : ∀ a1 a2 a3, Alike 58 59 [vi a1, vi a2, vi a3] := fun a1 a2 a3 => glue fun s V => by
  have vM' := vM V
  rcases rg a1 (sM s) with ⟨m, hm, rfl⟩ | hn
  · have v := vm V hm
    by_cases o : okL a2 a3 = true
    · obtain ⟨b, d, rfl, rfl, hbd, hd⟩ := okL_ex o
      have okg : okf (ffo (sD s) m b d) (gol (sD s) m) := ⟨hbd, hd, v.2.2.1, v.2.2.2.1, v.2.2.2.2.1, v.2.2.2.2.2.1, v.2.2.2.2.2.2⟩
      refine ⟨ni 1, smn s m (sM s) (ffo (sD s) m b d) (gol (sD s) m), smn_Vs V (okm_old V hm) okg, fun h hs c => ⟨pI (pI h (42 + 4 * m) 0 (ni b)) (42 + 4 * m) 1 (ni d), ?_, ?_⟩, fun h hs c => ⟨pI (pI h 263 m (ni b)) 264 m (ni d), ?_, ?_⟩⟩
      · rw [d_58 hs, D53t hs V c hm]; simp (disch := first | assumption | omega | (simp only [Sh_pI, Sh_pL, Sh_pIs, Sh_pLs]; assumption)) only [↓ixb, Option.bind_some, Option.bind_none, Option.toList_some, Option.toList_none, List.cons_append, List.nil_append, ni_lit, ni_of, ni_add, ni_mul, ni_sub, ni_div, ni_lt, ni_le, ni_eq, ng_lt, ng_le, ng_lt', ng_le', ng_eq, ng_eq', ng_ng, Int32.neg_neg, ix_ni, if_pos, if_neg, reduceIte, e_58_8, D37, o, bi_t, e_58_22]
      · obtain ⟨c1, c2, c3, c4, c5, c6, c7⟩ := cmn c hm
        refine smn_C V (okm_old V hm) okg.2.2.2.2.1 hs c (Kg_pI (by omega) (Kg_pI (by omega) (Kg_refl h))) ?_ ?_ ?_ ?_ ?_ ?_ (fun z => ?_) (fun j hj => ?_)
        · simp (disch := first | assumption | omega | (simp only [Sh_pI, Sh_pL, Sh_pIs, Sh_pLs]; assumption)) only [pe, pn]; exact cM c
        · simp (disch := first | assumption | omega | (simp only [Sh_pI, Sh_pL, Sh_pIs, Sh_pLs]; assumption)) only [pe, pn]; rfl
        · simp (disch := first | assumption | omega | (simp only [Sh_pI, Sh_pL, Sh_pIs, Sh_pLs]; assumption)) only [pe, pn]; rfl
        · simp (disch := first | assumption | omega | (simp only [Sh_pI, Sh_pL, Sh_pIs, Sh_pLs]; assumption)) only [pe, pn]; exact c3
        · simp (disch := first | assumption | omega | (simp only [Sh_pI, Sh_pL, Sh_pIs, Sh_pLs]; assumption)) only [pe, pn]; exact c4
        · simp (disch := first | assumption | omega | (simp only [Sh_pI, Sh_pL, Sh_pIs, Sh_pLs]; assumption)) only [pe, pn]; exact c5
        · simp (disch := first | assumption | omega | (simp only [Sh_pI, Sh_pL, Sh_pIs, Sh_pLs]; assumption)) only [pe, pn]; exact c6 z
        · simp (disch := first | assumption | omega | (simp only [Sh_pI, Sh_pL, Sh_pIs, Sh_pLs]; assumption)) only [pe, pn]
          have y := c7 j hj
          rw [show 42 + 4 * m + 1 = 43 + 4 * m by omega, show 42 + 4 * m + 2 = 44 + 4 * m by omega, show 42 + 4 * m + 3 = 45 + 4 * m by omega] at y
          exact y
      · rw [d_59 hs, D56t hs V c hm]; simp (disch := first | assumption | omega | (simp only [Sh_pI, Sh_pL, Sh_pIs, Sh_pLs]; assumption)) only [↓ixb, Option.bind_some, Option.bind_none, Option.toList_some, Option.toList_none, List.cons_append, List.nil_append, ni_lit, ni_of, ni_add, ni_mul, ni_sub, ni_div, ni_lt, ni_le, ni_eq, ng_lt, ng_le, ng_lt', ng_le', ng_eq, ng_eq', ng_ng, Int32.neg_neg, ix_ni, if_pos, if_neg, reduceIte, e_59_5, D43, o, bi_t, e_59_20]
      · obtain ⟨c1, c2, c3, c4, c5, c6, c7⟩ := mmn c hm
        refine smn_M V (okm_old V hm) okg.2.2.2.2.1 c (Kg_pI (by omega) (Kg_pI (by omega) (Kg_refl h))) ?_ ?_ ?_ ?_ ?_ ?_ (fun z => ?_) (fun j hj => ?_)
        · simp (disch := first | assumption | omega | (simp only [Sh_pI, Sh_pL, Sh_pIs, Sh_pLs]; assumption)) only [pe, pn]; exact mM c
        · simp (disch := first | assumption | omega | (simp only [Sh_pI, Sh_pL, Sh_pIs, Sh_pLs]; assumption)) only [pe, pn]; rfl
        · simp (disch := first | assumption | omega | (simp only [Sh_pI, Sh_pL, Sh_pIs, Sh_pLs]; assumption)) only [pe, pn]; rfl
        · simp (disch := first | assumption | omega | (simp only [Sh_pI, Sh_pL, Sh_pIs, Sh_pLs]; assumption)) only [pe, pn]; exact c3
        · simp (disch := first | assumption | omega | (simp only [Sh_pI, Sh_pL, Sh_pIs, Sh_pLs]; assumption)) only [pe, pn]; exact c4
        · simp (disch := first | assumption | omega | (simp only [Sh_pI, Sh_pL, Sh_pIs, Sh_pLs]; assumption)) only [pe, pn]; exact c5
        · simp (disch := first | assumption | omega | (simp only [Sh_pI, Sh_pL, Sh_pIs, Sh_pLs]; assumption)) only [pe, pn]; exact c6 z
        · simp (disch := first | assumption | omega | (simp only [Sh_pI, Sh_pL, Sh_pIs, Sh_pLs]; assumption)) only [pe, pn]; exact c7 j hj
    · have o1 := Bool.of_not_eq_true o
      refine refg V 6 (by omega) (fun h hs c => ?_) (fun h hs c => ?_)
      · rw [d_58 hs, D53t hs V c hm]; simp (disch := first | assumption | omega | (simp only [Sh_pI, Sh_pL, Sh_pIs, Sh_pLs]; assumption)) only [↓ixb, Option.bind_some, Option.bind_none, Option.toList_some, Option.toList_none, List.cons_append, List.nil_append, ni_lit, ni_of, ni_add, ni_mul, ni_sub, ni_div, ni_lt, ni_le, ni_eq, ng_lt, ng_le, ng_lt', ng_le', ng_eq, ng_eq', ng_ng, Int32.neg_neg, ix_ni, if_pos, if_neg, reduceIte, e_58_8, D37, o1, bi_f, e_58_22, D7, e_58_31]
      · rw [d_59 hs, D56t hs V c hm]; simp (disch := first | assumption | omega | (simp only [Sh_pI, Sh_pL, Sh_pIs, Sh_pLs]; assumption)) only [↓ixb, Option.bind_some, Option.bind_none, Option.toList_some, Option.toList_none, List.cons_append, List.nil_append, ni_lit, ni_of, ni_add, ni_mul, ni_sub, ni_div, ni_lt, ni_le, ni_eq, ng_lt, ng_le, ng_lt', ng_le', ng_eq, ng_eq', ng_ng, Int32.neg_neg, ix_ni, if_pos, if_neg, reduceIte, e_59_5, D43, o1, bi_f, e_59_20, D10, e_59_29]
  · refine refg V 1 (by omega) (fun h hs c => ?_) (fun h hs c => ?_)
    · rw [d_58 hs, D53f hs V c hn]; simp (disch := first | assumption | omega | (simp only [Sh_pI, Sh_pL, Sh_pIs, Sh_pLs]; assumption)) only [↓ixb, Option.bind_some, Option.bind_none, Option.toList_some, Option.toList_none, List.cons_append, List.nil_append, ni_lit, ni_of, ni_add, ni_mul, ni_sub, ni_div, ni_lt, ni_le, ni_eq, ng_lt, ng_le, ng_lt', ng_le', ng_eq, ng_eq', ng_ng, Int32.neg_neg, ix_ni, if_pos, if_neg, reduceIte, e_58_8, D7, e_58_16]
    · rw [d_59 hs, D56f hs V c hn]; simp (disch := first | assumption | omega | (simp only [Sh_pI, Sh_pL, Sh_pIs, Sh_pLs]; assumption)) only [↓ixb, Option.bind_some, Option.bind_none, Option.toList_some, Option.toList_none, List.cons_append, List.nil_append, ni_lit, ni_of, ni_add, ni_mul, ni_sub, ni_div, ni_lt, ni_le, ni_eq, ng_lt, ng_le, ng_lt', ng_le', ng_eq, ng_eq', ng_ng, Int32.neg_neg, ix_ni, if_pos, if_neg, reduceIte, e_59_5, D10, e_59_13]
-- mark
def fma (D : Nat → Nat → Nat) (m v y i : Nat) : Nat := if i = 3 then v else if i = 4 ∧ v = 3 then y else D i m
theorem A11 : ∀ a1 a2 a3, Alike 61 62 [vi a1, vi a2, vi a3] := fun a1 a2 a3 => glue fun s V => by
  have vM' := vM V
  rcases rg a1 (sM s) with ⟨m, hm, rfl⟩ | hn
  · have v := vm V hm
    by_cases o : okM a2 a3 = true
    · obtain ⟨k, rfl, hk, hy⟩ := okM_ex o
      by_cases k3 : k = 3
      · obtain ⟨y, rfl, hy4⟩ := hy k3
        subst k3
        have okg : okf (fma (sD s) m 3 y) (gol (sD s) m) := ⟨v.1, v.2.1, v.2.2.1, hk, v.2.2.2.2.1, fun _ => hy4, v.2.2.2.2.2.2⟩
        refine ⟨ni (sD s 3 m), smn s m (sM s) (fma (sD s) m 3 y) (gol (sD s) m), smn_Vs V (okm_old V hm) okg, fun h hs c => ⟨pI (pI h (42 + 4 * m) 3 (ni 3)) (42 + 4 * m) 4 (ni y), ?_, ?_⟩, fun h hs c => ⟨pI (pI h 266 m (ni 3)) 267 m (ni y), ?_, ?_⟩⟩
        · obtain ⟨c1, c2, c3, c4, c5, c6, c7⟩ := cmn c hm
          rw [d_61 hs, D53t hs V c hm]; simp (disch := first | assumption | omega | (simp only [Sh_pI, Sh_pL, Sh_pIs, Sh_pLs]; assumption)) only [↓ixb, Option.bind_some, Option.bind_none, Option.toList_some, Option.toList_none, List.cons_append, List.nil_append, ni_lit, ni_of, ni_add, ni_mul, ni_sub, ni_div, ni_lt, ni_le, ni_eq, ng_lt, ng_le, ng_lt', ng_le', ng_eq, ng_eq', ng_ng, Int32.neg_neg, ix_ni, if_pos, if_neg, reduceIte, e_61_8, D39, o, bi_t, e_61_22, d_60, c4, e_61_60]
        · obtain ⟨c1, c2, c3, c4, c5, c6, c7⟩ := cmn c hm
          refine smn_C V (okm_old V hm) okg.2.2.2.2.1 hs c (Kg_pI (by omega) (Kg_pI (by omega) (Kg_refl h))) ?_ ?_ ?_ ?_ ?_ ?_ (fun z => ?_) (fun j hj => ?_)
          · simp (disch := first | assumption | omega | (simp only [Sh_pI, Sh_pL, Sh_pIs, Sh_pLs]; assumption)) only [pe, pn]; exact cM c
          · simp (disch := first | assumption | omega | (simp only [Sh_pI, Sh_pL, Sh_pIs, Sh_pLs]; assumption)) only [pe, pn]; exact c1
          · simp (disch := first | assumption | omega | (simp only [Sh_pI, Sh_pL, Sh_pIs, Sh_pLs]; assumption)) only [pe, pn]; exact c2
          · simp (disch := first | assumption | omega | (simp only [Sh_pI, Sh_pL, Sh_pIs, Sh_pLs]; assumption)) only [pe, pn]; exact c3
          · simp (disch := first | assumption | omega | (simp only [Sh_pI, Sh_pL, Sh_pIs, Sh_pLs]; assumption)) only [pe, pn]; rfl
          · simp (disch := first | assumption | omega | (simp only [Sh_pI, Sh_pL, Sh_pIs, Sh_pLs]; assumption)) only [pe, pn]; exact c5
          · simp (disch := first | assumption | omega | (simp only [Sh_pI, Sh_pL, Sh_pIs, Sh_pLs]; assumption)) only [pe, pn]; rfl
          · simp (disch := first | assumption | omega | (simp only [Sh_pI, Sh_pL, Sh_pIs, Sh_pLs]; assumption)) only [pe, pn]
            have y := c7 j hj
            rw [show 42 + 4 * m + 1 = 43 + 4 * m by omega, show 42 + 4 * m + 2 = 44 + 4 * m by omega, show 42 + 4 * m + 3 = 45 + 4 * m by omega] at y
            exact y
        · obtain ⟨c1, c2, c3, c4, c5, c6, c7⟩ := mmn c hm
          rw [d_62 hs, D56t hs V c hm]; simp (disch := first | assumption | omega | (simp only [Sh_pI, Sh_pL, Sh_pIs, Sh_pLs]; assumption)) only [↓ixb, Option.bind_some, Option.bind_none, Option.toList_some, Option.toList_none, List.cons_append, List.nil_append, ni_lit, ni_of, ni_add, ni_mul, ni_sub, ni_div, ni_lt, ni_le, ni_eq, ng_lt, ng_le, ng_lt', ng_le', ng_eq, ng_eq', ng_ng, Int32.neg_neg, ix_ni, if_pos, if_neg, reduceIte, e_62_5, D45, o, bi_t, e_62_20, c4]
        · obtain ⟨c1, c2, c3, c4, c5, c6, c7⟩ := mmn c hm
          refine smn_M V (okm_old V hm) okg.2.2.2.2.1 c (Kg_pI (by omega) (Kg_pI (by omega) (Kg_refl h))) ?_ ?_ ?_ ?_ ?_ ?_ (fun z => ?_) (fun j hj => ?_)
          · simp (disch := first | assumption | omega | (simp only [Sh_pI, Sh_pL, Sh_pIs, Sh_pLs]; assumption)) only [pe, pn]; exact mM c
          · simp (disch := first | assumption | omega | (simp only [Sh_pI, Sh_pL, Sh_pIs, Sh_pLs]; assumption)) only [pe, pn]; exact c1
          · simp (disch := first | assumption | omega | (simp only [Sh_pI, Sh_pL, Sh_pIs, Sh_pLs]; assumption)) only [pe, pn]; exact c2
          · simp (disch := first | assumption | omega | (simp only [Sh_pI, Sh_pL, Sh_pIs, Sh_pLs]; assumption)) only [pe, pn]; exact c3
          · simp (disch := first | assumption | omega | (simp only [Sh_pI, Sh_pL, Sh_pIs, Sh_pLs]; assumption)) only [pe, pn]; rfl
          · simp (disch := first | assumption | omega | (simp only [Sh_pI, Sh_pL, Sh_pIs, Sh_pLs]; assumption)) only [pe, pn]; exact c5
          · simp (disch := first | assumption | omega | (simp only [Sh_pI, Sh_pL, Sh_pIs, Sh_pLs]; assumption)) only [pe, pn]; rfl
          · simp (disch := first | assumption | omega | (simp only [Sh_pI, Sh_pL, Sh_pIs, Sh_pLs]; assumption)) only [pe, pn]; exact c7 j hj
      · have okg : okf (fma (sD s) m k 0) (gol (sD s) m) := ⟨v.1, v.2.1, v.2.2.1, hk, v.2.2.2.2.1, fun z => absurd z k3, v.2.2.2.2.2.2⟩
        refine ⟨ni (sD s 3 m), smn s m (sM s) (fma (sD s) m k 0) (gol (sD s) m), smn_Vs V (okm_old V hm) okg, fun h hs c => ⟨pI h (42 + 4 * m) 3 (ni k), ?_, ?_⟩, fun h hs c => ⟨pI h 266 m (ni k), ?_, ?_⟩⟩
        · obtain ⟨c1, c2, c3, c4, c5, c6, c7⟩ := cmn c hm
          rw [d_61 hs, D53t hs V c hm]; simp (disch := first | assumption | omega | (simp only [Sh_pI, Sh_pL, Sh_pIs, Sh_pLs]; assumption)) only [↓ixb, Option.bind_some, Option.bind_none, Option.toList_some, Option.toList_none, List.cons_append, List.nil_append, ni_lit, ni_of, ni_add, ni_mul, ni_sub, ni_div, ni_lt, ni_le, ni_eq, ng_lt, ng_le, ng_lt', ng_le', ng_eq, ng_eq', ng_ng, Int32.neg_neg, ix_ni, if_pos, if_neg, reduceIte, e_61_8, D39, o, bi_t, e_61_22, d_60, c4, e_61_60]
        · obtain ⟨c1, c2, c3, c4, c5, c6, c7⟩ := cmn c hm
          refine smn_C V (okm_old V hm) okg.2.2.2.2.1 hs c (Kg_pI (by omega) (Kg_refl h)) ?_ ?_ ?_ ?_ ?_ ?_ (fun z => ?_) (fun j hj => ?_)
          · simp (disch := first | assumption | omega | (simp only [Sh_pI, Sh_pL, Sh_pIs, Sh_pLs]; assumption)) only [pe, pn]; exact cM c
          · simp (disch := first | assumption | omega | (simp only [Sh_pI, Sh_pL, Sh_pIs, Sh_pLs]; assumption)) only [pe, pn]; exact c1
          · simp (disch := first | assumption | omega | (simp only [Sh_pI, Sh_pL, Sh_pIs, Sh_pLs]; assumption)) only [pe, pn]; exact c2
          · simp (disch := first | assumption | omega | (simp only [Sh_pI, Sh_pL, Sh_pIs, Sh_pLs]; assumption)) only [pe, pn]; exact c3
          · simp (disch := first | assumption | omega | (simp only [Sh_pI, Sh_pL, Sh_pIs, Sh_pLs]; assumption)) only [pe, pn]; rfl
          · simp (disch := first | assumption | omega | (simp only [Sh_pI, Sh_pL, Sh_pIs, Sh_pLs]; assumption)) only [pe, pn]; exact c5
          · exact absurd z k3
          · simp (disch := first | assumption | omega | (simp only [Sh_pI, Sh_pL, Sh_pIs, Sh_pLs]; assumption)) only [pe, pn]
            have y := c7 j hj
            rw [show 42 + 4 * m + 1 = 43 + 4 * m by omega, show 42 + 4 * m + 2 = 44 + 4 * m by omega, show 42 + 4 * m + 3 = 45 + 4 * m by omega] at y
            exact y
        · obtain ⟨c1, c2, c3, c4, c5, c6, c7⟩ := mmn c hm
          rw [d_62 hs, D56t hs V c hm]; simp (disch := first | assumption | omega | (simp only [Sh_pI, Sh_pL, Sh_pIs, Sh_pLs]; assumption)) only [↓ixb, Option.bind_some, Option.bind_none, Option.toList_some, Option.toList_none, List.cons_append, List.nil_append, ni_lit, ni_of, ni_add, ni_mul, ni_sub, ni_div, ni_lt, ni_le, ni_eq, ng_lt, ng_le, ng_lt', ng_le', ng_eq, ng_eq', ng_ng, Int32.neg_neg, ix_ni, if_pos, if_neg, reduceIte, e_62_5, D45, o, bi_t, e_62_20, c4]
        · obtain ⟨c1, c2, c3, c4, c5, c6, c7⟩ := mmn c hm
          refine smn_M V (okm_old V hm) okg.2.2.2.2.1 c (Kg_pI (by omega) (Kg_refl h)) ?_ ?_ ?_ ?_ ?_ ?_ (fun z => ?_) (fun j hj => ?_)
          · simp (disch := first | assumption | omega | (simp only [Sh_pI, Sh_pL, Sh_pIs, Sh_pLs]; assumption)) only [pe, pn]; exact mM c
          · simp (disch := first | assumption | omega | (simp only [Sh_pI, Sh_pL, Sh_pIs, Sh_pLs]; assumption)) only [pe, pn]; exact c1
          · simp (disch := first | assumption | omega | (simp only [Sh_pI, Sh_pL, Sh_pIs, Sh_pLs]; assumption)) only [pe, pn]; exact c2
          · simp (disch := first | assumption | omega | (simp only [Sh_pI, Sh_pL, Sh_pIs, Sh_pLs]; assumption)) only [pe, pn]; exact c3
          · simp (disch := first | assumption | omega | (simp only [Sh_pI, Sh_pL, Sh_pIs, Sh_pLs]; assumption)) only [pe, pn]; rfl
          · simp (disch := first | assumption | omega | (simp only [Sh_pI, Sh_pL, Sh_pIs, Sh_pLs]; assumption)) only [pe, pn]; exact c5
          · exact absurd z k3
          · simp (disch := first | assumption | omega | (simp only [Sh_pI, Sh_pL, Sh_pIs, Sh_pLs]; assumption)) only [pe, pn]; exact c7 j hj
    · have o1 := Bool.of_not_eq_true o
      refine refg V 6 (by omega) (fun h hs c => ?_) (fun h hs c => ?_)
      · rw [d_61 hs, D53t hs V c hm]; simp (disch := first | assumption | omega | (simp only [Sh_pI, Sh_pL, Sh_pIs, Sh_pLs]; assumption)) only [↓ixb, Option.bind_some, Option.bind_none, Option.toList_some, Option.toList_none, List.cons_append, List.nil_append, ni_lit, ni_of, ni_add, ni_mul, ni_sub, ni_div, ni_lt, ni_le, ni_eq, ng_lt, ng_le, ng_lt', ng_le', ng_eq, ng_eq', ng_ng, Int32.neg_neg, ix_ni, if_pos, if_neg, reduceIte, e_61_8, D39, o1, bi_f, e_61_22, D7, e_61_31]
      · rw [d_62 hs, D56t hs V c hm]; simp (disch := first | assumption | omega | (simp only [Sh_pI, Sh_pL, Sh_pIs, Sh_pLs]; assumption)) only [↓ixb, Option.bind_some, Option.bind_none, Option.toList_some, Option.toList_none, List.cons_append, List.nil_append, ni_lit, ni_of, ni_add, ni_mul, ni_sub, ni_div, ni_lt, ni_le, ni_eq, ng_lt, ng_le, ng_lt', ng_le', ng_eq, ng_eq', ng_ng, Int32.neg_neg, ix_ni, if_pos, if_neg, reduceIte, e_62_5, D45, o1, bi_f, e_62_20, D10, e_62_29]
  · refine refg V 1 (by omega) (fun h hs c => ?_) (fun h hs c => ?_)
    · rw [d_61 hs, D53f hs V c hn]; simp (disch := first | assumption | omega | (simp only [Sh_pI, Sh_pL, Sh_pIs, Sh_pLs]; assumption)) only [↓ixb, Option.bind_some, Option.bind_none, Option.toList_some, Option.toList_none, List.cons_append, List.nil_append, ni_lit, ni_of, ni_add, ni_mul, ni_sub, ni_div, ni_lt, ni_le, ni_eq, ng_lt, ng_le, ng_lt', ng_le', ng_eq, ng_eq', ng_ng, Int32.neg_neg, ix_ni, if_pos, if_neg, reduceIte, e_61_8, D7, e_61_16]
    · rw [d_62 hs, D56f hs V c hn]; simp (disch := first | assumption | omega | (simp only [Sh_pI, Sh_pL, Sh_pIs, Sh_pLs]; assumption)) only [↓ixb, Option.bind_some, Option.bind_none, Option.toList_some, Option.toList_none, List.cons_append, List.nil_append, ni_lit, ni_of, ni_add, ni_mul, ni_sub, ni_div, ni_lt, ni_le, ni_eq, ng_lt, ng_le, ng_lt', ng_le', ng_eq, ng_eq', ng_ng, Int32.neg_neg, ix_ni, if_pos, if_neg, reduceIte, e_62_5, D10, e_62_13]
theorem A12 : ∀ a1 a2, Alike 63 64 [vi a1, vi a2] := fun a1 a2 => glue fun s V => by
  have vM' := vM V
  rcases rg a1 (sM s) with ⟨m, hm, rfl⟩ | hn
  · rcases rg a2 5 with ⟨j, hj, rfl⟩ | hj
    · refine ⟨ni (if j = 4 then sD s 5 m else sD s j m), s, V, HC_0 fun h hs c => ?_, HM_0 fun h hs c => ?_⟩
      · obtain ⟨c1, c2, c3, c4, c5, c6, c7⟩ := cmn c hm
        rw [d_63 hs, D53t hs V c hm]
        simp (disch := first | assumption | omega | (simp only [Sh_pI, Sh_pL, Sh_pIs, Sh_pLs]; assumption)) only [↓ixb, Option.bind_some, Option.bind_none, Option.toList_some, Option.toList_none, List.cons_append, List.nil_append, ni_lit, ni_of, ni_add, ni_mul, ni_sub, ni_div, ni_lt, ni_le, ni_eq, ng_lt, ng_le, ng_lt', ng_le', ng_eq, ng_eq', ng_ng, Int32.neg_neg, ix_ni, if_pos, if_neg, reduceIte, e_63_8]
        rcases (show j = 0 ∨ j = 1 ∨ j = 2 ∨ j = 3 ∨ j = 4 by omega) with rfl | rfl | rfl | rfl | rfl
        · rw [show am_tg 0 [64, 69, 74, 79, 84] 89 (ni 0) = 64 from by decide, e_63_64 hs (by omega), c1]; rfl
        · rw [show am_tg 0 [64, 69, 74, 79, 84] 89 (ni 1) = 69 from by decide, e_63_69 hs (by omega), c2]; rfl
        · rw [show am_tg 0 [64, 69, 74, 79, 84] 89 (ni 2) = 74 from by decide, e_63_74 hs (by omega), c3]; rfl
        · rw [show am_tg 0 [64, 69, 74, 79, 84] 89 (ni 3) = 79 from by decide, e_63_79 hs (by omega), c4]; rfl
        · rw [show am_tg 0 [64, 69, 74, 79, 84] 89 (ni 4) = 84 from by decide, e_63_84 hs (by omega), c5]; rfl
      · obtain ⟨c1, c2, c3, c4, c5, c6, c7⟩ := mmn c hm
        rw [d_64 hs, D56t hs V c hm]
        rcases (show j = 0 ∨ j = 1 ∨ j = 2 ∨ j = 3 ∨ j = 4 by omega) with rfl | rfl | rfl | rfl | rfl <;> simp (disch := first | assumption | omega | (simp only [Sh_pI, Sh_pL, Sh_pIs, Sh_pLs]; assumption)) only [↓ixb, Option.bind_some, Option.bind_none, Option.toList_some, Option.toList_none, List.cons_append, List.nil_append, ni_lit, ni_of, ni_add, ni_mul, ni_sub, ni_div, ni_lt, ni_le, ni_eq, ng_lt, ng_le, ng_lt', ng_le', ng_eq, ng_eq', ng_ng, Int32.neg_neg, ix_ni, if_pos, if_neg, reduceIte, e_64_5, c1, c2, c3, c4, c5]
    · refine refg V 5 (by omega) (fun h hs c => ?_) (fun h hs c => ?_)
      · rw [d_63 hs, D53t hs V c hm]
        simp (disch := first | assumption | omega | (simp only [Sh_pI, Sh_pL, Sh_pIs, Sh_pLs]; assumption)) only [↓ixb, Option.bind_some, Option.bind_none, Option.toList_some, Option.toList_none, List.cons_append, List.nil_append, ni_lit, ni_of, ni_add, ni_mul, ni_sub, ni_div, ni_lt, ni_le, ni_eq, ng_lt, ng_le, ng_lt', ng_le', ng_eq, ng_eq', ng_ng, Int32.neg_neg, ix_ni, if_pos, if_neg, reduceIte, e_63_8]
        have ht : am_tg 0 [64, 69, 74, 79, 84] 89 a2 = 89 := by
          unfold am_tg
          by_cases q : a2.toInt < 0
          · exact if_pos q
          · obtain ⟨k, k1, k2, rfl⟩ := ni_ex (show 0 ≤ a2.toInt by omega)
            have : ¬ k < 5 := fun y => hj k y rfl
            rw [if_neg q, ni_toInt k2, List.getElem?_eq_none (by show 5 ≤ _; omega)]; rfl
        rw [ht, e_63_89 hs, show (-5 : Int32) = -ni 5 from rfl, D7 hs (by omega)]
        simp (disch := first | assumption | omega | (simp only [Sh_pI, Sh_pL, Sh_pIs, Sh_pLs]; assumption)) only [↓ixb, Option.bind_some, Option.bind_none, Option.toList_some, Option.toList_none, List.cons_append, List.nil_append, ni_lit, ni_of, ni_add, ni_mul, ni_sub, ni_div, ni_lt, ni_le, ni_eq, ng_lt, ng_le, ng_lt', ng_le', ng_eq, ng_eq', ng_ng, Int32.neg_neg, ix_ni, if_pos, if_neg, reduceIte, e_63_95]
      · have fin : am_E 64 (17, [some (vr (some 261)), some (vi (ni m)), some (vi a2)], [], h) = some (some (vi (-ni 5)), pI h 262 5 (hI h 262 5 + 1)) := by
          simp (disch := first | assumption | omega | (simp only [Sh_pI, Sh_pL, Sh_pIs, Sh_pLs]; assumption)) only [↓ixb, Option.bind_some, Option.bind_none, Option.toList_some, Option.toList_none, List.cons_append, List.nil_append, ni_lit, ni_of, ni_add, ni_mul, ni_sub, ni_div, ni_lt, ni_le, ni_eq, ng_lt, ng_le, ng_lt', ng_le', ng_eq, ng_eq', ng_ng, Int32.neg_neg, ix_ni, if_pos, if_neg, reduceIte, e_64_17, D10, e_64_23]
        rw [d_64 hs, D56t hs V c hm]
        simp (disch := first | assumption | omega | (simp only [Sh_pI, Sh_pL, Sh_pIs, Sh_pLs]; assumption)) only [↓ixb, Option.bind_some, Option.toList_some, Option.toList_none, List.cons_append, List.nil_append, e_64_5, fin]
        rw [if_neg (by decide)]
        exact gd_h (n := 4) (fun i hi e => hj i (by omega) e) (by omega) _ _
  · refine refg V 5 (by omega) (fun h hs c => ?_) (fun h hs c => ?_)
    · rw [d_63 hs, D53f hs V c hn]; simp (disch := first | assumption | omega | (simp only [Sh_pI, Sh_pL, Sh_pIs, Sh_pLs]; assumption)) only [↓ixb, Option.bind_some, Option.bind_none, Option.toList_some, Option.toList_none, List.cons_append, List.nil_append, ni_lit, ni_of, ni_add, ni_mul, ni_sub, ni_div, ni_lt, ni_le, ni_eq, ng_lt, ng_le, ng_lt', ng_le', ng_eq, ng_eq', ng_ng, Int32.neg_neg, ix_ni, if_pos, if_neg, reduceIte, e_63_8, D7, e_63_17]
    · rw [d_64 hs, D56f hs V c hn]; simp (disch := first | assumption | omega | (simp only [Sh_pI, Sh_pL, Sh_pIs, Sh_pLs]; assumption)) only [↓ixb, Option.bind_some, Option.bind_none, Option.toList_some, Option.toList_none, List.cons_append, List.nil_append, ni_lit, ni_of, ni_add, ni_mul, ni_sub, ni_div, ni_lt, ni_le, ni_eq, ng_lt, ng_le, ng_lt', ng_le', ng_eq, ng_eq', ng_ng, Int32.neg_neg, ix_ni, if_pos, if_neg, reduceIte, e_64_5, e_64_17, D10, e_64_23]
-- where
/-- where man m is in year y, by his first t journeys -/
def plc (D : Nat → Nat → Nat) (m y : Nat) : Nat → Nat
  | 0 => D 2 m
  | t + 1 => if D 7 (3 * m + t) ≤ y ∧ y ≤ D 8 (3 * m + t) then D 6 (3 * m + t) else plc D m y t
section PLC
variable {h : am_H} {s : Sg} {m y : Nat}
theorem L65 (hs : Sh h) (V : Vs s) (c : CS h s) (hm : m < sM s) (hy : y < 2147483648) : ∀ k t, t + k = sD s 5 m → am_E 65 (7, [some (vr (some (42 + 4 * m))), some (vi (ni y)), some (vi (ni (plc (sD s) m y t))), some (vi (ni t))], [], h) = some (some (vi (ni (plc (sD s) m y (sD s 5 m)))), h) := by
  have vM' := vM V
  have v := vm V hm
  obtain ⟨v1, v2, v3, v4, v5, v6, v7⟩ := v
  obtain ⟨c1, c2, c3, c4, c5, c6, c7⟩ := cmn c hm
  intro k
  induction k with
  | zero =>
    intro t e
    rw [e_65_7 hs (by omega), c5]
    simp (disch := first | assumption | omega | (simp only [Sh_pI, Sh_pL, Sh_pIs, Sh_pLs]; assumption)) only [↓ixb, Option.bind_some, Option.bind_none, Option.toList_some, Option.toList_none, List.cons_append, List.nil_append, ni_lit, ni_of, ni_add, ni_mul, ni_sub, ni_div, ni_lt, ni_le, ni_eq, ng_lt, ng_le, ng_lt', ng_le', ng_eq, ng_eq', ng_ng, Int32.neg_neg, ix_ni, if_pos, if_neg, reduceIte]
    rw [show t = sD s 5 m by omega]
  | succ k ih =>
    intro t e
    have z := c7 t (by omega)
    have w := v7 t (by omega)
    rw [show 42 + 4 * m + 1 = 43 + 4 * m by omega, show 42 + 4 * m + 2 = 44 + 4 * m by omega, show 42 + 4 * m + 3 = 45 + 4 * m by omega] at z
    have fin := ih (t + 1) (by omega)
    rw [e_65_7 hs (by omega), c5]
    by_cases q : sD s 7 (3 * m + t) ≤ y ∧ y ≤ sD s 8 (3 * m + t)
    · rw [show plc (sD s) m y (t + 1) = sD s 6 (3 * m + t) from if_pos q] at fin
      simp (disch := first | assumption | omega | (simp only [Sh_pI, Sh_pL, Sh_pIs, Sh_pLs]; assumption)) only [↓ixb, Option.bind_some, Option.bind_none, Option.toList_some, Option.toList_none, List.cons_append, List.nil_append, ni_lit, ni_of, ni_add, ni_mul, ni_sub, ni_div, ni_lt, ni_le, ni_eq, ng_lt, ng_le, ng_lt', ng_le', ng_eq, ng_eq', ng_ng, Int32.neg_neg, ix_ni, if_pos, if_neg, reduceIte, z.1, z.2.1, z.2.2, e_65_42, fin]
    · rw [show plc (sD s) m y (t + 1) = plc (sD s) m y t from if_neg q] at fin
      by_cases r : y < sD s 7 (3 * m + t)
      · simp (disch := first | assumption | omega | (simp only [Sh_pI, Sh_pL, Sh_pIs, Sh_pLs]; assumption)) only [↓ixb, Option.bind_some, Option.bind_none, Option.toList_some, Option.toList_none, List.cons_append, List.nil_append, ni_lit, ni_of, ni_add, ni_mul, ni_sub, ni_div, ni_lt, ni_le, ni_eq, ng_lt, ng_le, ng_lt', ng_le', ng_eq, ng_eq', ng_ng, Int32.neg_neg, ix_ni, if_pos, if_neg, reduceIte, z.1, z.2.1, z.2.2, e_65_42, fin]
      · simp (disch := first | assumption | omega | (simp only [Sh_pI, Sh_pL, Sh_pIs, Sh_pLs]; assumption)) only [↓ixb, Option.bind_some, Option.bind_none, Option.toList_some, Option.toList_none, List.cons_append, List.nil_append, ni_lit, ni_of, ni_add, ni_mul, ni_sub, ni_div, ni_lt, ni_le, ni_eq, ng_lt, ng_le, ng_lt', ng_le', ng_eq, ng_eq', ng_ng, Int32.neg_neg, ix_ni, if_pos, if_neg, reduceIte, z.1, z.2.1, z.2.2, e_65_42, fin]
theorem D65 (hs : Sh h) (V : Vs s) (c : CS h s) (hm : m < sM s) (hy : y < 2147483648) : am_D 65 [vr (some (42 + 4 * m)), vi (ni y)] h = some (some (vi (ni (plc (sD s) m y (sD s 5 m)))), h) := by
  have vM' := vM V
  rw [d_65 hs (by omega), (cmn c hm).2.2.1]
  exact L65 hs V c hm hy (sD s 5 m) 0 (by omega)
theorem L67 (hs : Sh h) (V : Vs s) (c : MS h s) (hm : m < sM s) (hy : y < 2147483648) : ∀ t, t ≤ sD s 5 m → am_E 67 (13, [some (vr (some 261)), some (vi (ni m)), some (vi (ni y)), some (vi (ni (3 * m + t) - ni 1))], [], h) = some (some (vi (ni (plc (sD s) m y t))), h) := by
  have vM' := vM V
  have v := vm V hm
  obtain ⟨v1, v2, v3, v4, v5, v6, v7⟩ := v
  obtain ⟨c1, c2, c3, c4, c5, c6, c7⟩ := mmn c hm
  intro t
  induction t with
  | zero =>
    intro e
    rw [e_67_13 hs]
    simp (disch := first | assumption | omega | (simp only [Sh_pI, Sh_pL, Sh_pIs, Sh_pLs]; assumption)) only [↓ixb, Option.bind_some, Option.toList_some, Option.toList_none, List.cons_append, List.nil_append, ix_ni, ni_lit, ni_mul, ltt, ni_subi, ni_toInt, c3]
    exact if_pos (by omega)
  | succ t ih =>
    intro e
    have z := c7 t (by omega)
    have w := v7 t (by omega)
    have fin := ih (by omega)
    rw [e_67_13 hs, show ni (3 * m + (t + 1)) - ni 1 = ni (3 * m + t) from ni_sub (by omega)]
    have ex : ni (3 * m + t) + -ni 1 = ni (3 * m + t) - ni 1 := (Int32.sub_eq_add_neg _ _).symm
    by_cases q : sD s 7 (3 * m + t) ≤ y ∧ y ≤ sD s 8 (3 * m + t)
    · rw [show plc (sD s) m y (t + 1) = sD s 6 (3 * m + t) from if_pos q]
      simp (disch := first | assumption | omega | (simp only [Sh_pI, Sh_pL, Sh_pIs, Sh_pLs]; assumption)) only [↓ixb, Option.bind_some, Option.bind_none, Option.toList_some, Option.toList_none, List.cons_append, List.nil_append, ni_lit, ni_of, ni_add, ni_mul, ni_sub, ni_div, ni_lt, ni_le, ni_eq, ng_lt, ng_le, ng_lt', ng_le', ng_eq, ng_eq', ng_ng, Int32.neg_neg, ix_ni, if_pos, if_neg, reduceIte, z.1, z.2.1, z.2.2]
    · rw [show plc (sD s) m y (t + 1) = plc (sD s) m y t from if_neg q]
      by_cases r : y < sD s 7 (3 * m + t)
      · simp (disch := first | assumption | omega | (simp only [Sh_pI, Sh_pL, Sh_pIs, Sh_pLs]; assumption)) only [Option.bind_some, ni_lit, ni_mul, ni_lt, ix_ni, if_pos, if_neg, z.1, z.2.1, z.2.2, e_67_47, ex, fin]
      · simp (disch := first | assumption | omega | (simp only [Sh_pI, Sh_pL, Sh_pIs, Sh_pLs]; assumption)) only [Option.bind_some, ni_lit, ni_mul, ni_lt, ix_ni, if_pos, if_neg, z.1, z.2.1, z.2.2, e_67_47, ex, fin]
theorem D67 (hs : Sh h) (V : Vs s) (c : MS h s) (hm : m < sM s) (hy : y < 2147483648) : am_D 67 [vr (some 261), vi (ni m), vi (ni y)] h = some (some (vi (ni (plc (sD s) m y (sD s 5 m)))), h) := by
  have vM' := vM V
  have v := vm V hm
  rw [d_67 hs]
  simp (disch := first | assumption | omega | (simp only [Sh_pI, Sh_pL, Sh_pIs, Sh_pLs]; assumption)) only [Option.bind_some, ni_lit, ni_mul, ni_add, ix_ni, (mmn c hm).2.2.2.2.1]
  exact L67 hs V c hm hy _ (Nat.le_refl _)
end PLC
theorem A13 : ∀ a1 a2, Alike 66 68 [vi a1, vi a2] := fun a1 a2 => glue fun s V => by
  have vM' := vM V
  rcases rg a1 (sM s) with ⟨m, hm, rfl⟩ | hn
  · have v := vm V hm
    by_cases q : (sD s 0 m : Int) ≤ a2.toInt ∧ a2.toInt ≤ sD s 1 m
    · obtain ⟨y, y1, y2, rfl⟩ := ni_ex (show 0 ≤ a2.toInt by omega)
      rw [ni_toInt y2] at q
      have v1 := v.2.1
      have v0 := v.1
      refine ⟨ni (plc (sD s) m y (sD s 5 m)), s, V, HC_0 fun h hs c => ?_, HM_0 fun h hs c => ?_⟩
      · rw [d_66 hs, D53t hs V c hm]
        simp (disch := first | assumption | omega | (simp only [Sh_pI, Sh_pL, Sh_pIs, Sh_pLs]; assumption)) only [↓ixb, Option.bind_some, Option.bind_none, Option.toList_some, Option.toList_none, List.cons_append, List.nil_append, ni_lit, ni_of, ni_add, ni_mul, ni_sub, ni_div, ni_lt, ni_le, ni_eq, ng_lt, ng_le, ng_lt', ng_le', ng_eq, ng_eq', ng_ng, Int32.neg_neg, ix_ni, if_pos, if_neg, reduceIte, e_66_8, (cmn c hm).1, (cmn c hm).2.1, D65 hs V c hm y2, e_66_58]
      · rw [d_68 hs, D56t hs V c hm]
        simp (disch := first | assumption | omega | (simp only [Sh_pI, Sh_pL, Sh_pIs, Sh_pLs]; assumption)) only [↓ixb, Option.bind_some, Option.bind_none, Option.toList_some, Option.toList_none, List.cons_append, List.nil_append, ni_lit, ni_of, ni_add, ni_mul, ni_sub, ni_div, ni_lt, ni_le, ni_eq, ng_lt, ng_le, ng_lt', ng_le', ng_eq, ng_eq', ng_ng, Int32.neg_neg, ix_ni, if_pos, if_neg, reduceIte, e_68_5, D42]
        rw [decide_eq_true (by rw [ni_toInt y2]; omega), bi_t]
        simp (disch := first | assumption | omega | (simp only [Sh_pI, Sh_pL, Sh_pIs, Sh_pLs]; assumption)) only [↓ixb, Option.bind_some, Option.bind_none, Option.toList_some, Option.toList_none, List.cons_append, List.nil_append, ni_lit, ni_of, ni_add, ni_mul, ni_sub, ni_div, ni_lt, ni_le, ni_eq, ng_lt, ng_le, ng_lt', ng_le', ng_eq, ng_eq', ng_ng, Int32.neg_neg, ix_ni, if_pos, if_neg, reduceIte, e_68_13, (mmn c hm).1, (mmn c hm).2.1, D67 hs V c hm y2, e_68_42]
    · have v1 := v.2.1
      have v0 := v.1
      refine ⟨-ni 1, s, V, HC_0 fun h hs c => ?_, HM_0 fun h hs c => ?_⟩
      · rw [d_66 hs, D53t hs V c hm]
        simp (disch := first | assumption | omega | (simp only [Sh_pI, Sh_pL, Sh_pIs, Sh_pLs]; assumption)) only [↓ixb, Option.bind_some, Option.toList_some, Option.toList_none, List.cons_append, List.nil_append, e_66_8, (cmn c hm).1, (cmn c hm).2.1, ix_ni, ltt, lett, ni_toInt]
        rw [if_neg (by decide)]
        by_cases r : a2.toInt < sD s 0 m
        · rw [if_pos r]; rfl
        · rw [if_neg r, if_neg (by omega)]; rfl
      · rw [d_68 hs, D56t hs V c hm]
        simp (disch := first | assumption | omega | (simp only [Sh_pI, Sh_pL, Sh_pIs, Sh_pLs]; assumption)) only [↓ixb, Option.bind_some, Option.toList_some, Option.toList_none, List.cons_append, List.nil_append, e_68_5, D42]
        rw [if_neg (by decide)]
        by_cases r : 0 ≤ a2.toInt ∧ a2.toInt ≤ 400
        · rw [decide_eq_true r, bi_t]
          simp (disch := first | assumption | omega | (simp only [Sh_pI, Sh_pL, Sh_pIs, Sh_pLs]; assumption)) only [↓ixb, Option.bind_some, Option.toList_some, Option.toList_none, List.cons_append, List.nil_append, e_68_13, (mmn c hm).1, (mmn c hm).2.1, ix_ni, ltt, lett, ni_toInt]
          rw [if_neg (by decide)]
          by_cases r : a2.toInt < sD s 0 m
          · rw [if_pos r]; rfl
          · rw [if_neg r, if_pos (by omega)]; rfl
        · rw [decide_eq_false r, bi_f]
          simp (disch := first | assumption | omega | (simp only [Sh_pI, Sh_pL, Sh_pIs, Sh_pLs]; assumption)) only [↓ixb, Option.bind_some, Option.toList_some, Option.toList_none, List.cons_append, List.nil_append, e_68_13]
          rfl
  · refine ⟨-ni 1, s, V, HC_0 fun h hs c => ?_, HM_0 fun h hs c => ?_⟩
    · rw [d_66 hs, D53f hs V c hn]; simp (disch := first | assumption | omega | (simp only [Sh_pI, Sh_pL, Sh_pIs, Sh_pLs]; assumption)) only [↓ixb, Option.bind_some, Option.bind_none, Option.toList_some, Option.toList_none, List.cons_append, List.nil_append, ni_lit, ni_of, ni_add, ni_mul, ni_sub, ni_div, ni_lt, ni_le, ni_eq, ng_lt, ng_le, ng_lt', ng_le', ng_eq, ng_eq', ng_ng, Int32.neg_neg, ix_ni, if_pos, if_neg, reduceIte, e_66_8]
    · rw [d_68 hs, D56f hs V c hn]; simp (disch := first | assumption | omega | (simp only [Sh_pI, Sh_pL, Sh_pIs, Sh_pLs]; assumption)) only [↓ixb, Option.bind_some, Option.bind_none, Option.toList_some, Option.toList_none, List.cons_append, List.nil_append, ni_lit, ni_of, ni_add, ni_mul, ni_sub, ni_div, ni_lt, ni_le, ni_eq, ng_lt, ng_le, ng_lt', ng_le', ng_eq, ng_eq', ng_ng, Int32.neg_neg, ix_ni, if_pos, if_neg, reduceIte, e_68_5]
