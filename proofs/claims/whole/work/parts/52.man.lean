/-! man, men, journey, found, mark, manOf, where -/
section MENX
variable {h : am_H} {s : Sg}
theorem cmn (c : CS h s) {m : Nat} (hm : m < sM s) : CM h (42 + 4 * m) (sD s) m := by
  have := c.2.2.2.2.1.2.1 m hm
  rw [show 42 + 0 + 4 * m = 42 + 4 * m by omega] at this
  exact this
theorem mmn (c : MS h s) {m : Nat} (hm : m < sM s) : hI h 263 m = ni (sD s 0 m) ∧ hI h 264 m = ni (sD s 1 m) ∧ hI h 265 m = ni (sD s 2 m) ∧ hI h 266 m = ni (sD s 3 m) ∧ hI h 268 m = ni (sD s 5 m) ∧ (sD s 3 m = 3 → hI h 267 m = ni (sD s 4 m)) ∧ ∀ j, j < sD s 5 m → hI h 269 (3 * m + j) = ni (sD s 6 (3 * m + j)) ∧ hI h 270 (3 * m + j) = ni (sD s 7 (3 * m + j)) ∧ hI h 271 (3 * m + j) = ni (sD s 8 (3 * m + j)) := c.2.2.2.2.1.1 m hm
theorem vm (V : Vs s) {m : Nat} (hm : m < sM s) : Vm (sD s) m := V.1.2.2.2.1 m hm
theorem cop_trans {h1 h2 : am_H} {s1 s2 : Sg} (a : Cok h h1 s1) (e1 : hN h1 = hN h) (e2 : hSl h1 = hSl h) (b : Cok h1 h2 s2) : Cok h h2 s2 := by
  obtain ⟨c1, c2, c3, c4, c5, c6, c7, c8⟩ := b
  refine ⟨c1, c2, fun x j l1 l2 l3 => ?_, by rw [← e1]; exact c4, by rw [← e1]; exact c5, by rw [← e2]; exact c6, by rw [c7, a.2.2.2.2.2.2.1], fun j => by rw [c8, a.2.2.2.2.2.2.2]⟩
  have y := c3 x j l1 l2 l3
  have z := a.2.2.1 x j l1 l2 l3
  rw [y.1, y.2]; exact z
theorem mok_trans {h1 h2 : am_H} {s1 s2 : Sg} (a : Mok h h1 s1) (b : Mok h1 h2 s2) : Mok h h2 s2 := ⟨b.1, Kg_trans a.2 b.2⟩
def fman (x1 x2 x3 x4 x5 : Int32) (i : Nat) : Nat := if i = 0 then x1.toInt.toNat else if i = 1 then x2.toInt.toNat else if i = 2 then x3.toInt.toNat else if i = 3 then x4.toInt.toNat else if i = 4 then x5.toInt.toNat else 0
/-- one man more -/
def sAdd (s : Sg) (x1 x2 x3 x4 x5 : Int32) : Sg := smn s (sM s) (sM s + 1) (fman x1 x2 x3 x4 x5) (fun _ _ => 0)
def okA (x1 x2 x3 x4 x5 : Int32) : Prop := okL x1 x2 = true ∧ okP x3 = true ∧ okM x4 x5 = true
theorem okA_f {x1 x2 x3 x4 x5 : Int32} (o : okA x1 x2 x3 x4 x5) : okf (fman x1 x2 x3 x4 x5) (fun _ _ => 0) := by
  obtain ⟨o1, o2, o3⟩ := o
  obtain ⟨b, d, rfl, rfl, e1, e2⟩ := okL_ex o1
  obtain ⟨p, rfl, e3⟩ := okP_ex o2
  obtain ⟨v, rfl, e4, e5⟩ := okM_ex o3
  refine ⟨?_, ?_, ?_, ?_, Nat.zero_le _, fun z => ?_, fun j hj => absurd hj (Nat.not_lt_zero _)⟩
  · show (ni b).toInt.toNat ≤ (ni d).toInt.toNat
    rw [ni_toInt (by omega), ni_toInt (by omega)]; omega
  · show (ni d).toInt.toNat ≤ 400
    rw [ni_toInt (by omega)]; omega
  · show (ni p).toInt.toNat < 8
    rw [ni_toInt (by omega)]; omega
  · show (ni v).toInt.toNat ≤ 5
    rw [ni_toInt (by omega)]; omega
  · have z' : (ni v).toInt.toNat = 3 := z
    rw [ni_toInt (by omega)] at z'
    obtain ⟨y, rfl, e6⟩ := e5 (by omega)
    show (ni y).toInt.toNat ≤ 400
    rw [ni_toInt (by omega)]; omega
theorem okm_add (hM : sM s < 24) : okm s (sM s) (sM s + 1) := ⟨by omega, by omega, Or.inr ⟨rfl, rfl⟩⟩
theorem ni_tn {x : Int32} (h : 0 ≤ x.toInt) : x = ni x.toInt.toNat := by
  obtain ⟨k, k1, k2, rfl⟩ := ni_ex h
  rw [ni_toInt k2]; rfl
theorem okA_n {x1 x2 x3 x4 x5 : Int32} (o : okA x1 x2 x3 x4 x5) : x1 = ni x1.toInt.toNat ∧ x2 = ni x2.toInt.toNat ∧ x3 = ni x3.toInt.toNat ∧ x4 = ni x4.toInt.toNat ∧ (x4.toInt.toNat = 3 → x5 = ni x5.toInt.toNat) ∧ (x4 = 3 ↔ x4.toInt.toNat = 3) := by
  obtain ⟨o1, o2, o3⟩ := o
  unfold okL at o1
  unfold okP at o2
  unfold okM at o3
  simp only [decide_eq_true_eq] at o1 o2 o3
  refine ⟨ni_tn (by omega), ni_tn (by omega), ni_tn (by omega), ni_tn (by omega), fun z => ni_tn (by omega), ?_⟩
  rw [← Int32.toInt_inj, show (3 : Int32).toInt = 3 from rfl]
  omega
theorem C_add (hs : Sh h) (V : Vs s) (c : CS h s) (hM : sM s < 24) {x1 x2 x3 x4 x5 : Int32} (o : okA x1 x2 x3 x4 x5) : ∃ h1, am_D 40 [vr (some 28), vi x1, vi x2, vi x3, vi x4, vi x5] h = some (some (vi (ni (sM s))), h1) ∧ Cok h h1 (sAdd s x1 x2 x3 x4 x5) ∧ hN h1 = hN h ∧ hSl h1 = hSl h := by
  refine ⟨pI (pI (pI (pI (pI (pI (pI h (42 + 4 * sM s) 0 x1) (42 + 4 * sM s) 1 x2) (42 + 4 * sM s) 2 x3) (42 + 4 * sM s) 3 x4) (42 + 4 * sM s) 4 x5) (42 + 4 * sM s) 5 (ni 0)) 28 1 (ni (sM s + 1)), ?_, ?_, rfl, rfl⟩
  · simp (disch := first | assumption | omega | (simp only [Sh_pI, Sh_pL, Sh_pIs, Sh_pLs]; assumption)) only [↓ixb, Option.bind_some, Option.bind_none, Option.toList_some, Option.toList_none, List.cons_append, List.nil_append, ni_lit, ni_of, ni_add, ni_mul, ni_sub, ni_div, ni_lt, ni_le, ni_eq, ng_lt, ng_le, ng_lt', ng_le', ng_eq, ng_eq', ng_ng, Int32.neg_neg, ix_ni, if_pos, if_neg, reduceIte, d_40 hs, cM c, pe, pn, Nat.add_sub_cancel]
  · obtain ⟨n1, n2, n3, n4, n5, n6⟩ := okA_n o
    refine smn_C V (okm_add hM) (okA_f o).2.2.2.2.1 hs c (Kg_pI (by omega) (Kg_pI (by omega) (Kg_pI (by omega) (Kg_pI (by omega) (Kg_pI (by omega) (Kg_pI (by omega) (Kg_pI (by omega) (Kg_refl h)))))))) ?_ ?_ ?_ ?_ ?_ ?_ (fun z => ?_) (fun j hj => absurd hj (Nat.not_lt_zero _))
    · rw [pe]
    · simp (disch := first | assumption | omega | (simp only [Sh_pI, Sh_pL, Sh_pIs, Sh_pLs]; assumption)) only [pe, pn]; exact n1
    · simp (disch := first | assumption | omega | (simp only [Sh_pI, Sh_pL, Sh_pIs, Sh_pLs]; assumption)) only [pe, pn]; exact n2
    · simp (disch := first | assumption | omega | (simp only [Sh_pI, Sh_pL, Sh_pIs, Sh_pLs]; assumption)) only [pe, pn]; exact n3
    · simp (disch := first | assumption | omega | (simp only [Sh_pI, Sh_pL, Sh_pIs, Sh_pLs]; assumption)) only [pe, pn]; exact n4
    · simp (disch := first | assumption | omega | (simp only [Sh_pI, Sh_pL, Sh_pIs, Sh_pLs]; assumption)) only [pe, pn]; rfl
    · simp (disch := first | assumption | omega | (simp only [Sh_pI, Sh_pL, Sh_pIs, Sh_pLs]; assumption)) only [pe, pn]; exact n5 z
theorem M_add (hs : Sh h) (V : Vs s) (c : MS h s) (hM : sM s < 24) {x1 x2 x3 x4 x5 : Int32} (o : okA x1 x2 x3 x4 x5) : ∃ h1, am_D 46 [vr (some 261), vi x1, vi x2, vi x3, vi x4, vi x5] h = some (none, h1) ∧ Mok h h1 (sAdd s x1 x2 x3 x4 x5) := by
  obtain ⟨n1, n2, n3, n4, n5, n6⟩ := okA_n o
  refine ⟨pI (pI (pI (pI (pI (pI (pI h 263 (sM s) x1) 264 (sM s) x2) 265 (sM s) x3) 266 (sM s) x4) 267 (sM s) (if x4 = 3 then x5 else ni 0)) 268 (sM s) (ni 0)) 261 0 (ni (sM s + 1)), ?_, ?_⟩
  · by_cases z : x4 = 3
    · rw [if_pos z]
      simp (disch := first | assumption | omega | (simp only [Sh_pI, Sh_pL, Sh_pIs, Sh_pLs]; assumption)) only [d_46 hs, mM c, pe, pn, ix_ni, Option.bind_some, e_46_61, ni_lit, ni_add]
      rw [if_pos (show x4 = ni 3 from z)]
    · rw [if_neg z]
      simp (disch := first | assumption | omega | (simp only [Sh_pI, Sh_pL, Sh_pIs, Sh_pLs]; assumption)) only [d_46 hs, mM c, pe, pn, ix_ni, Option.bind_some, e_46_61, ni_lit, ni_add]
      rw [if_neg (show ¬ x4 = ni 3 from z)]
  · refine smn_M V (okm_add hM) (okA_f o).2.2.2.2.1 c (Kg_pI (by omega) (Kg_pI (by omega) (Kg_pI (by omega) (Kg_pI (by omega) (Kg_pI (by omega) (Kg_pI (by omega) (Kg_pI (by omega) (Kg_refl h)))))))) ?_ ?_ ?_ ?_ ?_ ?_ (fun z => ?_) (fun j hj => absurd hj (Nat.not_lt_zero _))
    · rw [pe]
    · simp (disch := first | assumption | omega | (simp only [Sh_pI, Sh_pL, Sh_pIs, Sh_pLs]; assumption)) only [pe, pn]; exact n1
    · simp (disch := first | assumption | omega | (simp only [Sh_pI, Sh_pL, Sh_pIs, Sh_pLs]; assumption)) only [pe, pn]; exact n2
    · simp (disch := first | assumption | omega | (simp only [Sh_pI, Sh_pL, Sh_pIs, Sh_pLs]; assumption)) only [pe, pn]; exact n3
    · simp (disch := first | assumption | omega | (simp only [Sh_pI, Sh_pL, Sh_pIs, Sh_pLs]; assumption)) only [pe, pn]; exact n4
    · simp (disch := first | assumption | omega | (simp only [Sh_pI, Sh_pL, Sh_pIs, Sh_pLs]; assumption)) only [pe, pn]; rfl
    · simp (disch := first | assumption | omega | (simp only [Sh_pI, Sh_pL, Sh_pIs, Sh_pLs]; assumption)) only [pe, pn]; rw [if_pos (n6.mpr z)]; exact n5 z
end MENX
theorem A7 : ∀ a1 a2 a3 a4 a5, Alike 41 47 [vi a1, vi a2, vi a3, vi a4, vi a5] := fun a1 a2 a3 a4 a5 => glue fun s V => by
  have vM := vM V
  by_cases o : okA a1 a2 a3 a4 a5
  · by_cases hM : sM s < 24
    · refine ⟨ni (sM s), sAdd s a1 a2 a3 a4 a5, smn_Vs V (okm_add hM) (okA_f o), fun h hs c => ?_, fun h hs c => ?_⟩
      · obtain ⟨h1, d, k, -⟩ := C_add hs V c hM o
        refine ⟨h1, ?_, k⟩
        rw [d_41 hs, D37 hs, o.1]
        simp (disch := first | assumption | omega | (simp only [Sh_pI, Sh_pL, Sh_pIs, Sh_pLs]; assumption)) only [↓ixb, Option.bind_some, Option.bind_none, Option.toList_some, Option.toList_none, List.cons_append, List.nil_append, ni_lit, ni_of, ni_add, ni_mul, ni_sub, ni_div, ni_lt, ni_le, ni_eq, ng_lt, ng_le, ng_lt', ng_le', ng_eq, ng_eq', ng_ng, Int32.neg_neg, ix_ni, if_pos, if_neg, reduceIte, bi_t, e_41_5, D38, o.2.1, e_41_12, D39, o.2.2, e_41_22, cM c, d]
        exact e_41_65 k.1
      · obtain ⟨h1, d, k⟩ := M_add hs V c hM o
        refine ⟨h1, ?_, k⟩
        have hs1 := Kg_Sh k.2 hs
        have e := mM k.1
        rw [show sM (sAdd s a1 a2 a3 a4 a5) = sM s + 1 from sm_M] at e
        rw [d_47 hs, D43 hs, o.1]
        simp (disch := first | assumption | omega | (simp only [Sh_pI, Sh_pL, Sh_pIs, Sh_pLs]; assumption)) only [↓ixb, Option.bind_some, Option.bind_none, Option.toList_some, Option.toList_none, List.cons_append, List.nil_append, ni_lit, ni_of, ni_add, ni_mul, ni_sub, ni_div, ni_lt, ni_le, ni_eq, ng_lt, ng_le, ng_lt', ng_le', ng_eq, ng_eq', ng_ng, Int32.neg_neg, ix_ni, if_pos, if_neg, reduceIte, bi_t, e_47_6, D44, o.2.1, e_47_14, D45, o.2.2, e_47_25, mM c, d]
        rw [e_47_62 hs1, e]
        simp (disch := first | assumption | omega | (simp only [Sh_pI, Sh_pL, Sh_pIs, Sh_pLs]; assumption)) only [↓ixb, Option.bind_some, Option.bind_none, Option.toList_some, Option.toList_none, List.cons_append, List.nil_append, ni_lit, ni_of, ni_add, ni_mul, ni_sub, ni_div, ni_lt, ni_le, ni_eq, ng_lt, ng_le, ng_lt', ng_le', ng_eq, ng_eq', ng_ng, Int32.neg_neg, ix_ni, if_pos, if_neg, reduceIte, Nat.add_sub_cancel]
    · refine refg V 7 (by omega) (fun h hs c => ?_) (fun h hs c => ?_)
      · rw [d_41 hs, D37 hs, o.1]
        simp (disch := first | assumption | omega | (simp only [Sh_pI, Sh_pL, Sh_pIs, Sh_pLs]; assumption)) only [↓ixb, Option.bind_some, Option.bind_none, Option.toList_some, Option.toList_none, List.cons_append, List.nil_append, ni_lit, ni_of, ni_add, ni_mul, ni_sub, ni_div, ni_lt, ni_le, ni_eq, ng_lt, ng_le, ng_lt', ng_le', ng_eq, ng_eq', ng_ng, Int32.neg_neg, ix_ni, if_pos, if_neg, reduceIte, bi_t, e_41_5, D38, o.2.1, e_41_12, D39, o.2.2, e_41_22, cM c, D7, e_41_50]
      · rw [d_47 hs, D43 hs, o.1]
        simp (disch := first | assumption | omega | (simp only [Sh_pI, Sh_pL, Sh_pIs, Sh_pLs]; assumption)) only [↓ixb, Option.bind_some, Option.bind_none, Option.toList_some, Option.toList_none, List.cons_append, List.nil_append, ni_lit, ni_of, ni_add, ni_mul, ni_sub, ni_div, ni_lt, ni_le, ni_eq, ng_lt, ng_le, ng_lt', ng_le', ng_eq, ng_eq', ng_ng, Int32.neg_neg, ix_ni, if_pos, if_neg, reduceIte, bi_t, e_47_6, D44, o.2.1, e_47_14, D45, o.2.2, e_47_25, mM c, D10, e_47_50]
  · refine refg V 6 (by omega) (fun h hs c => ?_) (fun h hs c => ?_)
    · have fin : am_E 41 (25, [some (vr (some 16)), some (vi a1), some (vi a2), some (vi a3), some (vi a4), some (vi a5)], [], h) = some (some (vi (-ni 6)), pI h 260 6 (hI h 260 6 + 1)) := by
        simp (disch := first | assumption | omega | (simp only [Sh_pI, Sh_pL, Sh_pIs, Sh_pLs]; assumption)) only [↓ixb, Option.bind_some, Option.bind_none, Option.toList_some, Option.toList_none, List.cons_append, List.nil_append, ni_lit, ni_of, ni_add, ni_mul, ni_sub, ni_div, ni_lt, ni_le, ni_eq, ng_lt, ng_le, ng_lt', ng_le', ng_eq, ng_eq', ng_ng, Int32.neg_neg, ix_ni, if_pos, if_neg, reduceIte, e_41_25, D7, e_41_31]
      rw [d_41 hs, D37 hs]
      simp (disch := first | assumption | omega | (simp only [Sh_pI, Sh_pL, Sh_pIs, Sh_pLs]; assumption)) only [↓ixb, Option.bind_some, Option.toList_some, Option.toList_none, List.cons_append, List.nil_append, e_41_5, D38, e_41_12, D39, e_41_22, fin, ni_lit, bi0]
      unfold okA at o
      by_cases o1 : okL a1 a2 = true
      · by_cases o2 : okP a3 = true
        · have o3 : okM a4 a5 = false := by
            cases q : okM a4 a5
            · rfl
            · exact absurd ⟨o1, o2, q⟩ o
          rw [o1, o2, o3]; rfl
        · rw [o1, Bool.of_not_eq_true o2]; rfl
      · rw [Bool.of_not_eq_true o1]; rfl
    · have fin : am_E 47 (28, [some (vr (some 261)), some (vi a1), some (vi a2), some (vi a3), some (vi a4), some (vi a5)], [], h) = some (some (vi (-ni 6)), pI h 262 6 (hI h 262 6 + 1)) := by
        simp (disch := first | assumption | omega | (simp only [Sh_pI, Sh_pL, Sh_pIs, Sh_pLs]; assumption)) only [↓ixb, Option.bind_some, Option.bind_none, Option.toList_some, Option.toList_none, List.cons_append, List.nil_append, ni_lit, ni_of, ni_add, ni_mul, ni_sub, ni_div, ni_lt, ni_le, ni_eq, ng_lt, ng_le, ng_lt', ng_le', ng_eq, ng_eq', ng_ng, Int32.neg_neg, ix_ni, if_pos, if_neg, reduceIte, e_47_28, D10, e_47_34]
      rw [d_47 hs, D43 hs]
      simp (disch := first | assumption | omega | (simp only [Sh_pI, Sh_pL, Sh_pIs, Sh_pLs]; assumption)) only [↓ixb, Option.bind_some, Option.toList_some, Option.toList_none, List.cons_append, List.nil_append, e_47_6, D44, e_47_14, D45, e_47_25, fin, ni_lit, bi0]
      unfold okA at o
      by_cases o1 : okL a1 a2 = true
      · by_cases o2 : okP a3 = true
        · have o3 : okM a4 a5 = false := by
            cases q : okM a4 a5
            · rfl
            · exact absurd ⟨o1, o2, q⟩ o
          rw [o1, o2, o3]; rfl
        · rw [o1, Bool.of_not_eq_true o2]; rfl
      · rw [Bool.of_not_eq_true o1]; rfl
