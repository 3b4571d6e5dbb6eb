/-! ints by their values; set, copy, says -/
theorem ltt (x y : Int32) : (x < y) = (x.toInt < y.toInt) := propext Int32.lt_iff_toInt_lt
theorem lett (x y : Int32) : (x ≤ y) = (x.toInt ≤ y.toInt) := propext Int32.le_iff_toInt_le
theorem eqt (x y : Int32) : (x = y) = (x.toInt = y.toInt) := propext Int32.toInt_inj.symm
theorem ni_ex {x : Int32} (h : 0 ≤ x.toInt) : ∃ k : Nat, (k : Int) = x.toInt ∧ k < 2147483648 ∧ x = ni k := by
  have := Int32.toInt_lt x
  refine ⟨x.toInt.toNat, by omega, by omega, ?_⟩
  rw [← Int32.toInt_inj, ni_toInt (by omega)]
  omega
/-- true is 1 -/
def bi (b : Bool) : Int32 := cond b (ni 1) (ni 0)
theorem bi_t : bi true = ni 1 := rfl
theorem bi_f : bi false = ni 0 := rfl
theorem pe {h : am_H} {a j : Nat} {v : Int32} : hI (pI h a j v) a j = v := if_pos ⟨rfl, rfl⟩
theorem pn {h : am_H} {a j b k : Nat} {v : Int32} (n : ¬ (b = a ∧ k = j)) : hI (pI h a j v) b k = hI h b k := if_neg n
theorem pLe {h : am_H} {a j : Nat} {v : Int64} : hL (pL h a j v) a j = v := if_pos ⟨rfl, rfl⟩
theorem pLn {h : am_H} {a j b k : Nat} {v : Int64} (n : ¬ (b = a ∧ k = j)) : hL (pL h a j v) b k = hL h b k := if_neg n
theorem refg {yx ym : Nat} {as : List am_V} {s : Sg} (V : Vs s) (e : Nat) (h8 : e < 8) (x1 : ∀ h, Sh h → CS h s → am_D yx (vr (some 16) :: as) h = some (some (vi (-ni e)), pI h 260 e (hI h 260 e + 1))) (x2 : ∀ h, Sh h → MS h s → am_D ym (vr (some 261) :: as) h = some (some (vi (-ni e)), pI h 262 e (hI h 262 e + 1))) : ∃ (v : Int32) (s' : Sg), Vs s' ∧ HC yx as s (vi v) s' ∧ HM ym as s (vi v) s' := ⟨-ni e, sRf s e, Vs_rf V, HC_r V h8 x1, HM_r h8 x2⟩
-- set
/-- the lowest bits of a sort -/
def cvs (o : Nat) (v : Int64) : Int64 := if o = 0 then v.toInt32.toInt8.toInt32.toInt64 else if o = 1 then v.toInt32.toInt16.toInt32.toInt64 else if o = 2 then v.toInt32.toInt64 else v
theorem D13 {h : am_H} (hs : Sh h) {o : Nat} (ho : o ≤ 3) (v : Int64) : am_D 13 [vi (ni o), vl v] h = some (some (vl (cvs o v)), h) := by
  rcases (show o = 0 ∨ o = 1 ∨ o = 2 ∨ o = 3 by omega) with rfl | rfl | rfl | rfl
  · rw [d_13 hs, show am_tg 0 [28, 33, 38] 42 (ni 0) = 28 from by decide, e_13_28 hs]; rfl
  · rw [d_13 hs, show am_tg 0 [28, 33, 38] 42 (ni 1) = 33 from by decide, e_13_33 hs]; rfl
  · rw [d_13 hs, show am_tg 0 [28, 33, 38] 42 (ni 2) = 38 from by decide, e_13_38 hs]; rfl
  · rw [d_13 hs, show am_tg 0 [28, 33, 38] 42 (ni 3) = 42 from by decide, e_13_42 hs]; rfl
theorem A1 : ∀ (a b : Int32) (v : Int64), Alike 14 15 [vi a, vi b, vl v] := fun a1 a2 v => glue fun s V => by
  rcases wn_cases V a1 with ⟨k, hk, rfl, z, z1, z2⟩ | ⟨e, he, he0, w⟩
  · rcases rg a2 (sD s 19 k) with ⟨i, hi, rfl⟩ | hn
    · refine ⟨ni 1, shv s k 1 (sD s 18 k) (sD s 19 k) 0 0 (fun j => if j = 100 * k + i then cvs (sD s 18 k) v else sE s j), shv_Vs V k 1 _ _ 0 0 _ (Or.inr (Or.inl ⟨rfl, z1, z2⟩)), fun h hs c => ⟨pL h (18 + k) i (cvs (sD s 18 k) v), ?_, ?_⟩, fun h hs c => ⟨pL h 285 (100 * k + i) (cvs (sD s 18 k) v), ?_, ?_⟩⟩
      · rw [d_14 hs, D12t hs V c hk z]; simp (disch := first | assumption | omega | (simp only [Sh_pI, Sh_pL, Sh_pIs, Sh_pLs]; assumption)) only [Option.bind_some, Option.bind_none, Option.toList_some, Option.toList_none, List.cons_append, List.nil_append, ni_lit, ni_of, ni_add, ni_mul, ni_sub, ni_div, ni_lt, ni_le, ni_eq, ng_lt, ng_le, ng_lt', ng_le', ng_eq, ng_eq', ng_ng, Int32.neg_neg, ix_ni, if_pos, if_neg, reduceIte, e_14_5, cHn c hk z, cH1 c hk z, Nat.add_sub_cancel_left, D13, e_14_60 hs hk]
      · refine Cok_sh V hs (Kg_pL (by omega) (Kg_refl h)) (shv_Es ..) c (shv_CH c (fun x hx => ⟨rfl, rfl, fun j => ?_⟩) (fun x hx j hj => ?_) V ⟨fun y => (by cases y), fun _ => ⟨?_, ?_, fun j hj => ?_⟩, fun y => (by cases y)⟩)
        · rw [hL_pL, if_neg (by omega)]
        · exact if_neg (by omega)
        · exact cH1 c hk z
        · exact cHn c hk z
        · rw [hL_pL]
          by_cases y : j = i
          · rw [if_pos ⟨rfl, y⟩, if_pos (by omega)]
          · rw [if_neg (fun x => y x.2), if_neg (by omega)]; exact cHe c hk z hj
      · rw [d_15 hs, D9t hs hk]
        rcases (show sD s 18 k = 0 ∨ sD s 18 k = 1 ∨ sD s 18 k = 2 ∨ sD s 18 k = 3 by omega) with o | o | o | o
        · have eq : cvs (sD s 18 k) v = v.toInt32.toInt8.toInt32.toInt64 := by rw [o]; rfl
          rw [eq]
          simp (disch := first | assumption | omega | (simp only [Sh_pI, Sh_pL, Sh_pIs, Sh_pLs]; assumption)) only [Option.bind_some, Option.bind_none, Option.toList_some, Option.toList_none, List.cons_append, List.nil_append, ni_lit, ni_of, ni_add, ni_mul, ni_sub, ni_div, ni_lt, ni_le, ni_eq, ng_lt, ng_le, ng_lt', ng_le', ng_eq, ng_eq', ng_ng, Int32.neg_neg, ix_ni, if_pos, if_neg, reduceIte, e_15_5, mH c hk, z, mHn c hk z, mH1 c hk z, o]
        · have eq : cvs (sD s 18 k) v = v.toInt32.toInt16.toInt32.toInt64 := by rw [o]; rfl
          rw [eq]
          simp (disch := first | assumption | omega | (simp only [Sh_pI, Sh_pL, Sh_pIs, Sh_pLs]; assumption)) only [Option.bind_some, Option.bind_none, Option.toList_some, Option.toList_none, List.cons_append, List.nil_append, ni_lit, ni_of, ni_add, ni_mul, ni_sub, ni_div, ni_lt, ni_le, ni_eq, ng_lt, ng_le, ng_lt', ng_le', ng_eq, ng_eq', ng_ng, Int32.neg_neg, ix_ni, if_pos, if_neg, reduceIte, e_15_5, mH c hk, z, mHn c hk z, mH1 c hk z, o]
        · have eq : cvs (sD s 18 k) v = v.toInt32.toInt64 := by rw [o]; rfl
          rw [eq]
          simp (disch := first | assumption | omega | (simp only [Sh_pI, Sh_pL, Sh_pIs, Sh_pLs]; assumption)) only [Option.bind_some, Option.bind_none, Option.toList_some, Option.toList_none, List.cons_append, List.nil_append, ni_lit, ni_of, ni_add, ni_mul, ni_sub, ni_div, ni_lt, ni_le, ni_eq, ng_lt, ng_le, ng_lt', ng_le', ng_eq, ng_eq', ng_ng, Int32.neg_neg, ix_ni, if_pos, if_neg, reduceIte, e_15_5, mH c hk, z, mHn c hk z, mH1 c hk z, o]
        · have eq : cvs (sD s 18 k) v = v := by rw [o]; rfl
          rw [eq]
          simp (disch := first | assumption | omega | (simp only [Sh_pI, Sh_pL, Sh_pIs, Sh_pLs]; assumption)) only [Option.bind_some, Option.bind_none, Option.toList_some, Option.toList_none, List.cons_append, List.nil_append, ni_lit, ni_of, ni_add, ni_mul, ni_sub, ni_div, ni_lt, ni_le, ni_eq, ng_lt, ng_le, ng_lt', ng_le', ng_eq, ng_eq', ng_ng, Int32.neg_neg, ix_ni, if_pos, if_neg, reduceIte, e_15_5, mH c hk, z, mHn c hk z, mH1 c hk z, o]
      · refine Mok_sh V (Kg_pL (by omega) (Kg_refl h)) (shv_Es ..) c (shv_MH c (fun x hx => ⟨rfl, rfl, rfl, rfl, fun j hj => ?_⟩) (fun x hx j hj => ?_) V ⟨?_, fun _ => ⟨?_, ?_, fun j hj => ?_⟩, fun y => (by cases y)⟩)
        · rw [hL_pL, if_neg (by omega)]
        · exact if_neg (by omega)
        · exact (mH c hk).trans (congrArg ni z)
        · exact mH1 c hk z
        · exact mHn c hk z
        · rw [hL_pL]
          by_cases y : j = i
          · rw [if_pos ⟨rfl, by omega⟩, if_pos (by omega)]
          · rw [if_neg (fun x => y (by omega)), if_neg (by omega)]; exact mHe c hk z hj
    · refine refg V 5 (by omega) (fun h hs c => ?_) (fun h hs c => ?_)
      · have fin : ∀ {o4 o5 : Option am_V}, am_E 14 (33, [some (vr (some 16)), some (vi (ni k)), some (vi a2), some (vl v), o4, o5], [], h) = some (some (vi (-ni 5)), pI h 260 5 (hI h 260 5 + 1)) := by
          intro o4 o5; simp (disch := first | assumption | omega | (simp only [Sh_pI, Sh_pL, Sh_pIs, Sh_pLs]; assumption)) only [Option.bind_some, Option.bind_none, Option.toList_some, Option.toList_none, List.cons_append, List.nil_append, ni_lit, ni_of, ni_add, ni_mul, ni_sub, ni_div, ni_lt, ni_le, ni_eq, ng_lt, ng_le, ng_lt', ng_le', ng_eq, ng_eq', ng_ng, Int32.neg_neg, ix_ni, if_pos, if_neg, reduceIte, e_14_33, D7, e_14_39]
        rw [d_14 hs, D12t hs V c hk z]; simp (disch := first | assumption | omega | (simp only [Sh_pI, Sh_pL, Sh_pIs, Sh_pLs]; assumption)) only [Option.bind_some, Option.toList_some, List.cons_append, List.nil_append, e_14_5, ix_ni, cHn c hk z]
        rw [if_pos (show ni 0 = 0 from rfl), fin]
        exact gd_g hn (by omega) _ _
      · have fin : ∀ {o4 : Option am_V}, am_E 15 (61, [some (vr (some 261)), some (vi (ni k)), some (vi a2), some (vl v), o4], [], h) = some (some (vi (-ni 5)), pI h 262 5 (hI h 262 5 + 1)) := by
          intro o4; simp (disch := first | assumption | omega | (simp only [Sh_pI, Sh_pL, Sh_pIs, Sh_pLs]; assumption)) only [Option.bind_some, Option.bind_none, Option.toList_some, Option.toList_none, List.cons_append, List.nil_append, ni_lit, ni_of, ni_add, ni_mul, ni_sub, ni_div, ni_lt, ni_le, ni_eq, ng_lt, ng_le, ng_lt', ng_le', ng_eq, ng_eq', ng_ng, Int32.neg_neg, ix_ni, if_pos, if_neg, reduceIte, e_15_61, D10, e_15_67]
        have ik : am_ix (ni k) 8 = some k := ix_ni hk (by omega)
        rw [d_15 hs, D9t hs hk]
        simp only [Option.bind_some, Option.toList_some, List.cons_append, List.nil_append]
        rw [e_15_5 hs, if_neg (show ¬ ni 1 = 0 by decide), fin]
        simp only [ik, Option.bind_some, mH c hk, z, mHn c hk z]
        rw [if_neg (show ¬ ni 1 = 2 by decide), if_neg (show ¬ ni 1 = 0 by decide)]
        exact gd_g hn (by omega) _ _
  · refine refg V e (by omega) (fun h hs c => ?_) (fun h hs c => ?_)
    · rw [d_14 hs, D12f hs V c w]; simp (disch := first | assumption | omega | (simp only [Sh_pI, Sh_pL, Sh_pIs, Sh_pLs]; assumption)) only [Option.bind_some, Option.bind_none, Option.toList_some, Option.toList_none, List.cons_append, List.nil_append, ni_lit, ni_of, ni_add, ni_mul, ni_sub, ni_div, ni_lt, ni_le, ni_eq, ng_lt, ng_le, ng_lt', ng_le', ng_eq, ng_eq', ng_ng, Int32.neg_neg, ix_ni, if_pos, if_neg, reduceIte, e_14_5, D7, e_14_18]
    · rcases w with ⟨rfl, hn⟩ | ⟨k, hk, rfl, ⟨rfl, z⟩ | ⟨rfl, z⟩⟩
      · rw [d_15 hs, D9f hs hn]; simp (disch := first | assumption | omega | (simp only [Sh_pI, Sh_pL, Sh_pIs, Sh_pLs]; assumption)) only [Option.bind_some, Option.bind_none, Option.toList_some, Option.toList_none, List.cons_append, List.nil_append, ni_lit, ni_of, ni_add, ni_mul, ni_sub, ni_div, ni_lt, ni_le, ni_eq, ng_lt, ng_le, ng_lt', ng_le', ng_eq, ng_eq', ng_ng, Int32.neg_neg, ix_ni, if_pos, if_neg, reduceIte, e_15_5, D10, e_15_13]
      · rw [d_15 hs, D9t hs hk]; simp (disch := first | assumption | omega | (simp only [Sh_pI, Sh_pL, Sh_pIs, Sh_pLs]; assumption)) only [Option.bind_some, Option.bind_none, Option.toList_some, Option.toList_none, List.cons_append, List.nil_append, ni_lit, ni_of, ni_add, ni_mul, ni_sub, ni_div, ni_lt, ni_le, ni_eq, ng_lt, ng_le, ng_lt', ng_le', ng_eq, ng_eq', ng_ng, Int32.neg_neg, ix_ni, if_pos, if_neg, reduceIte, e_15_5, mH c hk, z, D10, e_15_30]
      · rw [d_15 hs, D9t hs hk]; simp (disch := first | assumption | omega | (simp only [Sh_pI, Sh_pL, Sh_pIs, Sh_pLs]; assumption)) only [Option.bind_some, Option.bind_none, Option.toList_some, Option.toList_none, List.cons_append, List.nil_append, ni_lit, ni_of, ni_add, ni_mul, ni_sub, ni_div, ni_lt, ni_le, ni_eq, ng_lt, ng_le, ng_lt', ng_le', ng_eq, ng_eq', ng_ng, Int32.neg_neg, ix_ni, if_pos, if_neg, reduceIte, e_15_5, mH c hk, z, D10, e_15_46]
