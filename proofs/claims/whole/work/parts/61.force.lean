/-! force; silent, agree, wordings, beside -/
-- force
def sFo (s : Sg) (F : Nat) : Sg := (fun i k => if i = 22 ∧ k = 3 then F else sD s i k, sE s, sF s, sX s)
theorem sFo_pl {s : Sg} {F i : Nat} (hi : i ≠ 22) : sD (sFo s F) i = sD s i := by
  funext k
  exact if_neg (fun z => hi z.1)
theorem sFo_k {s : Sg} {F : Nat} {k : Nat} (hk : k ≠ 3) : sD (sFo s F) 22 k = sD s 22 k := if_neg (fun z => hk z.2)
theorem sFo_F {s : Sg} {F : Nat} : sD (sFo s F) 22 3 = F := rfl
theorem sFo_M {s : Sg} {F : Nat} : sM (sFo s F) = sM s := sFo_k (by omega)
theorem sFo_R {s : Sg} {F : Nat} : sR (sFo s F) = sR s := sFo_k (by omega)
theorem sFo_S {s : Sg} {F : Nat} : sS (sFo s F) = sS s := sFo_k (by omega)
theorem sFo_K {s : Sg} {F : Nat} : sKp (sFo s F) = sKp s := by funext i k; show sD (sFo s F) (32 + i) k = sD s (32 + i) k; rw [sFo_pl (by omega)]
theorem sFo_V {s : Sg} (V : Vs s) {F : Nat} (hF : F ≤ sR s) : Vs (sFo s F) := by
  obtain ⟨v1, v2, v3, v4, v5⟩ := V
  refine ⟨?_, ?_, fun i hi => ?_, ?_, ?_⟩
  · rw [sFo_M, sFo_R, sFo_S]; exact Vw_eq (fun i hi => sFo_pl (by omega)) v1
  · rw [sFo_R, sFo_F]; exact hF
  · rw [sFo_S, sFo_pl (i := 17) (by omega), sFo_pl (i := 18) (by omega), sFo_pl (i := 19) (by omega), sFo_pl (i := 20) (by omega), sFo_pl (i := 21) (by omega), sFo_pl (i := 10) (by omega)]; exact v3 i hi
  · rw [sFo_K, sFo_S, sFo_pl (i := 23) (by omega), sFo_pl (i := 10) (by omega)]; exact v4
  · rw [sFo_pl (i := 24) (by omega)]; exact v5
theorem sFo_C {h : am_H} {s : Sg} (V : Vs s) (hs : Sh h) (c : CS h s) (F : Nat) : Cok h (pI h 28 4 (fI F)) (sFo s F) := by
  refine Cok_pI (s := s) (by omega) (by omega) hs ?_
  have e : Kg (fun a k => a = 28 ∧ k = 4) h (pI h 28 4 (fI F)) := Kg_pI ⟨rfl, rfl⟩ (Kg_refl h)
  obtain ⟨a1, a2, a3, a4, ⟨⟨b1, b2, b3, b4⟩, b5, b6, b7⟩, a6, ⟨a7, a8⟩, a9, a10⟩ := c
  have vR' := vR V
  have q : ∀ a j, ¬ (a = 28 ∧ j = 4) → hI (pI h 28 4 (fI F)) a j = hI h a j := fun a j n => pn n
  refine ⟨?_, fun i hi => ?_, fun i hi => ?_, fun i hi => ?_, ⟨⟨?_, ?_, ?_, ?_⟩, fun n hn => ?_, fun r hr i hi => ?_, fun t ht => ?_⟩, fun i hi => ?_, ⟨?_, fun i i1 i2 => ?_⟩, ?_, fun z => ?_⟩
  · rw [q _ _ (by omega)]; exact a1
  · rw [q _ _ (by omega)]; exact a2 i hi
  · rw [q _ _ (by omega)]; exact a3 i hi
  · rw [q _ _ (by omega)]; exact a4 i hi
  · rw [sFo_M, q _ _ (by omega)]; exact b1
  · rw [sFo_R, q _ _ (by omega)]; exact b2
  · rw [sFo_S, q _ _ (by omega)]; exact b3
  · rw [sFo_F]; exact pe
  · rw [sFo_M] at hn
    obtain ⟨c1, c2, c3, c4, c5, c6, c7⟩ := b5 n hn
    unfold CM
    rw [sFo_pl (i := 0) (by omega), sFo_pl (i := 1) (by omega), sFo_pl (i := 2) (by omega), sFo_pl (i := 3) (by omega), sFo_pl (i := 4) (by omega), sFo_pl (i := 5) (by omega), sFo_pl (i := 6) (by omega), sFo_pl (i := 7) (by omega), sFo_pl (i := 8) (by omega)]
    refine ⟨by rw [q _ _ (by omega)]; exact c1, by rw [q _ _ (by omega)]; exact c2, by rw [q _ _ (by omega)]; exact c3, by rw [q _ _ (by omega)]; exact c4, by rw [q _ _ (by omega)]; exact c5, fun y => by rw [q _ _ (by omega)]; exact c6 y, fun j hj => ?_⟩
    rw [q _ _ (by omega), q _ _ (by omega), q _ _ (by omega)]
    exact c7 j hj
  · rw [sFo_R] at hr
    rw [sFo_pl (by omega), q _ _ (by omega)]; exact b6 r hr i hi
  · rw [sFo_S] at ht
    rw [sFo_pl (i := 10) (by omega), sFo_pl (i := 16) (by omega), q _ _ (by omega), q _ _ (by omega)]
    obtain ⟨d1, d2, d3⟩ := b7 t ht
    refine ⟨d1, d2, fun r hr => ?_⟩
    obtain ⟨a, w, l, c1, c2⟩ := d3 r hr
    refine ⟨a, w, l, c1, ?_⟩
    have c3 := CQ_fr (fun a k z => by omega) e c2
    unfold CQ at c3 ⊢
    rw [sFo_pl (i := 11) (by omega), sFo_pl (i := 12) (by omega), sFo_pl (i := 13) (by omega), sFo_pl (i := 14) (by omega), sFo_pl (i := 15) (by omega)]
    exact c3
  · rw [sFo_pl (i := 17) (by omega), sFo_pl (i := 18) (by omega), sFo_pl (i := 19) (by omega), sFo_pl (i := 20) (by omega), sFo_pl (i := 21) (by omega), q _ _ (by omega), q _ _ (by omega)]
    exact a6 i hi
  · rw [sFo_pl (by omega), q _ _ (by omega)]; exact a7
  · rw [sFo_pl (by omega)] at i1
    rw [sFo_pl (by omega), q _ _ (by omega)]; exact a8 i i1 i2
  · rw [sFo_pl (by omega), q _ _ (by omega)]; exact a9
  · rw [sFo_pl (i := 23) (by omega)] at z ⊢
    rw [sFo_K]
    rcases V.2.2.2.1 with v4 | v4
    · rw [v4] at z; cases z
    · exact CW_fr (Or.inr rfl) (fun a k z => by omega) e v4.2.1 (a10 z)
theorem sFo_Mk {h : am_H} {s : Sg} (V : Vs s) (c : MS h s) (F : Nat) : Mok h (pI h 261 3 (fI F)) (sFo s F) := by
  refine ⟨?_, Kg_pI (by unfold wm; omega) (Kg_refl h)⟩
  have q : ∀ a j, ¬ (a = 261 ∧ j = 3) → hI (pI h 261 3 (fI F)) a j = hI h a j := fun a j n => pn n
  obtain ⟨⟨a1, a2, a3, a4, a5⟩, a6, a7, a8, a9, a10, ⟨a11, a12⟩, a13, a14⟩ := c
  have enP : nP (pI h 261 3 (fI F)) = nP h := by
    funext i j
    exact q _ _ (fun z => by have := z.1; unfold mc at this; split at this <;> omega)
  have ekP : kP (pI h 261 3 (fI F)) = kP h := by
    funext i j
    exact q _ _ (by omega)
  refine ⟨⟨?_, ?_, ?_, ?_, ?_⟩, fun i hi => ?_, fun i hi => ?_, fun i hi => ?_, ?_, fun i hi => ?_, ⟨?_, fun i i1 i2 => ?_⟩, ?_, fun z => ?_⟩
  · rw [sFo_M, q _ _ (by omega)]; exact a1
  · rw [sFo_R, q _ _ (by omega)]; exact a2
  · rw [sFo_S, q _ _ (by omega)]; exact a3
  · rw [sFo_F]; exact pe
  · rw [q _ _ (by omega)]; exact a5
  · rw [q _ _ (by omega)]; exact a6 i hi
  · rw [q _ _ (by omega)]; exact a7 i hi
  · rw [q _ _ (by omega)]; exact a8 i hi
  · rw [sFo_M, sFo_R, sFo_S, enP]; exact MP_eq (fun i hi => sFo_pl (by omega)) a9
  · rw [sFo_pl (i := 17) (by omega), sFo_pl (i := 18) (by omega), sFo_pl (i := 19) (by omega), sFo_pl (i := 20) (by omega), sFo_pl (i := 21) (by omega), q _ _ (by omega), q _ _ (by omega), q _ _ (by omega), q _ _ (by omega)]
    exact a10 i hi
  · rw [sFo_pl (by omega), q _ _ (by omega)]; exact a11
  · rw [sFo_pl (by omega)] at i1
    rw [sFo_pl (by omega), q _ _ (by omega)]; exact a12 i i1 i2
  · rw [sFo_pl (by omega), q _ _ (by omega)]; exact a13
  · rw [sFo_pl (i := 23) (by omega)] at z ⊢
    rw [sFo_K, ekP, q _ _ (by omega), q _ _ (by omega), q _ _ (by omega)]
    exact a14 z
/-- rules, or those at first -/
theorem rgF (s : Sg) (x : Int32) : (∃ F, F ≤ sR s ∧ x = fI F) ∨ (x ≠ -ni 1 ∧ ∀ k, k < sR s → x ≠ ni k) := by
  by_cases z : x = -ni 1
  · exact Or.inl ⟨0, Nat.zero_le _, z⟩
  · rcases rg x (sR s) with ⟨k, hk, rfl⟩ | hn
    · exact Or.inl ⟨k + 1, by omega, (fI_s k).symm⟩
    · exact Or.inr ⟨z, hn⟩
theorem fI_ti (F : Nat) (h : F < 100) : (fI F).toInt = (F : Int) - 1 := by
  cases F with
  | zero => rfl
  | succ F => rw [fI_s, ni_toInt (by omega)]; omega
theorem nF_ti {s : Sg} (V : Vs s) {x : Int32} (h : x ≠ -ni 1 ∧ ∀ k, k < sR s → x ≠ ni k) : x.toInt < -1 ∨ (sR s : Int) ≤ x.toInt := by
  have vR' := vR V
  rcases ni_cases x with ⟨z, j, hj, rfl⟩ | ⟨j, hj, rfl⟩
  · refine Or.inl ?_
    have h1 := h.1
    rw [ne_eq, eqt, show (-ni 1).toInt = -1 from rfl] at h1
    rw [ltt, show (0 : Int32).toInt = 0 from rfl] at z
    omega
  · have : ¬ j < sR s := fun z => h.2 j z rfl
    rw [ni_toInt hj]
    exact Or.inr (by omega)
theorem A17 : ∀ a1, Alike 103 105 [vi a1] := fun a1 => glue fun s V => by
  have vR' := vR V
  rcases rgF s a1 with ⟨F, hF, rfl⟩ | hn
  · refine ⟨fI (sD s 22 3), sFo s F, sFo_V V hF, fun h hs c => ⟨pI h 28 4 (fI F), ?_, sFo_C V hs c F⟩, fun h hs c => ⟨pI h 261 3 (fI F), ?_, sFo_Mk V c F⟩⟩
    · have e22 : ∀ {o : Option am_V}, am_E 103 (22, [some (vr (some 16)), some (vi (fI F)), o], [], h) = some (some (vi (fI (sD s 22 3))), pI h 28 4 (fI F)) := by
        intro o; rw [e_103_22 hs, cF c]
      rw [d_103 hs, e22]
      cases F with
      | zero => exact if_pos rfl
      | succ F =>
        rw [fI_s] at e22 ⊢
        rw [if_neg (show ¬ ni F = -1 from by rw [show (-1 : Int32) = -ni 1 from rfl, ng_eq (by omega) (by omega) (by omega)]; exact fun z => z), D99t hs V c (by omega)]
        simp only [Option.bind_some, Option.toList_some, List.cons_append, List.nil_append]
        rw [e_103_13 hs, if_neg (show ¬ ni 1 = 0 by decide)]
        exact e22
    · rw [d_105 hs, mR c, mF c]
      rw [if_neg (show ¬ fI F < -1 from by rw [ltt, fI_ti F (by omega), show (-1 : Int32).toInt = -1 from rfl]; omega), if_pos (show fI F < ni (sR s) by rw [ltt, fI_ti F (by omega), ni_toInt (by omega)]; omega)]
  · refine refgT V 1 (by omega) (fun h hs c => ?_) (fun h hs c => ?_)
    · rw [d_103 hs, if_neg (show ¬ a1 = -1 from hn.1), D99f hs V c hn.2]
      simp (disch := first | assumption | omega | (simp only [Sh_pI, Sh_pL, Sh_pIs, Sh_pLs]; assumption)) only [↓ixb, Option.bind_some, Option.bind_none, Option.toList_some, Option.toList_none, List.cons_append, List.nil_append, ni_lit, ni_of, ni_add, ni_mul, ni_sub, ni_div, ni_lt, ni_le, ni_eq, ng_lt, ng_le, ng_lt', ng_le', ng_eq, ng_eq', ng_ng, Int32.neg_neg, ix_ni, if_pos, if_neg, reduceIte, e_103_13, D102, e_103_21]
    · have fin : ∀ {o : Option am_V}, am_E 105 (13, [some (vr (some 261)), some (vi a1), o], [], h) = some (some (vi (-ni 1 - ni 10)), pI h 262 1 (hI h 262 1 + 1)) := by
        intro o; simp (disch := first | assumption | omega | (simp only [Sh_pI, Sh_pL, Sh_pIs, Sh_pLs]; assumption)) only [↓ixb, Option.bind_some, Option.bind_none, Option.toList_some, Option.toList_none, List.cons_append, List.nil_append, ni_lit, ni_of, ni_add, ni_mul, ni_sub, ni_div, ni_lt, ni_le, ni_eq, ng_lt, ng_le, ng_lt', ng_le', ng_eq, ng_eq', ng_ng, Int32.neg_neg, ix_ni, if_pos, if_neg, reduceIte, e_105_13, D104, e_105_18]
      rw [d_105 hs, mR c, fin]
      rcases nF_ti V hn with z | z
      · exact if_pos (by rw [ltt, show (-1 : Int32).toInt = -1 from rfl]; exact z)
      · rw [if_neg (show ¬ a1 < -1 from by rw [ltt, show (-1 : Int32).toInt = -1 from rfl]; omega), if_neg (by rw [ltt, ni_toInt (by omega)]; omega)]
