/-! beside, act -/
theorem sb_any0 {f : Nat → Bool} {n : Nat} (hn : n ≤ 32) : (sb f n = ni 0) = (anyb f n = false) := by
  rw [sb_0 hn]; exact propext anyb_f.symm
/-- some row of a saying stands by rules F -/
def stn (s : Sg) (F t : Nat) : Bool := anyb (fun r => upq (sD s) (lwf (sD s) F) (8 * t + r)) (sD s 10 t)
def bsd (s : Sg) (F G t : Nat) : Bool := Bool.xor (stn s F t) (stn s G t)
theorem L243 {s : Sg} (V : Vs s) {F G : Nat} (hF : F ≤ sR s) (hG : G ≤ sR s) : ∀ k t h (o1 o2 o7 o8 : Option am_V), t + k = sS s → Sh h → CS h s → ∃ h1, am_E 243 (63, [some (vr (some 16)), o1, o2, some (vr (some (nfa F))), some (vr (some (nfa G))), some (vi (sb (bsd s F G) t)), some (vi (ni t)), o7, o8], [], h) = some (some (vi (sb (bsd s F G) (sS s))), h1) ∧ Kg sc h h1 := by
  have vR' := vR V
  have vS' := vS V
  intro k
  induction k with
  | zero =>
    intro t h o1 o2 o7 o8 e hs c
    refine ⟨h, ?_, Kg_refl h⟩
    rw [e_243_63 hs (nfK hs (show F ≤ 6 by omega)) (nfK hs (show G ≤ 6 by omega)), cS c]
    simp (disch := first | assumption | omega | (simp only [Sh_pI, Sh_pL, Sh_pIs, Sh_pLs]; assumption)) only [↓ixb, Option.bind_some, Option.bind_none, Option.toList_some, Option.toList_none, List.cons_append, List.nil_append, ni_lit, ni_of, ni_add, ni_mul, ni_sub, ni_div, ni_lt, ni_le, ni_eq, ng_lt, ng_le, ng_lt', ng_le', ng_eq, ng_eq', ng_ng, Int32.neg_neg, ix_ni, if_pos, if_neg, reduceIte]
    rw [show t = sS s by omega]
  | succ k ih =>
    intro t h o1 o2 o7 o8 e hs c
    have ht : t < sS s := by omega
    have vN' := vN V ht
    have hkF := nfK hs (show F ≤ 6 by omega)
    have hkG := nfK hs (show G ≤ 6 by omega)
    obtain ⟨h1, d1, kg1, -⟩ := D172 hs V c hF ht
    have hs1 := Kg_Sh kg1 hs
    have c1 := CS_fr (fun _ _ z => Or.inl z) kg1 V c
    have hkF1 := nfK hs1 (show F ≤ 6 by omega)
    have hkG1 := nfK hs1 (show G ≤ 6 by omega)
    obtain ⟨h2, d2, kg2, -⟩ := D172 hs1 V c1 hG ht
    have hs2 := Kg_Sh kg2 hs1
    have c2 := CS_fr (fun _ _ z => Or.inl z) kg2 V c1
    have hkF2 := nfK hs2 (show F ≤ 6 by omega)
    have hkG2 := nfK hs2 (show G ≤ 6 by omega)
    obtain ⟨h3, f1, f2⟩ := ih (t + 1) h2 o1 o2 (some (vi (bi (stn s F t)))) (some (vi (bi (stn s G t)))) (by omega) hs2 c2
    refine ⟨h3, ?_, Kg_trans kg1 (Kg_trans kg2 f2)⟩
    rw [← f1, e_243_63 hs hkF hkG, cS c, if_neg (show ¬ ni (sS s) ≤ ni t by rw [ni_le (by omega) (by omega)]; omega), d1]
    simp only [Option.bind_some, Option.toList_some, List.cons_append, List.nil_append]
    have g85 : ∀ {o7 o8 : Option am_V}, am_E 243 (85, [some (vr (some 16)), o1, o2, some (vr (some (nfa F))), some (vr (some (nfa G))), some (vi (sb (bsd s F G) t)), some (vi (ni t)), o7, o8], [vi (sb (fun r => upq (sD s) (lwf (sD s) F) (8 * t + r)) (sD s 10 t))], h1) = am_E 243 (93, [some (vr (some 16)), o1, o2, some (vr (some (nfa F))), some (vr (some (nfa G))), some (vi (sb (bsd s F G) t)), some (vi (ni t)), o7, o8], [vi (bi (stn s F t))], h1) := by
      intro o7 o8
      have a := sb_any0 (f := fun r => upq (sD s) (lwf (sD s) F) (8 * t + r)) (n := sD s 10 t) (by omega)
      rw [e_243_85 hs1 hkF1 hkG1]
      cases x : stn s F t
      · exact if_pos (a.mpr x)
      · exact if_neg (fun z => Bool.noConfusion (x.symm.trans (a.mp z)))
    have g106 : ∀ {x7 : Int32} {o8 : Option am_V}, am_E 243 (106, [some (vr (some 16)), o1, o2, some (vr (some (nfa F))), some (vr (some (nfa G))), some (vi (sb (bsd s F G) t)), some (vi (ni t)), some (vi x7), o8], [vi (sb (fun r => upq (sD s) (lwf (sD s) G) (8 * t + r)) (sD s 10 t))], h2) = am_E 243 (114, [some (vr (some 16)), o1, o2, some (vr (some (nfa F))), some (vr (some (nfa G))), some (vi (sb (bsd s F G) t)), some (vi (ni t)), some (vi x7), o8], [vi (bi (stn s G t))], h2) := by
      intro o7 o8
      have a := sb_any0 (f := fun r => upq (sD s) (lwf (sD s) G) (8 * t + r)) (n := sD s 10 t) (by omega)
      rw [e_243_106 hs2 hkF2 hkG2]
      cases x : stn s G t
      · exact if_pos (a.mpr x)
      · exact if_neg (fun z => Bool.noConfusion (x.symm.trans (a.mp z)))
    rw [g85, e_243_93 hs1 hkF1 hkG1, d2]
    simp only [Option.bind_some, Option.toList_some, List.cons_append, List.nil_append]
    rw [g106, e_243_114 hs2 hkF2 hkG2, e_243_132 hs2 hkF2 hkG2, e_243_132 hs2 hkF2 hkG2, ni_add1]
    cases x : stn s F t <;> cases y : stn s G t
    · rw [if_pos rfl, sb_f (f := bsd s F G) (by unfold bsd; rw [x, y]; rfl)]
    · rw [if_neg (by decide), sb_t (f := bsd s F G) (by unfold bsd; rw [x, y]; rfl)]; rfl
    · rw [if_neg (by decide), sb_t (f := bsd s F G) (by unfold bsd; rw [x, y]; rfl)]; rfl
    · rw [if_pos rfl, sb_f (f := bsd s F G) (by unfold bsd; rw [x, y]; rfl)]
section BES
variable {h : am_H} {s : Sg} {F : Nat}
theorem L244r (hs : Sh h) (V : Vs s) (c : MS h s) (hF : F ≤ sR s) (hby : hI h 261 43 = fI F) {t : Nat} (ht : t < sS s) {x2 : Int32} : ∀ k r (o1 : Option am_V), r + k = sD s 10 t → ∃ o1' o4, am_E 244 (23, [some (vr (some 261)), o1, some (vi (if anyb (fun r => upq (sD s) (lwf (sD s) F) (8 * t + r)) r = true then x2 ||| (ni 1 <<< (ni t &&& ni 31)) else x2)), some (vi (ni t)), some (vi (ni (8 * t + r)))], [], h) = am_E 244 (9, [some (vr (some 261)), o1', some (vi (if stn s F t = true then x2 ||| (ni 1 <<< (ni t &&& ni 31)) else x2)), some (vi (ni (t + 1))), o4], [], h) := by
  have vS' := vS V
  have vN' := vN V ht
  intro k
  induction k with
  | zero =>
    intro r o1 e
    refine ⟨o1, some (vi (ni (8 * t + r))), ?_⟩
    rw [e_244_23 hs, show (8 : Int32) = ni 8 from rfl, ni_mul, ixb _ (show t < 8 by omega) (by omega), mN c ht, ni_add, if_pos (by rw [ni_le (by omega) (by omega)]; omega), ni_add1]
    unfold stn
    rw [show sD s 10 t = r by omega]
  | succ k ih =>
    intro r o1 e
    have hr : r < sD s 10 t := by omega
    rw [e_244_23 hs, show (8 : Int32) = ni 8 from rfl, ni_mul, ixb _ (show t < 8 by omega) (by omega), mN c ht, ni_add, if_neg (by rw [ni_le (by omega) (by omega)]; omega), D168 hs V c hF hby ht hr]
    simp only [Option.bind_some, Option.toList_some, List.cons_append, List.nil_append]
    rw [e_244_45 hs, e_244_54 hs, e_244_54 hs, ni_add1]
    cases x : upq (sD s) (lwf (sD s) F) (8 * t + r)
    · obtain ⟨o1', o4, fin⟩ := ih (r + 1) o1 (by omega)
      refine ⟨o1', o4, Eq.trans ?_ fin⟩
      rw [if_pos (show bi false = 0 from rfl), anyb_s, x, Bool.or_false]; rfl
    · obtain ⟨o1', o4, fin⟩ := ih (r + 1) (am_nl o1) (by omega)
      refine ⟨o1', o4, Eq.trans ?_ fin⟩
      rw [if_neg (show ¬ bi true = 0 by decide), anyb_s, x, Bool.or_true, if_pos rfl]
      cases y : anyb (fun r => upq (sD s) (lwf (sD s) F) (8 * t + r)) r
      · rw [if_neg (by decide)]; rfl
      · rw [if_pos rfl]
        have : ∀ a b : Int32, (a ||| b) ||| b = a ||| b := fun a b => bt_ext fun k hk => by rw [bt_or, bt_or]; cases bt a k <;> cases bt b k <;> rfl
        rw [show (1 : Int32) <<< (ni t &&& 31) = ni 1 <<< (ni t &&& ni 31) from rfl, this]; rfl
theorem L244 (hs : Sh h) (V : Vs s) (c : MS h s) (hF : F ≤ sR s) (hby : hI h 261 43 = fI F) : ∀ k t (o1 o4 : Option am_V), t + k = sS s → am_E 244 (9, [some (vr (some 261)), o1, some (vi (sb (stn s F) t)), some (vi (ni t)), o4], [], h) = some (some (vi (sb (stn s F) (sS s))), h) := by
  have vS' := vS V
  intro k
  induction k with
  | zero =>
    intro t o1 o4 e
    rw [e_244_9 hs, mS c]
    simp (disch := first | assumption | omega | (simp only [Sh_pI, Sh_pL, Sh_pIs, Sh_pLs]; assumption)) only [↓ixb, Option.bind_some, Option.bind_none, Option.toList_some, Option.toList_none, List.cons_append, List.nil_append, ni_lit, ni_of, ni_add, ni_mul, ni_sub, ni_div, ni_lt, ni_le, ni_eq, ng_lt, ng_le, ng_lt', ng_le', ng_eq, ng_eq', ng_ng, Int32.neg_neg, ix_ni, if_pos, if_neg, reduceIte]
    rw [show t = sS s by omega]
  | succ k ih =>
    intro t o1 o4 e
    obtain ⟨o1', o4', f⟩ := L244r (t := t) (x2 := sb (stn s F) t) hs V c hF hby (by omega) (sD s 10 t) 0 o1 (by omega)
    rw [show anyb (fun r => upq (sD s) (lwf (sD s) F) (8 * t + r)) 0 = false from rfl, if_neg (by decide)] at f
    rw [e_244_9 hs, mS c, if_neg (show ¬ ni (sS s) ≤ ni t by rw [ni_le (by omega) (by omega)]; omega), show (8 : Int32) * ni t = ni (8 * t + 0) by rw [show (8 : Int32) = ni 8 from rfl, ni_mul]; rfl]
    exact f.trans (ih (t + 1) o1' o4' (by omega))
theorem D244 (hs : Sh h) (V : Vs s) (c : MS h s) (hF : F ≤ sR s) : am_D 244 [vr (some 261), vi (fI F)] h = some (some (vi (sb (stn s F) (sS s))), pI h 261 43 (fI F)) := by
  rw [d_244 hs]
  exact L244 (h := pI h 261 43 (fI F)) hs V (MSb V c _) hF pe (sS s) 0 _ _ (by omega)
end BES
theorem fI_u {F G : Nat} : fI F = -ni 1 → F < 100 → F = 0 := fun h hF => by
  have e := congrArg Int32.toInt h
  rw [fI_ti F hF, show (-ni 1).toInt = -1 from rfl] at e
  omega
theorem A41 : ∀ a1 a2, Alike 243 245 [vi a1, vi a2] := fun a1 a2 => glue fun s V => by
  have vR' := vR V
  have vS' := vS V
  rcases rgF s a1 with ⟨F, hF, rfl⟩ | hn
  · rcases rgF s a2 with ⟨G, hG, rfl⟩ | hm
    · refine ⟨sb (bsd s F G) (sS s), s, V, HC_q V fun h hs c => ?_, HM_q V fun h hs c => ⟨pI (pI h 261 43 (fI F)) 261 43 (fI G), ?_, Kg_pI (by unfold scm; omega) (Kg_pI (by unfold scm; omega) (Kg_refl h))⟩⟩
      · obtain ⟨h1, f1, f2⟩ := L243 V hF hG (sS s) 0 h (some (vi (fI F))) (some (vi (fI G))) none none (by omega) hs c
        refine ⟨h1, ?_, f2⟩
        have e38 : ∀ {o3 o4 o5 o6 o7 o8 : Option am_V}, am_E 243 (38, [some (vr (some 16)), some (vi (fI F)), some (vi (fI G)), o3, o4, o5, o6, o7, o8], [], h) = am_E 243 (63, [some (vr (some 16)), some (vi (fI F)), some (vi (fI G)), some (vr (some (nfa F))), some (vr (some (nfa G))), some (vi (ni 0)), some (vi (ni 0)), o7, o8], [], h) := by
          intros
          rw [e_243_38 hs, D136 hs V c hF]
          simp only [Option.bind_some, Option.toList_some, List.cons_append, List.nil_append]
          rw [e_243_46 hs (nfK hs (show F ≤ 6 by omega)), D136 hs V c hG]
          simp only [Option.bind_some, Option.toList_some, List.cons_append, List.nil_append]
          exact e_243_55 hs (nfK hs (show F ≤ 6 by omega)) (nfK hs (show G ≤ 6 by omega))
        have e16 : ∀ {o3 o4 o5 o6 : Option am_V}, am_E 243 (16, [some (vr (some 16)), some (vi (fI F)), some (vi (fI G)), o3, o4, o5, o6, none, none], [], h) = some (some (vi (sb (bsd s F G) (sS s))), h1) := by
          intros
          rw [e_243_16 hs]
          cases G with
          | zero => exact (if_pos rfl).trans (e38.trans f1)
          | succ G =>
            refine (if_neg (show ¬ fI (G + 1) = -ni 1 from fun z => by have := fI_u (G := 0) z (by omega); omega)).trans ?_
            rw [fI_s, D99t hs V c (by omega)]
            simp only [Option.bind_some, Option.toList_some, List.cons_append, List.nil_append]
            rw [e_243_29 hs, if_neg (show ¬ ni 1 = 0 by decide), ← fI_s]
            exact e38.trans f1
        rw [d_243 hs]
        cases F with
        | zero => exact (if_pos rfl).trans e16
        | succ F =>
          refine (if_neg (show ¬ fI (F + 1) = -ni 1 from fun z => by have := fI_u (G := 0) z (by omega); omega)).trans ?_
          rw [fI_s, D99t hs V c (by omega)]
          simp only [Option.bind_some, Option.toList_some, List.cons_append, List.nil_append]
          rw [e_243_13 hs, if_neg (show ¬ ni 1 = 0 by decide), ← fI_s]
          exact e16
      · rw [d_245 hs, mR c]
        rw [if_neg (show ¬ fI F < -1 from by rw [ltt, fI_ti F (by omega), show (-1 : Int32).toInt = -1 from rfl]; omega), if_neg (show ¬ ni (sR s) ≤ fI F by rw [lett, fI_ti F (by omega), ni_toInt (by omega)]; omega), if_neg (show ¬ fI G < -1 from by rw [ltt, fI_ti G (by omega), show (-1 : Int32).toInt = -1 from rfl]; omega), if_pos (show fI G < ni (sR s) by rw [ltt, fI_ti G (by omega), ni_toInt (by omega)]; omega), D244 hs V c hF]
        simp only [Option.bind_some, Option.toList_some, List.cons_append, List.nil_append]
        rw [e_245_37 (h := pI h 261 43 (fI F)) hs, D244 (h := pI h 261 43 (fI F)) hs V (MSb V c _) hG]
        simp only [Option.bind_some, Option.toList_some, List.cons_append, List.nil_append]
        rw [e_245_42 (h := pI (pI h 261 43 (fI F)) 261 43 (fI G)) hs]
        refine congrArg (fun x => some (some (vi x), pI (pI h 261 43 (fI F)) 261 43 (fI G))) ?_
        refine sb_ext (by omega) fun k hk => ?_
        rw [bt_xor, bt_sb _ (by omega) k hk, bt_sb _ (by omega) k hk]
        unfold bsd
        cases decide (k < sS s) <;> rfl
    · refine refg V 1 (by omega) (fun h hs c => ?_) (fun h hs c => ?_)
      · have fin : ∀ {o1 o2 o3 o4 o5 o6 o7 o8 : Option am_V}, am_E 243 (32, [some (vr (some 16)), o1, o2, o3, o4, o5, o6, o7, o8], [], h) = some (some (vi (-ni 1)), pI h 260 1 (hI h 260 1 + 1)) := by
          intros; simp (disch := first | assumption | omega | (simp only [Sh_pI, Sh_pL, Sh_pIs, Sh_pLs]; assumption)) only [↓ixb, Option.bind_some, Option.bind_none, Option.toList_some, Option.toList_none, List.cons_append, List.nil_append, ni_lit, ni_of, ni_add, ni_mul, ni_sub, ni_div, ni_lt, ni_le, ni_eq, ng_lt, ng_le, ng_lt', ng_le', ng_eq, ng_eq', ng_ng, Int32.neg_neg, ix_ni, if_pos, if_neg, reduceIte, e_243_32, D7, e_243_37]
        have e16 : ∀ {o3 o4 o5 o6 o7 o8 : Option am_V}, am_E 243 (16, [some (vr (some 16)), some (vi (fI F)), some (vi a2), o3, o4, o5, o6, o7, o8], [], h) = some (some (vi (-ni 1)), pI h 260 1 (hI h 260 1 + 1)) := by
          intros
          rw [e_243_16 hs, if_neg (show ¬ a2 = -1 from hm.1), D99f hs V c hm.2]
          simp only [Option.bind_some, Option.toList_some, List.cons_append, List.nil_append]
          rw [e_243_29 hs, if_pos (show ni 0 = 0 from rfl)]; exact fin
        rw [d_243 hs]
        cases F with
        | zero => exact (if_pos rfl).trans e16
        | succ F =>
          refine (if_neg (show ¬ fI (F + 1) = -ni 1 from fun z => by have := fI_u (G := 0) z (by omega); omega)).trans ?_
          rw [fI_s, D99t hs V c (by omega)]
          simp only [Option.bind_some, Option.toList_some, List.cons_append, List.nil_append]
          rw [e_243_13 hs, if_neg (show ¬ ni 1 = 0 by decide), ← fI_s]
          exact e16
      · have fin : am_E 245 (26, [some (vr (some 261)), some (vi (fI F)), some (vi a2)], [], h) = some (some (vi (-ni 1)), pI h 262 1 (hI h 262 1 + 1)) := by
          simp (disch := first | assumption | omega | (simp only [Sh_pI, Sh_pL, Sh_pIs, Sh_pLs]; assumption)) only [↓ixb, Option.bind_some, Option.bind_none, Option.toList_some, Option.toList_none, List.cons_append, List.nil_append, ni_lit, ni_of, ni_add, ni_mul, ni_sub, ni_div, ni_lt, ni_le, ni_eq, ng_lt, ng_le, ng_lt', ng_le', ng_eq, ng_eq', ng_ng, Int32.neg_neg, ix_ni, if_pos, if_neg, reduceIte, e_245_26, D10, e_245_31]
        rw [d_245 hs, mR c, fin]
        rw [if_neg (show ¬ fI F < -1 from by rw [ltt, fI_ti F (by omega), show (-1 : Int32).toInt = -1 from rfl]; omega), if_neg (show ¬ ni (sR s) ≤ fI F by rw [lett, fI_ti F (by omega), ni_toInt (by omega)]; omega)]
        rcases nF_ti V hm with z | z
        · exact if_pos (by rw [ltt, show (-1 : Int32).toInt = -1 from rfl]; exact z)
        · rw [if_neg (show ¬ a2 < -1 from by rw [ltt, show (-1 : Int32).toInt = -1 from rfl]; omega), if_neg (by rw [ltt, ni_toInt (by omega)]; omega)]
  · refine refg V 1 (by omega) (fun h hs c => ?_) (fun h hs c => ?_)
    · rw [d_243 hs, if_neg (show ¬ a1 = -1 from hn.1), D99f hs V c hn.2]
      simp (disch := first | assumption | omega | (simp only [Sh_pI, Sh_pL, Sh_pIs, Sh_pLs]; assumption)) only [↓ixb, Option.bind_some, Option.bind_none, Option.toList_some, Option.toList_none, List.cons_append, List.nil_append, ni_lit, ni_of, ni_add, ni_mul, ni_sub, ni_div, ni_lt, ni_le, ni_eq, ng_lt, ng_le, ng_lt', ng_le', ng_eq, ng_eq', ng_ng, Int32.neg_neg, ix_ni, if_pos, if_neg, reduceIte, e_243_13, e_243_32, D7, e_243_37]
    · have fin : am_E 245 (26, [some (vr (some 261)), some (vi a1), some (vi a2)], [], h) = some (some (vi (-ni 1)), pI h 262 1 (hI h 262 1 + 1)) := by
        simp (disch := first | assumption | omega | (simp only [Sh_pI, Sh_pL, Sh_pIs, Sh_pLs]; assumption)) only [↓ixb, Option.bind_some, Option.bind_none, Option.toList_some, Option.toList_none, List.cons_append, List.nil_append, ni_lit, ni_of, ni_add, ni_mul, ni_sub, ni_div, ni_lt, ni_le, ni_eq, ng_lt, ng_le, ng_lt', ng_le', ng_eq, ng_eq', ng_ng, Int32.neg_neg, ix_ni, if_pos, if_neg, reduceIte, e_245_26, D10, e_245_31]
      rw [d_245 hs, mR c, fin]
      rcases nF_ti V hn with z | z
      · exact if_pos (by rw [ltt, show (-1 : Int32).toInt = -1 from rfl]; exact z)
      · rw [if_neg (show ¬ a1 < -1 from by rw [ltt, show (-1 : Int32).toInt = -1 from rfl]; omega), if_pos (by rw [lett, ni_toInt (by omega)]; omega)]
