/-! rules -/
section RLS
variable {s : Sg}
def rlA (s : Sg) : Nat ⊕ (Nat → Nat) → Int32
  | .inl _ => -ni 6
  | .inr _ => if sR s < 6 then ni (sR s) else -ni 7
def rlS (s : Sg) : Nat ⊕ (Nat → Nat) → Sg
  | .inl q => sRf (sSx s (ni q)) 6
  | .inr tl => if sR s < 6 then sRu s tl else sRf (sSx s (-ni 1)) 7
def rlq (s : Sg) (k : Nat) : Nat ⊕ (Nat → Nat) := rrl (lts s k) (sD s 19 k) (sD s 19 k + 1) 0 t0
theorem rlS_V (V : Vs s) {k : Nat} : Vs (rlS s (rlq s k)) := by
  cases e : rlq s k with
  | inl q => exact V
  | inr tl =>
    show Vs (if sR s < 6 then sRu s tl else sRf (sSx s (-ni 1)) 7)
    by_cases y : sR s < 6
    · rw [if_pos y]
      exact sRu_V V y (rrl_b _ _ _ _ (by omega) (by decide) e)
    · rw [if_neg y]; exact V
theorem C83 {h : am_H} (V : Vs s) (hs : Sh h) (c : CS h s) {k : Nat} (hk : k < 8) (zz : sD s 17 k = 1) (z100 : sD s 19 k ≤ 100) : ∃ h1, am_D 83 [vr (some 16), vi (ni k)] h = some (some (vi (rlA s (rlq s k))), h1) ∧ Cok h h1 (rlS s (rlq s k)) := by
  have vR' := vR V
  obtain ⟨h1, d1, k1, t1', p3, p0⟩ := D70 (z := sD s 19 k) hs hk (lts s k) z100 (fun j hj => by rw [cHe c hk zz hj]; rfl)
  have hs1 := Kg_Sh k1 hs
  obtain ⟨h2, d2, k2, r2⟩ := D81 hs1 t1' p3 p0 (fun j hj => by rw [k1.2.2.2.2.1 0 j (by omega)]; exact c.2.2.1 j hj) (fun j hj => by rw [k1.2.2.2.2.1 1 j (by omega)]; exact c.2.2.2.1 j hj)
  have hs2 := Kg_Sh k2.1 hs1
  have kk2 : Kg sc h h2 := Kg_trans (Kg_mono (fun a j z => by unfold sc; omega) k1) (Kg_mono (fun a j z => by unfold sc; omega) k2.1)
  have q2 : ∀ a j, ¬ sc a j → hI h2 a j = hI h a j := fun a j n => kk2.2.2.2.2.1 a j n
  have b0 : am_D 83 [vr (some 16), vi (ni k)] h = am_E 83 (46, [some (vr (some 16)), some (vi (ni k)), some (vi (ni 0))], [], h2) := by
    rw [d_83 hs, D12t hs V c hk zz]
    simp only [Option.bind_some, Option.toList_some, List.cons_append, List.nil_append]
    rw [e_83_5 hs, if_pos (show ni 0 = 0 from rfl), ixb _ hk (by omega), ixb _ hk (by omega), cHn c hk zz, d1]
    simp only [Option.bind_some, Option.toList_none, List.nil_append]
    rw [e_83_35 hs1, d2]
    simp only [Option.bind_some, Option.toList_none, List.nil_append]
  rw [e_83_46 hs2, pe] at b0
  have e28 : ∀ v, hI (pI h2 16 7 v) 28 3 = ni (sR s) := fun v => (pn (by omega)).trans ((q2 28 3 (by unfold sc; omega)).trans (cR c))
  have kx : ∀ (e : Nat) (v : Int32), Kg (wX e) h (pI h2 16 7 v) := fun e v => Kg_pI (Or.inr (Or.inl ⟨rfl, rfl⟩)) (Kg_mono (fun a j z => Or.inl z) kk2)
  have rq : rrT h2 (rlq s k) := r2
  cases e : rlq s k with
  | inl q =>
    have lb := rrl_lb _ _ _ _ (show 0 ≤ sD s 19 k by omega) e
    rw [e] at rq
    have rq' : hI h2 248 0 = ni q := rq
    have hs3 : Sh (pI h2 16 7 (ni q)) := hs2
    rw [rq', if_neg (ni_n1 (by omega)), show (-6 : Int32) = -ni 6 from rfl, D7 hs3 (by omega)] at b0
    simp only [Option.bind_some, Option.toList_some, List.cons_append, List.nil_append] at b0
    rw [e_83_71 (show Sh (pI (pI h2 16 7 (ni q)) 260 6 (hI (pI h2 16 7 (ni q)) 260 6 + 1)) from hs2)] at b0
    refine ⟨_, b0, Cokx V hs c (Kg_pI (Or.inr (Or.inr ⟨rfl, rfl⟩)) (kx 6 (ni q))) ((pn (by omega)).trans pe) ?_⟩
    rw [pe, pn (by omega), q2 260 6 (by unfold sc; omega)]
  | inr tl =>
    rw [e] at rq
    have rq' : hI h2 248 0 = -ni 1 ∧ ∀ j, j < 14 → hI h2 252 j = ni (tl j) := rq
    rw [rq'.1, if_pos (show -ni 1 = -1 from rfl), e28] at b0
    show ∃ h1, _ = some (some (vi (if sR s < 6 then ni (sR s) else -ni 7)), h1) ∧ Cok h h1 (if sR s < 6 then sRu s tl else sRf (sSx s (-ni 1)) 7)
    by_cases y : sR s < 6
    · have hs3 : Sh (pI h2 16 7 (-ni 1)) := hs2
      have e28' := e28 (-ni 1)
      rw [if_pos (show ni (sR s) < 6 by rw [show (6 : Int32) = ni 6 from rfl, ni_lt (by omega) (by omega)]; exact y), d_82 hs3, e28', ixb _ y (by omega), if_pos (by decide), pe] at b0
      have e4 : ∀ f, hI (pIs (pI h2 16 7 (-ni 1)) (31 + sR s) f) 28 3 = ni (sR s) := fun f => by rw [hI_pIs, if_neg (by omega)]; exact e28'
      rw [e4, ni_add1, show ni (sR s + 1) - 1 = ni (sR s + 1 - 1) from ni_sub (b := 1) (by omega), Nat.add_sub_cancel] at b0
      simp only [Option.bind_some, Option.toList_some, List.cons_append, List.nil_append] at b0
      have kg : Kg (wU (sR s)) h (pI (pIs (pI h2 16 7 (-ni 1)) (31 + sR s) (va_cpy (hI (pI h2 16 7 (-ni 1)) 252) (hI (pI h2 16 7 (-ni 1)) (31 + sR s)) (0 : Int32).toNatClampNeg (0 : Int32).toNatClampNeg (14 : Int32).toNatClampNeg)) 28 3 (ni (sR s + 1))) := Kg_pI (Or.inr (Or.inr (Or.inl ⟨rfl, rfl⟩))) (Kg_pIs (fun j => Or.inr (Or.inr (Or.inr rfl))) (Kg_pI (Or.inr (Or.inl ⟨rfl, rfl⟩)) (Kg_mono (fun a j z => Or.inl z) kk2)))
      rw [e_83_102 (Kg_Sh kg hs)] at b0
      rw [if_pos y, if_pos y]
      refine ⟨_, b0, sRu_C V y hs c kg ?_ pe (fun j hj => ?_)⟩
      · refine (pn (by omega)).trans ?_
        rw [hI_pIs, if_neg (by omega)]; exact pe
      · refine (pn (by omega)).trans ?_
        rw [hI_pIs, if_pos rfl, vac14 hj]
        exact (pn (by omega)).trans (rq'.2 j hj)
    · have hs3 : Sh (pI h2 16 7 (-ni 1)) := hs2
      rw [if_neg (show ¬ ni (sR s) < 6 by rw [show (6 : Int32) = ni 6 from rfl, ni_lt (by omega) (by omega)]; exact y), show (-7 : Int32) = -ni 7 from rfl, D7 hs3 (by omega)] at b0
      simp only [Option.bind_some, Option.toList_some, List.cons_append, List.nil_append] at b0
      rw [e_83_90 (show Sh (pI (pI h2 16 7 (-ni 1)) 260 7 (hI (pI h2 16 7 (-ni 1)) 260 7 + 1)) from hs2)] at b0
      rw [if_neg y, if_neg y]
      refine ⟨_, b0, Cokx V hs c (Kg_pI (Or.inr (Or.inr ⟨rfl, rfl⟩)) (kx 7 (-ni 1))) ((pn (by omega)).trans pe) ?_⟩
      rw [pe, pn (by omega), q2 260 7 (by unfold sc; omega)]
/-- the model's text is opened -/
def hTx (h : am_H) (k z : Nat) : am_H := pI (pI (pI (pI h 261 37 (ni (100 * k))) 261 38 (ni 0)) 261 39 (ni z)) 261 4 (-ni 1)
theorem hTx_t {h : am_H} (c : MS h s) {k : Nat} (hk : k < 8) (zz : sD s 17 k = 1) (z100 : sD s 19 k ≤ 100) : TMx (hTx h k (sD s 19 k)) k (lts s k) (sD s 19 k) ∧ hI (hTx h k (sD s 19 k)) 261 38 = ni 0 ∧ hI (hTx h k (sD s 19 k)) 261 4 = -ni 1 ∧ Kg (fun a j => a = 261 ∧ (j = 4 ∨ j = 37 ∨ j = 38 ∨ j = 39)) h (hTx h k (sD s 19 k)) := by
  have kg : Kg (fun a j => a = 261 ∧ (j = 4 ∨ j = 37 ∨ j = 38 ∨ j = 39)) h (hTx h k (sD s 19 k)) := Kg_pI (by omega) (Kg_pI (by omega) (Kg_pI (by omega) (Kg_pI (by omega) (Kg_refl h))))
  refine ⟨⟨(pn (by omega)).trans ((pn (by omega)).trans ((pn (by omega)).trans pe)), hk, (pn (by omega)).trans pe, z100, fun j hj => ?_, fun j hj => ?_⟩, (pn (by omega)).trans ((pn (by omega)).trans pe), pe, kg⟩
  · have e := ((c.2.2.2.2.2.1 k hk).2.1 zz).2.2 j hj
    show (hL h 285 (100 * k + j)).toInt32 = _
    rw [e]; rfl
  · rw [kg.2.2.2.2.1 287 j (by omega)]
    exact c.2.2.2.1 j (by rw [wt_len]; exact hj)
theorem L96 {R : Nat} (hR : R < 6) {tl : Nat → Nat} {o1 : Option am_V} : ∀ m j {h : am_H} (o2 : Option am_V), j + m = 14 → Sh h → hI h 261 1 = ni R → (∀ i, i < 14 → hI h 288 i = ni (tl i)) → (∀ i, i < j → hI h 273 (14 * R + i) = ni (tl i)) → ∃ h1, am_E 96 (35, [some (vr (some 261)), o1, o2, some (vi (ni j))], [], h) = some (some (vi (ni R)), h1) ∧ Kg (fun a k => (a = 261 ∧ k = 1) ∨ (a = 273 ∧ 14 * R ≤ k)) h h1 ∧ hI h1 261 1 = ni (R + 1) ∧ ∀ i, i < 14 → hI h1 273 (14 * R + i) = ni (tl i) := by
  intro m
  induction m with
  | zero =>
    intro j h o2 hj hs h1 g g1
    have e : j = 14 := by omega
    subst e
    refine ⟨pI h 261 1 (ni (R + 1)), ?_, Kg_pI (Or.inl ⟨rfl, rfl⟩) (Kg_refl h), pe, fun i hi => (pn (by omega)).trans (g1 i hi)⟩
    rw [e_96_35 hs, if_pos (show (14 : Int32) ≤ ni 14 by decide), h1, ni_add1]
  | succ m ih =>
    intro j h o2 hj hs h1 g g1
    have kg : Kg (fun a k => (a = 261 ∧ k = 1) ∨ (a = 273 ∧ 14 * R ≤ k)) h (pI h 273 (14 * R + j) (ni (tl j))) := Kg_pI (by omega) (Kg_refl h)
    obtain ⟨h2, d, k, e1, e2⟩ := ih (j + 1) (h := pI h 273 (14 * R + j) (ni (tl j))) (am_nl o2) (by omega) (Kg_Sh kg hs) ((pn (by omega)).trans h1) (fun i hi => (pn (by omega)).trans (g i hi)) (fun i hi => by
      rw [hI_pI]
      by_cases y : i = j
      · rw [if_pos ⟨rfl, by rw [y]⟩, y]
      · rw [if_neg (fun z => y (by omega))]; exact g1 i (by omega))
    refine ⟨h2, ?_, Kg_trans kg k, e1, e2⟩
    rw [e_96_35 hs, if_neg (show ¬ (14 : Int32) ≤ ni j by rw [show (14 : Int32) = ni 14 from rfl, ni_le (by omega) (by omega)]; omega), h1, show (14 : Int32) * ni R + ni j = ni (14 * R + j) by rw [show (14 : Int32) = ni 14 from rfl, ni_mul, ni_add], ixb _ (show j < 14 by omega) (by omega), ixb _ (show 14 * R + j < 84 by omega) (by omega), g j (by omega), ni_add1]
    exact d
theorem M96 {h : am_H} (V : Vs s) (hs : Sh h) (c : MS h s) {k : Nat} (hk : k < 8) (zz : sD s 17 k = 1) (z100 : sD s 19 k ≤ 100) : ∃ h1, am_D 96 [vr (some 261), vi (ni k)] h = some (some (vi (rlA s (rlq s k))), h1) ∧ Mok h h1 (rlS s (rlq s k)) := by
  have vR' := vR V
  obtain ⟨t1', p38, p4, k1⟩ := hTx_t c hk zz z100
  have hs1 := Kg_Sh k1 hs
  obtain ⟨h2, d2, k2, r2⟩ := D94 hs1 t1' p38 (fun j hj => by rw [k1.2.2.2.2.1 272 j (by omega)]; exact c.2.2.1 j hj)
  have hs2 := Kg_Sh k2 hs1
  have kk2 : Kg (fun a j => scm a j ∨ (a = 261 ∧ j = 4)) h h2 := Kg_trans (Kg_mono (fun a j z => by unfold scm; omega) k1) (Kg_mono (fun a j z => by unfold scm; omega) k2)
  have q2 : ∀ a j, ¬ (scm a j ∨ (a = 261 ∧ j = 4)) → hI h2 a j = hI h a j := fun a j n => kk2.2.2.2.2.1 a j n
  have e4 : hI h2 261 4 = -ni 1 := by rw [k2.2.2.2.2.1 261 4 (by omega)]; exact p4
  have b5 : am_D 95 [vr (some 261), vi (ni k), vi 0] h = am_E 95 (58, [some (vr (some 261)), some (vi (ni k)), some (vi 0), some (vi (ni 0))], [vi (bi (isR (rlq s k)))], h2) := by
    have e283 : hI (pI (pI h 261 37 (ni (100 * k))) 261 38 (ni 0)) 283 k = ni (sD s 19 k) := (pn (by omega)).trans ((pn (by omega)).trans (mHn c hk zz))
    rw [d_95 hs, D50t hs c hk zz]
    simp only [Option.bind_some, Option.toList_some, List.cons_append, List.nil_append]
    rw [e_95_5 hs, if_pos (show ni 0 = 0 from rfl), ixb _ hk (by omega), if_pos (show (0 : Int32) = 0 from rfl), show (100 : Int32) * ni k = ni (100 * k) by rw [show (100 : Int32) = ni 100 from rfl, ni_mul], show pI (pI h 261 37 (ni (100 * k))) 261 38 0 = pI (pI h 261 37 (ni (100 * k))) 261 38 (ni 0) from rfl, e283]
    have d2' : am_D 94 [vr (some 261)] (pI (pI (pI (pI h 261 37 (ni (100 * k))) 261 38 (ni 0)) 261 39 (ni (sD s 19 k))) 261 4 (-1)) = some (some (vi (bi (isR (rlq s k)))), h2) := d2
    rw [d2']
    simp only [Option.bind_some, Option.toList_some, List.cons_append, List.nil_append]
  rw [e_95_58 hs2] at b5
  have rq : rrM h2 (rlq s k) := r2
  cases e : rlq s k with
  | inl q =>
    rw [e] at rq b5
    have rq' : hI h2 261 41 = ni q := rq
    rw [if_pos (show bi (isR (.inl q : Nat ⊕ (Nat → Nat))) = 0 from rfl), e_95_63 hs2, rq'] at b5
    have kx : Kg (wY 6) h (pI h2 261 4 (ni q)) := Kg_pI (Or.inr (Or.inl ⟨rfl, rfl⟩)) (Kg_mono (fun a j z => z.elim Or.inl (fun w => Or.inr (Or.inl w))) kk2)
    have hs3 := Kg_Sh kx hs
    have b0 := d_96 (x1 := ni k) hs
    rw [b5] at b0
    simp only [Option.bind_some, Option.toList_some, List.cons_append, List.nil_append] at b0
    rw [e_96_6 hs3, if_neg (show ¬ (-6 : Int32) = 0 by decide), show (-6 : Int32) = -ni 6 from rfl, D10 hs3 (by omega)] at b0
    simp only [Option.bind_some, Option.toList_some, List.cons_append, List.nil_append] at b0
    rw [e_96_16 (show Sh (pI (pI h2 261 4 (ni q)) 262 6 (hI (pI h2 261 4 (ni q)) 262 6 + 1)) from hs3)] at b0
    refine ⟨_, b0, Mokx V c (Kg_pI (Or.inr (Or.inr ⟨rfl, rfl⟩)) kx) ((pn (by omega)).trans pe) ?_⟩
    rw [pe, pn (by omega), q2 262 6 (by unfold scm; omega)]
  | inr tl =>
    rw [e] at rq b5
    have rq' : ∀ j, j < 14 → hI h2 288 j = ni (tl j) := rq
    have e1 : hI h2 261 1 = ni (sR s) := (q2 261 1 (by unfold scm; omega)).trans (mR c)
    rw [if_neg (show ¬ bi (isR (.inr tl : Nat ⊕ (Nat → Nat))) = 0 from show ¬ bi true = 0 by decide)] at b5
    have b0 := d_96 (x1 := ni k) hs
    rw [b5] at b0
    simp only [Option.bind_some, Option.toList_some, List.cons_append, List.nil_append] at b0
    rw [e_96_6 hs2, if_pos (show (0 : Int32) = 0 from rfl), e1] at b0
    show ∃ h1, _ = some (some (vi (if sR s < 6 then ni (sR s) else -ni 7)), h1) ∧ Mok h h1 (if sR s < 6 then sRu s tl else sRf (sSx s (-ni 1)) 7)
    by_cases y : sR s < 6
    · obtain ⟨h3, d3, k3, f1, f2⟩ := L96 (o1 := am_nl (some (vi (ni k)))) y 14 0 (h := h2) (some (vi 0)) rfl hs2 e1 rq' (fun i hi => by omega)
      rw [if_neg (show ¬ ni (sR s) = 6 by rw [show (6 : Int32) = ni 6 from rfl, ni_eq (by omega) (by omega)]; omega)] at b0
      rw [if_pos y, if_pos y]
      refine ⟨h3, b0.trans d3, sRu_Mk V y c (Kg_trans (Kg_mono (fun a j z => z.elim Or.inl (fun w => Or.inr (Or.inl w))) kk2) (Kg_mono (fun a j z => z.elim (fun w => Or.inr (Or.inr (Or.inl w))) (fun w => Or.inr (Or.inr (Or.inr w)))) k3)) ?_ f1 f2⟩
      rw [k3.2.2.2.2.1 261 4 (by omega)]; exact e4
    · have kx : Kg (wY 7) h h2 := Kg_mono (fun a j z => z.elim Or.inl (fun w => Or.inr (Or.inl w))) kk2
      rw [if_pos (show ni (sR s) = 6 by rw [show sR s = 6 by omega]; rfl), show (-7 : Int32) = -ni 7 from rfl, D10 hs2 (by omega)] at b0
      simp only [Option.bind_some, Option.toList_some, List.cons_append, List.nil_append] at b0
      rw [e_96_32 (show Sh (pI h2 262 7 (hI h2 262 7 + 1)) from hs2)] at b0
      rw [if_neg y, if_neg y]
      refine ⟨_, b0, Mokx V c (Kg_pI (Or.inr (Or.inr ⟨rfl, rfl⟩)) kx) ((pn (by omega)).trans e4) ?_⟩
      rw [pe, q2 262 7 (by unfold scm; omega)]
end RLS
theorem A14 : ∀ a1, Alike 83 96 [vi a1] := fun a1 => glue fun s V => by
  rcases wn_cases V a1 with ⟨k, hk, rfl, zz, z1, z100⟩ | ⟨e, he, he0, w⟩
  · exact ⟨rlA s (rlq s k), rlS s (rlq s k), rlS_V V, fun h hs c => C83 V hs c hk zz z100, fun h hs c => M96 V hs c hk zz z100⟩
  · refine refg V e (by omega) (fun h hs c => ?_) (fun h hs c => ?_)
    · rw [d_83 hs, D12f hs V c w]
      have ne : ¬ -ni e = 0 := by rw [show (0 : Int32) = ni 0 from rfl, ng_eq' (by omega) (by omega) (by omega)]; exact id
      simp only [Option.bind_some, Option.toList_some, List.cons_append, List.nil_append]
      rw [e_83_5 hs, if_neg ne, D7 hs (by omega)]
      simp only [Option.bind_some, Option.toList_some, List.cons_append, List.nil_append]
      exact e_83_15 (show Sh (pI h 260 e (hI h 260 e + 1)) from hs)
    · have ne : ¬ -ni e = 0 := by rw [show (0 : Int32) = ni 0 from rfl, ng_eq' (by omega) (by omega) (by omega)]; exact id
      have b5 : am_D 95 [vr (some 261), vi a1, vi 0] h = some (some (vi (-ni e)), h) := by
        rw [d_95 hs, D50f hs c w]
        simp only [Option.bind_some, Option.toList_some, List.cons_append, List.nil_append]
        rw [e_95_5 hs, if_neg ne]
      rw [d_96 hs, b5]
      simp only [Option.bind_some, Option.toList_some, List.cons_append, List.nil_append]
      rw [e_96_6 hs, if_neg ne, D10 hs (by omega)]
      simp only [Option.bind_some, Option.toList_some, List.cons_append, List.nil_append]
      exact e_96_16 (show Sh (pI h 262 e (hI h 262 e + 1)) from hs)
