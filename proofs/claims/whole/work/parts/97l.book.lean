/-! book -/
section BKF
variable {s : Sg}
def bkA (s : Sg) : Nat ⊕ (Nat × (Nat → Nat → Nat)) → Int32
  | .inl _ => -ni 6
  | .inr _ => if sS s < 8 then ni (sS s) else -ni 7
def bkS (s : Sg) : Nat ⊕ (Nat × (Nat → Nat → Nat)) → Sg
  | .inl q => sRf (sSx s (ni q)) 6
  | .inr v => if sS s < 8 then sBk s v.1 v.2 else sRf (sSx s (-ni 1)) 7
def bkq (s : Sg) (k : Nat) : Nat ⊕ (Nat × (Nat → Nat → Nat)) := bkl (lts s k) (sD s 19 k) (sM s) 8 0 0 (fun _ _ => 0)
theorem bkq_b (V : Vs s) {k : Nat} : (∀ q, bkq s k = .inl q → q ≤ sD s 19 k) ∧ ∀ v, bkq s k = .inr v → 0 < v.1 ∧ v.1 ≤ 8 ∧ Vbk (sM s) v.1 v.2 := bkl_b 8 0 0 _ rfl (by omega) (fun r hr => by omega)
theorem bkS_V (V : Vs s) {k : Nat} : Vs (bkS s (bkq s k)) := by
  cases e : bkq s k with
  | inl q => exact V
  | inr v =>
    have b := (bkq_b V (k := k)).2 v e
    show Vs (if sS s < 8 then sBk s v.1 v.2 else sRf (sSx s (-ni 1)) 7)
    by_cases y : sS s < 8
    · rw [if_pos y]
      exact sBk_V V y b.1 b.2.1 b.2.2
    · rw [if_neg y]; exact V
theorem Sh_37 {h : am_H} {j : Nat} {x : Option Nat} (hs : Sh h) (ok : am_okr h x [0, 1, 2, 3, 6, 7, 9] = true) : Sh (pR h 37 j x) := by
  obtain ⟨s1, s2, s3, s5⟩ := hs
  have n37 : ∀ k, shR 37 k = none := fun k => by
    have e : shR 37 = fun _ => none := rfl
    rw [e]
  refine ⟨s1, fun b k r e => ?_, s3, fun k hk => ?_⟩
  · rw [hR_pR, if_neg (fun z => by rw [z.1, n37] at e; cases e)]; exact s2 b k r e
  · have := s5 k hk
    rw [hR_pR, hR_pR, if_neg (show ¬ (147 = 37 ∧ k = j) by omega)]
    refine ⟨?_, this.2⟩
    by_cases y : k = j
    · rw [if_pos ⟨rfl, y⟩]; exact ok
    · rw [if_neg (fun z => y z.2)]; exact this.1
/-- the class's rows come to the sayings -/
theorem L121 {S n N : Nat} (hS : S < 8) (n8 : n ≤ 8) : ∀ m j {h : am_H}, j + m = n → Sh h → hI h 28 7 = ni S → 303 ≤ N → N + 3 * n ≤ hN h → (∀ k, k < n → hR h 253 k = some (N + 3 * k + 2) ∧ (hK h (N + 3 * k + 2)).1 ∈ ([0, 1, 2, 3, 6, 7, 9] : List Nat)) → (∀ k, k < j → hR h 37 (8 * S + k) = some (N + 3 * k + 2)) → ∃ h1, am_E 121 (2, [some (vr (some 28)), some (vr (some 253)), some (vi (ni n)), some (vi (ni j))], [], h) = am_E 121 (36, [some (vr (some 28)), some (vr (some 253)), some (vi (ni n)), some (vi (ni n))], [], h1) ∧ Sh h1 ∧ Ke nW (fun a k => a = 37 ∧ 8 * S ≤ k) h h1 ∧ hN h1 = hN h ∧ hSl h1 = hSl h ∧ hI h1 = hI h ∧ ∀ k, k < n → hR h1 37 (8 * S + k) = some (N + 3 * k + 2) := by
  intro m
  induction m with
  | zero =>
    intro j h hj hs h7 hN3 hNh g g1
    have e : j = n := by omega
    subst e
    refine ⟨h, ?_, hs, Ke_refl h, rfl, rfl, rfl, g1⟩
    rw [e_121_2 hs, if_pos (show ni j ≤ ni j by rw [ni_le (by omega) (by omega)]; omega)]
  | succ m ih =>
    intro j h hj hs h7 hN3 hNh g g1
    have gj := g j (by omega)
    have ok : am_okr h (hR h 253 j) [0, 1, 2, 3, 6, 7, 9] = true := by
      rw [gj.1]
      exact decide_eq_true gj.2
    have s2 : Sh (pR h 37 (8 * S + j) (hR h 253 j)) := Sh_37 hs ok
    have ke : Ke nW (fun a k => a = 37 ∧ 8 * S ≤ k) h (pR h 37 (8 * S + j) (hR h 253 j)) := ⟨Nat.le_refl _, fun _ _ => rfl, fun a k _ n => by rw [hR_pR, if_neg (fun z => n ⟨z.1, by omega⟩)], fun _ _ _ _ => rfl, fun _ _ _ _ => rfl⟩
    obtain ⟨h1, d, s3, k3, e1, e2, e3, e4⟩ := ih (j + 1) (h := pR h 37 (8 * S + j) (hR h 253 j)) (by omega) s2 h7 hN3 hNh (fun k hk => by
      rw [hR_pR, if_neg (by omega)]; exact g k hk) (fun k hk => by
      rw [hR_pR]
      by_cases y : k = j
      · rw [if_pos ⟨rfl, by rw [y]⟩, y]; exact gj.1
      · rw [if_neg (by omega)]; exact g1 k (by omega))
    refine ⟨h1, ?_, s3, Ke_trans ke k3, e1, e2, e3, e4⟩
    rw [e_121_2 hs, if_neg (show ¬ ni n ≤ ni j by rw [ni_le (by omega) (by omega)]; omega), if_neg (show ¬ 8 ≤ ni j by rw [show (8 : Int32) = ni 8 from rfl, ni_le (by omega) (by omega)]; omega), ixb _ (show j < 8 by omega) (by omega), if_pos ok, h7, show ni S * (8 : Int32) + ni j = ni (8 * S + j) by rw [show (8 : Int32) = ni 8 from rfl, ni_mul, ni_add, Nat.mul_comm], ixb _ (show 8 * S + j < 64 by omega) (by omega), e_121_30 s2, ni_add1]
    exact d
theorem C122 {h : am_H} (V : Vs s) (hs : Sh h) (c : CS h s) {k : Nat} (hk : k < 8) (zz : sD s 17 k = 1) (z100 : sD s 19 k ≤ 100) : ∃ h1, am_D 122 [vr (some 16), vi (ni k)] h = some (some (vi (bkA s (bkq s k))), h1) ∧ Cok h h1 (bkS s (bkq s k)) := by
  have vS' := vS V
  have vM' := vM V
  have N := hs.2.2.1.1
  obtain ⟨h1, d1, k1, t1', p3, p0⟩ := D70 (z := sD s 19 k) hs hk (lts s k) z100 (fun j hj => by rw [cHe c hk zz hj]; rfl)
  have hs1 := Kg_Sh k1 hs
  have n1 : hN h1 = hN h := k1.1
  have l1 : hSl h1 = hSl h := k1.2.1
  have ke1 : Ke (wQ (sS s)) (wQR (sS s)) h h1 := by
    refine ⟨by omega, fun a _ => by rw [k1.2.2.1], fun a j _ n => ?_, fun a j _ n => ?_, fun a j _ n => ?_⟩
    · by_cases y : a = 248 ∧ j = 1
      · exact absurd (Or.inr (Or.inl y)) n
      · exact k1.2.2.2.1 a j y (fun z => n (Or.inl z))
    · exact k1.2.2.2.2.1 a j (fun z => n (Or.inr (Or.inl z)))
    · exact k1.2.2.2.2.2 a j (fun z => n (Or.inr (Or.inl z)))
  obtain ⟨h2, s2, k2, n2, l2, res⟩ := L120 (M := sM s) vM' (h0 := h1) (v0 := 0) 8 0 0 (fun _ _ => 0) (h := h1) none rfl (by omega) hs1 t1' p3 p0 (Ke_refl h1) (by omega) (by omega) (by omega) (fun k hk => by omega) (fun r hr => by omega)
  have ke2 : Ke (wQ (sS s)) (wQR (sS s)) h h2 := Ke_trans ke1 (Ke_mono (fun a j z => Or.inl z) (fun a j z => Or.inl z) k2)
  have b0 : ∀ v, am_E 120 (2, [some (vr (some 248)), some (vr (some 253)), some (vi (ni (sM s))), some (vi (ni 0)), none], [], h1) = some (some (vi v), h2) → am_D 122 [vr (some 16), vi (ni k)] h = am_E 122 (53, [some (vr (some 16)), some (vi (ni k)), some (vi (ni 0)), none], [vi v], h2) := fun v e => by
    have d2 : am_D 120 [vr (some 248), vr (some 253), vi (ni (sM s))] h1 = some (some (vi v), h2) := (d_120 hs1).trans e
    rw [d_122 hs, D12t hs V c hk zz]
    simp only [Option.bind_some, Option.toList_some, List.cons_append, List.nil_append]
    rw [e_122_5 hs, if_pos (show ni 0 = 0 from rfl), ixb _ hk (by omega), ixb _ hk (by omega), cHn c hk zz, d1]
    simp only [Option.bind_some, Option.toList_none, List.nil_append]
    rw [e_122_35 hs1, k1.2.2.2.2.1 28 1 (by omega), cM c, d2]
    simp only [Option.bind_some, Option.toList_some, List.cons_append, List.nil_append]
  have q2 : ∀ a j, a < 303 → ¬ wQ (sS s) a j → hI h2 a j = hI h a j := fun a j ha n => ke2.2.2.2.1 a j (by omega) n
  have q26 : ∀ j, hI h2 260 j = hI h 260 j := fun j => by
    rw [k2.2.2.2.1 260 j (by omega) (by unfold wR; omega), k1.2.2.2.2.1 260 j (by omega)]
  have q28 : hI h2 28 7 = hI h 28 7 := by
    rw [k2.2.2.2.1 28 7 (by omega) (by unfold wR; omega), k1.2.2.2.2.1 28 7 (by omega)]
  have q38 : ∀ a j, a = 38 ∨ a = 39 → hI h2 a j = hI h a j := fun a j ha => by
    rw [k2.2.2.2.1 a j (by omega) (by unfold wR; omega), k1.2.2.2.2.1 a j (by omega)]
  have q37 : ∀ j, hR h2 37 j = hR h 37 j := fun j => by
    rw [k2.2.2.1 37 j (by omega) (by unfold wZ; omega), k1.2.2.2.1 37 j (by omega) (by omega)]
  -- a refusal
  have ref : ∀ (e : Nat) (v : Int32), e < 8 → 6 ≤ e → Cok h (pI (pI h2 16 7 v) 260 e (hI (pI h2 16 7 v) 260 e + 1)) (sRf (sSx s v) e) := fun e v e8 e6 => by
    have kx : Ke (wQ (sS s)) (wQR (sS s)) h (pI (pI h2 16 7 v) 260 e (hI (pI h2 16 7 v) 260 e + 1)) := Ke_trans ke2 (Ke_g (Kg_pI (by unfold wQ; omega) (Kg_pI (by unfold wQ; omega) (Kg_refl h2))) rfl)
    refine Cok_ke hs s2 ?_ kx (by show hN h2 ≤ _; omega) (by show hSl h2 ≤ _; omega)
    refine CSf V hs c kx (fun j => ⟨?_, ?_, ?_, q37 j⟩) ((pn (by omega)).trans pe) (fun j hj => ?_)
    · exact (pn (by omega)).trans ((pn (by omega)).trans q28)
    · exact (pn (by omega)).trans ((pn (by omega)).trans (q38 38 j (Or.inl rfl)))
    · exact (pn (by omega)).trans ((pn (by omega)).trans (q38 39 j (Or.inr rfl)))
    · rw [hI_pI]
      by_cases y : j = e
      · rw [if_pos ⟨rfl, y⟩, if_pos y, pn (by omega), q26, y]
      · rw [if_neg (fun z => y z.2), if_neg y, pn (by omega), q26]
  have bb := bkq_b V (k := k)
  rcases res with ⟨q, r1, r2, r3⟩ | ⟨v, r1, r2, r3, r4, r5⟩
  · have eq : bkq s k = .inl q := r1
    have lb := bb.1 q eq
    have b1 := b0 0 r2
    rw [e_122_53 s2, pe, r3, if_neg (ni_n1 (by omega)), show (-6 : Int32) = -ni 6 from rfl, D7 (show Sh (pI h2 16 7 (ni q)) from s2) (by omega)] at b1
    simp only [Option.bind_some, Option.toList_some, List.cons_append, List.nil_append] at b1
    rw [e_122_79 (show Sh (pI (pI h2 16 7 (ni q)) 260 6 (hI (pI h2 16 7 (ni q)) 260 6 + 1)) from s2)] at b1
    rw [eq]
    exact ⟨_, b1, ref 6 (ni q) (by omega) (by omega)⟩
  · have eq : bkq s k = .inr v := r1
    have vb := bb.2 v eq
    have b1 := b0 (ni v.1) r2
    have e28 : hI (pI h2 16 7 (-ni 1)) 28 7 = ni (sS s) := (pn (by omega)).trans (q28.trans (cS c))
    rw [e_122_53 s2, pe, r3, if_pos (show -ni 1 = -1 from rfl), e28] at b1
    rw [eq]
    show ∃ h1, _ = some (some (vi (if sS s < 8 then ni (sS s) else -ni 7)), h1) ∧ Cok h h1 (if sS s < 8 then sBk s v.1 v.2 else sRf (sSx s (-ni 1)) 7)
    by_cases y : sS s < 8
    · rw [if_pos y, if_pos y]
      rw [if_pos (show ni (sS s) < 8 by rw [show (8 : Int32) = ni 8 from rfl, ni_lt (by omega) (by omega)]; exact y)] at b1
      have hs3 : Sh (pI h2 16 7 (-ni 1)) := s2
      obtain ⟨h4, d4, s4, k4, n4, l4, i4, g4⟩ := L121 (S := sS s) (n := v.1) (N := hN h1) y vb.2.1 v.1 0 (h := pI h2 16 7 (-ni 1)) (by omega) hs3 e28 (by omega) (by show _ ≤ hN h2; omega) (fun j hj => by
        have g := r5 j hj
        refine ⟨g.1, ?_⟩
        show (hK h2 (hN h1 + 3 * j + 2)).1 ∈ _
        rw [g.2.2.2.1]
        exact kt_in _ (by have := (vb.2.2 j hj).1; omega)) (fun j hj => by omega)
      have d121 : am_D 121 [vr (some 28), vr (some 253), vi (ni v.1)] (pI h2 16 7 (-ni 1)) = am_E 121 (36, [some (vr (some 28)), some (vr (some 253)), some (vi (ni v.1)), some (vi (ni v.1))], [], h4) := (d_121 hs3).trans d4
      have f7 : hI h4 28 7 = ni (sS s) := by rw [i4]; exact e28
      rw [e_121_36 s4, f7, ixb _ y (by omega), pn (by omega), f7, ixb _ y (by omega), pe, pn (by omega), pn (by omega), f7, ni_add1, show ni (sS s + 1) - 1 = ni (sS s) by rw [show ni (sS s + 1) - 1 = ni (sS s + 1 - 1) from ni_sub (b := 1) (by omega), Nat.add_sub_cancel]] at d121
      rw [d121] at b1
      simp only [Option.bind_some, Option.toList_some, List.cons_append, List.nil_append] at b1
      have s5 : Sh (pI (pI (pI h4 38 (sS s) (ni v.1)) 39 (sS s) 0) 28 7 (ni (sS s + 1))) := s4
      rw [e_122_111 s5] at b1
      have k16 : Ke (wQ (sS s)) (wQR (sS s)) h2 (pI h2 16 7 (-ni 1)) := Ke_g (Kg_pI (by unfold wQ; omega) (Kg_refl h2)) rfl
      have k5 : Ke (wQ (sS s)) (wQR (sS s)) h4 (pI (pI (pI h4 38 (sS s) (ni v.1)) 39 (sS s) 0) 28 7 (ni (sS s + 1))) := Ke_g (Kg_pI (by unfold wQ; omega) (Kg_pI (by unfold wQ; omega) (Kg_pI (by unfold wQ; omega) (Kg_refl h4)))) rfl
      have kx : Ke (wQ (sS s)) (wQR (sS s)) h (pI (pI (pI h4 38 (sS s) (ni v.1)) 39 (sS s) 0) 28 7 (ni (sS s + 1))) := Ke_trans ke2 (Ke_trans k16 (Ke_trans (Ke_mono (fun a j z => z.elim) (fun a j z => Or.inr (Or.inr z)) k4) k5))
      have n4' : hN h4 = hN h2 := n4
      have l4' : hSl h4 = hSl h2 := l4
      refine ⟨_, b1, Cok_ke hs s5 ?_ kx (by show hN h4 ≤ _; omega) (by show hSl h4 ≤ _; omega)⟩
      have v8 := vb.2.1
      refine CSb V y v8 hs c vb.2.2 kx ?_ (fun j hj => ?_) pe ((pn (by omega)).trans ((pn (by omega)).trans pe)) ((pn (by omega)).trans pe) (by show hN h4 = _; omega) (fun r hr => ?_)
      · refine (pn (by omega)).trans ((pn (by omega)).trans ((pn (by omega)).trans ?_))
        rw [i4]; exact pe
      · refine (pn (by omega)).trans ((pn (by omega)).trans ((pn (by omega)).trans ?_))
        rw [i4]
        exact (pn (by omega)).trans (q26 j)
      · have g := r5 r hr
        rw [← n1]
        refine ⟨g4 r hr, ?_⟩
        have ka : Ke (wQ (sS s)) (wQR (sS s)) h2 (pI (pI (pI h4 38 (sS s) (ni v.1)) 39 (sS s) 0) 28 7 (ni (sS s + 1))) := Ke_trans k16 (Ke_trans (Ke_mono (fun a j z => z.elim) (fun a j z => Or.inr (Or.inr z)) k4) k5)
        exact RwA_ke ka (fun a j z => by unfold wQ wR at z; omega) (fun a j z => by unfold wQR at z; omega) (by omega) (by omega) g.2
    · rw [if_neg y, if_neg y]
      rw [if_neg (show ¬ ni (sS s) < 8 by rw [show (8 : Int32) = ni 8 from rfl, ni_lt (by omega) (by omega)]; exact y), show (-7 : Int32) = -ni 7 from rfl, D7 (show Sh (pI h2 16 7 (-ni 1)) from s2) (by omega)] at b1
      simp only [Option.bind_some, Option.toList_some, List.cons_append, List.nil_append] at b1
      rw [e_122_98 (show Sh (pI (pI h2 16 7 (-ni 1)) 260 7 (hI (pI h2 16 7 (-ni 1)) 260 7 + 1)) from s2)] at b1
      exact ⟨_, b1, ref 7 (-ni 1) (by omega) (by omega)⟩
/-- the model's rows come to the sayings -/
def wL (S a k : Nat) : Prop := ((a = 275 ∨ a = 276 ∨ a = 277) ∧ 8 * S ≤ k ∧ k < 8 * S + 8) ∨ ((a = 278 ∨ a = 279) ∧ 64 * S ≤ k ∧ k < 64 * S + 64)
theorem L123i {S r : Nat} (hS : S < 8) (hr : r < 8) {o1 : Option am_V} : ∀ m j {h : am_H} (o2 : Option am_V), j + m = 8 → Sh h → ∃ h1 o2', am_E 123 (109, [some (vr (some 261)), o1, o2, some (vi (ni r)), some (vi (ni (8 * S + r))), some (vi (ni j))], [], h) = am_E 123 (48, [some (vr (some 261)), o1, o2', some (vi (ni (r + 1))), some (vi (ni (8 * S + r))), some (vi (ni 8))], [], h1) ∧ Kg (fun a k => (a = 278 ∨ a = 279) ∧ 8 * (8 * S + r) ≤ k ∧ k < 8 * (8 * S + r) + 8) h h1 ∧ ∀ i, i < 8 → hI h1 278 (8 * (8 * S + r) + i) = (if j ≤ i then hI h 292 (8 * r + i) else hI h 278 (8 * (8 * S + r) + i)) ∧ hI h1 279 (8 * (8 * S + r) + i) = if j ≤ i then hI h 293 (8 * r + i) else hI h 279 (8 * (8 * S + r) + i) := by
  intro m
  induction m with
  | zero =>
    intro j h o2 hj hs
    have e : j = 8 := by omega
    subst e
    refine ⟨h, am_nl o2, ?_, Kg_refl h, fun i hi => ⟨by rw [if_neg (by omega)], by rw [if_neg (by omega)]⟩⟩
    rw [e_123_109 hs, if_pos (show (8 : Int32) ≤ ni 8 by decide), ni_add1]
  | succ m ih =>
    intro j h o2 hj hs
    have kg : Kg (fun a k => (a = 278 ∨ a = 279) ∧ 8 * (8 * S + r) ≤ k ∧ k < 8 * (8 * S + r) + 8) h (pI (pI h 278 (8 * (8 * S + r) + j) (hI h 292 (8 * r + j))) 279 (8 * (8 * S + r) + j) (hI (pI h 278 (8 * (8 * S + r) + j) (hI h 292 (8 * r + j))) 293 (8 * r + j))) := Kg_pI (by omega) (Kg_pI (by omega) (Kg_refl h))
    obtain ⟨h1, o2', d, k, g⟩ := ih (j + 1) (h := pI (pI h 278 (8 * (8 * S + r) + j) (hI h 292 (8 * r + j))) 279 (8 * (8 * S + r) + j) (hI (pI h 278 (8 * (8 * S + r) + j) (hI h 292 (8 * r + j))) 293 (8 * r + j))) o2 (by omega) (Kg_Sh kg hs)
    refine ⟨h1, o2', ?_, Kg_trans kg k, fun i hi => ?_⟩
    · rw [e_123_109 hs, if_neg (show ¬ (8 : Int32) ≤ ni j by rw [show (8 : Int32) = ni 8 from rfl, ni_le (by omega) (by omega)]; omega), show (8 : Int32) * ni r + ni j = ni (8 * r + j) by rw [show (8 : Int32) = ni 8 from rfl, ni_mul, ni_add], show (8 : Int32) * ni (8 * S + r) + ni j = ni (8 * (8 * S + r) + j) by rw [show (8 : Int32) = ni 8 from rfl, ni_mul, ni_add], ixb _ (show 8 * r + j < 64 by omega) (by omega), ixb _ (show 8 * (8 * S + r) + j < 512 by omega) (by omega), ixb _ (show 8 * r + j < 64 by omega) (by omega), ixb _ (show 8 * (8 * S + r) + j < 512 by omega) (by omega), ni_add1]
      exact d
    · have gi := g i hi
      by_cases q : i = j
      · rw [if_pos (by omega), if_pos (by omega)]
        rw [if_neg (by omega), if_neg (by omega)] at gi
        rw [q] at gi ⊢
        exact ⟨gi.1.trans ((pn (by omega)).trans pe), gi.2.trans (pe.trans (pn (by omega)))⟩
      · by_cases q' : j + 1 ≤ i
        · rw [if_pos q', if_pos q'] at gi
          rw [if_pos (by omega), if_pos (by omega)]
          exact ⟨gi.1.trans ((pn (by omega)).trans (pn (by omega))), gi.2.trans ((pn (by omega)).trans (pn (by omega)))⟩
        · rw [if_neg q', if_neg q'] at gi
          rw [if_neg (by omega), if_neg (by omega)]
          exact ⟨gi.1.trans ((pn (by omega)).trans (pn (by omega))), gi.2.trans ((pn (by omega)).trans (pn (by omega)))⟩
def MN (h : am_H) (S j : Nat) (B : Nat → Nat → Nat) : Prop := ∀ r, r < j → hI h 275 (8 * S + r) = ni (B 0 r) ∧ hI h 276 (8 * S + r) = ni (B 1 r) ∧ hI h 277 (8 * S + r) = ni (B 2 r) ∧ (∀ i, i < B 1 r → hI h 278 (8 * (8 * S + r) + i) = ni (B 3 (8 * r + i))) ∧ ∀ i, i + 1 < B 1 r → hI h 279 (8 * (8 * S + r) + i) = ni (B 4 (8 * r + i))
theorem L123 {S n : Nat} (hS : S < 8) (n8 : n ≤ 8) {B : Nat → Nat → Nat} (b8 : ∀ r, r < n → B 1 r ≤ 8) {o1 : Option am_V} : ∀ m j {h : am_H} (o2 o4 o5 : Option am_V), j + m = n → Sh h → hI h 261 2 = ni S → hI h 261 42 = ni n → MB h n B → MN h S j B → ∃ h1, am_E 123 (48, [some (vr (some 261)), o1, o2, some (vi (ni j)), o4, o5], [], h) = some (some (vi (ni S)), h1) ∧ Kg (fun a k => wL S a k ∨ (a = 280 ∧ k = S) ∨ (a = 261 ∧ k = 2)) h h1 ∧ hI h1 261 2 = ni (S + 1) ∧ hI h1 280 S = ni 0 ∧ MN h1 S n B := by
  intro m
  induction m with
  | zero =>
    intro j h o2 o4 o5 hj hs h2 h42 mb mn
    have e : j = n := by omega
    subst e
    refine ⟨pI (pI h 280 S 0) 261 2 (ni (S + 1)), ?_, Kg_pI (by omega) (Kg_pI (by omega) (Kg_refl h)), pe, (pn (by omega)).trans pe, fun r hr => ?_⟩
    · rw [e_123_48 hs, h42, if_pos (show ni j ≤ ni j by rw [ni_le (by omega) (by omega)]; omega), h2, ixb _ hS (by omega), pn (by omega), h2, ni_add1]
    · obtain ⟨e1, e2, e3, e4, e5⟩ := mn r hr
      exact ⟨(pn (by omega)).trans ((pn (by omega)).trans e1), (pn (by omega)).trans ((pn (by omega)).trans e2), (pn (by omega)).trans ((pn (by omega)).trans e3), fun i hi => (pn (by omega)).trans ((pn (by omega)).trans (e4 i hi)), fun i hi => (pn (by omega)).trans ((pn (by omega)).trans (e5 i hi))⟩
  | succ m ih =>
    intro j h o2 o4 o5 hj hs h2 h42 mb mn
    have j8 : j < 8 := by omega
    obtain ⟨m1, m2, m3, m4, m5⟩ := mb j (by omega)
    have bj := b8 j (by omega)
    have b0 := e_123_48 (o1 := o1) (o2 := o2) (x3 := ni j) (o4 := o4) (o5 := o5) hs
    rw [h42, if_neg (show ¬ ni n ≤ ni j by rw [ni_le (by omega) (by omega)]; omega), h2, show (8 : Int32) * ni S + ni j = ni (8 * S + j) by rw [show (8 : Int32) = ni 8 from rfl, ni_mul, ni_add], ixb _ j8 (by omega), ixb _ (show 8 * S + j < 64 by omega) (by omega), ixb _ j8 (by omega), ixb _ (show 8 * S + j < 64 by omega) (by omega), ixb _ j8 (by omega), ixb _ (show 8 * S + j < 64 by omega) (by omega), m1, pn (by omega), m2, pn (by omega), pn (by omega), m3] at b0
    have k3 : Kg (fun a k => wL S a k ∨ (a = 280 ∧ k = S) ∨ (a = 261 ∧ k = 2)) h (pI (pI (pI h 275 (8 * S + j) (ni (B 0 j))) 276 (8 * S + j) (ni (B 1 j))) 277 (8 * S + j) (ni (B 2 j))) := Kg_pI (by unfold wL; omega) (Kg_pI (by unfold wL; omega) (Kg_pI (by unfold wL; omega) (Kg_refl h)))
    have hs3 := Kg_Sh k3 hs
    obtain ⟨h4, o2', d4, k4, g4⟩ := L123i (o1 := o1) hS j8 8 0 (h := pI (pI (pI h 275 (8 * S + j) (ni (B 0 j))) 276 (8 * S + j) (ni (B 1 j))) 277 (8 * S + j) (ni (B 2 j))) o2 rfl hs3
    have kk4 : Kg (fun a k => wL S a k ∨ (a = 280 ∧ k = S) ∨ (a = 261 ∧ k = 2)) h h4 := Kg_trans k3 (Kg_mono (fun a k z => by unfold wL; omega) k4)
    have hs4 := Kg_Sh k4 hs3
    have q4 : ∀ a j, a ≠ 278 → a ≠ 279 → hI h4 a j = hI (pI (pI (pI h 275 (8 * S + j) (ni (B 0 j))) 276 (8 * S + j) (ni (B 1 j))) 277 (8 * S + j) (ni (B 2 j))) a j ∨ True := fun _ _ _ _ => Or.inr trivial
    have r4 : ∀ a i, a ≠ 278 → a ≠ 279 → hI h4 a i = hI (pI (pI (pI h 275 (8 * S + j) (ni (B 0 j))) 276 (8 * S + j) (ni (B 1 j))) 277 (8 * S + j) (ni (B 2 j))) a i := fun a i n1 n2 => k4.2.2.2.2.1 a i (by omega)
    have o4' : ∀ a i, a ≠ 278 → a ≠ 279 → a ≠ 275 → a ≠ 276 → a ≠ 277 → hI h4 a i = hI h a i := fun a i n1 n2 n3 n4 n5 => (r4 a i n1 n2).trans ((pn (by omega)).trans ((pn (by omega)).trans (pn (by omega))))
    have mb4 : MB h4 n B := fun r hr => by
      obtain ⟨x1, x2, x3, x4, x5⟩ := mb r hr
      exact ⟨(o4' _ _ (by omega) (by omega) (by omega) (by omega) (by omega)).trans x1, (o4' _ _ (by omega) (by omega) (by omega) (by omega) (by omega)).trans x2, (o4' _ _ (by omega) (by omega) (by omega) (by omega) (by omega)).trans x3, fun i hi => (o4' _ _ (by omega) (by omega) (by omega) (by omega) (by omega)).trans (x4 i hi), fun i hi => (o4' _ _ (by omega) (by omega) (by omega) (by omega) (by omega)).trans (x5 i hi)⟩
    have mn4 : MN h4 S (j + 1) B := fun r hr => by
      by_cases q : r = j
      · subst q
        refine ⟨(r4 _ _ (by omega) (by omega)).trans ((pn (by omega)).trans ((pn (by omega)).trans pe)), (r4 _ _ (by omega) (by omega)).trans ((pn (by omega)).trans pe), (r4 _ _ (by omega) (by omega)).trans pe, fun i hi => ?_, fun i hi => ?_⟩
        · have g := (g4 i (by omega)).1
          rw [if_pos (Nat.zero_le _)] at g
          exact g.trans ((pn (by omega)).trans ((pn (by omega)).trans ((pn (by omega)).trans (m4 i hi))))
        · have g := (g4 i (by omega)).2
          rw [if_pos (Nat.zero_le _)] at g
          exact g.trans ((pn (by omega)).trans ((pn (by omega)).trans ((pn (by omega)).trans (m5 i hi))))
      · obtain ⟨e1, e2, e3, e4, e5⟩ := mn r (by omega)
        have br := b8 r (by omega)
        refine ⟨(r4 _ _ (by omega) (by omega)).trans ((pn (by omega)).trans ((pn (by omega)).trans ((pn (by omega)).trans e1))), (r4 _ _ (by omega) (by omega)).trans ((pn (by omega)).trans ((pn (by omega)).trans ((pn (by omega)).trans e2))), (r4 _ _ (by omega) (by omega)).trans ((pn (by omega)).trans ((pn (by omega)).trans ((pn (by omega)).trans e3))), fun i hi => ?_, fun i hi => ?_⟩
        · rw [k4.2.2.2.2.1 278 _ (by omega)]
          exact (pn (by omega)).trans ((pn (by omega)).trans ((pn (by omega)).trans (e4 i hi)))
        · rw [k4.2.2.2.2.1 279 _ (by omega)]
          exact (pn (by omega)).trans ((pn (by omega)).trans ((pn (by omega)).trans (e5 i hi)))
    obtain ⟨h5, d5, k5, f1, f2, f3⟩ := ih (j + 1) (h := h4) o2' (some (vi (ni (8 * S + j)))) (some (vi (ni 8))) (by omega) hs4 ((o4' 261 2 (by omega) (by omega) (by omega) (by omega) (by omega)).trans h2) ((o4' 261 42 (by omega) (by omega) (by omega) (by omega) (by omega)).trans h42) mb4 mn4
    exact ⟨h5, b0.trans (d4.trans d5), Kg_trans kk4 k5, f1, f2, f3⟩
theorem M123 {h : am_H} (V : Vs s) (hs : Sh h) (c : MS h s) {k : Nat} (hk : k < 8) (zz : sD s 17 k = 1) (z100 : sD s 19 k ≤ 100) : ∃ h1, am_D 123 [vr (some 261), vi (ni k)] h = some (some (vi (bkA s (bkq s k))), h1) ∧ Mok h h1 (bkS s (bkq s k)) := by
  have vS' := vS V
  have vM' := vM V
  obtain ⟨t1', p38, p4, k1⟩ := hTx_t c hk zz z100
  have hs1 := Kg_Sh k1 hs
  obtain ⟨h2, d2, k2, r2⟩ := D91 (B := fun _ _ => 0) hs1 t1' vM' (by rw [k1.2.2.2.2.1 261 0 (by omega)]; exact mM c) p38
  have hs2 := Kg_Sh k2 hs1
  have kk2 : Kg (fun a j => scm a j ∨ (a = 261 ∧ j = 4)) h h2 := Kg_trans (Kg_mono (fun a j z => by unfold scm; omega) k1) (Kg_mono (fun a j z => by unfold wV2 at z; unfold scm; omega) k2)
  have q2 : ∀ a j, ¬ (scm a j ∨ (a = 261 ∧ j = 4)) → hI h2 a j = hI h a j := fun a j n => kk2.2.2.2.2.1 a j n
  have e4 : hI h2 261 4 = -ni 1 := by rw [k2.2.2.2.2.1 261 4 (by unfold wV2; omega)]; exact p4
  have b5 : am_D 95 [vr (some 261), vi (ni k), vi 1] h = am_E 95 (48, [some (vr (some 261)), some (vi (ni k)), some (vi 1), some (vi (ni 0))], [vi (bi (isR (bkq s k)))], h2) := by
    have e283 : hI (pI (pI h 261 37 (ni (100 * k))) 261 38 (ni 0)) 283 k = ni (sD s 19 k) := (pn (by omega)).trans ((pn (by omega)).trans (mHn c hk zz))
    rw [d_95 hs, D50t hs c hk zz]
    simp only [Option.bind_some, Option.toList_some, List.cons_append, List.nil_append]
    rw [e_95_5 hs, if_pos (show ni 0 = 0 from rfl), ixb _ hk (by omega), if_neg (show ¬ (1 : Int32) = 0 by decide), show (100 : Int32) * ni k = ni (100 * k) by rw [show (100 : Int32) = ni 100 from rfl, ni_mul], show pI (pI h 261 37 (ni (100 * k))) 261 38 0 = pI (pI h 261 37 (ni (100 * k))) 261 38 (ni 0) from rfl, e283]
    have d2' : am_D 91 [vr (some 261)] (pI (pI (pI (pI h 261 37 (ni (100 * k))) 261 38 (ni 0)) 261 39 (ni (sD s 19 k))) 261 4 (-1)) = some (some (vi (bi (isR (bkq s k)))), h2) := d2
    rw [d2']
    simp only [Option.bind_some, Option.toList_some, List.cons_append, List.nil_append]
  rw [e_95_48 hs2] at b5
  have rq : rB h2 (bkq s k) := r2
  have bb := bkq_b V (k := k)
  cases e : bkq s k with
  | inl q =>
    rw [e] at rq b5
    have rq' : hI h2 261 41 = ni q := rq
    rw [if_pos (show bi (isR (.inl q : Nat ⊕ (Nat × (Nat → Nat → Nat)))) = 0 from rfl), e_95_63 hs2, rq'] at b5
    have kx : Kg (wY 6) h (pI h2 261 4 (ni q)) := Kg_pI (Or.inr (Or.inl ⟨rfl, rfl⟩)) (Kg_mono (fun a j z => z.elim Or.inl (fun w => Or.inr (Or.inl w))) kk2)
    have hs3 := Kg_Sh kx hs
    have b0 := d_123 (x1 := ni k) hs
    rw [b5] at b0
    simp only [Option.bind_some, Option.toList_some, List.cons_append, List.nil_append] at b0
    rw [e_123_6 hs3, if_neg (show ¬ (-6 : Int32) = 0 by decide), show (-6 : Int32) = -ni 6 from rfl, D10 hs3 (by omega)] at b0
    simp only [Option.bind_some, Option.toList_some, List.cons_append, List.nil_append] at b0
    rw [e_123_16 (show Sh (pI (pI h2 261 4 (ni q)) 262 6 (hI (pI h2 261 4 (ni q)) 262 6 + 1)) from hs3)] at b0
    refine ⟨_, b0, Mokx V c (Kg_pI (Or.inr (Or.inr ⟨rfl, rfl⟩)) kx) ((pn (by omega)).trans pe) ?_⟩
    rw [pe, pn (by omega), q2 262 6 (by unfold scm; omega)]
  | inr v =>
    have vb := bb.2 v e
    rw [e] at rq b5
    have rq' : hI h2 261 42 = ni v.1 ∧ MB h2 v.1 v.2 := rq
    have e2 : hI h2 261 2 = ni (sS s) := (q2 261 2 (by unfold scm; omega)).trans (mS c)
    rw [if_neg (show ¬ bi (isR (.inr v : Nat ⊕ (Nat × (Nat → Nat → Nat)))) = 0 from show ¬ bi true = 0 by decide)] at b5
    have b0 := d_123 (x1 := ni k) hs
    rw [b5] at b0
    simp only [Option.bind_some, Option.toList_some, List.cons_append, List.nil_append] at b0
    rw [e_123_6 hs2, if_pos (show (0 : Int32) = 0 from rfl), e2] at b0
    show ∃ h1, _ = some (some (vi (if sS s < 8 then ni (sS s) else -ni 7)), h1) ∧ Mok h h1 (if sS s < 8 then sBk s v.1 v.2 else sRf (sSx s (-ni 1)) 7)
    by_cases y : sS s < 8
    · have h3K : Kg (wS (sS s)) h (pI h2 274 (sS s) (ni v.1)) := Kg_pI (by unfold wS; omega) (Kg_mono (fun a j z => z.elim Or.inl (fun w => Or.inr (Or.inl w))) kk2)
      have hs3 := Kg_Sh h3K hs
      have b8 : ∀ r, r < v.1 → v.2 1 r ≤ 8 := fun r hr => (vb.2.2 r hr).2.2.1
      obtain ⟨h3, d3, k3, f1, f2, f3⟩ := L123 (o1 := am_nl (some (vi (ni k)))) y vb.2.1 b8 v.1 0 (h := pI h2 274 (sS s) (ni v.1)) (some (vi 0)) none none (by omega) hs3 ((pn (by omega)).trans e2) ((pn (by omega)).trans rq'.1) (fun r hr => by
        obtain ⟨x1, x2, x3, x4, x5⟩ := rq'.2 r hr
        exact ⟨(pn (by omega)).trans x1, (pn (by omega)).trans x2, (pn (by omega)).trans x3, fun i hi => (pn (by omega)).trans (x4 i hi), fun i hi => (pn (by omega)).trans (x5 i hi)⟩) (fun r hr => by omega)
      rw [if_neg (show ¬ ni (sS s) = 8 by rw [show (8 : Int32) = ni 8 from rfl, ni_eq (by omega) (by omega)]; omega), ixb _ y (by omega), rq'.1] at b0
      rw [if_pos y, if_pos y]
      refine ⟨h3, b0.trans d3, MSb2 V y vb.2.1 vb.2.2 c (Kg_trans h3K (Kg_mono (fun a j z => by unfold wL at z; unfold wS; omega) k3)) ?_ f1 ?_ f2 f3⟩
      · rw [k3.2.2.2.2.1 261 4 (by unfold wL; omega)]; exact (pn (by omega)).trans e4
      · rw [k3.2.2.2.2.1 274 _ (by unfold wL; omega)]; exact pe
    · have kx : Kg (wY 7) h h2 := Kg_mono (fun a j z => z.elim Or.inl (fun w => Or.inr (Or.inl w))) kk2
      rw [if_pos (show ni (sS s) = 8 by rw [show sS s = 8 by omega]; rfl), show (-7 : Int32) = -ni 7 from rfl, D10 hs2 (by omega)] at b0
      simp only [Option.bind_some, Option.toList_some, List.cons_append, List.nil_append] at b0
      rw [e_123_32 (show Sh (pI h2 262 7 (hI h2 262 7 + 1)) from hs2)] at b0
      rw [if_neg y, if_neg y]
      refine ⟨_, b0, Mokx V c (Kg_pI (Or.inr (Or.inr ⟨rfl, rfl⟩)) kx) ((pn (by omega)).trans e4) ?_⟩
      rw [pe, q2 262 7 (by unfold scm; omega)]
end BKF
theorem A18 : ∀ a1, Alike 122 123 [vi a1] := fun a1 => glue fun s V => by
  rcases wn_cases V a1 with ⟨k, hk, rfl, zz, z1, z100⟩ | ⟨e, he, he0, w⟩
  · exact ⟨bkA s (bkq s k), bkS s (bkq s k), bkS_V V, fun h hs c => C122 V hs c hk zz z100, fun h hs c => M123 V hs c hk zz z100⟩
  · refine refg V e (by omega) (fun h hs c => ?_) (fun h hs c => ?_)
    · rw [d_122 hs, D12f hs V c w]
      have ne : ¬ -ni e = 0 := by rw [show (0 : Int32) = ni 0 from rfl, ng_eq' (by omega) (by omega) (by omega)]; exact id
      simp only [Option.bind_some, Option.toList_some, List.cons_append, List.nil_append]
      rw [e_122_5 hs, if_neg ne, D7 hs (by omega)]
      simp only [Option.bind_some, Option.toList_some, List.cons_append, List.nil_append]
      exact e_122_15 (show Sh (pI h 260 e (hI h 260 e + 1)) from hs)
    · have ne : ¬ -ni e = 0 := by rw [show (0 : Int32) = ni 0 from rfl, ng_eq' (by omega) (by omega) (by omega)]; exact id
      have b5 : am_D 95 [vr (some 261), vi a1, vi 1] h = some (some (vi (-ni e)), h) := by
        rw [d_95 hs, D50f hs c w]
        simp only [Option.bind_some, Option.toList_some, List.cons_append, List.nil_append]
        rw [e_95_5 hs, if_neg ne]
      rw [d_123 hs, b5]
      simp only [Option.bind_some, Option.toList_some, List.cons_append, List.nil_append]
      rw [e_123_6 hs, if_neg ne, D10 hs (by omega)]
      simp only [Option.bind_some, Option.toList_some, List.cons_append, List.nil_append]
      exact e_123_16 (show Sh (pI h 262 e (hI h 262 e + 1)) from hs)
