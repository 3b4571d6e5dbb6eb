/-! restore -/
abbrev cut (s : Sg) (k : Nat) : Prop := sD s 17 k = 2 ∧ ¬ sD s 20 k < sD s 23 3
def sRs (s : Sg) : Sg := (fun i k => if i ≤ 16 then sKp s i k else if i = 17 then (if cut s k then 0 else sD s 17 k) else if i = 22 then sD s 23 (k + 1) else sD s i k, sE s, sF s, sX s)
section RST
variable {s : Sg}
theorem sRs_lo {i : Nat} (h : i ≤ 16) : sD (sRs s) i = sKp s i := by
  funext k
  show (if i ≤ 16 then sKp s i k else if i = 17 then (if cut s k then 0 else sD s 17 k) else if i = 22 then sD s 23 (k + 1) else sD s i k) = _
  rw [if_pos h]
theorem sRs_hi {i : Nat} (h : 17 < i) (h2 : i ≠ 22) : sD (sRs s) i = sD s i := by
  funext k
  show (if i ≤ 16 then sKp s i k else if i = 17 then (if cut s k then 0 else sD s 17 k) else if i = 22 then sD s 23 (k + 1) else sD s i k) = _
  rw [if_neg (by omega), if_neg (by omega), if_neg h2]
theorem sRs_17 {k : Nat} : sD (sRs s) 17 k = if cut s k then 0 else sD s 17 k := rfl
theorem sRs_M : sM (sRs s) = sD s 23 1 := rfl
theorem sRs_R : sR (sRs s) = sD s 23 2 := rfl
theorem sRs_S : sS (sRs s) = sD s 23 3 := rfl
theorem sRs_F : sD (sRs s) 22 3 = sD s 23 4 := rfl
theorem sRs_K : sKp (sRs s) = sKp s := by funext i k; show sD (sRs s) (32 + i) k = sD s (32 + i) k; rw [sRs_hi (by omega) (by omega)]
theorem sRs_V (V : Vs s) (z : sD s 23 0 = 1) : Vs (sRs s) := by
  obtain ⟨v1, v2, v3, v4, v5⟩ := V
  rcases v4 with v4 | ⟨_, w1, w2, w3, w4⟩
  · rw [v4] at z; cases z
  refine ⟨?_, ?_, fun i hi => ?_, Or.inr ⟨?_, ?_, ?_, ?_, fun t ht => ?_⟩, ?_⟩
  · rw [sRs_M, sRs_R, sRs_S]; exact Vw_eq (fun i hi => sRs_lo hi) w1
  · rw [sRs_F, sRs_R]; exact w2
  · rw [sRs_17, sRs_hi (i := 18) (by omega) (by omega), sRs_hi (i := 19) (by omega) (by omega), sRs_hi (i := 20) (by omega) (by omega), sRs_hi (i := 21) (by omega) (by omega), sRs_lo (i := 10) (by omega), sRs_S]
    by_cases y : cut s i
    · rw [if_pos y]; exact Or.inl rfl
    · rw [if_neg y]
      rcases v3 i hi with h | h | ⟨h1, h2, h3⟩
      · exact Or.inl h
      · exact Or.inr (Or.inl h)
      · have lt : sD s 20 i < sD s 23 3 := Decidable.byContradiction fun x => y ⟨h1, x⟩
        exact Or.inr (Or.inr ⟨h1, lt, by rw [w4 _ lt]; exact h3⟩)
  · rw [sRs_hi (i := 23) (by omega) (by omega)]; exact z
  · rw [sRs_K, sRs_hi (i := 23) (by omega) (by omega)]; exact w1
  · rw [sRs_hi (i := 23) (by omega) (by omega)]; exact w2
  · rw [sRs_hi (i := 23) (by omega) (by omega), sRs_S]; exact Nat.le_refl _
  · rw [sRs_K, sRs_lo (i := 10) (by omega)]
  · rw [sRs_hi (i := 24) (by omega) (by omega)]; exact v5
variable {h h1 h' : am_H}
theorem sRs_C (V : Vs s) (z : sD s 23 0 = 1) (hs : Sh h) (c : CS h s) (b : BC 0 110 h h1) (e : Kg (fun a _ => a = 27) h1 h') (g : ∀ j, j < 8 → hI h' 27 j = if cut s j then -ni 1 else hI h 27 j) : Cok h h' (sRs s) := by
  have hs1 : Sh h1 := BC_Sh (Or.inl ⟨rfl, rfl⟩) b hs
  obtain ⟨a1, a2, a3, a4, a5, a6, ⟨a7, a8⟩, a9, a10⟩ := c
  have v4 := V.2.2.2.1
  rcases v4 with v4 | ⟨_, v1, w2, w3, w4⟩
  · rw [v4] at z; cases z
  have a5 := a10 z
  have w0 := BC_fr (Or.inl ⟨rfl, rfl⟩) b v1 a5
  have w1 := BC_cp (Or.inl ⟨rfl, rfl⟩) b v1 a5
  have q : ∀ a k, ¬ (28 ≤ a ∧ a < 138) → a ≠ 27 → hI h' a k = hI h a k := fun a k n1 n2 => by
    rw [e.2.2.2.2.1 a k n2]; exact b.2.2.2.2.2.1 a k (by omega)
  have ql : ∀ a k, ¬ (28 ≤ a ∧ a < 138) → a ≠ 27 → hL h' a k = hL h a k := fun a k n1 n2 => by
    rw [e.2.2.2.2.2 a k n2]; exact b.2.2.2.2.2.2.1 a k (by omega)
  refine ⟨Kg_Sh e hs1, ?_, fun a k z1 z2 z3 => ⟨q a k (by omega) (by omega), ql a k (by omega) (by omega)⟩, ?_, ?_, ?_, ?_, fun k => q 15 k (by omega) (by omega)⟩
  · refine ⟨?_, fun j hj => ?_, fun j hj => ?_, fun j hj => ?_, ?_, fun i hi => ?_, ⟨?_, fun i h1' h2' => ?_⟩, ?_, fun _ => ?_⟩
    · rw [q _ _ (by omega) (by omega)]; exact a1
    · rw [q _ _ (by omega) (by omega)]; exact a2 j hj
    · rw [q _ _ (by omega) (by omega)]; exact a3 j hj
    · rw [q _ _ (by omega) (by omega)]; exact a4 j hj
    · rw [sRs_M, sRs_R, sRs_S, sRs_F]
      exact CW_eq (fun i hi => sRs_lo hi) (CW_fr (Or.inl rfl) (fun a k z => by omega) e v1 w1)
    · rw [sRs_17, sRs_hi (i := 18) (by omega) (by omega), sRs_hi (i := 19) (by omega) (by omega), sRs_hi (i := 20) (by omega) (by omega), sRs_hi (i := 21) (by omega) (by omega), q 26 _ (by omega) (by omega), g i hi]
      obtain ⟨b1, b2, b3⟩ := a6 i hi
      by_cases y : cut s i
      · rw [if_pos y, if_pos y]
        exact ⟨fun _ => rfl, fun x => absurd x (by decide), fun x => absurd x (by decide)⟩
      · rw [if_neg y, if_neg y]
        exact ⟨b1, fun z => ⟨(b2 z).1, (b2 z).2.1, fun y hy => by rw [ql _ _ (by omega) (by omega)]; exact (b2 z).2.2 y hy⟩, b3⟩
    · rw [sRs_hi (i := 24) (by omega) (by omega), q _ _ (by omega) (by omega)]; exact a7
    · rw [sRs_hi (i := 24) (by omega) (by omega)] at h1'
      rw [sRs_hi (i := 25) (by omega) (by omega), q _ _ (by omega) (by omega)]; exact a8 i h1' h2'
    · rw [sRs_hi (i := 23) (by omega) (by omega), q _ _ (by omega) (by omega)]; exact a9
    · rw [sRs_K, sRs_hi (i := 23) (by omega) (by omega)]
      exact CW_fr (Or.inr rfl) (fun a k z => by omega) e v1 w0
  · rw [e.1, b.1]; exact Nat.le_refl _
  · rw [e.1, b.1]; exact Nat.le_add_right _ _
  · rw [e.2.1, b.2.1]; exact Nat.le_add_right _ _
  · rw [e.2.2.1, b.2.2.1]
theorem sRs_Mk (V : Vs s) (z : sD s 23 0 = 1) (c : MS h s) (e : Kg (fun a k => (263 ≤ a ∧ a ≤ 280 ∧ a ≠ 272) ∨ a = 281 ∨ (a = 261 ∧ k ≤ 3)) h h1) (e0 : hI h1 261 0 = ni (sD s 23 1)) (e1 : hI h1 261 1 = ni (sD s 23 2)) (e2 : hI h1 261 2 = ni (sD s 23 3)) (e3 : hI h1 261 3 = fI (sD s 23 4)) (g : ∀ i, i < 17 → ∀ k, k < szk i → hI h1 (mc i) k = hI h 302 (ko i + k)) (g2 : ∀ j, j < 8 → hI h1 281 j = ni (if cut s j then 0 else sD s 17 j)) : Mok h h1 (sRs s) := by
  refine ⟨?_, Kg_mono (fun a k z => by unfold wm; omega) e⟩
  obtain ⟨⟨a1, a2, a3, a4, a5⟩, a6, a7, a8, a9, a10, ⟨a11, a12⟩, a13, a14⟩ := c
  have v4 := V.2.2.2.1
  rcases v4 with v4 | ⟨_, v1, w2, w3, w4⟩
  · rw [v4] at z; cases z
  have q : ∀ a k, ¬ ((263 ≤ a ∧ a ≤ 280 ∧ a ≠ 272) ∨ a = 281 ∨ (a = 261 ∧ k ≤ 3)) → hI h1 a k = hI h a k := fun a k n => e.2.2.2.2.1 a k n
  obtain ⟨b1, b2, b3, b4⟩ := a14 z
  refine ⟨⟨e0, e1, e2, e3, ?_⟩, fun j hj => ?_, fun j hj => ?_, fun j hj => ?_, ?_, fun i hi => ?_, ⟨?_, fun i h1' h2' => ?_⟩, ?_, fun _ => ⟨?_, ?_, ?_, ?_⟩⟩
  · rw [q _ _ (by omega)]; exact a5
  · rw [q _ _ (by omega)]; exact a6 j hj
  · rw [q _ _ (by omega)]; exact a7 j hj
  · rw [q _ _ (by omega)]; exact a8 j hj
  · rw [sRs_M, sRs_R, sRs_S]
    exact MP_eq (fun i hi => sRs_lo hi) (szk_K (h := h) v1 (fun i k h0 hk => g i (by omega) k hk) b4)
  · rw [sRs_17, sRs_hi (i := 18) (by omega) (by omega), sRs_hi (i := 19) (by omega) (by omega), sRs_hi (i := 20) (by omega) (by omega), sRs_hi (i := 21) (by omega) (by omega), g2 i hi, q _ _ (by omega), q _ _ (by omega), q _ _ (by omega)]
    obtain ⟨b1, b2, b3⟩ := a10 i hi
    by_cases y : cut s i
    · rw [if_pos y]
      exact ⟨rfl, fun x => absurd x (by decide), fun x => absurd x (by decide)⟩
    · rw [if_neg y]
      exact ⟨rfl, fun z => ⟨(b2 z).1, (b2 z).2.1, fun y hy => by rw [e.2.2.2.2.2 _ _ (by omega)]; exact (b2 z).2.2 y hy⟩, b3⟩
  · rw [sRs_hi (i := 24) (by omega) (by omega), q _ _ (by omega)]; exact a11
  · rw [sRs_hi (i := 24) (by omega) (by omega)] at h1'
    rw [sRs_hi (i := 25) (by omega) (by omega), q _ _ (by omega)]; exact a12 i h1' h2'
  · rw [sRs_hi (i := 23) (by omega) (by omega), q _ _ (by omega)]; exact a13
  · rw [sRs_hi (i := 23) (by omega) (by omega), q _ _ (by omega)]; exact b1
  · rw [sRs_hi (i := 23) (by omega) (by omega), q _ _ (by omega)]; exact b2
  · rw [sRs_hi (i := 23) (by omega) (by omega), q _ _ (by omega)]; exact b3
  · rw [sRs_K, sRs_hi (i := 23) (by omega) (by omega)]
    exact MP_congr v1 (fun i k _ _ _ _ _ _ _ => q 302 _ (by omega)) b4
-- the shelves
theorem D24k (hs : Sh h) {D : Nat → Nat → Nat} {M nR nS F a b : Nat} (V : Vw D M nR nS) (cw : CW h 0 D M nR nS F) (ha : a < 8) (hb : b < 8) : am_D 24 [vr (some 28), vi (ni a), vi (ni b)] h = some (some (vr (if a < nS ∧ b < D 10 a then hR h 37 (8 * a + b) else none)), h) := by
  have v3 := V.2.2.1
  have c7 : hI h 28 7 = ni nS := cw.1.2.2.1
  have n0 : ∀ x : Nat, x < 8 → ¬ ni x < (0 : Int32) := fun x hx => by
    rw [show (0 : Int32) = ni 0 from rfl, ni_lt (by omega) (by omega)]; omega
  rw [d_24 hs, d_23 hs, if_neg (n0 a ha), c7]
  by_cases x : a < nS
  · have v10 : D 10 a ≤ 8 := (V.2.2.2.2.2 a x).1.2.1
    have c38 : hI h 38 a = ni (D 10 a) := (cw.2.2.2 a x).1
    rw [if_neg (show ¬ ni nS ≤ ni a by rw [ni_le (by omega) (by omega)]; omega)]
    simp only [Option.bind_some, Option.toList_some, List.cons_append, List.nil_append]
    rw [e_24_5 hs, if_neg (show ¬ (1 : Int32) = 0 by decide), if_neg (n0 b hb), ixb _ ha (by omega), c38]
    by_cases y : b < D 10 a
    · rw [if_pos (show ni b < ni (D 10 a) by rw [ni_lt (by omega) (by omega)]; exact y), if_pos ⟨x, y⟩, show ni a * (8 : Int32) + ni b = ni (8 * a + b) by rw [show (8 : Int32) = ni 8 from rfl, ni_mul, ni_add, Nat.mul_comm], ixb _ (show 8 * a + b < 64 by omega) (by omega)]
    · rw [if_neg (show ¬ ni b < ni (D 10 a) by rw [ni_lt (by omega) (by omega)]; exact y), if_neg (fun w => y w.2)]
  · rw [if_pos (show ni nS ≤ ni a by rw [ni_le (by omega) (by omega)]; omega)]
    simp only [Option.bind_some, Option.toList_some, List.cons_append, List.nil_append]
    rw [e_24_5 hs, if_pos rfl, if_neg (fun w => x w.1)]
theorem L272 (V : Vs s) (z : sD s 23 0 = 1) {h0 : am_H} (c0 : CS h0 s) : ∀ (m : Nat) {h : am_H} {i : Nat}, i + m = 8 → Sh h → CW h 0 (sKp s) (sD s 23 1) (sD s 23 2) (sD s 23 3) (sD s 23 4) → (∀ j, i ≤ j → j < 8 → hI h 27 j = hI h0 27 j) → ∃ h', am_E 272 (27, [some (vr (some 16)), some (vi (ni i))], [], h) = some (some (vi (ni (sD s 23 3))), h') ∧ Kg (fun a k => a = 27 ∧ i ≤ k) h h' ∧ ∀ j, i ≤ j → j < 8 → hI h' 27 j = if cut s j then -ni 1 else hI h0 27 j := by
  have v4 := V.2.2.2.1
  rcases v4 with v4 | ⟨_, v1, w2, w3, w4⟩
  · rw [v4] at z; cases z
  have vS' := vS V
  intro m
  induction m with
  | zero =>
    intro h i hi hs cw g
    refine ⟨h, ?_, Kg_refl h, fun j l1 l2 => by omega⟩
    rw [e_272_27 hs, if_pos (show (8 : Int32) ≤ ni i by rw [show (8 : Int32) = ni 8 from rfl, ni_le (by omega) (by omega)]; omega), show hI h 28 7 = ni (sD s 23 3) from cw.1.2.2.1]
  | succ m ih =>
    intro h i hi hs cw g
    have hi8 : i < 8 := by omega
    have gi := g i (Nat.le_refl _) hi8
    -- go on with the same cells, or with one cleared
    have keep : ∀ (o : Option am_V), ¬ cut s i → am_E 272 (27, [some (vr (some 16)), some (vi (ni i))], [], h) = am_E 272 (76, [some (vr (some 16)), some (vi (ni i))], [], h) → ∃ h', am_E 272 (27, [some (vr (some 16)), some (vi (ni i))], [], h) = some (some (vi (ni (sD s 23 3))), h') ∧ Kg (fun a k => a = 27 ∧ i ≤ k) h h' ∧ ∀ j, i ≤ j → j < 8 → hI h' 27 j = if cut s j then -ni 1 else hI h0 27 j := by
      intro o nc e
      obtain ⟨h', d, k, gg⟩ := ih (h := h) (i := i + 1) (by omega) hs cw (fun j l1 l2 => g j (by omega) l2)
      refine ⟨h', ?_, Kg_mono (fun a j y => by omega) k, fun j l1 l2 => ?_⟩
      · rw [e, e_272_76 hs, ni_add1]; exact d
      · by_cases y : j = i
        · subst y
          rw [k.2.2.2.2.1 27 j (by omega), if_neg nc]; exact gi
        · exact gg j (by omega) l2
    have lp : am_E 272 (27, [some (vr (some 16)), some (vi (ni i))], [], h) = (am_D 16 [vr (some 16), vi (ni i)] h).bind fun q9 => am_E 272 (38, [some (vr (some 16)), some (vi (ni i))], q9.1.toList ++ [], q9.2) := by
      rw [e_272_27 hs, if_neg (show ¬ (8 : Int32) ≤ ni i by rw [show (8 : Int32) = ni 8 from rfl, ni_le (by omega) (by omega)]; omega)]
    rcases V.2.2.1 i hi8 with y | ⟨y, y2, y3⟩ | ⟨y, y2, y3⟩
    · refine keep none (fun x => by rw [x.1] at y; cases y) ?_
      have d16 : am_D 16 [vr (some 16), vi (ni i)] h = some (some (vi 0), h) := by
        rw [d_16 hs, ixb _ hi8 (by omega), gi, cH0 c0 hi8 y, if_pos (show -ni 1 = -1 from rfl)]
      rw [lp, d16]
      simp only [Option.bind_some, Option.toList_some, List.cons_append, List.nil_append]
      rw [e_272_38 hs, if_pos rfl]
    · refine keep none (fun x => by rw [x.1] at y; cases y) ?_
      have d16 : am_D 16 [vr (some 16), vi (ni i)] h = some (some (vi 0), h) := by
        rw [d_16 hs, ixb _ hi8 (by omega), ixb _ hi8 (by omega), gi, cH1 c0 hi8 y, if_neg (show ¬ ni (100 + sD s 18 i) = -1 by rw [show (-1 : Int32) = -ni 1 from rfl, ng_eq (by omega) (by omega) (by omega)]; exact id), if_pos (show (100 : Int32) ≤ ni (100 + sD s 18 i) by rw [show (100 : Int32) = ni 100 from rfl, ni_le (by omega) (by omega)]; omega)]
      rw [lp, d16]
      simp only [Option.bind_some, Option.toList_some, List.cons_append, List.nil_append]
      rw [e_272_38 hs, if_pos rfl]
    · have b8 := vN V y2
      have d16 : am_D 16 [vr (some 16), vi (ni i)] h = some (some (vi 1), h) := by
        rw [d_16 hs, ixb _ hi8 (by omega), ixb _ hi8 (by omega), gi, cH2 c0 hi8 y, if_neg (show ¬ ni (10 * sD s 20 i + sD s 21 i) = -1 by rw [show (-1 : Int32) = -ni 1 from rfl, ng_eq (by omega) (by omega) (by omega)]; exact id), if_neg (show ¬ (100 : Int32) ≤ ni (10 * sD s 20 i + sD s 21 i) by rw [show (100 : Int32) = ni 100 from rfl, ni_le (by omega) (by omega)]; omega)]
      have dv : ni (10 * sD s 20 i + sD s 21 i) / (10 : Int32) = ni (sD s 20 i) := by
        rw [show (10 : Int32) = ni 10 from rfl, ni_div (by omega) (by omega)]; congr 1; omega
      have md : ni (10 * sD s 20 i + sD s 21 i) - ni (sD s 20 i) * (10 : Int32) = ni (sD s 21 i) := by
        rw [show (10 : Int32) = ni 10 from rfl, ni_mul, ni_sub (by omega)]; congr 1; omega
      have st : am_E 272 (27, [some (vr (some 16)), some (vi (ni i))], [], h) = am_E 272 (66, [some (vr (some 16)), some (vi (ni i))], [vr (if sD s 20 i < sD s 23 3 ∧ sD s 21 i < sKp s 10 (sD s 20 i) then hR h 37 (8 * sD s 20 i + sD s 21 i) else none)], h) := by
        rw [lp, d16]
        simp only [Option.bind_some, Option.toList_some, List.cons_append, List.nil_append]
        rw [e_272_38 hs, if_neg (show ¬ (1 : Int32) = 0 by decide), ixb _ hi8 (by omega), ixb _ hi8 (by omega), gi, cH2 c0 hi8 y, dv, md, D24k hs v1 cw (by omega) (by omega)]
        simp only [Option.bind_some, Option.toList_some, List.cons_append, List.nil_append]
      by_cases x : sD s 20 i < sD s 23 3
      · refine keep none (fun w => w.2 x) ?_
        have x2 : sD s 21 i < sKp s 10 (sD s 20 i) := by rw [w4 _ x]; exact y3
        obtain ⟨a, w, l, q1, qq⟩ := (cw.2.2.2 _ x).2.2 _ x2
        have q1' : hR h 37 (8 * sD s 20 i + sD s 21 i) = some a := q1
        rw [st, if_pos ⟨x, x2⟩, q1', e_272_66_1 hs (qR qq)]
      · obtain ⟨h', d, k, gg⟩ := ih (h := pI h 27 i (-1)) (i := i + 1) (by omega) hs (CW_fr (Or.inl rfl) (W := fun a _ => a = 27) (fun a k z => by omega) (Kg_pI rfl (Kg_refl h)) v1 cw) (fun j l1 l2 => by rw [hI_pI, if_neg (by omega)]; exact g j (by omega) l2)
        refine ⟨h', ?_, Kg_trans (Kg_pI ⟨rfl, Nat.le_refl _⟩ (Kg_refl h)) (Kg_mono (fun a j y => by omega) k), fun j l1 l2 => ?_⟩
        · rw [st, if_neg (fun w => x w.1), e_272_66 hs, ixb _ hi8 (by omega), e_272_76 (h := pI h 27 i (-1)) hs, ni_add1]; exact d
        · by_cases w : j = i
          · subst w
            rw [k.2.2.2.2.1 27 j (by omega), pe, if_pos ⟨y, x⟩]; rfl
          · exact gg j (by omega) l2
theorem L273 (V : Vs s) (z : sD s 23 0 = 1) {h0 : am_H} (c0 : MS h0 s) : ∀ (m : Nat) {h : am_H} {i : Nat}, i + m = 8 → Sh h → hI h 261 2 = ni (sD s 23 3) → (∀ j, j < 8 → hI h 284 j = hI h0 284 j) → (∀ j, i ≤ j → j < 8 → hI h 281 j = hI h0 281 j) → ∃ h', am_E 273 (54, [some (vr (some 261)), some (vi (ni i))], [], h) = some (some (vi (ni (sD s 23 3))), h') ∧ Kg (fun a k => a = 281 ∧ i ≤ k) h h' ∧ ∀ j, i ≤ j → j < 8 → hI h' 281 j = ni (if cut s j then 0 else sD s 17 j) := by
  have v4 := V.2.2.2.1
  rcases v4 with v4 | ⟨_, v1, w2, w3, w4⟩
  · rw [v4] at z; cases z
  have vS' := vS V
  have h10 := c0.2.2.2.2.2.1
  intro m
  induction m with
  | zero =>
    intro h i hi hs e2 g4 g
    refine ⟨h, ?_, Kg_refl h, fun j l1 l2 => by omega⟩
    rw [e_273_54 hs, if_pos (show (8 : Int32) ≤ ni i by rw [show (8 : Int32) = ni 8 from rfl, ni_le (by omega) (by omega)]; omega), e2]
  | succ m ih =>
    intro h i hi hs e2 g4 g
    have hi8 : i < 8 := by omega
    have gi := g i (Nat.le_refl _) hi8
    obtain ⟨p1, p2, p3⟩ := h10 i hi8
    have keep : ¬ cut s i → am_E 273 (54, [some (vr (some 261)), some (vi (ni i))], [], h) = am_E 273 (93, [some (vr (some 261)), some (vi (ni i))], [], h) → ∃ h', am_E 273 (54, [some (vr (some 261)), some (vi (ni i))], [], h) = some (some (vi (ni (sD s 23 3))), h') ∧ Kg (fun a k => a = 281 ∧ i ≤ k) h h' ∧ ∀ j, i ≤ j → j < 8 → hI h' 281 j = ni (if cut s j then 0 else sD s 17 j) := by
      intro nc e
      obtain ⟨h', d, k, gg⟩ := ih (h := h) (i := i + 1) (by omega) hs e2 g4 (fun j l1 l2 => g j (by omega) l2)
      refine ⟨h', ?_, Kg_mono (fun a j y => by omega) k, fun j l1 l2 => ?_⟩
      · rw [e, e_273_93 hs, ni_add1]; exact d
      · by_cases y : j = i
        · subst y
          rw [k.2.2.2.2.1 281 j (by omega), if_neg nc]; exact gi.trans p1
        · exact gg j (by omega) l2
    have lp := e_273_54 (x1 := ni i) hs
    rw [if_neg (show ¬ (8 : Int32) ≤ ni i by rw [show (8 : Int32) = ni 8 from rfl, ni_le (by omega) (by omega)]; omega), ixb _ hi8 (by omega), gi, p1] at lp
    have bd : sD s 17 i ≤ 2 := by rcases V.2.2.1 i hi8 with y | ⟨y, y2, y3⟩ | ⟨y, y2, y3⟩ <;> omega
    by_cases y : sD s 17 i = 2
    · have sv : sD s 20 i < sS s ∧ sD s 21 i < sD s 10 (sD s 20 i) := by
        rcases V.2.2.1 i hi8 with w | ⟨w, y2, y3⟩ | ⟨w, y2, y3⟩
        · rw [y] at w; cases w
        · rw [y] at w; cases w
        · exact ⟨y2, y3⟩
      have b8 := vN V sv.1
      rw [if_pos (show ni (sD s 17 i) = 2 by rw [y]; rfl), ixb _ hi8 (by omega), g4 i hi8, p3 y, show ni (8 * sD s 20 i + sD s 21 i) / (8 : Int32) = ni (sD s 20 i) by rw [show (8 : Int32) = ni 8 from rfl, ni_div (by omega) (by omega)]; congr 1; omega, e2] at lp
      by_cases x : sD s 20 i < sD s 23 3
      · rw [if_pos (show ni (sD s 20 i) < ni (sD s 23 3) by rw [ni_lt (by omega) (by omega)]; exact x)] at lp
        exact keep (fun w => w.2 x) lp
      · rw [if_neg (show ¬ ni (sD s 20 i) < ni (sD s 23 3) by rw [ni_lt (by omega) (by omega)]; exact x), ixb _ hi8 (by omega)] at lp
        obtain ⟨h', d, k, gg⟩ := ih (h := pI h 281 i 0) (i := i + 1) (by omega) hs (by rw [hI_pI, if_neg (by omega)]; exact e2) (fun j l => by rw [hI_pI, if_neg (by omega)]; exact g4 j l) (fun j l1 l2 => by rw [hI_pI, if_neg (by omega)]; exact g j (by omega) l2)
        refine ⟨h', ?_, Kg_trans (Kg_pI ⟨rfl, Nat.le_refl _⟩ (Kg_refl h)) (Kg_mono (fun a j y => by omega) k), fun j l1 l2 => ?_⟩
        · rw [lp, e_273_93 (h := pI h 281 i 0) hs, ni_add1]; exact d
        · by_cases w : j = i
          · subst w
            rw [k.2.2.2.2.1 281 j (by omega), pe, if_pos ⟨y, x⟩]; rfl
          · exact gg j (by omega) l2
    · rw [if_neg (show ¬ ni (sD s 17 i) = 2 by rw [show (2 : Int32) = ni 2 from rfl, ni_eq (by omega) (by omega)]; exact y)] at lp
      exact keep (fun w => y w.1) lp
def im5 (h : am_H) (S M R : Nat) (F : Int32) : am_H := pI (pI (pI (pI h 261 2 (ni S)) 261 0 (ni M)) 261 1 (ni R)) 261 3 F
theorem im5_n {S M R : Nat} {F : Int32} {a k : Nat} (z : ¬ (a = 261 ∧ k ≤ 3)) : hI (im5 h S M R F) a k = hI h a k := by
  unfold im5
  rw [hI_pI, if_neg (by omega), hI_pI, if_neg (by omega), hI_pI, if_neg (by omega), hI_pI, if_neg (by omega)]
theorem im5_2 {S M R : Nat} {F : Int32} : hI (im5 h S M R F) 261 2 = ni S := by
  unfold im5
  rw [hI_pI, if_neg (by omega), hI_pI, if_neg (by omega), hI_pI, if_neg (by omega), hI_pI, if_pos ⟨rfl, rfl⟩]
theorem im5_0 {S M R : Nat} {F : Int32} : hI (im5 h S M R F) 261 0 = ni M := by
  unfold im5
  rw [hI_pI, if_neg (by omega), hI_pI, if_neg (by omega), hI_pI, if_pos ⟨rfl, rfl⟩]
theorem im5_1 {S M R : Nat} {F : Int32} : hI (im5 h S M R F) 261 1 = ni R := by
  unfold im5
  rw [hI_pI, if_neg (by omega), hI_pI, if_pos ⟨rfl, rfl⟩]
theorem im5_3 {S M R : Nat} {F : Int32} : hI (im5 h S M R F) 261 3 = F := by
  unfold im5
  rw [hI_pI, if_pos ⟨rfl, rfl⟩]
theorem im5_K {S M R : Nat} {F : Int32} : Kg (fun a k => a = 261 ∧ k ≤ 3) h (im5 h S M R F) := Kg_pI (by omega) (Kg_pI (by omega) (Kg_pI (by omega) (Kg_pI (by omega) (Kg_refl h))))
theorem im5_e (hs : Sh h) (V : Vs s) (z : sD s 23 0 = 1) (c : MS h s) : am_D 273 [vr (some 261)] h = (am_D 270 [vr (some 261), vi 1] (im5 h (sD s 23 3) (sD s 23 1) (sD s 23 2) (fI (sD s 23 4)))).bind fun q9 => am_E 273 (52, [some (vr (some 261)), none], q9.1.toList ++ [], q9.2) := by
  obtain ⟨⟨a1, a2, a3, a4, a5⟩, a6, a7, a8, a9, a10, ⟨a11, a12⟩, a13, a14⟩ := c
  obtain ⟨b1, b2, b3, b4⟩ := a14 z
  have vS' := vS V
  rw [if_neg (by omega)] at a13
  have v4 := V.2.2.2.1
  rcases v4 with v4 | ⟨_, v1, w2, w3, w4⟩
  · rw [v4] at z; cases z
  have e1 : hI (pI h 261 2 (ni (sD s 23 3))) 261 56 = ni (sD s 23 1) := by rw [hI_pI, if_neg (by omega)]; exact b1
  have e2 : hI (pI (pI h 261 2 (ni (sD s 23 3))) 261 0 (ni (sD s 23 1))) 261 57 = ni (sD s 23 2) := by rw [hI_pI, if_neg (by omega), hI_pI, if_neg (by omega)]; exact b2
  have e3 : hI (pI (pI (pI h 261 2 (ni (sD s 23 3))) 261 0 (ni (sD s 23 1))) 261 1 (ni (sD s 23 2))) 261 58 = fI (sD s 23 4) := by rw [hI_pI, if_neg (by omega), hI_pI, if_neg (by omega), hI_pI, if_neg (by omega)]; exact b3
  rw [d_273 hs, a13, if_neg (show ¬ ni (sD s 23 3) = -1 by rw [show (-1 : Int32) = -ni 1 from rfl, ng_eq (by omega) (by omega) (by omega)]; exact id), e1, e2, e3]
  rfl
theorem C272 (V : Vs s) (z : sD s 23 0 = 1) : HC 272 [] s (vi (ni (sD s 23 3))) (sRs s) := fun h hs c => by
  have v4 := V.2.2.2.1
  rcases v4 with v4 | ⟨_, v1, w2, w3, w4⟩
  · rw [v4] at z; cases z
  obtain ⟨h1, d, b⟩ := D267 hs
  have hs1 : Sh h1 := BC_Sh (Or.inl ⟨rfl, rfl⟩) b hs
  have a9 : hI h 16 5 = ni (sD s 23 0) := c.2.2.2.2.2.2.2.1
  have cw := BC_cp (Or.inl ⟨rfl, rfl⟩) b v1 (c.2.2.2.2.2.2.2.2 z)
  obtain ⟨h2, d2, k2, g2⟩ := L272 V z c 8 (i := 0) (by omega) hs1 cw (fun j l1 l2 => b.2.2.2.2.2.1 27 j (by omega))
  refine ⟨h2, ?_, sRs_C V z hs c b (Kg_mono (fun a k y => y.1) k2) (fun j hj => g2 j (Nat.zero_le _) hj)⟩
  rw [d_272 hs, a9, z, if_neg (show ¬ ni 1 = 0 by decide), d]
  simp only [Option.bind_some, Option.toList_none, List.nil_append]
  rw [e_272_25 hs1]
  exact d2
theorem M273 (V : Vs s) (z : sD s 23 0 = 1) : HM 273 [] s (vi (ni (sD s 23 3))) (sRs s) := fun h hs c => by
  have hs0 : Sh (im5 h (sD s 23 3) (sD s 23 1) (sD s 23 2) (fI (sD s 23 4))) := Kg_Sh im5_K hs
  obtain ⟨h1, d, kk⟩ := D270b hs0
  have hs1 := Kg_Sh kk.1 hs0
  have q : ∀ a j, ¬ (263 ≤ a ∧ a ≤ 280 ∧ a ≠ 272) → hI h1 a j = hI (im5 h (sD s 23 3) (sD s 23 1) (sD s 23 2) (fI (sD s 23 4))) a j := fun a j n => kk.1.2.2.2.2.1 a j n
  obtain ⟨h2, d2, k2, g2⟩ := L273 V z c 8 (i := 0) (by omega) hs1 (by rw [q _ _ (by omega)]; exact im5_2) (fun j l => by rw [q _ _ (by omega), im5_n (by omega)]) (fun j l1 l2 => by rw [q _ _ (by omega), im5_n (by omega)])
  have q2 : ∀ a j, a ≠ 281 → hI h2 a j = hI h1 a j := fun a j n => k2.2.2.2.2.1 a j (fun y => n y.1)
  have kg : Kg (fun a k => (263 ≤ a ∧ a ≤ 280 ∧ a ≠ 272) ∨ a = 281 ∨ (a = 261 ∧ k ≤ 3)) h h2 := Kg_trans (Kg_mono (fun a k y => Or.inr (Or.inr y)) im5_K) (Kg_trans (Kg_mono (fun a k y => Or.inl y) kk.1) (Kg_mono (fun a k y => Or.inr (Or.inl y.1)) k2))
  refine ⟨h2, ?_, sRs_Mk V z c kg ?_ ?_ ?_ ?_ (fun i hi j hj => ?_) (fun j hj => g2 j (Nat.zero_le _) hj)⟩
  · rw [im5_e hs V z c, d]
    simp only [Option.bind_some, Option.toList_none, List.nil_append]
    rw [e_273_52 hs1]
    exact d2
  · rw [q2 _ _ (by omega), q _ _ (by omega)]; exact im5_0
  · rw [q2 _ _ (by omega), q _ _ (by omega)]; exact im5_1
  · rw [q2 _ _ (by omega), q _ _ (by omega)]; exact im5_2
  · rw [q2 _ _ (by omega), q _ _ (by omega)]; exact im5_3
  · have m1 := mc_in i (by omega)
    rw [q2 _ _ (by omega), kk.2 i hi j hj, im5_n (by omega)]
end RST
theorem A45 : Alike 272 273 [] := glue fun s V => by
  rcases V.2.2.2.1 with v4 | ⟨v4, _⟩
  · refine refg V 6 (by omega) (fun h hs c => ?_) (fun h hs c => ?_)
    · have a9 : hI h 16 5 = ni (sD s 23 0) := c.2.2.2.2.2.2.2.1
      rw [d_272 hs, a9, v4, if_pos (show ni 0 = 0 from rfl)]
      simp (disch := first | assumption | omega | (simp only [Sh_pI, Sh_pL, Sh_pIs, Sh_pLs]; assumption)) only [↓ixb, Option.bind_some, Option.bind_none, Option.toList_some, Option.toList_none, List.cons_append, List.nil_append, ni_lit, ni_of, ni_add, ni_mul, ni_sub, ni_div, ni_lt, ni_le, ni_eq, ng_lt, ng_le, ng_lt', ng_le', ng_eq, ng_eq', ng_ng, Int32.neg_neg, ix_ni, if_pos, if_neg, reduceIte, D7, e_272_13]
    · have a13 := c.2.2.2.2.2.2.2.1
      rw [if_pos v4] at a13
      rw [d_273 hs, a13, if_pos (show -ni 1 = -1 from rfl)]
      simp (disch := first | assumption | omega | (simp only [Sh_pI, Sh_pL, Sh_pIs, Sh_pLs]; assumption)) only [↓ixb, Option.bind_some, Option.bind_none, Option.toList_some, Option.toList_none, List.cons_append, List.nil_append, ni_lit, ni_of, ni_add, ni_mul, ni_sub, ni_div, ni_lt, ni_le, ni_eq, ng_lt, ng_le, ng_lt', ng_le', ng_eq, ng_eq', ng_ng, Int32.neg_neg, ix_ni, if_pos, if_neg, reduceIte, D10, e_273_14]
  · exact ⟨ni (sD s 23 3), sRs s, sRs_V V v4, C272 V v4, M273 V v4⟩
