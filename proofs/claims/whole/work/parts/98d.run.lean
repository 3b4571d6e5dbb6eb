/-! the law's run, whole -/
/-- no cell of the shape has a reference at 64 or after -/
def Up (f : Nat → Option Nat) : Prop := ∀ k, 64 ≤ k → f k = none
theorem Up_c : Up (fun _ => none) := fun _ _ => rfl
theorem Up_nt {m : Nat} {A B : Nat → Option Nat} (hm : m ≤ 64) (hB : Up B) : Up (am_nt m A B) := fun k hk => by rw [am_nt_r (Nat.le_trans hm hk)]; exact hB k hk
def UpA (f : Nat → Nat → Option Nat) : Prop := ∀ a, Up (f a)
theorem UpA_nt {m : Nat} {A B : Nat → Nat → Option Nat} (hA : UpA A) (hB : UpA B) : UpA (am_nt m A B) := fun a => by
  unfold am_nt
  cases Nat.blt a m
  · exact hB a
  · exact hA a
theorem UpA_c {f : Nat → Option Nat} (hf : Up f) : UpA (fun _ => f) := fun _ => hf
theorem shR_up : UpA shR := by
  unfold shR
  repeat' (first | exact Up_c | refine UpA_nt ?_ ?_ | refine UpA_c ?_ | refine Up_nt (by decide) ?_)
def UpB (f : Nat → Nat → Option Nat) : Prop := ∀ a, 303 ≤ a → f a = fun _ => none
theorem UpB_c : UpB (fun _ => fun _ => none) := fun _ _ => rfl
theorem UpB_nt {m : Nat} {A B : Nat → Nat → Option Nat} (hm : m ≤ 303) (hB : UpB B) : UpB (am_nt m A B) := fun a ha => by rw [am_nt_r (Nat.le_trans hm ha)]; exact hB a ha
theorem shR_far : UpB shR := by
  unfold shR
  repeat' (first | exact UpB_c | refine UpB_nt (by decide) ?_)
theorem shR_low : ∀ a, a < 16 → ∀ k, k < 64 → shR a k = none := by decide +kernel
theorem shR_in {a k r : Nat} (e : shR a k = some r) : 16 ≤ a ∧ a < 303 ∧ k < 64 := by
  have hk : k < 64 := by
    rcases Nat.lt_or_ge k 64 with z | z
    · exact z
    · rw [shR_up a k z] at e; cases e
  refine ⟨?_, ?_, hk⟩
  · rcases Nat.lt_or_ge a 16 with z | z
    · rw [shR_low a z k hk] at e; cases e
    · exact z
  · rcases Nat.lt_or_ge a 303 with z | z
    · exact z
    · rw [shR_far a z] at e; cases e
theorem shK_low : ∀ a, a < 16 → (shK a).1 < 200 → a < 2 ∧ shK a = (100, 14) := by decide +kernel
theorem Gp_Sh {G : am_G} {S : Nat} {J : Nat → Nat → Int32} {h : am_H} (g : Gp (st0 G) 303 S [] J h) : Sh h := by
  obtain ⟨g1, g2, g3, g4, g5, g6, g7, g8⟩ := g
  refine ⟨fun a ha hk => ?_, fun a k r e => ?_, ⟨by rw [g1]; exact Nat.le_refl _, fun a ha => g5 a (by rw [← g1]; exact ha)⟩, fun k _ => ?_⟩
  · rcases Nat.lt_or_ge a 16 with z | z
    · obtain ⟨a2, ek⟩ := shK_low a z hk
      rw [ek, (g3 a z).1]
      rcases (show a = 0 ∨ a = 1 by omega) with rfl | rfl
      · rfl
      · rfl
    · exact g4 a z ha hk
  · obtain ⟨a1, a2, a3⟩ := shR_in e
    exact g6 a k r a1 a2 a3 e (fun p hp => by cases hp)
  · rw [g8 37 k (Or.inl rfl) (by decide), g8 147 k (Or.inr rfl) (by decide)]
    exact ⟨rfl, rfl⟩
/-- the state at the start -/
def sg0 : Sg := (fun _ _ => 0, fun _ => 0, fun _ => 0, -ni 1)
theorem Vw_0 : Vw (fun _ _ => 0) 0 0 0 := ⟨Nat.zero_le _, Nat.zero_le _, Nat.zero_le _, fun m hm => absurd hm (Nat.not_lt_zero _), fun m hm => absurd hm (Nat.not_lt_zero _), fun m hm => absurd hm (Nat.not_lt_zero _)⟩
theorem Vs_0 : Vs sg0 := ⟨Vw_0, Nat.le_refl _, fun _ _ => Or.inl rfl, Or.inl rfl, Nat.zero_le _⟩
def jE : Nat → Nat → Int32 := (jc 261 55 (-ni 1) (jc 261 43 (-ni 1) (jt 287 159 fW (jt 272 14 fT (jc 261 4 (-ni 1) (jc 261 3 (-ni 1) (jt 27 8 (fun _ => -ni 1) (jc 254 0 (-ni 1) (jc 16 7 (-ni 1) (jc 248 0 (-ni 1) (jc 138 4 (-ni 1) (jc 28 4 (-ni 1) j0))))))))))))
theorem t0_i : ∀ j, j < 14 → ([10, 2, 3, 9, 5, 2, 0, 6, 1, 2, 3, 2, 3, 1] : List Int32).getD j 0 = ni (t0 j) := by decide +kernel
theorem t1_i : ∀ j, j < 14 → ([99, 2, 9, 9, 9, 9, 9, 9, 9, 9, 9, 9, 99, 99] : List Int32).getD j 0 = ni (t1 j) := by decide +kernel
theorem CS_0 {G : am_G} {S : Nat} {h : am_H} (g : Gp (st0 G) 303 S [] jE h) : CS h sg0 := by
  have g7 := g.2.2.2.2.2.2.1
  have g3 := g.2.2.1
  refine ⟨?_, fun k _ => ?_, fun j hj => ?_, fun j hj => ?_, ⟨⟨?_, ?_, ?_, ?_⟩, fun m hm => absurd hm (Nat.not_lt_zero _), fun m hm => absurd hm (Nat.not_lt_zero _), fun m hm => absurd hm (Nat.not_lt_zero _)⟩, fun i hi => ⟨fun _ => ?_, fun z => ?_, fun z => ?_⟩, ⟨?_, fun i hi => absurd hi (Nat.not_lt_zero _)⟩, ?_, fun z => ?_⟩
  · rw [g7 16 7 (by decide) (by decide)]; rfl
  · rw [g7 260 k (by decide) (by decide)]; simp [jE, jc, jt, j0]; rfl
  · exact ((g3 0 (by decide)).2 j).trans (t0_i j hj)
  · exact ((g3 1 (by decide)).2 j).trans (t1_i j hj)
  · rw [g7 28 1 (by decide) (by decide)]; rfl
  · rw [g7 28 3 (by decide) (by decide)]; rfl
  · rw [g7 28 7 (by decide) (by decide)]; rfl
  · rw [g7 28 4 (by decide) (by decide)]; rfl
  · rw [g7 27 i (by decide) (by decide)]; simp [jE, jc, jt, j0, hi]
  · exact absurd (show (0 : Nat) = 1 from z) (by decide)
  · exact absurd (show (0 : Nat) = 2 from z) (by decide)
  · rw [g7 259 0 (by decide) (by decide)]; rfl
  · rw [g7 16 5 (by decide) (by decide)]; rfl
  · exact absurd z (by decide)
theorem MP_0 (P : Nat → Nat → Int32) (D : Nat → Nat → Nat) : MP P D 0 0 0 := ⟨fun m hm => absurd hm (Nat.not_lt_zero _), fun m hm => absurd hm (Nat.not_lt_zero _), fun m hm => absurd hm (Nat.not_lt_zero _)⟩
theorem MS_0 {G : am_G} {S : Nat} {h : am_H} (g : Gp (st0 G) 303 S [] jE h) : MS h sg0 := by
  have g7 := g.2.2.2.2.2.2.1
  refine ⟨⟨?_, ?_, ?_, ?_, ?_⟩, fun k _ => ?_, fun j hj => ?_, fun k hk => ?_, MP_0 _ _, fun i hi => ⟨?_, fun z => ?_, fun z => ?_⟩, ⟨?_, fun i hi => absurd hi (Nat.not_lt_zero _)⟩, ?_, fun z => ?_⟩
  · rw [g7 261 0 (by decide) (by decide)]; rfl
  · rw [g7 261 1 (by decide) (by decide)]; rfl
  · rw [g7 261 2 (by decide) (by decide)]; rfl
  · rw [g7 261 3 (by decide) (by decide)]; rfl
  · rw [g7 261 4 (by decide) (by decide)]; rfl
  · rw [g7 262 k (by decide) (by decide)]; simp [jE, jc, jt, j0]; rfl
  · rw [g7 272 j (by decide) (by decide)]; simp [jE, jc, jt, j0, hj]; rfl
  · rw [wt_len] at hk
    rw [g7 287 k (by decide) (by decide), wl_eq]
    simp [jE, jc, jt, j0, hk]; rfl
  · rw [g7 281 i (by decide) (by decide)]; simp [jE, jc, jt, j0]; rfl
  · exact absurd (show (0 : Nat) = 1 from z) (by decide)
  · exact absurd (show (0 : Nat) = 2 from z) (by decide)
  · rw [g7 261 54 (by decide) (by decide)]; rfl
  · rw [g7 261 55 (by decide) (by decide)]; rfl
  · exact absurd z (by decide)
theorem all_alike : AllAlike := by
  unfold AllAlike
  exact ⟨A0, A1, A2, A3, A4, A5, A6, A7, A8, A9, A10, A11, A12, A13, A14, A15, A16, A17, A18, A19, A20, A21, A22, A23, A24, A25, A26, A27, A28, A29, A30, A31, A32, A33, A34, A35, A36, A37, A38, A39, A40, A41, A42, A43, A44, A45, A46⟩
theorem law_goes (G : am_G) (hL : gL G ≤ 3072) : ∃ (n : Nat) (h1 : am_H), am_run am_P am_fm n 278 (0, am_init 4 [vr (some 15)], [], st0 G) = some (some (vi 1), h1) ∧ hN h1 ≤ 600016 ∧ hSl h1 ≤ 7302250 := by
  obtain ⟨h2, e2, g⟩ := law_begun G
  have hk : hK h2 15 = (100, gL G) := ((g.2.2.1 15 (by decide)).1).trans rfl
  obtain ⟨h1, e1, n1, s1⟩ := lw_loop all_alike hL 512 0 h2 sg0 (by omega) (by omega) (Gp_Sh g) Vs_0 (CS_0 g) (MS_0 g) hk
  obtain ⟨n, hn⟩ := E_iff.mp (e2.trans e1)
  have a1 := g.1
  have a2 := g.2.1
  exact ⟨n, h1, hn, by omega, by omega⟩
