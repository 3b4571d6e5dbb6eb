/-! apart -/
theorem ark_irr {D : Nat → Nat → Nat} {q M : Nat} (v : Vq D M q) (x : Nat) : ∀ m i, i + m + 1 ≤ D 12 q → ark D q m i x x = false
  | 0, _, _ => rfl
  | m + 1, i, h => by
    rw [ark_s, ark_irr v x m (i + 1) (by omega), Bool.or_false]
    cases y : (rwm D q i == x)
    · rfl
    · rw [Bool.true_and]
      refine beq_eq_false_iff_ne.mpr fun z => ?_
      have e : rwm D q i = x := beq_iff_eq.mp y
      exact v.2.2.2.2.2.1 i (i + 1) (by omega) (by omega) (e.trans z.symm)
theorem nxt_irr {s : Sg} {t : Nat} (V : Vs s) (ht : t < sS s) (x : Nat) : ∀ n, n ≤ sD s 10 t → nxt s t n x x = false
  | 0, _ => rfl
  | n + 1, h => by
    have v := vq V ht (show n < sD s 10 t by omega)
    have z2 : 2 ≤ sD s 12 (8 * t + n) := v.2.1
    rw [nxt_s, nxt_irr V ht x n (by omega), ark_irr v x _ 0 (by omega), Bool.and_false]; rfl
theorem glueP {yx ym : Nat} {as : List am_V} {h : am_H} {s s' : Sg} (hV : Vs s) (hV' : Vs s') (hM : MS h s) (H : ∃ v h1, am_D yx (vr (some 16) :: as) h = some (some (vi v), h1) ∧ Cok h h1 s' ∧ (MS h1 s → ∃ h2, am_D ym (vr (some 261) :: as) h1 = some (some (vi v), h2) ∧ Mok h1 h2 s')) : ∃ (v : Int32) (h1 h2 : am_H) (s' : Sg), am_D yx (vr (some 16) :: as) h = some (some (vi v), h1) ∧ am_D ym (vr (some 261) :: as) h1 = some (some (vi v), h2) ∧ (Sh h1 ∧ hK h1 15 = hK h 15 ∧ ∀ k, hI h1 15 k = hI h 15 k) ∧ Aft h h2 s' := by
  obtain ⟨v, h1, d1, ⟨c1, c2, c3, c4, c5, c6, c7, c8⟩, b⟩ := H
  obtain ⟨h2, d2, m1, m2⟩ := b (MS_fr hV c3 hM)
  have hs2 : Sh h2 := Kg_Sh m2 c1
  have e15 : hK h2 15 = hK h1 15 := by rw [m2.2.2.1]
  refine ⟨v, h1, h2, s', d1, d2, ⟨c1, c7, c8⟩, hs2, hV', CS_fr (fun _ _ z => Or.inr z) m2 hV' c2, m1, ?_, ?_, ?_, e15.trans c7, fun k => ?_⟩
  · rw [m2.1]; exact c4
  · rw [m2.1]; exact c5
  · rw [m2.2.1]; exact c6
  · rw [m2.2.2.2.2.1 15 k (by unfold wm; omega)]; exact c8 k
theorem A28 : ∀ a1, Alike 185 191 [vi a1] := fun a1 => by
  intro h s hs V c m
  rcases rg a1 (sS s) with ⟨t, ht, rfl⟩ | hn
  · have hT := nT_24 V ht
    obtain ⟨h1, d1, k1, n1⟩ := D178 V ht hs c
    have hs1 := Kg_Sh k1 hs
    obtain ⟨h2, f, p1, d2, k2, r2, s2, b2, f24, fin⟩ := D184 (B := nB s t) (A := nA s t) (T := nT s t) hT (fun x _ => nxt_irr V ht x _ (Nat.le_refl _)) hs1 n1.1 n1.2.1 n1.2.2
    have kk : Kg sc h h2 := Kg_trans k1 (Kg_mono (fun a k z => by unfold sc; omega) k2)
    refine glueP V V m ⟨ni f, h2, ?_, Cok_q V hs c kk, fun m2 => ?_⟩
    · rw [d_185 hs, D23t hs V c ht]
      simp only [Option.bind_some, Option.toList_some, List.cons_append, List.nil_append]
      rw [e_185_8 hs, if_neg (show ¬ ni 1 = 0 by decide), d1]
      simp only [Option.bind_some, Option.toList_none, List.nil_append]
      rw [e_185_22 hs1, d2]
      simp only [Option.bind_some, Option.toList_some, List.cons_append, List.nil_append]
      exact e_185_29 (Kg_Sh kk hs)
    · have hs2 := Kg_Sh kk hs
      obtain ⟨h3, g, d3, k3, mx, g24, _⟩ := D190 V ht (hb_S hs2) (hb_M V m2) hb_43
      have e : g = f := same_f hT mx g24 s2 fin
      subst e
      refine ⟨h3, ?_, Mok_q V m2 (Kg_trans hb_K (Kg_mono (fun a k z => by unfold scS at z; unfold scm; omega) k3))⟩
      rw [d_191 hs2, D26t hs2 V m2 ht]
      simp only [Option.bind_some, Option.toList_some, List.cons_append, List.nil_append]
      rw [e_191_5 hs2, if_neg (show ¬ ni 1 = 0 by decide), hb_e m2, d3]
      simp only [Option.bind_some, Option.toList_some, List.cons_append, List.nil_append]
      exact e_191_27 (Kg_Sh k3 (hb_S hs2))
  · have R : ∃ (v : Int32) (s' : Sg), Vs s' ∧ HC 185 [vi a1] s (vi v) s' ∧ HM 191 [vi a1] s (vi v) s' := refg V 1 (by omega) (fun h hs c => by
      rw [d_185 hs, D23f hs V c hn]; simp (disch := first | assumption | omega | (simp only [Sh_pI, Sh_pL, Sh_pIs, Sh_pLs]; assumption)) only [↓ixb, Option.bind_some, Option.bind_none, Option.toList_some, Option.toList_none, List.cons_append, List.nil_append, ni_lit, ni_of, ni_add, ni_mul, ni_sub, ni_div, ni_lt, ni_le, ni_eq, ng_lt, ng_le, ng_lt', ng_le', ng_eq, ng_eq', ng_ng, Int32.neg_neg, ix_ni, if_pos, if_neg, reduceIte, e_185_8, D7, e_185_16]) (fun h hs c => by
      rw [d_191 hs, D26f hs V c hn]; simp (disch := first | assumption | omega | (simp only [Sh_pI, Sh_pL, Sh_pIs, Sh_pLs]; assumption)) only [↓ixb, Option.bind_some, Option.bind_none, Option.toList_some, Option.toList_none, List.cons_append, List.nil_append, ni_lit, ni_of, ni_add, ni_mul, ni_sub, ni_div, ni_lt, ni_le, ni_eq, ng_lt, ng_le, ng_lt', ng_le', ng_eq, ng_eq', ng_ng, Int32.neg_neg, ix_ni, if_pos, if_neg, reduceIte, e_191_5, D10, e_191_13])
    obtain ⟨v, s', V', a, b⟩ := R
    obtain ⟨h1, h2, q⟩ := glue9 hs V c m V' a b
    exact ⟨v, h1, h2, s', q⟩
