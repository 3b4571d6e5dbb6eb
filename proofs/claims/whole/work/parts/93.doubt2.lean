/-! doubt -/
theorem A37_w {s : Sg} (V : Vs s) (w : Nat → Nat) (hw : ∀ t, w t ≤ 99) (H1 : WC s w) (H2 : WM s w) (a1 : Int32) : ∃ (v : Int32) (s' : Sg), Vs s' ∧ HC 228 [vi a1] s (vi v) s' ∧ HM 229 [vi a1] s (vi v) s' := by
  rcases rg a1 3 with ⟨x, hx, rfl⟩ | hn
  · have l0 : ¬ ni x < (0 : Int32) := by rw [show (0 : Int32) = ni 0 from rfl, ni_lt (by omega) (by omega)]; omega
    have l2 : ni x ≤ (2 : Int32) := by rw [show (2 : Int32) = ni 2 from rfl, ni_le (by omega) (by omega)]; omega
    refine ⟨dbs w s x (2 ^ sS s) 0 0 none 0, s, V, HC_q V fun h hs c => ?_, HM_q V fun h hs c => ?_⟩
    · obtain ⟨h1, d, k, g⟩ := L228a w V H1 (x1 := ni x) (o3 := none) (o4 := none) (o5 := none) (o6 := none) (sS s) 0 (by omega) hs c (fun i hi => by omega)
      refine ⟨h1, ?_, k⟩
      rw [d_228 hs, if_neg l0, if_pos l2]
      exact d.trans (L228 w (Kg_Sh k hs) V (CS_fr (fun _ _ z => Or.inl z) k V c) hw g hx (2 ^ sS s) 0 0 none 0 _ (by omega) (fun y hy => by cases hy) (by omega))
    · obtain ⟨h1, d, k, g⟩ := L229a w V H2 (x1 := ni x) (o3 := none) (o4 := none) (o5 := none) (o6 := none) (o7 := none) (o8 := none) (sS s) 0 (by omega) (hb_S hs) (hb_M V c) hb_43 (fun i hi => by omega)
      have kk : Kg scm h h1 := Kg_trans hb_K k
      refine ⟨h1, ?_, kk⟩
      rw [d_229 hs, if_neg l0, if_pos l2, hb_e c]
      exact d.trans (L229 w (Kg_Sh kk hs) V (Mok_q V c kk).1 hw g hx (2 ^ sS s) 0 0 none 0 _ _ _ (by omega) (fun y hy => by cases hy) (by omega))
  · have bad : ∀ {α : Type} (A C : α), (if a1 < 0 then A else if a1 ≤ 2 then C else A) = A := fun A C => by
      by_cases z : a1 < 0
      · rw [if_pos z]
      · rw [if_neg z]
        refine if_neg (fun y => ?_)
        rw [Int32.lt_iff_toInt_lt] at z
        rw [Int32.le_iff_toInt_le] at y
        have y' : a1.toInt ≤ 2 := y
        have z' : 0 ≤ a1.toInt := Int.not_lt.mp z
        obtain ⟨k, e1, e2, e3⟩ := ni_ex z'
        exact hn k (by omega) e3
    refine refg V 5 (by omega) (fun h hs c => ?_) (fun h hs c => ?_)
    · rw [d_228 hs, bad]
      simp (disch := first | assumption | omega | (simp only [Sh_pI, Sh_pL, Sh_pIs, Sh_pLs]; assumption)) only [↓ixb, Option.bind_some, Option.bind_none, Option.toList_some, Option.toList_none, List.cons_append, List.nil_append, ni_lit, ni_of, ni_add, ni_mul, ni_sub, ni_div, ni_lt, ni_le, ni_eq, ng_lt, ng_le, ng_lt', ng_le', ng_eq, ng_eq', ng_ng, Int32.neg_neg, ix_ni, if_pos, if_neg, reduceIte, e_228_9, D7, e_228_15]
    · rw [d_229 hs, bad]
      simp (disch := first | assumption | omega | (simp only [Sh_pI, Sh_pL, Sh_pIs, Sh_pLs]; assumption)) only [↓ixb, Option.bind_some, Option.bind_none, Option.toList_some, Option.toList_none, List.cons_append, List.nil_append, ni_lit, ni_of, ni_add, ni_mul, ni_sub, ni_div, ni_lt, ni_le, ni_eq, ng_lt, ng_le, ng_lt', ng_le', ng_eq, ng_eq', ng_ng, Int32.neg_neg, ix_ni, if_pos, if_neg, reduceIte, e_229_9, D10, e_229_15]
theorem A37 : ∀ a1, Alike 228 229 [vi a1] := fun a1 => by
  intro h s hs V c m
  have ex : ∀ t, ∃ f, t < sS s → Mxf (cNt (nB s t) (nA s t) (fun _ => 1)) (2 * nT s t) f ∧ f ≤ 24 := fun t => by
    by_cases ht : t < sS s
    · obtain ⟨f, a, b⟩ := mx_ex V ht hs m
      exact ⟨f, fun _ => ⟨a, b⟩⟩
    · exact ⟨0, fun z => absurd z ht⟩
  have hf : ∀ t, t < sS s → Mxf (cNt (nB s t) (nA s t) (fun _ => 1)) (2 * nT s t) (ex t).choose ∧ (ex t).choose ≤ 24 := fun t => (ex t).choose_spec
  obtain ⟨v, s', V', a, b⟩ := A37_w V (fun t => wgt s t (ex t).choose) (fun _ => wgt_le) (fun h t hs c ht => D208 hs V c ht (hf t ht).1 (hf t ht).2) (fun h t hs c hby ht => by
    obtain ⟨h1, d, k⟩ := D210 hs V c hby ht (hf t ht).1 (hf t ht).2
    exact ⟨h1, d, Kg_mono (fun a k z => by unfold scS at z; unfold scm; omega) k⟩) a1
  obtain ⟨h1, h2, q⟩ := glue9 hs V c m V' a b
  exact ⟨v, h1, h2, s', q⟩
