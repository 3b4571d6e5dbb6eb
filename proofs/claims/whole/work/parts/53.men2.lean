/-! men; journey, found, mark, manOf, where -/
/-- men out of elements x, from the t-th on, m of them at most: how many came, the state then -/
noncomputable def mlp (x : Nat → Int32) : Nat → Nat → Sg → Nat × Sg
  | 0, _, s => (0, s)
  | m + 1, t, s => @ite _ (sM s < 24 ∧ okA (x t) (x (t + 1)) (x (t + 2)) (x (t + 3)) (x (t + 4))) (Classical.propDecidable _) ((mlp x m (t + 5) (sAdd s (x t) (x (t + 1)) (x (t + 2)) (x (t + 3)) (x (t + 4)))).1 + 1, (mlp x m (t + 5) (sAdd s (x t) (x (t + 1)) (x (t + 2)) (x (t + 3)) (x (t + 4)))).2) (0, s)
theorem mlp_t {x : Nat → Int32} {m t : Nat} {s : Sg} (h : sM s < 24 ∧ okA (x t) (x (t + 1)) (x (t + 2)) (x (t + 3)) (x (t + 4))) : mlp x (m + 1) t s = ((mlp x m (t + 5) (sAdd s (x t) (x (t + 1)) (x (t + 2)) (x (t + 3)) (x (t + 4)))).1 + 1, (mlp x m (t + 5) (sAdd s (x t) (x (t + 1)) (x (t + 2)) (x (t + 3)) (x (t + 4)))).2) := if_pos h
theorem mlp_f {x : Nat → Int32} {m t : Nat} {s : Sg} (h : ¬ (sM s < 24 ∧ okA (x t) (x (t + 1)) (x (t + 2)) (x (t + 3)) (x (t + 4)))) : mlp x (m + 1) t s = (0, s) := if_neg h
theorem mlp_Vs {x : Nat → Int32} : ∀ m t s, Vs s → Vs (mlp x m t s).2
  | 0, _, _, V => V
  | m + 1, t, s, V => by
    by_cases h : sM s < 24 ∧ okA (x t) (x (t + 1)) (x (t + 2)) (x (t + 3)) (x (t + 4))
    · rw [mlp_t h]
      exact mlp_Vs m (t + 5) _ (smn_Vs V (okm_add h.1) (okA_f h.2))
    · rw [mlp_f h]; exact V
theorem sAdd_pl {s : Sg} {x1 x2 x3 x4 x5 : Int32} {i : Nat} (h1 : 9 ≤ i) (h2 : i ≠ 22) : sD (sAdd s x1 x2 x3 x4 x5) i = sD s i := sm_pl h1 h2
theorem okA_c {x1 x2 x3 x4 x5 : Int32} (o : ¬ okA x1 x2 x3 x4 x5) : okL x1 x2 = false ∨ (okL x1 x2 = true ∧ okP x3 = false) ∨ (okL x1 x2 = true ∧ okP x3 = true ∧ okM x4 x5 = false) := by
  unfold okA at o
  cases h1 : okL x1 x2
  · exact Or.inl rfl
  · cases h2 : okP x3
    · exact Or.inr (Or.inl ⟨rfl, rfl⟩)
    · cases h3 : okM x4 x5
      · exact Or.inr (Or.inr ⟨rfl, rfl, rfl⟩)
      · exact absurd ⟨h1, h2, h3⟩ o
theorem L48 {k n : Nat} {E : Nat → Int64} (hk : k < 8) (hn : n ≤ 20) {o2 : Option am_V} : ∀ (m t q : Nat) (s : Sg) (h : am_H) (o6 o7 o8 o9 o10 : Option am_V), Vs s → Sh h → CS h s → sD s 17 k = 1 → t + 5 * m ≤ sD s 19 k → (∀ j, sE s (100 * k + j) = E j) → q + m = n →
    ∃ h1, am_E 48 (6, [some (vr (some 16)), some (vr (some (18 + k))), o2, some (vi (ni n)), some (vi (ni q)), some (vi (ni t)), o6, o7, o8, o9, o10], [], h) = some (some (vi (ni (q + (mlp (fun j => (E j).toInt32) m t s).1))), h1) ∧ Cok h h1 (mlp (fun j => (E j).toInt32) m t s).2 ∧ hN h1 = hN h ∧ hSl h1 = hSl h := by
  intro m
  induction m with
  | zero =>
    intro t q s h o6 o7 o8 o9 o10 V hs c z hl hE e
    refine ⟨h, ?_, Cok_refl hs c, rfl, rfl⟩
    rw [e_48_6 hs hk]
    simp (disch := first | assumption | omega | (simp only [Sh_pI, Sh_pL, Sh_pIs, Sh_pLs]; assumption)) only [↓ixb, Option.bind_some, Option.bind_none, Option.toList_some, Option.toList_none, List.cons_append, List.nil_append, ni_lit, ni_of, ni_add, ni_mul, ni_sub, ni_div, ni_lt, ni_le, ni_eq, ng_lt, ng_le, ng_lt', ng_le', ng_eq, ng_eq', ng_ng, Int32.neg_neg, ix_ni, if_pos, if_neg, reduceIte]
    rfl
  | succ m ih =>
    intro t q s h o6 o7 o8 o9 o10 V hs c z hl hE e
    have z2 : sD s 19 k ≤ 100 := by rcases V.2.2.1 k hk with y | y | y <;> omega
    have vM := vM V
    have eh : ∀ j, j < 5 → hL h (18 + k) (t + j) = E (t + j) := fun j hj => by rw [cHe c hk z (by omega), hE]
    have e0 := eh 0 (by omega)
    rw [Nat.add_zero] at e0
    have hd : am_E 48 (6, [some (vr (some 16)), some (vr (some (18 + k))), o2, some (vi (ni n)), some (vi (ni q)), some (vi (ni t)), o6, o7, o8, o9, o10], [], h) = am_E 48 (71, [some (vr (some 16)), some (vr (some (18 + k))), o2, some (vi (ni n)), some (vi (ni q)), some (vi (ni t)), some (vi (E t).toInt32), some (vi (E (t + 1)).toInt32), some (vi (E (t + 2)).toInt32), some (vi (E (t + 3)).toInt32), some (vi (E (t + 4)).toInt32)], [vi (bi (okL (E t).toInt32 (E (t + 1)).toInt32))], h) := by
      rw [e_48_6 hs hk]
      simp (disch := first | assumption | omega | (simp only [Sh_pI, Sh_pL, Sh_pIs, Sh_pLs]; assumption)) only [↓ixb, Option.bind_some, Option.bind_none, Option.toList_some, Option.toList_none, List.cons_append, List.nil_append, ni_lit, ni_of, ni_add, ni_mul, ni_sub, ni_div, ni_lt, ni_le, ni_eq, ng_lt, ng_le, ng_lt', ng_le', ng_eq, ng_eq', ng_ng, Int32.neg_neg, ix_ni, if_pos, if_neg, reduceIte, e0, eh 1 (by omega), eh 2 (by omega), eh 3 (by omega), eh 4 (by omega), D37]
    rw [hd]
    by_cases g : sM s < 24 ∧ okA (E t).toInt32 (E (t + 1)).toInt32 (E (t + 2)).toInt32 (E (t + 3)).toInt32 (E (t + 4)).toInt32
    · rw [mlp_t g]
      obtain ⟨h1, d, k1, k2, k3⟩ := C_add hs V c g.1 g.2
      obtain ⟨h2, f1, f2, f3, f4⟩ := ih (t + 5) (q + 1) (sAdd s (E t).toInt32 (E (t + 1)).toInt32 (E (t + 2)).toInt32 (E (t + 3)).toInt32 (E (t + 4)).toInt32) h1 (some (vi (E t).toInt32)) (some (vi (E (t + 1)).toInt32)) (some (vi (E (t + 2)).toInt32)) (some (vi (E (t + 3)).toInt32)) (some (vi (E (t + 4)).toInt32)) (smn_Vs V (okm_add g.1) (okA_f g.2)) k1.1 k1.2.1 (by rw [sAdd_pl (by omega) (by omega)]; exact z) (by rw [sAdd_pl (by omega) (by omega)]; omega) hE (by omega)
      refine ⟨h2, ?_, cop_trans k1 k2 k3 f2, f3.trans k2, f4.trans k3⟩
      simp (disch := first | assumption | omega | (simp only [Sh_pI, Sh_pL, Sh_pIs, Sh_pLs]; assumption)) only [↓ixb, Option.bind_some, Option.bind_none, Option.toList_some, Option.toList_none, List.cons_append, List.nil_append, ni_lit, ni_of, ni_add, ni_mul, ni_sub, ni_div, ni_lt, ni_le, ni_eq, ng_lt, ng_le, ng_lt', ng_le', ng_eq, ng_eq', ng_ng, Int32.neg_neg, ix_ni, if_pos, if_neg, reduceIte, g.2.1, bi_t, e_48_71 hs hk, D38, g.2.2.1, e_48_79 hs hk, D39, g.2.2.2, e_48_89 hs hk, cM c, g.1, d]
      rw [e_48_124 k1.1 hk]
      simp only [ni_lit, ni_add]
      rw [f1]
      exact congrArg (fun z => some (some (vi (ni z)), h2)) (by omega)
    · rw [mlp_f g]
      refine ⟨h, ?_, Cok_refl hs c, rfl, rfl⟩
      by_cases o : okA (E t).toInt32 (E (t + 1)).toInt32 (E (t + 2)).toInt32 (E (t + 3)).toInt32 (E (t + 4)).toInt32
      · have : ¬ sM s < 24 := fun z => g ⟨z, o⟩
        simp (disch := first | assumption | omega | (simp only [Sh_pI, Sh_pL, Sh_pIs, Sh_pLs]; assumption)) only [↓ixb, Option.bind_some, Option.bind_none, Option.toList_some, Option.toList_none, List.cons_append, List.nil_append, ni_lit, ni_of, ni_add, ni_mul, ni_sub, ni_div, ni_lt, ni_le, ni_eq, ng_lt, ng_le, ng_lt', ng_le', ng_eq, ng_eq', ng_ng, Int32.neg_neg, ix_ni, if_pos, if_neg, reduceIte, o.1, bi_t, e_48_71 hs hk, D38, o.2.1, e_48_79 hs hk, D39, o.2.2, e_48_89 hs hk, cM c]
        rfl
      · rcases okA_c o with o1 | ⟨o1, o2⟩ | ⟨o1, o2, o3⟩
        · simp (disch := first | assumption | omega | (simp only [Sh_pI, Sh_pL, Sh_pIs, Sh_pLs]; assumption)) only [↓ixb, Option.bind_some, Option.bind_none, Option.toList_some, Option.toList_none, List.cons_append, List.nil_append, ni_lit, ni_of, ni_add, ni_mul, ni_sub, ni_div, ni_lt, ni_le, ni_eq, ng_lt, ng_le, ng_lt', ng_le', ng_eq, ng_eq', ng_ng, Int32.neg_neg, ix_ni, if_pos, if_neg, reduceIte, o1, bi_f, e_48_71 hs hk]; rfl
        · simp (disch := first | assumption | omega | (simp only [Sh_pI, Sh_pL, Sh_pIs, Sh_pLs]; assumption)) only [↓ixb, Option.bind_some, Option.bind_none, Option.toList_some, Option.toList_none, List.cons_append, List.nil_append, ni_lit, ni_of, ni_add, ni_mul, ni_sub, ni_div, ni_lt, ni_le, ni_eq, ng_lt, ng_le, ng_lt', ng_le', ng_eq, ng_eq', ng_ng, Int32.neg_neg, ix_ni, if_pos, if_neg, reduceIte, o1, o2, bi_t, bi_f, e_48_71 hs hk, D38, e_48_79 hs hk]; rfl
        · simp (disch := first | assumption | omega | (simp only [Sh_pI, Sh_pL, Sh_pIs, Sh_pLs]; assumption)) only [↓ixb, Option.bind_some, Option.bind_none, Option.toList_some, Option.toList_none, List.cons_append, List.nil_append, ni_lit, ni_of, ni_add, ni_mul, ni_sub, ni_div, ni_lt, ni_le, ni_eq, ng_lt, ng_le, ng_lt', ng_le', ng_eq, ng_eq', ng_ng, Int32.neg_neg, ix_ni, if_pos, if_neg, reduceIte, o1, o2, o3, bi_t, bi_f, e_48_71 hs hk, D38, e_48_79 hs hk, D39, e_48_89 hs hk]; rfl
theorem D51 {h : am_H} {s : Sg} (hs : Sh h) (c : MS h s) {k t : Nat} (hk : k < 8) (z : sD s 17 k = 1) (z2 : sD s 19 k ≤ 100) (ht : t < sD s 19 k) : am_D 51 [vr (some 261), vi (ni k), vi (ni t)] h = some (some (vi (sE s (100 * k + t)).toInt32), h) := by
  rw [d_51 hs]
  simp (disch := first | assumption | omega | (simp only [Sh_pI, Sh_pL, Sh_pIs, Sh_pLs]; assumption)) only [↓ixb, Option.bind_some, Option.bind_none, Option.toList_some, Option.toList_none, List.cons_append, List.nil_append, ni_lit, ni_of, ni_add, ni_mul, ni_sub, ni_div, ni_lt, ni_le, ni_eq, ng_lt, ng_le, ng_lt', ng_le', ng_eq, ng_eq', ng_ng, Int32.neg_neg, ix_ni, if_pos, if_neg, reduceIte, mHe c hk z ht]
theorem L52 {k n i : Nat} {E : Nat → Int64} (hk : k < 8) (hn : i + n ≤ 100) : ∀ (m t q : Nat) (s : Sg) (h : am_H) (o4 o7 o8 o9 o10 o11 : Option am_V), Vs s → Sh h → MS h s → sD s 17 k = 1 → i + n ≤ sD s 19 k → (∀ j, sE s (100 * k + j) = E j) → t + 5 * m = i + n → q + m ≤ 100 →
    ∃ h1, am_E 52 (72, [some (vr (some 261)), some (vi (ni k)), some (vi (ni i)), some (vi (ni n)), o4, some (vi (ni q)), some (vi (ni t)), o7, o8, o9, o10, o11], [], h) = some (some (vi (ni (q + (mlp (fun j => (E j).toInt32) m t s).1))), h1) ∧ Mok h h1 (mlp (fun j => (E j).toInt32) m t s).2 := by
  intro m
  induction m with
  | zero =>
    intro t q s h o4 o7 o8 o9 o10 o11 V hs c z hl hE e hq
    refine ⟨h, ?_, Mok_refl c⟩
    rw [e_52_72 hs]
    simp (disch := first | assumption | omega | (simp only [Sh_pI, Sh_pL, Sh_pIs, Sh_pLs]; assumption)) only [↓ixb, Option.bind_some, Option.bind_none, Option.toList_some, Option.toList_none, List.cons_append, List.nil_append, ni_lit, ni_of, ni_add, ni_mul, ni_sub, ni_div, ni_lt, ni_le, ni_eq, ng_lt, ng_le, ng_lt', ng_le', ng_eq, ng_eq', ng_ng, Int32.neg_neg, ix_ni, if_pos, if_neg, reduceIte]
    rfl
  | succ m ih =>
    intro t q s h o4 o7 o8 o9 o10 o11 V hs c z hl hE e hq
    have z2 : sD s 19 k ≤ 100 := by rcases V.2.2.1 k hk with y | y | y <;> omega
    have vM := vM V
    have eh : ∀ j, j < 5 → am_D 51 [vr (some 261), vi (ni k), vi (ni (t + j))] h = some (some (vi (E (t + j)).toInt32), h) := fun j hj => by rw [D51 hs c hk z z2 (by omega), hE]
    have e0 := eh 0 (by omega)
    rw [Nat.add_zero] at e0
    have hd : am_E 52 (72, [some (vr (some 261)), some (vi (ni k)), some (vi (ni i)), some (vi (ni n)), o4, some (vi (ni q)), some (vi (ni t)), o7, o8, o9, o10, o11], [], h) = am_E 52 (131, [some (vr (some 261)), some (vi (ni k)), some (vi (ni i)), some (vi (ni n)), o4, some (vi (ni q)), some (vi (ni t)), some (vi (E t).toInt32), some (vi (E (t + 1)).toInt32), some (vi (E (t + 2)).toInt32), some (vi (E (t + 3)).toInt32), o11], [vi (E (t + 4)).toInt32], h) := by
      rw [e_52_72 hs]
      simp (disch := first | assumption | omega | (simp only [Sh_pI, Sh_pL, Sh_pIs, Sh_pLs]; assumption)) only [↓ixb, Option.bind_some, Option.bind_none, Option.toList_some, Option.toList_none, List.cons_append, List.nil_append, ni_lit, ni_of, ni_add, ni_mul, ni_sub, ni_div, ni_lt, ni_le, ni_eq, ng_lt, ng_le, ng_lt', ng_le', ng_eq, ng_eq', ng_ng, Int32.neg_neg, ix_ni, if_pos, if_neg, reduceIte, e0, eh 1 (by omega), eh 2 (by omega), eh 3 (by omega), eh 4 (by omega), e_52_87, e_52_98, e_52_109, e_52_120]
    rw [hd]
    by_cases g : sM s < 24 ∧ okA (E t).toInt32 (E (t + 1)).toInt32 (E (t + 2)).toInt32 (E (t + 3)).toInt32 (E (t + 4)).toInt32
    · rw [mlp_t g]
      obtain ⟨h1, d, k1⟩ := M_add hs V c g.1 g.2
      have hs1 := Kg_Sh k1.2 hs
      have ng := g.1
      obtain ⟨h2, f1, f2⟩ := ih (t + 5) (q + 1) (sAdd s (E t).toInt32 (E (t + 1)).toInt32 (E (t + 2)).toInt32 (E (t + 3)).toInt32 (E (t + 4)).toInt32) h1 (am_nl o4) (some (vi (E t).toInt32)) (some (vi (E (t + 1)).toInt32)) (some (vi (E (t + 2)).toInt32)) (some (vi (E (t + 3)).toInt32)) (some (vi (E (t + 4)).toInt32)) (smn_Vs V (okm_add g.1) (okA_f g.2)) hs1 k1.1 (by rw [sAdd_pl (by omega) (by omega)]; exact z) (by rw [sAdd_pl (by omega) (by omega)]; omega) hE (by omega) (by omega)
      refine ⟨h2, ?_, mok_trans k1 f2⟩
      simp (disch := first | assumption | omega | (simp only [Sh_pI, Sh_pL, Sh_pIs, Sh_pLs]; assumption)) only [↓ixb, Option.bind_some, Option.bind_none, Option.toList_some, Option.toList_none, List.cons_append, List.nil_append, ni_lit, ni_of, ni_add, ni_mul, ni_sub, ni_div, ni_lt, ni_le, ni_eq, ng_lt, ng_le, ng_lt', ng_le', ng_eq, ng_eq', ng_ng, Int32.neg_neg, ix_ni, if_pos, if_neg, reduceIte, e_52_131, mM c, D43, g.2.1, bi_t, e_52_150, D44, g.2.2.1, e_52_159, D45, g.2.2.2, e_52_170, d]
      rw [e_52_190 hs1]
      simp only [ni_lit, ni_add]
      rw [f1]
      exact congrArg (fun z => some (some (vi (ni z)), h2)) (by omega)
    · rw [mlp_f g]
      refine ⟨h, ?_, Mok_refl c⟩
      by_cases o : sM s < 24
      · rcases okA_c (fun z => g ⟨o, z⟩) with o1 | ⟨o1, o2⟩ | ⟨o1, o2, o3⟩
        · simp (disch := first | assumption | omega | (simp only [Sh_pI, Sh_pL, Sh_pIs, Sh_pLs]; assumption)) only [↓ixb, Option.bind_some, Option.bind_none, Option.toList_some, Option.toList_none, List.cons_append, List.nil_append, ni_lit, ni_of, ni_add, ni_mul, ni_sub, ni_div, ni_lt, ni_le, ni_eq, ng_lt, ng_le, ng_lt', ng_le', ng_eq, ng_eq', ng_ng, Int32.neg_neg, ix_ni, if_pos, if_neg, reduceIte, e_52_131, mM c, D43, o1, bi_f, e_52_150]; rfl
        · simp (disch := first | assumption | omega | (simp only [Sh_pI, Sh_pL, Sh_pIs, Sh_pLs]; assumption)) only [↓ixb, Option.bind_some, Option.bind_none, Option.toList_some, Option.toList_none, List.cons_append, List.nil_append, ni_lit, ni_of, ni_add, ni_mul, ni_sub, ni_div, ni_lt, ni_le, ni_eq, ng_lt, ng_le, ng_lt', ng_le', ng_eq, ng_eq', ng_ng, Int32.neg_neg, ix_ni, if_pos, if_neg, reduceIte, e_52_131, mM c, D43, o1, o2, bi_t, bi_f, e_52_150, D44, e_52_159]; rfl
        · simp (disch := first | assumption | omega | (simp only [Sh_pI, Sh_pL, Sh_pIs, Sh_pLs]; assumption)) only [↓ixb, Option.bind_some, Option.bind_none, Option.toList_some, Option.toList_none, List.cons_append, List.nil_append, ni_lit, ni_of, ni_add, ni_mul, ni_sub, ni_div, ni_lt, ni_le, ni_eq, ng_lt, ng_le, ng_lt', ng_le', ng_eq, ng_eq', ng_ng, Int32.neg_neg, ix_ni, if_pos, if_neg, reduceIte, e_52_131, mM c, D43, o1, o2, o3, bi_t, bi_f, e_52_150, D44, e_52_159, D45, e_52_170]; rfl
      · simp (disch := first | assumption | omega | (simp only [Sh_pI, Sh_pL, Sh_pIs, Sh_pLs]; assumption)) only [↓ixb, Option.bind_some, Option.bind_none, Option.toList_some, Option.toList_none, List.cons_append, List.nil_append, ni_lit, ni_of, ni_add, ni_mul, ni_sub, ni_div, ni_lt, ni_le, ni_eq, ng_lt, ng_le, ng_lt', ng_le', ng_eq, ng_eq', ng_ng, Int32.neg_neg, ix_ni, if_pos, if_neg, reduceIte, e_52_131, mM c]; rfl
theorem A8 : ∀ a1 a2 a3, Alike 49 52 [vi a1, vi a2, vi a3] := fun a1 a2 a3 => glue fun s V => by
  rcases wn_cases V a1 with ⟨k, hk, rfl, z, z1, z2⟩ | ⟨e, he, he0, w⟩
  · rcases ni_cases a3 with ⟨x, n, hn, rfl⟩ | ⟨n, hn, rfl⟩
    · have x' : ¬ (0 : Int32) ≤ -ni n := Int32.not_le.mpr x
      refine refg V 4 (by omega) (fun h hs c => ?_) (fun h hs c => ?_)
      · rw [d_49 hs, D12t hs V c hk z]; simp (disch := first | assumption | omega | (simp only [Sh_pI, Sh_pL, Sh_pIs, Sh_pLs]; assumption)) only [↓ixb, Option.bind_some, Option.toList_some, Option.toList_none, List.cons_append, List.nil_append, e_49_5]
        rw [if_pos (show ni 0 = 0 from rfl), if_neg x']
        simp (disch := first | assumption | omega | (simp only [Sh_pI, Sh_pL, Sh_pIs, Sh_pLs]; assumption)) only [↓ixb, Option.bind_some, Option.bind_none, Option.toList_some, Option.toList_none, List.cons_append, List.nil_append, ni_lit, ni_of, ni_add, ni_mul, ni_sub, ni_div, ni_lt, ni_le, ni_eq, ng_lt, ng_le, ng_lt', ng_le', ng_eq, ng_eq', ng_ng, Int32.neg_neg, ix_ni, if_pos, if_neg, reduceIte, D7, e_49_29]
      · rw [d_52 hs, D50t hs c hk z]; simp (disch := first | assumption | omega | (simp only [Sh_pI, Sh_pL, Sh_pIs, Sh_pLs]; assumption)) only [↓ixb, Option.bind_some, Option.toList_some, Option.toList_none, List.cons_append, List.nil_append, e_52_5]
        rw [if_pos (show ni 0 = 0 from rfl), if_neg x']
        simp (disch := first | assumption | omega | (simp only [Sh_pI, Sh_pL, Sh_pIs, Sh_pLs]; assumption)) only [↓ixb, Option.bind_some, Option.bind_none, Option.toList_some, Option.toList_none, List.cons_append, List.nil_append, ni_lit, ni_of, ni_add, ni_mul, ni_sub, ni_div, ni_lt, ni_le, ni_eq, ng_lt, ng_le, ng_lt', ng_le', ng_eq, ng_eq', ng_ng, Int32.neg_neg, ix_ni, if_pos, if_neg, reduceIte, D10, e_52_29]
    · have x' : (0 : Int32) ≤ ni n := by rw [show (0 : Int32) = ni 0 from rfl, ni_le (by omega) hn]; omega
      by_cases p : 0 ≤ a2.toInt ∧ a2.toInt ≤ (sD s 19 k : Int) - n
      · obtain ⟨i, i1, i2, rfl⟩ := ni_ex p.1
        have p' := p
        rw [ni_toInt i2] at p'
        have ed : ni n - ni (n / 5 * 5) = ni (n - n / 5 * 5) := ni_sub (by omega)
        by_cases w : n % 5 = 0
        · have w' : n - n / 5 * 5 = 0 := by omega
          refine ⟨ni (0 + (mlp (fun j => (sE s (100 * k + j)).toInt32) (n / 5) i s).1), (mlp (fun j => (sE s (100 * k + j)).toInt32) (n / 5) i s).2, mlp_Vs _ _ _ V, fun h hs c => ?_, fun h hs c => ?_⟩
          · obtain ⟨h1, d, k1, k2, k3⟩ := L48 (E := fun j => sE s (100 * k + j)) hk (show n / 5 ≤ 20 by omega) (o2 := some (vi (ni i))) (n / 5) i 0 s h none none none none none V hs c z (by omega) (fun j => rfl) (by omega)
            refine ⟨h1, ?_, k1⟩
            rw [d_49 hs, D12t hs V c hk z]; simp (disch := first | assumption | omega | (simp only [Sh_pI, Sh_pL, Sh_pIs, Sh_pLs]; assumption)) only [↓ixb, Option.bind_some, Option.toList_some, Option.toList_none, List.cons_append, List.nil_append, e_49_5]
            rw [if_pos (show ni 0 = 0 from rfl), if_pos x', D18 hs c hk z z2 hn, decide_eq_true p, bi_t]
            simp (disch := first | assumption | omega | (simp only [Sh_pI, Sh_pL, Sh_pIs, Sh_pLs]; assumption)) only [↓ixb, Option.bind_some, Option.bind_none, Option.toList_some, Option.toList_none, List.cons_append, List.nil_append, ni_lit, ni_of, ni_add, ni_mul, ni_sub, ni_div, ni_lt, ni_le, ni_eq, ng_lt, ng_le, ng_lt', ng_le', ng_eq, ng_eq', ng_ng, Int32.neg_neg, ix_ni, if_pos, if_neg, reduceIte, e_49_37, ed, w', d_48 hs hk, d]
            exact e_49_74 k1.1
          · obtain ⟨h1, d, k1⟩ := L52 (E := fun j => sE s (100 * k + j)) hk (show i + n ≤ 100 by omega) (n / 5) i 0 s h (some (vi (ni 0))) none none none none none V hs c z (by omega) (fun j => rfl) (by omega) (by omega)
            refine ⟨h1, ?_, k1⟩
            rw [d_52 hs, D50t hs c hk z]; simp (disch := first | assumption | omega | (simp only [Sh_pI, Sh_pL, Sh_pIs, Sh_pLs]; assumption)) only [↓ixb, Option.bind_some, Option.toList_some, Option.toList_none, List.cons_append, List.nil_append, e_52_5, ix_ni, mHn c hk z]
            rw [if_pos (show ni 0 = 0 from rfl), if_pos x']
            simp (disch := first | assumption | omega | (simp only [Sh_pI, Sh_pL, Sh_pIs, Sh_pLs]; assumption)) only [↓ixb, Option.bind_some, Option.bind_none, Option.toList_some, Option.toList_none, List.cons_append, List.nil_append, ni_lit, ni_of, ni_add, ni_mul, ni_sub, ni_div, ni_lt, ni_le, ni_eq, ng_lt, ng_le, ng_lt', ng_le', ng_eq, ng_eq', ng_ng, Int32.neg_neg, ix_ni, if_pos, if_neg, reduceIte, ltt, lett, ni_toInt, ni_subi, ed, w', d]
        · have w' : ¬ (n - n / 5 * 5 = 0) := by omega
          refine refg V 6 (by omega) (fun h hs c => ?_) (fun h hs c => ?_)
          · rw [d_49 hs, D12t hs V c hk z]; simp (disch := first | assumption | omega | (simp only [Sh_pI, Sh_pL, Sh_pIs, Sh_pLs]; assumption)) only [↓ixb, Option.bind_some, Option.toList_some, Option.toList_none, List.cons_append, List.nil_append, e_49_5]
            rw [if_pos (show ni 0 = 0 from rfl), if_pos x', D18 hs c hk z z2 hn, decide_eq_true p, bi_t]
            simp (disch := first | assumption | omega | (simp only [Sh_pI, Sh_pL, Sh_pIs, Sh_pLs]; assumption)) only [↓ixb, Option.bind_some, Option.bind_none, Option.toList_some, Option.toList_none, List.cons_append, List.nil_append, ni_lit, ni_of, ni_add, ni_mul, ni_sub, ni_div, ni_lt, ni_le, ni_eq, ng_lt, ng_le, ng_lt', ng_le', ng_eq, ng_eq', ng_ng, Int32.neg_neg, ix_ni, if_pos, if_neg, reduceIte, e_49_37, ed, D7, e_49_59]
          · rw [d_52 hs, D50t hs c hk z]; simp (disch := first | assumption | omega | (simp only [Sh_pI, Sh_pL, Sh_pIs, Sh_pLs]; assumption)) only [↓ixb, Option.bind_some, Option.toList_some, Option.toList_none, List.cons_append, List.nil_append, e_52_5, ix_ni, mHn c hk z]
            rw [if_pos (show ni 0 = 0 from rfl), if_pos x']
            simp (disch := first | assumption | omega | (simp only [Sh_pI, Sh_pL, Sh_pIs, Sh_pLs]; assumption)) only [ni_lit, ni_mul, ni_div, ed, ltt, lett, ni_toInt, ni_subi, ni_eq, if_pos, if_neg, D10, e_52_65, ↓ixb, Option.bind_some, Option.toList_some, Option.toList_none, List.cons_append, List.nil_append]
      · refine refg V 5 (by omega) (fun h hs c => ?_) (fun h hs c => ?_)
        · rw [d_49 hs, D12t hs V c hk z]; simp (disch := first | assumption | omega | (simp only [Sh_pI, Sh_pL, Sh_pIs, Sh_pLs]; assumption)) only [↓ixb, Option.bind_some, Option.toList_some, Option.toList_none, List.cons_append, List.nil_append, e_49_5]
          rw [if_pos (show ni 0 = 0 from rfl), if_pos x', D18 hs c hk z z2 hn, decide_eq_false p, bi_f]
          simp (disch := first | assumption | omega | (simp only [Sh_pI, Sh_pL, Sh_pIs, Sh_pLs]; assumption)) only [↓ixb, Option.bind_some, Option.bind_none, Option.toList_some, Option.toList_none, List.cons_append, List.nil_append, ni_lit, ni_of, ni_add, ni_mul, ni_sub, ni_div, ni_lt, ni_le, ni_eq, ng_lt, ng_le, ng_lt', ng_le', ng_eq, ng_eq', ng_ng, Int32.neg_neg, ix_ni, if_pos, if_neg, reduceIte, e_49_37, D7, e_49_46]
        · have fin : ∀ {o4 o5 o6 o7 o8 o9 o10 o11 : Option am_V}, am_E 52 (46, [some (vr (some 261)), some (vi (ni k)), some (vi a2), some (vi (ni n)), o4, o5, o6, o7, o8, o9, o10, o11], [], h) = some (some (vi (-ni 5)), pI h 262 5 (hI h 262 5 + 1)) := by
            intros; simp (disch := first | assumption | omega | (simp only [Sh_pI, Sh_pL, Sh_pIs, Sh_pLs]; assumption)) only [↓ixb, Option.bind_some, Option.bind_none, Option.toList_some, Option.toList_none, List.cons_append, List.nil_append, ni_lit, ni_of, ni_add, ni_mul, ni_sub, ni_div, ni_lt, ni_le, ni_eq, ng_lt, ng_le, ng_lt', ng_le', ng_eq, ng_eq', ng_ng, Int32.neg_neg, ix_ni, if_pos, if_neg, reduceIte, e_52_46, D10, e_52_52]
          rw [d_52 hs, D50t hs c hk z]; simp (disch := first | assumption | omega | (simp only [Sh_pI, Sh_pL, Sh_pIs, Sh_pLs]; assumption)) only [↓ixb, Option.bind_some, Option.toList_some, Option.toList_none, List.cons_append, List.nil_append, e_52_5, ix_ni, mHn c hk z, fin]
          rw [if_pos (show ni 0 = 0 from rfl), if_pos x']
          simp (disch := first | assumption | omega | (simp only [Sh_pI, Sh_pL, Sh_pIs, Sh_pLs]; assumption)) only [ltt, lett, ni_lit, ni_toInt, ni_subi]
          by_cases q : a2.toInt < 0
          · exact if_pos (by omega)
          · rw [if_neg (by omega), if_neg (by omega)]
  · refine refg V e (by omega) (fun h hs c => ?_) (fun h hs c => ?_)
    · rw [d_49 hs, D12f hs V c w]; simp (disch := first | assumption | omega | (simp only [Sh_pI, Sh_pL, Sh_pIs, Sh_pLs]; assumption)) only [↓ixb, Option.bind_some, Option.bind_none, Option.toList_some, Option.toList_none, List.cons_append, List.nil_append, ni_lit, ni_of, ni_add, ni_mul, ni_sub, ni_div, ni_lt, ni_le, ni_eq, ng_lt, ng_le, ng_lt', ng_le', ng_eq, ng_eq', ng_ng, Int32.neg_neg, ix_ni, if_pos, if_neg, reduceIte, e_49_5, D7, e_49_18]
    · rw [d_52 hs, D50f hs c w]; simp (disch := first | assumption | omega | (simp only [Sh_pI, Sh_pL, Sh_pIs, Sh_pLs]; assumption)) only [↓ixb, Option.bind_some, Option.bind_none, Option.toList_some, Option.toList_none, List.cons_append, List.nil_append, ni_lit, ni_of, ni_add, ni_mul, ni_sub, ni_div, ni_lt, ni_le, ni_eq, ng_lt, ng_le, ng_lt', ng_le', ng_eq, ng_eq', ng_ng, Int32.neg_neg, ix_ni, if_pos, if_neg, reduceIte, e_52_5, D10, e_52_18]
