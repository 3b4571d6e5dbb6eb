/-! shelves: show, row, set, copy -/
theorem pLs_pL {h : am_H} {a j : Nat} {v : Int64} {g : Nat → Int64} : pLs (pL h a j v) a g = pLs h a g := by
  unfold pLs pL
  refine Prod.ext rfl (Prod.ext rfl (Prod.ext rfl (Prod.ext rfl (Prod.ext ?_ rfl))))
  funext b k
  show (if b = a then g k else if b = a ∧ k = j then v else hL h b k) = if b = a then g k else hL h b k
  by_cases e : b = a
  · rw [if_pos e, if_pos e]
  · rw [if_neg e, if_neg e, if_neg (fun z => e z.1)]
theorem pLs_self {h : am_H} {a : Nat} {g : Nat → Int64} (e : ∀ j, g j = hL h a j) : pLs h a g = h := by
  obtain ⟨h1, h2, h3, h4, h5, h6⟩ := h
  unfold pLs
  refine Prod.ext rfl (Prod.ext rfl (Prod.ext rfl (Prod.ext rfl (Prod.ext ?_ rfl))))
  funext b k
  show (if b = a then g k else _) = _
  by_cases z : b = a
  · rw [if_pos z, z]; exact e k
  · rw [if_neg z]; rfl
theorem pIs_pI {h : am_H} {a j : Nat} {v : Int32} {g : Nat → Int32} : pIs (pI h a j v) a g = pIs h a g := by
  unfold pIs pI
  refine Prod.ext rfl (Prod.ext rfl (Prod.ext rfl (Prod.ext ?_ rfl)))
  funext b k
  show (if b = a then g k else if b = a ∧ k = j then v else hI h b k) = if b = a then g k else hI h b k
  by_cases e : b = a
  · rw [if_pos e, if_pos e]
  · rw [if_neg e, if_neg e, if_neg (fun z => e z.1)]
theorem pIs_self {h : am_H} {a : Nat} {g : Nat → Int32} (e : ∀ j, g j = hI h a j) : pIs h a g = h := by
  obtain ⟨h1, h2, h3, h4, h5, h6⟩ := h
  unfold pIs
  refine Prod.ext rfl (Prod.ext rfl (Prod.ext rfl (Prod.ext ?_ rfl)))
  funext b k
  show (if b = a then g k else _) = _
  by_cases z : b = a
  · rw [if_pos z, z]; exact e k
  · rw [if_neg z]; rfl
theorem Kg_pLs {W : Nat → Nat → Prop} {h h1 : am_H} {a : Nat} {g : Nat → Int64} (hs : ∀ j, W a j) (k : Kg W h h1) : Kg W h (pLs h1 a g) := ⟨k.1, k.2.1, k.2.2.1, k.2.2.2.1, k.2.2.2.2.1, fun b i hn => by
  rw [hL_pLs, if_neg (fun z => hn (by rw [z]; exact hs i))]; exact k.2.2.2.2.2 b i hn⟩
theorem A4 : ∀ a1 a2 a3, Alike 25 28 [vi a1, vi a2, vi a3] := fun a1 a2 a3 => glue fun s V => by
  rcases rg a1 8 with ⟨k, hk, rfl⟩ | hn
  · by_cases e1 : a2 = -ni 1
    · subst e1
      refine ⟨ni 0, shv s k 0 0 0 0 0 (sE s), shv_Vs V k 0 0 0 0 0 _ (Or.inl rfl), fun h hs c => ⟨pI h 27 k (-ni 1), ?_, ?_⟩, fun h hs c => ⟨pI (pI h 281 k (ni 0)) 284 k (ni 0), ?_, ?_⟩⟩
      · rw [d_25 hs, D6t hs hk]; simp (disch := first | assumption | omega | (simp only [Sh_pI, Sh_pL, Sh_pIs, Sh_pLs]; assumption)) only [Option.bind_some, Option.bind_none, Option.toList_some, Option.toList_none, List.cons_append, List.nil_append, ni_lit, ni_of, ni_add, ni_mul, ni_sub, ni_div, ni_lt, ni_le, ni_eq, ng_lt, ng_le, ng_lt', ng_le', ng_eq, ng_eq', ng_ng, Int32.neg_neg, ix_ni, if_pos, if_neg, reduceIte, e_25_4]
      · refine Cok_sh V hs (Kg_pI (by omega) (Kg_refl h)) (shv_Es ..) c (shv_CH c (fun i hi => ⟨by rw [hI_pI, if_neg (fun z => hi z.2)], by rw [hI_pI, if_neg (fun z => by omega)], fun j => rfl⟩) (fun _ _ _ _ => rfl) V ⟨fun _ => by rw [hI_pI, if_pos ⟨rfl, rfl⟩], fun z => (by cases z), fun z => (by cases z)⟩)
      · rw [d_28 hs, D9t hs hk]; simp (disch := first | assumption | omega | (simp only [Sh_pI, Sh_pL, Sh_pIs, Sh_pLs]; assumption)) only [Option.bind_some, Option.bind_none, Option.toList_some, Option.toList_none, List.cons_append, List.nil_append, ni_lit, ni_of, ni_add, ni_mul, ni_sub, ni_div, ni_lt, ni_le, ni_eq, ng_lt, ng_le, ng_lt', ng_le', ng_eq, ng_eq', ng_ng, Int32.neg_neg, ix_ni, if_pos, if_neg, reduceIte, e_28_5, e_28_28, e_28_43, e_28_64]
      · refine Mok_sh V (Kg_pI (by omega) (Kg_pI (by omega) (Kg_refl h))) (shv_Es ..) c (shv_MH c (fun i hi => ?_) (fun _ _ _ _ => rfl) V ⟨?_, fun z => (by cases z), fun z => (by cases z)⟩)
        · simp [hI_pI, hL_pI, hi]
        · simp [hI_pI]
    · by_cases hq : isQ s a2 a3
      · obtain ⟨a, r, ha, hr, rfl, rfl⟩ := hq
        have v1 := vS V
        have v2 := vN V ha
        refine ⟨ni 1, shv s k 2 0 0 a r (sE s), shv_Vs V k 2 0 0 a r _ (Or.inr (Or.inr ⟨rfl, ha, hr⟩)), fun h hs c => ⟨pI h 27 k (ni (10 * a + r)), ?_, ?_⟩, fun h hs c => ⟨pI (pI h 281 k (ni 2)) 284 k (ni (8 * a + r)), ?_, ?_⟩⟩
        · obtain ⟨b, w, l, q1, q2, -⟩ := (c.2.2.2.2.1.2.2.2 a ha).2.2 r hr
          have q1' : hR h 37 (8 * a + r) = some b := q1
          rw [d_25 hs, D6t hs hk]; simp (disch := first | assumption | omega | (simp only [Sh_pI, Sh_pL, Sh_pIs, Sh_pLs]; assumption)) only [Option.bind_some, Option.bind_none, Option.toList_some, Option.toList_none, List.cons_append, List.nil_append, ni_lit, ni_of, ni_add, ni_mul, ni_sub, ni_div, ni_lt, ni_le, ni_eq, ng_lt, ng_le, ng_lt', ng_le', ng_eq, ng_eq', ng_ng, Int32.neg_neg, ix_ni, if_pos, if_neg, reduceIte, e_25_4, D24t hs V c ha hr, q1', e_25_36_1 hs q2]
        · refine Cok_sh V hs (Kg_pI (by omega) (Kg_refl h)) (shv_Es ..) c (shv_CH c (fun i hi => ⟨by rw [hI_pI, if_neg (fun z => hi z.2)], by rw [hI_pI, if_neg (fun z => by omega)], fun j => rfl⟩) (fun _ _ _ _ => rfl) V ⟨fun z => (by cases z), fun z => (by cases z), fun z => by rw [hI_pI, if_pos ⟨rfl, rfl⟩]⟩)
        · rw [d_28 hs, D9t hs hk]; simp (disch := first | assumption | omega | (simp only [Sh_pI, Sh_pL, Sh_pIs, Sh_pLs]; assumption)) only [Option.bind_some, Option.bind_none, Option.toList_some, Option.toList_none, List.cons_append, List.nil_append, ni_lit, ni_of, ni_add, ni_mul, ni_sub, ni_div, ni_lt, ni_le, ni_eq, ng_lt, ng_le, ng_lt', ng_le', ng_eq, ng_eq', ng_ng, Int32.neg_neg, ix_ni, if_pos, if_neg, reduceIte, e_28_5, D27t hs V c ha hr, e_28_19, e_28_28, e_28_43, e_28_64]
        · refine Mok_sh V (Kg_pI (by omega) (Kg_pI (by omega) (Kg_refl h))) (shv_Es ..) c (shv_MH c (fun i hi => ?_) (fun _ _ _ _ => rfl) V ⟨?_, fun z => (by cases z), fun z => ?_⟩)
          · simp [hI_pI, hL_pI, hi]
          · simp [hI_pI]
          · simp [hI_pI]
      · refine ⟨-ni 1, sRf s 1, Vs_rf V, HC_r V (by omega) fun h hs c => ?_, HM_r (by omega) fun h hs c => ?_⟩
        · rw [d_25 hs, D6t hs hk]; simp (disch := first | assumption | omega | (simp only [Sh_pI, Sh_pL, Sh_pIs, Sh_pLs]; assumption)) only [Option.bind_some, Option.bind_none, Option.toList_some, Option.toList_none, List.cons_append, List.nil_append, ni_lit, ni_of, ni_add, ni_mul, ni_sub, ni_div, ni_lt, ni_le, ni_eq, ng_lt, ng_le, ng_lt', ng_le', ng_eq, ng_eq', ng_ng, Int32.neg_neg, ix_ni, if_pos, if_neg, reduceIte, e_25_4, e1, D24f hs V c hq, e_25_36, e_25_44, D7]
        · rw [d_28 hs, D9t hs hk]; simp (disch := first | assumption | omega | (simp only [Sh_pI, Sh_pL, Sh_pIs, Sh_pLs]; assumption)) only [Option.bind_some, Option.bind_none, Option.toList_some, Option.toList_none, List.cons_append, List.nil_append, ni_lit, ni_of, ni_add, ni_mul, ni_sub, ni_div, ni_lt, ni_le, ni_eq, ng_lt, ng_le, ng_lt', ng_le', ng_eq, ng_eq', ng_ng, Int32.neg_neg, ix_ni, if_pos, if_neg, reduceIte, e_28_5, e1, D27f hs V c hq, e_28_19, e_28_22, e_28_27, D10]
  · refine ⟨-ni 1, sRf s 1, Vs_rf V, HC_r V (by omega) fun h hs c => ?_, HM_r (by omega) fun h hs c => ?_⟩
    · rw [d_25 hs, D6f hs hn]; simp (disch := first | assumption | omega | (simp only [Sh_pI, Sh_pL, Sh_pIs, Sh_pLs]; assumption)) only [Option.bind_some, Option.bind_none, Option.toList_some, Option.toList_none, List.cons_append, List.nil_append, ni_lit, ni_of, ni_add, ni_mul, ni_sub, ni_div, ni_lt, ni_le, ni_eq, ng_lt, ng_le, ng_lt', ng_le', ng_eq, ng_eq', ng_ng, Int32.neg_neg, ix_ni, if_pos, if_neg, reduceIte, e_25_4, e_25_12, D7]
    · rw [d_28 hs, D9f hs hn]; simp (disch := first | assumption | omega | (simp only [Sh_pI, Sh_pL, Sh_pIs, Sh_pLs]; assumption)) only [Option.bind_some, Option.bind_none, Option.toList_some, Option.toList_none, List.cons_append, List.nil_append, ni_lit, ni_of, ni_add, ni_mul, ni_sub, ni_div, ni_lt, ni_le, ni_eq, ng_lt, ng_le, ng_lt', ng_le', ng_eq, ng_eq', ng_ng, Int32.neg_neg, ix_ni, if_pos, if_neg, reduceIte, e_28_5, e_28_22, e_28_27, D10]
-- row
theorem L8 {k n : Nat} (hk : k < 8) (hn : n ≤ 100) {o2 : Option am_V} : ∀ (m i : Nat) (h : am_H), Sh h → i + m = n → am_E 8 (73, [some (vr (some 16)), some (vi (ni k)), o2, some (vi (ni n)), some (vi (ni i))], [], h) = some (some (vi (ni 1)), pLs h (18 + k) (fun j => if i ≤ j ∧ j < n then 0 else hL h (18 + k) j)) := by
  intro m
  induction m with
  | zero =>
    intro i h hs e
    rw [e_8_73 hs, pLs_self (fun j => by rw [if_neg (by omega)])]
    simp (disch := first | assumption | omega | (simp only [Sh_pI, Sh_pL, Sh_pIs, Sh_pLs]; assumption)) only [Option.bind_some, Option.bind_none, Option.toList_some, Option.toList_none, List.cons_append, List.nil_append, ni_lit, ni_of, ni_add, ni_mul, ni_sub, ni_div, ni_lt, ni_le, ni_eq, ng_lt, ng_le, ng_lt', ng_le', ng_eq, ng_eq', ng_ng, Int32.neg_neg, ix_ni, if_pos, if_neg, reduceIte]
  | succ m ih =>
    intro i h hs e
    rw [e_8_73 hs]
    simp (disch := first | assumption | omega | (simp only [Sh_pI, Sh_pL, Sh_pIs, Sh_pLs]; assumption)) only [Option.bind_some, Option.bind_none, Option.toList_some, Option.toList_none, List.cons_append, List.nil_append, ni_lit, ni_of, ni_add, ni_mul, ni_sub, ni_div, ni_lt, ni_le, ni_eq, ng_lt, ng_le, ng_lt', ng_le', ng_eq, ng_eq', ng_ng, Int32.neg_neg, ix_ni, if_pos, if_neg, reduceIte]
    rw [ih (i + 1) (pL h (18 + k) i 0) hs (by omega), pLs_pL]
    refine congrArg (fun g => some (some (vi (ni 1)), pLs h (18 + k) g)) ?_
    funext j
    rw [hL_pL]
    by_cases z : j = i
    · rw [if_neg (by omega), if_pos ⟨rfl, z⟩, if_pos (by omega)]
    · rw [if_neg (c := 18 + k = 18 + k ∧ j = i) (fun y => z y.2)]
      by_cases y : i ≤ j ∧ j < n
      · rw [if_pos y, if_pos (by omega)]
      · rw [if_neg y, if_neg (by omega)]
theorem L11 {k : Nat} (hk : k < 8) : ∀ (m i : Nat) (h : am_H) (o2 o3 : Option am_V), Sh h → i + m = 100 → am_E 11 (78, [some (vr (some 261)), some (vi (ni k)), o2, o3, some (vi (ni i))], [], h) = some (some (vi (ni 1)), pLs h 285 (fun j => if 100 * k + i ≤ j ∧ j < 100 * k + 100 then 0 else hL h 285 j)) := by
  intro m
  induction m with
  | zero =>
    intro i h o2 o3 hs e
    rw [e_11_78 hs, pLs_self (fun j => by rw [if_neg (by omega)])]
    simp (disch := first | assumption | omega | (simp only [Sh_pI, Sh_pL, Sh_pIs, Sh_pLs]; assumption)) only [Option.bind_some, Option.bind_none, Option.toList_some, Option.toList_none, List.cons_append, List.nil_append, ni_lit, ni_of, ni_add, ni_mul, ni_sub, ni_div, ni_lt, ni_le, ni_eq, ng_lt, ng_le, ng_lt', ng_le', ng_eq, ng_eq', ng_ng, Int32.neg_neg, ix_ni, if_pos, if_neg, reduceIte]
  | succ m ih =>
    intro i h o2 o3 hs e
    rw [e_11_78 hs]
    simp (disch := first | assumption | omega | (simp only [Sh_pI, Sh_pL, Sh_pIs, Sh_pLs]; assumption)) only [Option.bind_some, Option.bind_none, Option.toList_some, Option.toList_none, List.cons_append, List.nil_append, ni_lit, ni_of, ni_add, ni_mul, ni_sub, ni_div, ni_lt, ni_le, ni_eq, ng_lt, ng_le, ng_lt', ng_le', ng_eq, ng_eq', ng_ng, Int32.neg_neg, ix_ni, if_pos, if_neg, reduceIte]
    rw [ih (i + 1) (pL h 285 (100 * k + i) 0) _ _ hs (by omega), pLs_pL]
    refine congrArg (fun g => some (some (vi (ni 1)), pLs h 285 g)) ?_
    funext j
    rw [hL_pL]
    by_cases z : j = 100 * k + i
    · rw [if_neg (by omega), if_pos ⟨rfl, z⟩, if_pos (by omega)]
    · rw [if_neg (c := 285 = 285 ∧ j = 100 * k + i) (fun y => z y.2)]
      by_cases y : 100 * k + i ≤ j ∧ j < 100 * k + 100
      · rw [if_pos y, if_pos (by omega)]
      · rw [if_neg y, if_neg (by omega)]
theorem A0 : ∀ a1 a2 a3, Alike 8 11 [vi a1, vi a2, vi a3] := fun a1 a2 a3 => glue fun s V => by
  have ref : ∀ e, 0 < e → e < 8 → (∀ h, Sh h → am_D 8 [vr (some 16), vi a1, vi a2, vi a3] h = some (some (vi (-ni e)), pI h 260 e (hI h 260 e + 1))) → (∀ h, Sh h → am_D 11 [vr (some 261), vi a1, vi a2, vi a3] h = some (some (vi (-ni e)), pI h 262 e (hI h 262 e + 1))) → ∃ (v : Int32) (s' : Sg), Vs s' ∧ HC 8 [vi a1, vi a2, vi a3] s (vi v) s' ∧ HM 11 [vi a1, vi a2, vi a3] s (vi v) s' := fun e h0 h8 x1 x2 => ⟨-ni e, sRf s e, Vs_rf V, HC_r V h8 fun h hs _ => x1 h hs, HM_r h8 fun h hs _ => x2 h hs⟩
  rcases rg a1 8 with ⟨k, hk, rfl⟩ | hn
  · rcases ni_cases a3 with ⟨z, n, hn, rfl⟩ | ⟨n, hn, rfl⟩
    · have z' : ¬ (0 : Int32) ≤ -ni n := Int32.not_le.mpr z
      refine ref 4 (by omega) (by omega) (fun h hs => ?_) (fun h hs => ?_)
      · rw [d_8 hs, D6t hs hk]; simp (disch := first | assumption | omega | (simp only [Sh_pI, Sh_pL, Sh_pIs, Sh_pLs]; assumption)) only [Option.bind_some, Option.toList_some, List.cons_append, List.nil_append, e_8_4]
        rw [if_neg (by decide), if_neg z']
        simp (disch := first | assumption | omega | (simp only [Sh_pI, Sh_pL, Sh_pIs, Sh_pLs]; assumption)) only [Option.bind_some, Option.bind_none, Option.toList_some, Option.toList_none, List.cons_append, List.nil_append, ni_lit, ni_of, ni_add, ni_mul, ni_sub, ni_div, ni_lt, ni_le, ni_eq, ng_lt, ng_le, ng_lt', ng_le', ng_eq, ng_eq', ng_ng, Int32.neg_neg, ix_ni, if_pos, if_neg, reduceIte, D7, e_8_23]
      · rw [d_11 hs, D9t hs hk]; simp (disch := first | assumption | omega | (simp only [Sh_pI, Sh_pL, Sh_pIs, Sh_pLs]; assumption)) only [Option.bind_some, Option.toList_some, List.cons_append, List.nil_append, e_11_5]
        rw [if_neg (by decide), if_neg z']
        simp (disch := first | assumption | omega | (simp only [Sh_pI, Sh_pL, Sh_pIs, Sh_pLs]; assumption)) only [Option.bind_some, Option.bind_none, Option.toList_some, Option.toList_none, List.cons_append, List.nil_append, ni_lit, ni_of, ni_add, ni_mul, ni_sub, ni_div, ni_lt, ni_le, ni_eq, ng_lt, ng_le, ng_lt', ng_le', ng_eq, ng_eq', ng_ng, Int32.neg_neg, ix_ni, if_pos, if_neg, reduceIte, D10, e_11_24]
    · have z' : (0 : Int32) ≤ ni n := by rw [show (0 : Int32) = ni 0 from rfl, ni_le (by omega) hn]; omega
      rcases rg a2 4 with ⟨o, ho, rfl⟩ | ho
      · by_cases h100 : n ≤ 100
        · refine ⟨ni 1, shv s k 1 o n 0 0 (fun j => if 100 * k ≤ j ∧ j < 100 * k + 100 then 0 else sE s j), shv_Vs V k 1 o n 0 0 _ (Or.inr (Or.inl ⟨rfl, by omega, h100⟩)), fun h hs c => ⟨pLs (pI (pI h 27 k (ni (100 + o))) 26 k (ni n)) (18 + k) (fun j => if 0 ≤ j ∧ j < n then 0 else hL h (18 + k) j), ?_, ?_⟩, fun h hs c => ⟨pLs (pI (pI (pI h 281 k (ni 1)) 282 k (ni o)) 283 k (ni n)) 285 (fun j => if 100 * k + 0 ≤ j ∧ j < 100 * k + 100 then 0 else hL h 285 j), ?_, ?_⟩⟩
          · rw [d_8 hs, D6t hs hk]; simp (disch := first | assumption | omega | (simp only [Sh_pI, Sh_pL, Sh_pIs, Sh_pLs]; assumption)) only [Option.bind_some, Option.bind_none, Option.toList_some, Option.toList_none, List.cons_append, List.nil_append, ni_lit, ni_of, ni_add, ni_mul, ni_sub, ni_div, ni_lt, ni_le, ni_eq, ng_lt, ng_le, ng_lt', ng_le', ng_eq, ng_eq', ng_ng, Int32.neg_neg, ix_ni, if_pos, if_neg, reduceIte, e_8_4]
            exact L8 hk h100 n 0 _ hs (by omega)
          · refine Cok_sh V hs (Kg_pLs (fun _ => by omega) (Kg_pI (by omega) (Kg_pI (by omega) (Kg_refl h)))) (shv_Es ..) c (shv_CH c (fun i hi => ⟨?_, ?_, fun j => ?_⟩) (fun i hi j hj => ?_) V ⟨fun z => (by cases z), fun _ => ⟨?_, ?_, fun j hj => ?_⟩, fun z => (by cases z)⟩)
            · simp [hI_pI, hI_pLs, hi]
            · simp [hI_pI, hI_pLs, hi]
            · rw [hL_pLs, if_neg (by omega)]; rfl
            · exact if_neg (by omega)
            · simp [hI_pI, hI_pLs]
            · simp [hI_pI, hI_pLs]
            · rw [hL_pLs, if_pos rfl, if_pos (by omega), if_pos (by omega)]
          · rw [d_11 hs, D9t hs hk]; simp (disch := first | assumption | omega | (simp only [Sh_pI, Sh_pL, Sh_pIs, Sh_pLs]; assumption)) only [Option.bind_some, Option.bind_none, Option.toList_some, Option.toList_none, List.cons_append, List.nil_append, ni_lit, ni_of, ni_add, ni_mul, ni_sub, ni_div, ni_lt, ni_le, ni_eq, ng_lt, ng_le, ng_lt', ng_le', ng_eq, ng_eq', ng_ng, Int32.neg_neg, ix_ni, if_pos, if_neg, reduceIte, e_11_5]
            exact L11 hk 100 0 _ _ _ hs (by omega)
          · refine Mok_sh V (Kg_pLs (fun _ => by omega) (Kg_pI (by omega) (Kg_pI (by omega) (Kg_pI (by omega) (Kg_refl h))))) (shv_Es ..) c (shv_MH c (fun i hi => ⟨?_, ?_, ?_, ?_, fun j hj => ?_⟩) (fun i hi j hj => ?_) V ⟨?_, fun _ => ⟨?_, ?_, fun j hj => ?_⟩, fun z => (by cases z)⟩)
            · simp [hI_pI, hI_pLs, hi]
            · simp [hI_pI, hI_pLs, hi]
            · simp [hI_pI, hI_pLs, hi]
            · simp [hI_pI, hI_pLs, hi]
            · rw [hL_pLs, if_pos rfl, if_neg (by omega)]
            · exact if_neg (by omega)
            · simp [hI_pI, hI_pLs]
            · simp [hI_pI, hI_pLs]
            · simp [hI_pI, hI_pLs]
            · rw [hL_pLs, if_pos rfl, if_pos (by omega), if_pos (by omega)]
        · refine ref 7 (by omega) (by omega) (fun h hs => ?_) (fun h hs => ?_)
          · rw [d_8 hs, D6t hs hk]; simp (disch := first | assumption | omega | (simp only [Sh_pI, Sh_pL, Sh_pIs, Sh_pLs]; assumption)) only [Option.bind_some, Option.bind_none, Option.toList_some, Option.toList_none, List.cons_append, List.nil_append, ni_lit, ni_of, ni_add, ni_mul, ni_sub, ni_div, ni_lt, ni_le, ni_eq, ng_lt, ng_le, ng_lt', ng_le', ng_eq, ng_eq', ng_ng, Int32.neg_neg, ix_ni, if_pos, if_neg, reduceIte, e_8_4, D7, e_8_52]
          · rw [d_11 hs, D9t hs hk]; simp (disch := first | assumption | omega | (simp only [Sh_pI, Sh_pL, Sh_pIs, Sh_pLs]; assumption)) only [Option.bind_some, Option.bind_none, Option.toList_some, Option.toList_none, List.cons_append, List.nil_append, ni_lit, ni_of, ni_add, ni_mul, ni_sub, ni_div, ni_lt, ni_le, ni_eq, ng_lt, ng_le, ng_lt', ng_le', ng_eq, ng_eq', ng_ng, Int32.neg_neg, ix_ni, if_pos, if_neg, reduceIte, e_11_5, D10, e_11_53]
      · refine ref 6 (by omega) (by omega) (fun h hs => ?_) (fun h hs => ?_)
        · have fin : am_E 8 (33, [some (vr (some 16)), some (vi (ni k)), some (vi a2), some (vi (ni n)), none], [], h) = some (some (vi (-ni 6)), pI h 260 6 (hI h 260 6 + 1)) := by
            simp (disch := first | assumption | omega | (simp only [Sh_pI, Sh_pL, Sh_pIs, Sh_pLs]; assumption)) only [Option.bind_some, Option.bind_none, Option.toList_some, Option.toList_none, List.cons_append, List.nil_append, ni_lit, ni_of, ni_add, ni_mul, ni_sub, ni_div, ni_lt, ni_le, ni_eq, ng_lt, ng_le, ng_lt', ng_le', ng_eq, ng_eq', ng_ng, Int32.neg_neg, ix_ni, if_pos, if_neg, reduceIte, e_8_33, D7, e_8_39]
          rw [d_8 hs, D6t hs hk]; simp (disch := first | assumption | omega | (simp only [Sh_pI, Sh_pL, Sh_pIs, Sh_pLs]; assumption)) only [Option.bind_some, Option.toList_some, List.cons_append, List.nil_append, e_8_4]
          rw [if_neg (by decide), if_pos z', fin]
          rcases ni_cases a2 with ⟨y, -⟩ | ⟨o, ho2, rfl⟩
          · exact if_pos y
          · have : ¬ o < 4 := fun y => ho o y rfl
            simp (disch := first | assumption | omega | (simp only [Sh_pI, Sh_pL, Sh_pIs, Sh_pLs]; assumption)) only [Option.bind_some, Option.bind_none, Option.toList_some, Option.toList_none, List.cons_append, List.nil_append, ni_lit, ni_of, ni_add, ni_mul, ni_sub, ni_div, ni_lt, ni_le, ni_eq, ng_lt, ng_le, ng_lt', ng_le', ng_eq, ng_eq', ng_ng, Int32.neg_neg, ix_ni, if_pos, if_neg, reduceIte]
        · have fin : am_E 11 (34, [some (vr (some 261)), some (vi (ni k)), some (vi a2), some (vi (ni n)), none], [], h) = some (some (vi (-ni 6)), pI h 262 6 (hI h 262 6 + 1)) := by
            simp (disch := first | assumption | omega | (simp only [Sh_pI, Sh_pL, Sh_pIs, Sh_pLs]; assumption)) only [Option.bind_some, Option.bind_none, Option.toList_some, Option.toList_none, List.cons_append, List.nil_append, ni_lit, ni_of, ni_add, ni_mul, ni_sub, ni_div, ni_lt, ni_le, ni_eq, ng_lt, ng_le, ng_lt', ng_le', ng_eq, ng_eq', ng_ng, Int32.neg_neg, ix_ni, if_pos, if_neg, reduceIte, e_11_34, D10, e_11_40]
          rw [d_11 hs, D9t hs hk]; simp (disch := first | assumption | omega | (simp only [Sh_pI, Sh_pL, Sh_pIs, Sh_pLs]; assumption)) only [Option.bind_some, Option.toList_some, List.cons_append, List.nil_append, e_11_5]
          rw [if_neg (by decide), if_pos z', fin]
          rcases ni_cases a2 with ⟨y, -⟩ | ⟨o, ho2, rfl⟩
          · exact if_pos y
          · have : ¬ o < 4 := fun y => ho o y rfl
            simp (disch := first | assumption | omega | (simp only [Sh_pI, Sh_pL, Sh_pIs, Sh_pLs]; assumption)) only [Option.bind_some, Option.bind_none, Option.toList_some, Option.toList_none, List.cons_append, List.nil_append, ni_lit, ni_of, ni_add, ni_mul, ni_sub, ni_div, ni_lt, ni_le, ni_eq, ng_lt, ng_le, ng_lt', ng_le', ng_eq, ng_eq', ng_ng, Int32.neg_neg, ix_ni, if_pos, if_neg, reduceIte]
  · refine ref 1 (by omega) (by omega) (fun h hs => ?_) (fun h hs => ?_)
    · rw [d_8 hs, D6f hs hn]; simp (disch := first | assumption | omega | (simp only [Sh_pI, Sh_pL, Sh_pIs, Sh_pLs]; assumption)) only [Option.bind_some, Option.bind_none, Option.toList_some, Option.toList_none, List.cons_append, List.nil_append, ni_lit, ni_of, ni_add, ni_mul, ni_sub, ni_div, ni_lt, ni_le, ni_eq, ng_lt, ng_le, ng_lt', ng_le', ng_eq, ng_eq', ng_ng, Int32.neg_neg, ix_ni, if_pos, if_neg, reduceIte, e_8_4, D7, e_8_12]
    · rw [d_11 hs, D9f hs hn]; simp (disch := first | assumption | omega | (simp only [Sh_pI, Sh_pL, Sh_pIs, Sh_pLs]; assumption)) only [Option.bind_some, Option.bind_none, Option.toList_some, Option.toList_none, List.cons_append, List.nil_append, ni_lit, ni_of, ni_add, ni_mul, ni_sub, ni_div, ni_lt, ni_le, ni_eq, ng_lt, ng_le, ng_lt', ng_le', ng_eq, ng_eq', ng_ng, Int32.neg_neg, ix_ni, if_pos, if_neg, reduceIte, e_11_5, D10, e_11_13]
