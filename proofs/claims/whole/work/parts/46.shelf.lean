/-! shelves: element, show, row, set, copy -/
section SHF
variable {h : am_H} {s : Sg}
theorem D12t (hs : Sh h) (V : Vs s) (c : CS h s) {k : Nat} (hk : k < 8) (z : sD s 17 k = 1) : am_D 12 [vr (some 16), vi (ni k)] h = some (some (vi (ni 0)), h) := by
  have v : sD s 18 k ≤ 3 := by rcases V.2.2.1 k hk with y | y | y <;> omega
  rw [d_12 hs, D6t hs hk]; simp (disch := first | assumption | omega | (simp only [Sh_pI, Sh_pL, Sh_pIs, Sh_pLs]; assumption)) only [Option.bind_some, Option.bind_none, Option.toList_some, Option.toList_none, List.cons_append, List.nil_append, ni_lit, ni_of, ni_add, ni_mul, ni_sub, ni_div, ni_lt, ni_le, ni_eq, ng_lt, ng_le, ng_lt', ng_le', ng_eq, ng_eq', ng_ng, Int32.neg_neg, ix_ni, if_pos, if_neg, reduceIte, e_12_4, cH1 c hk z]
/-- which refusal: 1 no shelf, 2 shows a row, 3 empty -/
def wn (s : Sg) (x : Int32) : Nat → Prop := fun e => (e = 1 ∧ ∀ k, k < 8 → x ≠ ni k) ∨ ∃ k, k < 8 ∧ x = ni k ∧ ((e = 2 ∧ sD s 17 k = 2) ∨ (e = 3 ∧ sD s 17 k = 0))
theorem D12f (hs : Sh h) (V : Vs s) (c : CS h s) {x : Int32} {e : Nat} (w : wn s x e) : am_D 12 [vr (some 16), vi x] h = some (some (vi (-ni e)), h) := by
  rcases w with ⟨rfl, hn⟩ | ⟨k, hk, rfl, ⟨rfl, z⟩ | ⟨rfl, z⟩⟩
  · rw [d_12 hs, D6f hs hn]; simp (disch := first | assumption | omega | (simp only [Sh_pI, Sh_pL, Sh_pIs, Sh_pLs]; assumption)) only [Option.bind_some, Option.bind_none, Option.toList_some, Option.toList_none, List.cons_append, List.nil_append, ni_lit, ni_of, ni_add, ni_mul, ni_sub, ni_div, ni_lt, ni_le, ni_eq, ng_lt, ng_le, ng_lt', ng_le', ng_eq, ng_eq', ng_ng, Int32.neg_neg, ix_ni, if_pos, if_neg, reduceIte, e_12_4]
  · have v1 := vS V
    have v2 : sD s 20 k < sS s ∧ sD s 21 k < sD s 10 (sD s 20 k) := by rcases V.2.2.1 k hk with y | y | y <;> omega
    have v3 := vN V v2.1
    rw [d_12 hs, D6t hs hk]; simp (disch := first | assumption | omega | (simp only [Sh_pI, Sh_pL, Sh_pIs, Sh_pLs]; assumption)) only [Option.bind_some, Option.bind_none, Option.toList_some, Option.toList_none, List.cons_append, List.nil_append, ni_lit, ni_of, ni_add, ni_mul, ni_sub, ni_div, ni_lt, ni_le, ni_eq, ng_lt, ng_le, ng_lt', ng_le', ng_eq, ng_eq', ng_ng, Int32.neg_neg, ix_ni, if_pos, if_neg, reduceIte, e_12_4, cH2 c hk z]
  · rw [d_12 hs, D6t hs hk]; simp (disch := first | assumption | omega | (simp only [Sh_pI, Sh_pL, Sh_pIs, Sh_pLs]; assumption)) only [Option.bind_some, Option.bind_none, Option.toList_some, Option.toList_none, List.cons_append, List.nil_append, ni_lit, ni_of, ni_add, ni_mul, ni_sub, ni_div, ni_lt, ni_le, ni_eq, ng_lt, ng_le, ng_lt', ng_le', ng_eq, ng_eq', ng_ng, Int32.neg_neg, ix_ni, if_pos, if_neg, reduceIte, e_12_4, cH0 c hk z]
theorem D50t (hs : Sh h) (c : MS h s) {k : Nat} (hk : k < 8) (z : sD s 17 k = 1) : am_D 50 [vr (some 261), vi (ni k)] h = some (some (vi (ni 0)), h) := by
  rw [d_50 hs, D9t hs hk]; simp (disch := first | assumption | omega | (simp only [Sh_pI, Sh_pL, Sh_pIs, Sh_pLs]; assumption)) only [Option.bind_some, Option.bind_none, Option.toList_some, Option.toList_none, List.cons_append, List.nil_append, ni_lit, ni_of, ni_add, ni_mul, ni_sub, ni_div, ni_lt, ni_le, ni_eq, ng_lt, ng_le, ng_lt', ng_le', ng_eq, ng_eq', ng_ng, Int32.neg_neg, ix_ni, if_pos, if_neg, reduceIte, d_50, e_50_5, mH c hk, z]
theorem D50f (hs : Sh h) (c : MS h s) {x : Int32} {e : Nat} (w : wn s x e) : am_D 50 [vr (some 261), vi x] h = some (some (vi (-ni e)), h) := by
  rcases w with ⟨rfl, hn⟩ | ⟨k, hk, rfl, ⟨rfl, z⟩ | ⟨rfl, z⟩⟩
  · rw [d_50 hs, D9f hs hn]; simp (disch := first | assumption | omega | (simp only [Sh_pI, Sh_pL, Sh_pIs, Sh_pLs]; assumption)) only [Option.bind_some, Option.bind_none, Option.toList_some, Option.toList_none, List.cons_append, List.nil_append, ni_lit, ni_of, ni_add, ni_mul, ni_sub, ni_div, ni_lt, ni_le, ni_eq, ng_lt, ng_le, ng_lt', ng_le', ng_eq, ng_eq', ng_ng, Int32.neg_neg, ix_ni, if_pos, if_neg, reduceIte, d_50, e_50_5]
  · rw [d_50 hs, D9t hs hk]; simp (disch := first | assumption | omega | (simp only [Sh_pI, Sh_pL, Sh_pIs, Sh_pLs]; assumption)) only [Option.bind_some, Option.bind_none, Option.toList_some, Option.toList_none, List.cons_append, List.nil_append, ni_lit, ni_of, ni_add, ni_mul, ni_sub, ni_div, ni_lt, ni_le, ni_eq, ng_lt, ng_le, ng_lt', ng_le', ng_eq, ng_eq', ng_ng, Int32.neg_neg, ix_ni, if_pos, if_neg, reduceIte, d_50, e_50_5, mH c hk, z]
  · rw [d_50 hs, D9t hs hk]; simp (disch := first | assumption | omega | (simp only [Sh_pI, Sh_pL, Sh_pIs, Sh_pLs]; assumption)) only [Option.bind_some, Option.bind_none, Option.toList_some, Option.toList_none, List.cons_append, List.nil_append, ni_lit, ni_of, ni_add, ni_mul, ni_sub, ni_div, ni_lt, ni_le, ni_eq, ng_lt, ng_le, ng_lt', ng_le', ng_eq, ng_eq', ng_ng, Int32.neg_neg, ix_ni, if_pos, if_neg, reduceIte, d_50, e_50_5, mH c hk, z]
theorem wn_cases (V : Vs s) (x : Int32) : (∃ k, k < 8 ∧ x = ni k ∧ sD s 17 k = 1 ∧ sD s 18 k ≤ 3 ∧ sD s 19 k ≤ 100) ∨ ∃ e, e < 4 ∧ 0 < e ∧ wn s x e := by
  rcases rg x 8 with ⟨k, hk, rfl⟩ | hn
  · rcases V.2.2.1 k hk with z | ⟨z, z1, z2⟩ | ⟨z, z1, z2⟩
    · exact Or.inr ⟨3, by omega, by omega, Or.inr ⟨k, hk, rfl, Or.inr ⟨rfl, z⟩⟩⟩
    · exact Or.inl ⟨k, hk, rfl, z, z1, z2⟩
    · exact Or.inr ⟨2, by omega, by omega, Or.inr ⟨k, hk, rfl, Or.inl ⟨rfl, z⟩⟩⟩
  · exact Or.inr ⟨1, by omega, by omega, Or.inl ⟨rfl, hn⟩⟩
end SHF
theorem A3 : ∀ a1 a2, AlikeL 21 22 [vi a1, vi a2] := fun a1 a2 => glueL fun s V => by
  rcases wn_cases V a1 with ⟨k, hk, rfl, z, z1, z2⟩ | ⟨e, he, he0, w⟩
  · rcases rg a2 (sD s 19 k) with ⟨i, hi, rfl⟩ | hn
    · refine ⟨sE s (100 * k + i), s, V, HC_0 fun h hs c => ?_, HM_0 fun h hs c => ?_⟩
      · rw [d_21 hs, D12t hs V c hk z]; simp (disch := first | assumption | omega | (simp only [Sh_pI, Sh_pL, Sh_pIs, Sh_pLs]; assumption)) only [Option.bind_some, Option.bind_none, Option.toList_some, Option.toList_none, List.cons_append, List.nil_append, ni_lit, ni_of, ni_add, ni_mul, ni_sub, ni_div, ni_lt, ni_le, ni_eq, ng_lt, ng_le, ng_lt', ng_le', ng_eq, ng_eq', ng_ng, Int32.neg_neg, ix_ni, if_pos, if_neg, reduceIte, e_21_5, cHn c hk z, cHe c hk z hi]
      · rw [d_22 hs, D9t hs hk]; simp (disch := first | assumption | omega | (simp only [Sh_pI, Sh_pL, Sh_pIs, Sh_pLs]; assumption)) only [Option.bind_some, Option.bind_none, Option.toList_some, Option.toList_none, List.cons_append, List.nil_append, ni_lit, ni_of, ni_add, ni_mul, ni_sub, ni_div, ni_lt, ni_le, ni_eq, ng_lt, ng_le, ng_lt', ng_le', ng_eq, ng_eq', ng_ng, Int32.neg_neg, ix_ni, if_pos, if_neg, reduceIte, e_22_5, mH c hk, z, mHn c hk z, mHe c hk z hi]
    · refine ⟨0, s, V, HC_0 fun h hs c => ?_, HM_0 fun h hs c => ?_⟩
      · rw [d_21 hs, D12t hs V c hk z]; simp (disch := first | assumption | omega | (simp only [Sh_pI, Sh_pL, Sh_pIs, Sh_pLs]; assumption)) only [Option.bind_some, Option.toList_some, List.cons_append, List.nil_append, e_21_5, ix_ni, cHn c hk z]
        rw [if_pos (show ni 0 = 0 from rfl)]
        exact gd_g hn (by omega) _ _
      · rw [d_22 hs, D9t hs hk]; simp (disch := first | assumption | omega | (simp only [Sh_pI, Sh_pL, Sh_pIs, Sh_pLs]; assumption)) only [Option.bind_some, Option.toList_some, List.cons_append, List.nil_append, e_22_5, ix_ni, mH c hk, z, mHn c hk z]
        rw [if_neg (by decide), if_pos (by rfl)]
        exact gd_f hn (by omega) _ _
  · refine ⟨0, s, V, HC_0 fun h hs c => ?_, HM_0 fun h hs c => ?_⟩
    · rw [d_21 hs, D12f hs V c w]; simp (disch := first | assumption | omega | (simp only [Sh_pI, Sh_pL, Sh_pIs, Sh_pLs]; assumption)) only [Option.bind_some, Option.bind_none, Option.toList_some, Option.toList_none, List.cons_append, List.nil_append, ni_lit, ni_of, ni_add, ni_mul, ni_sub, ni_div, ni_lt, ni_le, ni_eq, ng_lt, ng_le, ng_lt', ng_le', ng_eq, ng_eq', ng_ng, Int32.neg_neg, ix_ni, if_pos, if_neg, reduceIte, e_21_5]
    · rcases w with ⟨rfl, hn⟩ | ⟨k, hk, rfl, ⟨rfl, z⟩ | ⟨rfl, z⟩⟩
      · rw [d_22 hs, D9f hs hn]; simp (disch := first | assumption | omega | (simp only [Sh_pI, Sh_pL, Sh_pIs, Sh_pLs]; assumption)) only [Option.bind_some, Option.bind_none, Option.toList_some, Option.toList_none, List.cons_append, List.nil_append, ni_lit, ni_of, ni_add, ni_mul, ni_sub, ni_div, ni_lt, ni_le, ni_eq, ng_lt, ng_le, ng_lt', ng_le', ng_eq, ng_eq', ng_ng, Int32.neg_neg, ix_ni, if_pos, if_neg, reduceIte, e_22_5]
      · rw [d_22 hs, D9t hs hk]; simp (disch := first | assumption | omega | (simp only [Sh_pI, Sh_pL, Sh_pIs, Sh_pLs]; assumption)) only [Option.bind_some, Option.bind_none, Option.toList_some, Option.toList_none, List.cons_append, List.nil_append, ni_lit, ni_of, ni_add, ni_mul, ni_sub, ni_div, ni_lt, ni_le, ni_eq, ng_lt, ng_le, ng_lt', ng_le', ng_eq, ng_eq', ng_ng, Int32.neg_neg, ix_ni, if_pos, if_neg, reduceIte, e_22_5, mH c hk, z]
      · rw [d_22 hs, D9t hs hk]; simp (disch := first | assumption | omega | (simp only [Sh_pI, Sh_pL, Sh_pIs, Sh_pLs]; assumption)) only [Option.bind_some, Option.bind_none, Option.toList_some, Option.toList_none, List.cons_append, List.nil_append, ni_lit, ni_of, ni_add, ni_mul, ni_sub, ni_div, ni_lt, ni_le, ni_eq, ng_lt, ng_le, ng_lt', ng_le', ng_eq, ng_eq', ng_ng, Int32.neg_neg, ix_ni, if_pos, if_neg, reduceIte, e_22_5, mH c hk, z]
-- a shelf is laid anew
/-- shelf k laid anew: what it holds, sort, length, saying and row shown; the elements -/
def shv (s : Sg) (k v o n t r : Nat) (E : Nat → Int64) : Sg := (fun i j => if j = k ∧ i = 17 then v else if j = k ∧ i = 18 then o else if j = k ∧ i = 19 then n else if j = k ∧ i = 20 then t else if j = k ∧ i = 21 then r else sD s i j, E, sF s, sX s)
theorem shv_Es (s : Sg) (k v o n t r : Nat) (E : Nat → Int64) : Es s (shv s k v o n t r E) := by
  refine ⟨fun i hi => ?_, rfl, rfl⟩
  funext j
  show (if j = k ∧ i = 17 then v else if j = k ∧ i = 18 then o else if j = k ∧ i = 19 then n else if j = k ∧ i = 20 then t else if j = k ∧ i = 21 then r else sD s i j) = _
  rw [if_neg (by omega), if_neg (by omega), if_neg (by omega), if_neg (by omega), if_neg (by omega)]
theorem Es_Vs {s s' : Sg} (e : Es s s') (V : Vs s) (H : ∀ i, i < 8 → sD s' 17 i = 0 ∨ (sD s' 17 i = 1 ∧ sD s' 18 i ≤ 3 ∧ sD s' 19 i ≤ 100) ∨ (sD s' 17 i = 2 ∧ sD s' 20 i < sS s ∧ sD s' 21 i < sD s 10 (sD s' 20 i))) : Vs s' := by
  obtain ⟨e1, e2, e3⟩ := e
  have e22 := e1 22 (by omega)
  have e23 := e1 23 (by omega)
  have e10 := e1 10 (by omega)
  have ek : sKp s' = sKp s := by funext i j; show sD s' (32 + i) j = sD s (32 + i) j; rw [e1 _ (by omega)]
  have eM : sM s' = sM s := by unfold sM; rw [e22]
  have eR : sR s' = sR s := by unfold sR; rw [e22]
  have eS : sS s' = sS s := by unfold sS; rw [e22]
  obtain ⟨v1, v2, v3, v4, v5⟩ := V
  refine ⟨?_, ?_, fun i hi => ?_, ?_, ?_⟩
  · rw [eM, eR, eS]; exact Vw_eq (fun i hi => e1 i (by omega)) v1
  · rw [e22, eR]; exact v2
  · rw [eS, e10]; exact H i hi
  · rw [e23, ek, eS, e10]; exact v4
  · rw [e1 24 (by omega)]; exact v5
theorem shv_at (s : Sg) (k v o n t r : Nat) (E : Nat → Int64) : sD (shv s k v o n t r E) 17 k = v ∧ sD (shv s k v o n t r E) 18 k = o ∧ sD (shv s k v o n t r E) 19 k = n ∧ sD (shv s k v o n t r E) 20 k = t ∧ sD (shv s k v o n t r E) 21 k = r := by
  refine ⟨?_, ?_, ?_, ?_, ?_⟩ <;> simp [shv, sD]
theorem shv_ne (s : Sg) {k i : Nat} (v o n t r : Nat) (E : Nat → Int64) (h : i ≠ k) (p : Nat) : sD (shv s k v o n t r E) p i = sD s p i := by
  simp [shv, sD, h]
theorem shv_Vs {s : Sg} (V : Vs s) (k v o n t r : Nat) (E : Nat → Int64) (H : v = 0 ∨ (v = 1 ∧ o ≤ 3 ∧ n ≤ 100) ∨ (v = 2 ∧ t < sS s ∧ r < sD s 10 t)) : Vs (shv s k v o n t r E) := by
  refine Es_Vs (shv_Es ..) V fun i hi => ?_
  by_cases e : i = k
  · subst e
    obtain ⟨q1, q2, q3, q4, q5⟩ := shv_at s i v o n t r E
    rw [q1, q2, q3, q4, q5]; exact H
  · rw [shv_ne s v o n t r E e, shv_ne s v o n t r E e, shv_ne s v o n t r E e, shv_ne s v o n t r E e, shv_ne s v o n t r E e]
    exact V.2.2.1 i hi
/-- the class's shelves, one of them laid anew -/
theorem shv_CH {h h' : am_H} {s : Sg} {k v o n t r : Nat} {E : Nat → Int64} (c : CS h s) (k1 : ∀ i, i ≠ k → hI h' 27 i = hI h 27 i ∧ hI h' 26 i = hI h 26 i ∧ ∀ j, hL h' (18 + i) j = hL h (18 + i) j) (kE : ∀ i, i ≠ k → ∀ j, j < 100 → E (100 * i + j) = sE s (100 * i + j)) (V : Vs s)
    (H : (v = 0 → hI h' 27 k = -ni 1) ∧ (v = 1 → hI h' 27 k = ni (100 + o) ∧ hI h' 26 k = ni n ∧ ∀ j, j < n → hL h' (18 + k) j = E (100 * k + j)) ∧ (v = 2 → hI h' 27 k = ni (10 * t + r))) : CH h' (shv s k v o n t r E) := by
  intro i hi
  by_cases e : i = k
  · subst e
    obtain ⟨q1, q2, q3, q4, q5⟩ := shv_at s i v o n t r E
    rw [q1, q2, q3, q4, q5]; exact H
  · rw [shv_ne s v o n t r E e, shv_ne s v o n t r E e, shv_ne s v o n t r E e, shv_ne s v o n t r E e, shv_ne s v o n t r E e]
    obtain ⟨b1, b2, b3⟩ := c.2.2.2.2.2.1 i hi
    rw [(k1 i e).1, (k1 i e).2.1]
    refine ⟨b1, fun z => ⟨(b2 z).1, (b2 z).2.1, fun j hj => ?_⟩, b3⟩
    have : sD s 19 i ≤ 100 := by rcases V.2.2.1 i hi with y | y | y <;> omega
    rw [(k1 i e).2.2]
    show _ = E _
    rw [kE i e j (by omega)]
    exact (b2 z).2.2 j hj
theorem shv_MH {h h' : am_H} {s : Sg} {k v o n t r : Nat} {E : Nat → Int64} (c : MS h s) (k1 : ∀ i, i ≠ k → hI h' 281 i = hI h 281 i ∧ hI h' 282 i = hI h 282 i ∧ hI h' 283 i = hI h 283 i ∧ hI h' 284 i = hI h 284 i ∧ ∀ j, j < 100 → hL h' 285 (100 * i + j) = hL h 285 (100 * i + j)) (kE : ∀ i, i ≠ k → ∀ j, j < 100 → E (100 * i + j) = sE s (100 * i + j)) (V : Vs s)
    (H : hI h' 281 k = ni v ∧ (v = 1 → hI h' 282 k = ni o ∧ hI h' 283 k = ni n ∧ ∀ j, j < n → hL h' 285 (100 * k + j) = E (100 * k + j)) ∧ (v = 2 → hI h' 284 k = ni (8 * t + r))) : MH h' (shv s k v o n t r E) := by
  intro i hi
  by_cases e : i = k
  · subst e
    obtain ⟨q1, q2, q3, q4, q5⟩ := shv_at s i v o n t r E
    rw [q1, q2, q3, q4, q5]; exact H
  · rw [shv_ne s v o n t r E e, shv_ne s v o n t r E e, shv_ne s v o n t r E e, shv_ne s v o n t r E e, shv_ne s v o n t r E e]
    obtain ⟨b1, b2, b3⟩ := c.2.2.2.2.2.1 i hi
    obtain ⟨k1, k2, k3, k4, k5⟩ := k1 i e
    rw [k1, k2, k3, k4]
    refine ⟨b1, fun z => ⟨(b2 z).1, (b2 z).2.1, fun j hj => ?_⟩, b3⟩
    have : sD s 19 i ≤ 100 := by rcases V.2.2.1 i hi with y | y | y <;> omega
    rw [k5 j (by omega)]
    show _ = E _
    rw [kE i e j (by omega)]
    exact (b2 z).2.2 j hj
theorem Cok_sh {h h1 : am_H} {s s' : Sg} (V : Vs s) (hs : Sh h) (k : Kg (fun a _ => 18 ≤ a ∧ a ≤ 27) h h1) (e : Es s s') (c : CS h s) (sh : CH h1 s') : Cok h h1 s' :=
  ⟨Kg_Sh k hs, CS_shelf V k e c sh, Kg_Mq (fun a _ z => by omega) k, by rw [k.1]; exact Nat.le_refl _, by rw [k.1]; exact Nat.le_add_right _ _, by rw [k.2.1]; exact Nat.le_add_right _ _, by rw [k.2.2.1], fun j => k.2.2.2.2.1 15 j (by omega)⟩
theorem Mok_sh {h h1 : am_H} {s s' : Sg} (V : Vs s) (k : Kg (fun a _ => 281 ≤ a ∧ a ≤ 286) h h1) (e : Es s s') (c : MS h s) (sh : MH h1 s') : Mok h h1 s' :=
  ⟨MS_shelf V k e c sh, Kg_mono (fun a _ z => by unfold wm; omega) k⟩
