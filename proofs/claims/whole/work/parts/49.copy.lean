/-! copy; rows of men: what one says -/
theorem ixb {β : Type} {k n : Nat} (f : Nat → Option β) (h : k < n) (hk : k < 2147483648) : (am_ix (ni k) n).bind f = f k := by
  rw [ix_ni h hk]; rfl
theorem ni_subi {a b : Nat} (ha : a < 2147483648) (hb : b < 2147483648) : (ni a - ni b).toInt = (a : Int) - b := by
  rw [Int32.toInt_sub, ni_toInt ha, ni_toInt hb, Int.bmod_eq_of_le (by omega) (by omega)]
theorem bi0 (b : Bool) : (bi b = ni 0) = (b = false) := by cases b <;> simp [bi, ni]
theorem dF (p : Prop) [Decidable p] : (decide p = false) = ¬ p := propext decide_eq_false_iff_not
section CPY
variable {h : am_H} {s : Sg}
/-- what holds() has of a shelf -/
def hz (s : Sg) (k : Nat) : Int := if sD s 17 k = 0 then -1 else if sD s 17 k = 1 then 100 + sD s 18 k else 10 * sD s 20 k + sD s 21 k
theorem hzc (V : Vs s) {k : Nat} (hk : k < 8) : (sD s 17 k = 0 ∧ hz s k = -1) ∨ (sD s 17 k = 1 ∧ hz s k = 100 + sD s 18 k ∧ sD s 18 k ≤ 3 ∧ sD s 19 k ≤ 100) ∨ (sD s 17 k = 2 ∧ 0 ≤ hz s k ∧ hz s k < 100) := by
  have v1 := vS V
  unfold hz
  rcases V.2.2.1 k hk with z | ⟨z, z1, z2⟩ | ⟨z, z1, z2⟩
  · rw [z]; exact Or.inl ⟨rfl, rfl⟩
  · rw [z]; exact Or.inr (Or.inl ⟨rfl, rfl, z1, z2⟩)
  · have v2 := vN V z1
    rw [z]; refine Or.inr (Or.inr ⟨rfl, ?_, ?_⟩)
    · rw [if_neg (by omega), if_neg (by omega)]; omega
    · rw [if_neg (by omega), if_neg (by omega)]; omega
theorem cHz (V : Vs s) (c : CS h s) {k : Nat} (hk : k < 8) : (hI h 27 k).toInt = hz s k := by
  have v1 := vS V
  unfold hz
  rcases V.2.2.1 k hk with z | ⟨z, z1, z2⟩ | ⟨z, z1, z2⟩
  · rw [cH0 c hk z, ng_toInt (by omega), if_pos z]; rfl
  · rw [cH1 c hk z, ni_toInt (by omega), if_neg (by omega), if_pos z]; omega
  · have v2 := vN V z1
    rw [cH2 c hk z, ni_toInt (by omega), if_neg (by omega), if_neg (by omega)]; omega
theorem D16 (hs : Sh h) (V : Vs s) (c : CS h s) {k : Nat} (hk : k < 8) : am_D 16 [vr (some 16), vi (ni k)] h = some (some (vi (bi (decide (sD s 17 k = 2)))), h) := by
  have hz1 := hzc V hk
  rw [d_16 hs]
  simp (disch := first | assumption | omega | (simp only [Sh_pI, Sh_pL, Sh_pIs, Sh_pLs]; assumption)) only [↓ixb, Option.bind_some, Option.toList_some, Option.toList_none, List.cons_append, List.nil_append, ix_ni, ni_lit, ni_of, ltt, lett, eqt, ni_toInt, ng_toInt, cHz V c hk]
  by_cases y : sD s 17 k = 2
  · rw [decide_eq_true y, bi_t, if_neg (by omega), if_neg (by omega)]
  · rw [decide_eq_false y, bi_f]
    by_cases x : hz s k = -1
    · exact if_pos (by omega)
    · rw [if_neg (by omega), if_pos (by omega)]
theorem D18 (hs : Sh h) (c : CS h s) {k n : Nat} (hk : k < 8) (z : sD s 17 k = 1) (z2 : sD s 19 k ≤ 100) (hn : n < 2147483648) (x : Int32) : am_D 18 [vr (some 16), vi (ni k), vi x, vi (ni n)] h = some (some (vi (bi (decide (0 ≤ x.toInt ∧ x.toInt ≤ (sD s 19 k : Int) - n)))), h) := by
  rw [d_18 hs]
  simp (disch := first | assumption | omega | (simp only [Sh_pI, Sh_pL, Sh_pIs, Sh_pLs]; assumption)) only [↓ixb, Option.bind_some, Option.toList_some, Option.toList_none, List.cons_append, List.nil_append, ix_ni, cHn c hk z, ni_lit, ni_of, ltt, lett, eqt, ni_toInt, ng_toInt, ni_subi]
  by_cases y : 0 ≤ x.toInt ∧ x.toInt ≤ (sD s 19 k : Int) - n
  · rw [decide_eq_true y, bi_t, if_neg (by omega), if_neg (by omega)]
  · rw [decide_eq_false y, bi_f]
    by_cases w : x.toInt < 0
    · exact if_pos (by omega)
    · rw [if_neg (by omega), if_pos (by omega)]
/-- why one shelf can't be copied to another -/
def cpw (s : Sg) (k l : Nat) : Nat := if sD s 17 k = 2 ∨ sD s 17 l = 2 ∨ (sD s 17 k = 1 ∧ sD s 17 l = 1 ∧ sD s 18 k ≠ sD s 18 l) then 2 else if sD s 17 k = 0 ∨ sD s 17 l = 0 then 3 else 0
theorem D17 (hs : Sh h) (V : Vs s) (c : CS h s) {k l : Nat} (hk : k < 8) (hl : l < 8) : am_D 17 [vr (some 16), vi (ni k), vi (ni l)] h = some (some (vi (-ni (cpw s k l))), h) := by
  rw [d_17 hs, D6t hs hk]
  simp (disch := first | assumption | omega | (simp only [Sh_pI, Sh_pL, Sh_pIs, Sh_pLs]; assumption)) only [↓ixb, Option.bind_some, Option.toList_some, Option.toList_none, List.cons_append, List.nil_append, e_17_4, D6t hs hl, ni_lit]
  rw [if_neg (by decide), e_17_11 hs, if_neg (by decide)]
  have v1 := vS V
  have c2 : (sD s 17 k = 2 ∨ sD s 17 l = 2 ∨ (sD s 17 k = 1 ∧ sD s 17 l = 1 ∧ sD s 18 k ≠ sD s 18 l)) → cpw s k l = 2 := fun x => if_pos x
  have c3 : ¬ (sD s 17 k = 2 ∨ sD s 17 l = 2 ∨ (sD s 17 k = 1 ∧ sD s 17 l = 1 ∧ sD s 18 k ≠ sD s 18 l)) → (sD s 17 k = 0 ∨ sD s 17 l = 0) → cpw s k l = 3 := fun x y => by unfold cpw; rw [if_neg x, if_pos y]
  have c0 : ¬ (sD s 17 k = 2 ∨ sD s 17 l = 2 ∨ (sD s 17 k = 1 ∧ sD s 17 l = 1 ∧ sD s 18 k ≠ sD s 18 l)) → ¬ (sD s 17 k = 0 ∨ sD s 17 l = 0) → cpw s k l = 0 := fun x y => by unfold cpw; rw [if_neg x, if_neg y]
  rcases V.2.2.1 k hk with z | ⟨z, z1, z2⟩ | ⟨z, z1, z2⟩
  · rcases V.2.2.1 l hl with y | ⟨y, y1, y2⟩ | ⟨y, y1, y2⟩
    · rw [c3 (by omega) (by omega)]; simp (disch := first | assumption | omega | (simp only [Sh_pI, Sh_pL, Sh_pIs, Sh_pLs]; assumption)) only [↓ixb, Option.bind_some, Option.bind_none, Option.toList_some, Option.toList_none, List.cons_append, List.nil_append, ni_lit, ni_of, ni_add, ni_mul, ni_sub, ni_div, ni_lt, ni_le, ni_eq, ng_lt, ng_le, ng_lt', ng_le', ng_eq, ng_eq', ng_ng, Int32.neg_neg, ix_ni, if_pos, if_neg, reduceIte, cH0 c hk z, e_17_40, e_17_41, D16 hs V c hk, D16 hs V c hl, z, y, bi0, dF, e_17_47, e_17_55, e_17_80, not_true_eq_false, not_false_eq_true]
    · rw [c3 (by omega) (by omega)]; simp (disch := first | assumption | omega | (simp only [Sh_pI, Sh_pL, Sh_pIs, Sh_pLs]; assumption)) only [↓ixb, Option.bind_some, Option.bind_none, Option.toList_some, Option.toList_none, List.cons_append, List.nil_append, ni_lit, ni_of, ni_add, ni_mul, ni_sub, ni_div, ni_lt, ni_le, ni_eq, ng_lt, ng_le, ng_lt', ng_le', ng_eq, ng_eq', ng_ng, Int32.neg_neg, ix_ni, if_pos, if_neg, reduceIte, cH0 c hk z, e_17_40, e_17_41, D16 hs V c hk, D16 hs V c hl, z, y, bi0, dF, e_17_47, e_17_55, e_17_80, not_true_eq_false, not_false_eq_true]
    · rw [c2 (by omega)]; simp (disch := first | assumption | omega | (simp only [Sh_pI, Sh_pL, Sh_pIs, Sh_pLs]; assumption)) only [↓ixb, Option.bind_some, Option.bind_none, Option.toList_some, Option.toList_none, List.cons_append, List.nil_append, ni_lit, ni_of, ni_add, ni_mul, ni_sub, ni_div, ni_lt, ni_le, ni_eq, ng_lt, ng_le, ng_lt', ng_le', ng_eq, ng_eq', ng_ng, Int32.neg_neg, ix_ni, if_pos, if_neg, reduceIte, cH0 c hk z, e_17_40, e_17_41, D16 hs V c hk, D16 hs V c hl, z, y, bi0, dF, e_17_47, e_17_55, e_17_80, not_true_eq_false, not_false_eq_true]
  · rcases V.2.2.1 l hl with y | ⟨y, y1, y2⟩ | ⟨y, y1, y2⟩
    · rw [c3 (by omega) (by omega)]; simp (disch := first | assumption | omega | (simp only [Sh_pI, Sh_pL, Sh_pIs, Sh_pLs]; assumption)) only [↓ixb, Option.bind_some, Option.bind_none, Option.toList_some, Option.toList_none, List.cons_append, List.nil_append, ni_lit, ni_of, ni_add, ni_mul, ni_sub, ni_div, ni_lt, ni_le, ni_eq, ng_lt, ng_le, ng_lt', ng_le', ng_eq, ng_eq', ng_ng, Int32.neg_neg, ix_ni, if_pos, if_neg, reduceIte, cH1 c hk z, cH0 c hl y, e_17_40, e_17_41, D16 hs V c hk, D16 hs V c hl, z, y, bi0, dF, e_17_47, e_17_55, e_17_80, not_true_eq_false, not_false_eq_true]
    · by_cases x : sD s 18 k = sD s 18 l
      · rw [c0 (by omega) (by omega)]; simp (disch := first | assumption | omega | (simp only [Sh_pI, Sh_pL, Sh_pIs, Sh_pLs]; assumption)) only [↓ixb, Option.bind_some, Option.bind_none, Option.toList_some, Option.toList_none, List.cons_append, List.nil_append, ni_lit, ni_of, ni_add, ni_mul, ni_sub, ni_div, ni_lt, ni_le, ni_eq, ng_lt, ng_le, ng_lt', ng_le', ng_eq, ng_eq', ng_ng, Int32.neg_neg, ix_ni, if_pos, if_neg, reduceIte, cH1 c hk z, cH1 c hl y, x, e_17_40, e_17_41, D16 hs V c hk, D16 hs V c hl, z, y, bi0, dF, e_17_47, e_17_55, e_17_80, not_true_eq_false, not_false_eq_true]
        rfl
      · rw [c2 (by omega)]; simp (disch := first | assumption | omega | (simp only [Sh_pI, Sh_pL, Sh_pIs, Sh_pLs]; assumption)) only [↓ixb, Option.bind_some, Option.bind_none, Option.toList_some, Option.toList_none, List.cons_append, List.nil_append, ni_lit, ni_of, ni_add, ni_mul, ni_sub, ni_div, ni_lt, ni_le, ni_eq, ng_lt, ng_le, ng_lt', ng_le', ng_eq, ng_eq', ng_ng, Int32.neg_neg, ix_ni, if_pos, if_neg, reduceIte, cH1 c hk z, cH1 c hl y, e_17_40, e_17_41, D16 hs V c hk, D16 hs V c hl, z, y, bi0, dF, e_17_47, e_17_55, e_17_80, not_true_eq_false, not_false_eq_true]
    · have w2 := vN V y1
      rw [c2 (by omega)]; simp (disch := first | assumption | omega | (simp only [Sh_pI, Sh_pL, Sh_pIs, Sh_pLs]; assumption)) only [↓ixb, Option.bind_some, Option.bind_none, Option.toList_some, Option.toList_none, List.cons_append, List.nil_append, ni_lit, ni_of, ni_add, ni_mul, ni_sub, ni_div, ni_lt, ni_le, ni_eq, ng_lt, ng_le, ng_lt', ng_le', ng_eq, ng_eq', ng_ng, Int32.neg_neg, ix_ni, if_pos, if_neg, reduceIte, cH1 c hk z, cH2 c hl y, e_17_40, e_17_41, D16 hs V c hk, D16 hs V c hl, z, y, bi0, dF, e_17_47, e_17_55, e_17_80, not_true_eq_false, not_false_eq_true]
  · have v2 := vN V z1
    rcases V.2.2.1 l hl with y | ⟨y, y1, y2⟩ | ⟨y, y1, y2⟩
    · rw [c2 (by omega)]; simp (disch := first | assumption | omega | (simp only [Sh_pI, Sh_pL, Sh_pIs, Sh_pLs]; assumption)) only [↓ixb, Option.bind_some, Option.bind_none, Option.toList_some, Option.toList_none, List.cons_append, List.nil_append, ni_lit, ni_of, ni_add, ni_mul, ni_sub, ni_div, ni_lt, ni_le, ni_eq, ng_lt, ng_le, ng_lt', ng_le', ng_eq, ng_eq', ng_ng, Int32.neg_neg, ix_ni, if_pos, if_neg, reduceIte, cH2 c hk z, cH0 c hl y, e_17_40, e_17_41, D16 hs V c hk, D16 hs V c hl, z, y, bi0, dF, e_17_47, e_17_55, e_17_80, not_true_eq_false, not_false_eq_true]
    · rw [c2 (by omega)]; simp (disch := first | assumption | omega | (simp only [Sh_pI, Sh_pL, Sh_pIs, Sh_pLs]; assumption)) only [↓ixb, Option.bind_some, Option.bind_none, Option.toList_some, Option.toList_none, List.cons_append, List.nil_append, ni_lit, ni_of, ni_add, ni_mul, ni_sub, ni_div, ni_lt, ni_le, ni_eq, ng_lt, ng_le, ng_lt', ng_le', ng_eq, ng_eq', ng_ng, Int32.neg_neg, ix_ni, if_pos, if_neg, reduceIte, cH2 c hk z, cH1 c hl y, e_17_40, e_17_41, D16 hs V c hk, D16 hs V c hl, z, y, bi0, dF, e_17_47, e_17_55, e_17_80, not_true_eq_false, not_false_eq_true]
    · have w2 := vN V y1
      rw [c2 (by omega)]; simp (disch := first | assumption | omega | (simp only [Sh_pI, Sh_pL, Sh_pIs, Sh_pLs]; assumption)) only [↓ixb, Option.bind_some, Option.bind_none, Option.toList_some, Option.toList_none, List.cons_append, List.nil_append, ni_lit, ni_of, ni_add, ni_mul, ni_sub, ni_div, ni_lt, ni_le, ni_eq, ng_lt, ng_le, ng_lt', ng_le', ng_eq, ng_eq', ng_ng, Int32.neg_neg, ix_ni, if_pos, if_neg, reduceIte, cH2 c hk z, cH2 c hl y, e_17_40, e_17_41, D16 hs V c hk, D16 hs V c hl, z, y, bi0, dF, e_17_47, e_17_55, e_17_80, not_true_eq_false, not_false_eq_true]
end CPY
theorem cp_1 {k n i : Nat} {x2 x4 : Int32} (hk : k < 8) (hn : n ≤ 100) (hi : i + n ≤ 100) : ∀ (m t : Nat) (h : am_H), Sh h → t + m = n → am_E 20 (167, [some (vr (some 261)), some (vi (ni k)), some (vi x2), some (vi (ni i)), some (vi x4), some (vi (ni n)), some (vi (ni t))], [], h) = am_E 20 (204, [some (vr (some 261)), some (vi (ni k)), some (vi x2), some (vi (ni i)), some (vi x4), some (vi (ni n)), some (vi (ni 0))], [], pLs h 286 (fun j => if t ≤ j ∧ j < n then hL h 285 (100 * k + i + j) else hL h 286 j)) := by
  intro m
  induction m with
  | zero =>
    intro t h hs e
    rw [e_20_167 hs, pLs_self (fun j => by rw [if_neg (by omega)])]
    simp (disch := first | assumption | omega | (simp only [Sh_pI, Sh_pL, Sh_pIs, Sh_pLs]; assumption)) only [↓ixb, Option.bind_some, Option.bind_none, Option.toList_some, Option.toList_none, List.cons_append, List.nil_append, ni_lit, ni_of, ni_add, ni_mul, ni_sub, ni_div, ni_lt, ni_le, ni_eq, ng_lt, ng_le, ng_lt', ng_le', ng_eq, ng_eq', ng_ng, Int32.neg_neg, ix_ni, if_pos, if_neg, reduceIte]
  | succ m ih =>
    intro t h hs e
    rw [e_20_167 hs]
    simp (disch := first | assumption | omega | (simp only [Sh_pI, Sh_pL, Sh_pIs, Sh_pLs]; assumption)) only [↓ixb, Option.bind_some, Option.bind_none, Option.toList_some, Option.toList_none, List.cons_append, List.nil_append, ni_lit, ni_of, ni_add, ni_mul, ni_sub, ni_div, ni_lt, ni_le, ni_eq, ng_lt, ng_le, ng_lt', ng_le', ng_eq, ng_eq', ng_ng, Int32.neg_neg, ix_ni, if_pos, if_neg, reduceIte]
    rw [ih (t + 1) (pL h 286 t (hL h 285 (100 * k + i + t))) hs (by omega), pLs_pL]
    refine congrArg (fun g => am_E 20 (204, [some (vr (some 261)), some (vi (ni k)), some (vi x2), some (vi (ni i)), some (vi x4), some (vi (ni n)), some (vi (ni 0))], [], pLs h 286 g)) ?_
    funext j
    rw [hL_pL, hL_pL, if_neg (c := 285 = 286 ∧ 100 * k + i + j = t) (by omega)]
    by_cases z : j = t
    · rw [if_neg (by omega), if_pos ⟨rfl, z⟩, if_pos (by omega), z]
    · rw [if_neg (c := 286 = 286 ∧ j = t) (fun y => z y.2)]
      by_cases y : t ≤ j ∧ j < n
      · rw [if_pos y, if_pos (by omega)]
      · rw [if_neg y, if_neg (by omega)]
theorem cp_2 {l n j : Nat} {o1 o3 : Option am_V} (hl : l < 8) (hn : n ≤ 100) (hj : j + n ≤ 100) : ∀ (m t : Nat) (h : am_H), Sh h → t + m = n → am_E 20 (204, [some (vr (some 261)), o1, some (vi (ni l)), o3, some (vi (ni j)), some (vi (ni n)), some (vi (ni t))], [], h) = some (some (vi (ni 1)), pLs h 285 (fun q => if 100 * l + j + t ≤ q ∧ q < 100 * l + j + n then hL h 286 (q - (100 * l + j)) else hL h 285 q)) := by
  intro m
  induction m with
  | zero =>
    intro t h hs e
    rw [e_20_204 hs, pLs_self (fun j => by rw [if_neg (by omega)])]
    simp (disch := first | assumption | omega | (simp only [Sh_pI, Sh_pL, Sh_pIs, Sh_pLs]; assumption)) only [↓ixb, Option.bind_some, Option.bind_none, Option.toList_some, Option.toList_none, List.cons_append, List.nil_append, ni_lit, ni_of, ni_add, ni_mul, ni_sub, ni_div, ni_lt, ni_le, ni_eq, ng_lt, ng_le, ng_lt', ng_le', ng_eq, ng_eq', ng_ng, Int32.neg_neg, ix_ni, if_pos, if_neg, reduceIte]
  | succ m ih =>
    intro t h hs e
    rw [e_20_204 hs]
    simp (disch := first | assumption | omega | (simp only [Sh_pI, Sh_pL, Sh_pIs, Sh_pLs]; assumption)) only [↓ixb, Option.bind_some, Option.bind_none, Option.toList_some, Option.toList_none, List.cons_append, List.nil_append, ni_lit, ni_of, ni_add, ni_mul, ni_sub, ni_div, ni_lt, ni_le, ni_eq, ng_lt, ng_le, ng_lt', ng_le', ng_eq, ng_eq', ng_ng, Int32.neg_neg, ix_ni, if_pos, if_neg, reduceIte]
    rw [ih (t + 1) (pL h 285 (100 * l + j + t) (hL h 286 t)) hs (by omega), pLs_pL]
    refine congrArg (fun g => some (some (vi (ni 1)), pLs h 285 g)) ?_
    funext q
    rw [hL_pL, hL_pL, if_neg (c := 286 = 285 ∧ q - (100 * l + j) = 100 * l + j + t) (by omega)]
    by_cases z : q = 100 * l + j + t
    · rw [if_neg (by omega), if_pos ⟨rfl, z⟩, if_pos (by omega), z, Nat.add_sub_cancel_left]
    · rw [if_neg (c := 285 = 285 ∧ q = 100 * l + j + t) (fun y => z y.2)]
      by_cases y : 100 * l + j + t ≤ q ∧ q < 100 * l + j + n
      · rw [if_pos y, if_pos (by omega)]
      · rw [if_neg y, if_neg (by omega)]
theorem A2 : ∀ a1 a2 a3 a4 a5 : Int32, Alike 19 20 [vi a1, vi a2, vi a3, vi a4, vi a5] := fun a1 a2 a3 a4 a5 => glue fun s V => by
  rcases rg a1 8 with ⟨k, hk, rfl⟩ | hn
  · rcases rg a2 8 with ⟨l, hl, rfl⟩ | hm
    · have r : ∀ e, 0 < e → e < 8 → cpw s k l = e → (∀ h, Sh h → MS h s → am_E 20 (13, [some (vr (some 261)), some (vi (ni k)), some (vi (ni l)), some (vi a3), some (vi a4), some (vi a5), none], [vi (ni 1)], h) = some (some (vi (-ni e)), pI h 262 e (hI h 262 e + 1))) → ∃ (v : Int32) (s' : Sg), Vs s' ∧ HC 19 [vi (ni k), vi (ni l), vi a3, vi a4, vi a5] s (vi v) s' ∧ HM 20 [vi (ni k), vi (ni l), vi a3, vi a4, vi a5] s (vi v) s' := fun e h0 h8 hc x2 => refg V e h8 (fun h hs c => by
          rw [d_19 hs, D17 hs V c hk hl, hc]; simp (disch := first | assumption | omega | (simp only [Sh_pI, Sh_pL, Sh_pIs, Sh_pLs]; assumption)) only [↓ixb, Option.bind_some, Option.bind_none, Option.toList_some, Option.toList_none, List.cons_append, List.nil_append, ni_lit, ni_of, ni_add, ni_mul, ni_sub, ni_div, ni_lt, ni_le, ni_eq, ng_lt, ng_le, ng_lt', ng_le', ng_eq, ng_eq', ng_ng, Int32.neg_neg, ix_ni, if_pos, if_neg, reduceIte, e_19_6, D7, e_19_19]) (fun h hs c => by
          rw [d_20 hs, D9t hs hk]; simp (disch := first | assumption | omega | (simp only [Sh_pI, Sh_pL, Sh_pIs, Sh_pLs]; assumption)) only [↓ixb, Option.bind_some, Option.bind_none, Option.toList_some, Option.toList_none, List.cons_append, List.nil_append, ni_lit, ni_of, ni_add, ni_mul, ni_sub, ni_div, ni_lt, ni_le, ni_eq, ng_lt, ng_le, ng_lt', ng_le', ng_eq, ng_eq', ng_ng, Int32.neg_neg, ix_ni, if_pos, if_neg, reduceIte, e_20_5, D9t hs hl]; exact x2 h hs c)
      rcases hzc V hk with ⟨z, -⟩ | ⟨z, -, z1, z2⟩ | ⟨z, -⟩
      · rcases hzc V hl with ⟨y, -⟩ | ⟨y, -, y1, y2⟩ | ⟨y, -⟩
        · exact r 3 (by omega) (by omega) (by unfold cpw; rw [z, y]; rfl) (fun h hs c => by simp (disch := first | assumption | omega | (simp only [Sh_pI, Sh_pL, Sh_pIs, Sh_pLs]; assumption)) only [↓ixb, Option.bind_some, Option.bind_none, Option.toList_some, Option.toList_none, List.cons_append, List.nil_append, ni_lit, ni_of, ni_add, ni_mul, ni_sub, ni_div, ni_lt, ni_le, ni_eq, ng_lt, ng_le, ng_lt', ng_le', ng_eq, ng_eq', ng_ng, Int32.neg_neg, ix_ni, if_pos, if_neg, reduceIte, d_20, e_20_5, e_20_16, e_20_13, e_20_77, e_20_84, e_20_102, e_20_157, e_20_120, e_20_163, e_20_108, e_20_83, e_20_21, mH c hk, mH c hl, z, y, D10])
        · exact r 3 (by omega) (by omega) (by unfold cpw; rw [z, y]; rfl) (fun h hs c => by simp (disch := first | assumption | omega | (simp only [Sh_pI, Sh_pL, Sh_pIs, Sh_pLs]; assumption)) only [↓ixb, Option.bind_some, Option.bind_none, Option.toList_some, Option.toList_none, List.cons_append, List.nil_append, ni_lit, ni_of, ni_add, ni_mul, ni_sub, ni_div, ni_lt, ni_le, ni_eq, ng_lt, ng_le, ng_lt', ng_le', ng_eq, ng_eq', ng_ng, Int32.neg_neg, ix_ni, if_pos, if_neg, reduceIte, d_20, e_20_5, e_20_16, e_20_13, e_20_77, e_20_84, e_20_102, e_20_157, e_20_120, e_20_163, e_20_108, e_20_83, e_20_21, mH c hk, mH c hl, z, y, D10])
        · exact r 2 (by omega) (by omega) (by unfold cpw; rw [z, y]; rfl) (fun h hs c => by simp (disch := first | assumption | omega | (simp only [Sh_pI, Sh_pL, Sh_pIs, Sh_pLs]; assumption)) only [↓ixb, Option.bind_some, Option.bind_none, Option.toList_some, Option.toList_none, List.cons_append, List.nil_append, ni_lit, ni_of, ni_add, ni_mul, ni_sub, ni_div, ni_lt, ni_le, ni_eq, ng_lt, ng_le, ng_lt', ng_le', ng_eq, ng_eq', ng_ng, Int32.neg_neg, ix_ni, if_pos, if_neg, reduceIte, d_20, e_20_5, e_20_16, e_20_13, e_20_77, e_20_84, e_20_102, e_20_157, e_20_120, e_20_163, e_20_108, e_20_83, e_20_21, mH c hk, mH c hl, z, y, D10])
      · rcases hzc V hl with ⟨y, -⟩ | ⟨y, -, y1, y2⟩ | ⟨y, -⟩
        · exact r 3 (by omega) (by omega) (by unfold cpw; rw [z, y]; rfl) (fun h hs c => by simp (disch := first | assumption | omega | (simp only [Sh_pI, Sh_pL, Sh_pIs, Sh_pLs]; assumption)) only [↓ixb, Option.bind_some, Option.bind_none, Option.toList_some, Option.toList_none, List.cons_append, List.nil_append, ni_lit, ni_of, ni_add, ni_mul, ni_sub, ni_div, ni_lt, ni_le, ni_eq, ng_lt, ng_le, ng_lt', ng_le', ng_eq, ng_eq', ng_ng, Int32.neg_neg, ix_ni, if_pos, if_neg, reduceIte, d_20, e_20_5, e_20_16, e_20_13, e_20_77, e_20_84, e_20_102, e_20_157, e_20_120, e_20_163, e_20_108, e_20_83, e_20_21, mH c hk, mH c hl, z, y, D10])
        · by_cases w : sD s 18 k = sD s 18 l
          · have hc0 : cpw s k l = 0 := by unfold cpw; rw [if_neg (by omega), if_neg (by omega)]
            have C0 : ∀ h, Sh h → CS h s → am_D 19 [vr (some 16), vi (ni k), vi (ni l), vi a3, vi a4, vi a5] h = am_E 19 (6, [some (vr (some 16)), some (vi (ni k)), some (vi (ni l)), some (vi a3), some (vi a4), some (vi a5), none], [vi (ni 0)], h) := fun h hs c => by
              rw [d_19 hs, D17 hs V c hk hl, hc0]; rfl
            have M0 : ∀ h, Sh h → MS h s → am_D 20 [vr (some 261), vi (ni k), vi (ni l), vi a3, vi a4, vi a5] h = am_E 20 (84, [some (vr (some 261)), some (vi (ni k)), some (vi (ni l)), some (vi a3), some (vi a4), some (vi a5), none], [], h) := fun h hs c => by
              rw [d_20 hs, D9t hs hk]; simp (disch := first | assumption | omega | (simp only [Sh_pI, Sh_pL, Sh_pIs, Sh_pLs]; assumption)) only [↓ixb, Option.bind_some, Option.bind_none, Option.toList_some, Option.toList_none, List.cons_append, List.nil_append, ni_lit, ni_of, ni_add, ni_mul, ni_sub, ni_div, ni_lt, ni_le, ni_eq, ng_lt, ng_le, ng_lt', ng_le', ng_eq, ng_eq', ng_ng, Int32.neg_neg, ix_ni, if_pos, if_neg, reduceIte, e_20_5, D9t hs hl, e_20_13, mH c hk, mH c hl, z, y, mH1 c hk z, mH1 c hl y, w]
            rcases ni_cases a5 with ⟨x, n, hn, rfl⟩ | ⟨n, hn, rfl⟩
            · have x' : ¬ (0 : Int32) ≤ -ni n := Int32.not_le.mpr x
              refine refg V 4 (by omega) (fun h hs c => ?_) (fun h hs c => ?_)
              · rw [C0 h hs c, e_19_6 hs, if_pos (show ni 0 = 0 from rfl), if_neg x']
                simp (disch := first | assumption | omega | (simp only [Sh_pI, Sh_pL, Sh_pIs, Sh_pLs]; assumption)) only [↓ixb, Option.bind_some, Option.bind_none, Option.toList_some, Option.toList_none, List.cons_append, List.nil_append, ni_lit, ni_of, ni_add, ni_mul, ni_sub, ni_div, ni_lt, ni_le, ni_eq, ng_lt, ng_le, ng_lt', ng_le', ng_eq, ng_eq', ng_ng, Int32.neg_neg, ix_ni, if_pos, if_neg, reduceIte, D7, e_19_31]
              · rw [M0 h hs c, e_20_84 hs]
                simp (disch := first | assumption | omega | (simp only [Sh_pI, Sh_pL, Sh_pIs, Sh_pLs]; assumption)) only [↓ixb, Option.bind_some, Option.toList_some, Option.toList_none, List.cons_append, List.nil_append, ix_ni, mH c hk, mH c hl, z, y]
                rw [if_neg (by decide), if_neg (by decide), if_neg x']
                simp (disch := first | assumption | omega | (simp only [Sh_pI, Sh_pL, Sh_pIs, Sh_pLs]; assumption)) only [↓ixb, Option.bind_some, Option.bind_none, Option.toList_some, Option.toList_none, List.cons_append, List.nil_append, ni_lit, ni_of, ni_add, ni_mul, ni_sub, ni_div, ni_lt, ni_le, ni_eq, ng_lt, ng_le, ng_lt', ng_le', ng_eq, ng_eq', ng_ng, Int32.neg_neg, ix_ni, if_pos, if_neg, reduceIte, D10, e_20_120]
            · have x' : (0 : Int32) ≤ ni n := by rw [show (0 : Int32) = ni 0 from rfl, ni_le (by omega) hn]; omega
              by_cases ok : (0 ≤ a3.toInt ∧ a3.toInt ≤ (sD s 19 k : Int) - n) ∧ (0 ≤ a4.toInt ∧ a4.toInt ≤ (sD s 19 l : Int) - n)
              · obtain ⟨i, i1, i2, rfl⟩ := ni_ex ok.1.1
                obtain ⟨j, j1, j2, rfl⟩ := ni_ex ok.2.1
                rw [ni_toInt i2, ni_toInt j2] at ok
                refine ⟨ni 1, shv s l 1 (sD s 18 l) (sD s 19 l) 0 0 (fun q => if 100 * l + j ≤ q ∧ q < 100 * l + j + n then sE s (100 * k + i + (q - (100 * l + j))) else sE s q), shv_Vs V l 1 _ _ 0 0 _ (Or.inr (Or.inl ⟨rfl, y1, y2⟩)), fun h hs c => ⟨pLs h (18 + l) (va_cpy (hL h (18 + k)) (hL h (18 + l)) i j n), ?_, ?_⟩, fun h hs c => ⟨pLs (pLs h 286 (fun t => if 0 ≤ t ∧ t < n then hL h 285 (100 * k + i + t) else hL h 286 t)) 285 (fun q => if 100 * l + j + 0 ≤ q ∧ q < 100 * l + j + n then hL (pLs h 286 (fun t => if 0 ≤ t ∧ t < n then hL h 285 (100 * k + i + t) else hL h 286 t)) 286 (q - (100 * l + j)) else hL (pLs h 286 (fun t => if 0 ≤ t ∧ t < n then hL h 285 (100 * k + i + t) else hL h 286 t)) 285 q), ?_, ?_⟩⟩
                · rw [C0 h hs c, e_19_6 hs, if_pos (show ni 0 = 0 from rfl), if_pos x', D18 hs c hk z z2 hn, decide_eq_true (by rw [ni_toInt i2]; exact ok.1), bi_t]
                  simp (disch := first | assumption | omega | (simp only [Sh_pI, Sh_pL, Sh_pIs, Sh_pLs]; assumption)) only [↓ixb, Option.bind_some, Option.bind_none, Option.toList_some, Option.toList_none, List.cons_append, List.nil_append, ni_lit, ni_of, ni_add, ni_mul, ni_sub, ni_div, ni_lt, ni_le, ni_eq, ng_lt, ng_le, ng_lt', ng_le', ng_eq, ng_eq', ng_ng, Int32.neg_neg, ix_ni, if_pos, if_neg, reduceIte, e_19_40]
                  rw [D18 hs c hl y y2 hn, decide_eq_true (by rw [ni_toInt j2]; exact ok.2), bi_t]
                  simp (disch := first | assumption | omega | (simp only [Sh_pI, Sh_pL, Sh_pIs, Sh_pLs]; assumption)) only [↓ixb, Option.bind_some, Option.bind_none, Option.toList_some, Option.toList_none, List.cons_append, List.nil_append, ni_lit, ni_of, ni_add, ni_mul, ni_sub, ni_div, ni_lt, ni_le, ni_eq, ng_lt, ng_le, ng_lt', ng_le', ng_eq, ng_eq', ng_ng, Int32.neg_neg, ix_ni, if_pos, if_neg, reduceIte, e_19_52, ni_nn]
                · refine Cok_sh V hs (Kg_pLs (fun _ => by omega) (Kg_refl h)) (shv_Es ..) c (shv_CH c (fun x hx => ⟨rfl, rfl, fun q => ?_⟩) (fun x hx q hq => ?_) V ⟨fun y => (by cases y), fun _ => ⟨?_, ?_, fun q hq => ?_⟩, fun y => (by cases y)⟩)
                  · rw [hL_pLs, if_neg (by omega)]
                  · exact if_neg (by omega)
                  · exact cH1 c hl y
                  · exact cHn c hl y
                  · rw [hL_pLs, if_pos rfl]
                    unfold va_cpy
                    by_cases u : j ≤ q ∧ q < j + n
                    · rw [if_pos u, if_pos (by omega), cHe c hk z (by omega)]
                      exact congrArg (sE s) (by omega)
                    · rw [if_neg u, if_neg (by omega)]; exact cHe c hl y hq
                · rw [M0 h hs c, e_20_84 hs]
                  simp (disch := first | assumption | omega | (simp only [Sh_pI, Sh_pL, Sh_pIs, Sh_pLs]; assumption)) only [↓ixb, Option.bind_some, Option.bind_none, Option.toList_some, Option.toList_none, List.cons_append, List.nil_append, ni_lit, ni_of, ni_add, ni_mul, ni_sub, ni_div, ni_lt, ni_le, ni_eq, ng_lt, ng_le, ng_lt', ng_le', ng_eq, ng_eq', ng_ng, Int32.neg_neg, ix_ni, if_pos, if_neg, reduceIte, mH c hk, mH c hl, z, y, mHn c hk z, mHn c hl y, ltt, lett, ni_toInt, ni_subi]
                  rw [cp_1 hk (show n ≤ 100 by omega) (by omega) n 0 h hs (by omega)]
                  exact cp_2 (j := j) hl (show n ≤ 100 by omega) (by omega) n 0 (pLs h 286 _) hs (by omega)
                · refine Mok_sh V (Kg_pLs (fun _ => by omega) (Kg_pLs (fun _ => by omega) (Kg_refl h))) (shv_Es ..) c (shv_MH c (fun x hx => ⟨rfl, rfl, rfl, rfl, fun q hq => ?_⟩) (fun x hx q hq => ?_) V ⟨?_, fun _ => ⟨?_, ?_, fun q hq => ?_⟩, fun y => (by cases y)⟩)
                  · rw [hL_pLs, if_pos rfl, if_neg (by omega), hL_pLs, if_neg (by omega)]
                  · exact if_neg (by omega)
                  · exact (mH c hl).trans (congrArg ni y)
                  · exact mH1 c hl y
                  · exact mHn c hl y
                  · rw [hL_pLs, if_pos rfl]
                    by_cases u : j ≤ q ∧ q < j + n
                    · rw [if_pos (by omega), if_pos (by omega), hL_pLs, if_pos rfl, if_pos (by omega), Nat.add_assoc, mHe c hk z (by omega)]
                    · rw [if_neg (by omega), if_neg (by omega), hL_pLs, if_neg (by omega)]; exact mHe c hl y hq
              · refine refg V 5 (by omega) (fun h hs c => ?_) (fun h hs c => ?_)
                · have fin : ∀ {o6 : Option am_V}, am_E 19 (55, [some (vr (some 16)), some (vi (ni k)), some (vi (ni l)), some (vi a3), some (vi a4), some (vi (ni n)), o6], [], h) = some (some (vi (-ni 5)), pI h 260 5 (hI h 260 5 + 1)) := by
                    intro o6; simp (disch := first | assumption | omega | (simp only [Sh_pI, Sh_pL, Sh_pIs, Sh_pLs]; assumption)) only [↓ixb, Option.bind_some, Option.bind_none, Option.toList_some, Option.toList_none, List.cons_append, List.nil_append, ni_lit, ni_of, ni_add, ni_mul, ni_sub, ni_div, ni_lt, ni_le, ni_eq, ng_lt, ng_le, ng_lt', ng_le', ng_eq, ng_eq', ng_ng, Int32.neg_neg, ix_ni, if_pos, if_neg, reduceIte, e_19_55, D7, e_19_61]
                  rw [C0 h hs c, e_19_6 hs, if_pos (show ni 0 = 0 from rfl), if_pos x', D18 hs c hk z z2 hn]
                  simp (disch := first | assumption | omega | (simp only [Sh_pI, Sh_pL, Sh_pIs, Sh_pLs]; assumption)) only [↓ixb, Option.bind_some, Option.toList_some, Option.toList_none, List.cons_append, List.nil_append, e_19_40, fin]
                  by_cases p : 0 ≤ a3.toInt ∧ a3.toInt ≤ (sD s 19 k : Int) - n
                  · rw [decide_eq_true p, bi_t, if_neg (by decide), D18 hs c hl y y2 hn]
                    simp (disch := first | assumption | omega | (simp only [Sh_pI, Sh_pL, Sh_pIs, Sh_pLs]; assumption)) only [↓ixb, Option.bind_some, Option.toList_some, Option.toList_none, List.cons_append, List.nil_append, e_19_52, fin]
                    rw [decide_eq_false (fun q => ok ⟨p, q⟩), bi_f]; rfl
                  · rw [decide_eq_false p, bi_f]; rfl
                · have fin : ∀ {o6 : Option am_V}, am_E 20 (157, [some (vr (some 261)), some (vi (ni k)), some (vi (ni l)), some (vi a3), some (vi a4), some (vi (ni n)), o6], [], h) = some (some (vi (-ni 5)), pI h 262 5 (hI h 262 5 + 1)) := by
                    intro o6; simp (disch := first | assumption | omega | (simp only [Sh_pI, Sh_pL, Sh_pIs, Sh_pLs]; assumption)) only [↓ixb, Option.bind_some, Option.bind_none, Option.toList_some, Option.toList_none, List.cons_append, List.nil_append, ni_lit, ni_of, ni_add, ni_mul, ni_sub, ni_div, ni_lt, ni_le, ni_eq, ng_lt, ng_le, ng_lt', ng_le', ng_eq, ng_eq', ng_ng, Int32.neg_neg, ix_ni, if_pos, if_neg, reduceIte, e_20_157, D10, e_20_163]
                  rw [M0 h hs c, e_20_84 hs]
                  simp (disch := first | assumption | omega | (simp only [Sh_pI, Sh_pL, Sh_pIs, Sh_pLs]; assumption)) only [↓ixb, Option.bind_some, Option.toList_some, Option.toList_none, List.cons_append, List.nil_append, ix_ni, mH c hk, mH c hl, z, y, mHn c hk z, mHn c hl y, fin]
                  rw [if_neg (by decide), if_neg (by decide), if_pos x']
                  simp (disch := first | assumption | omega | (simp only [Sh_pI, Sh_pL, Sh_pIs, Sh_pLs]; assumption)) only [ni_lit, ni_of, ltt, lett, eqt, ni_toInt, ng_toInt, ni_subi]
                  repeat' split
                  all_goals first | rfl | (exfalso; omega)
          · exact r 2 (by omega) (by omega) (by unfold cpw; rw [if_pos (by omega)]) (fun h hs c => by simp (disch := first | assumption | omega | (simp only [Sh_pI, Sh_pL, Sh_pIs, Sh_pLs]; assumption)) only [↓ixb, Option.bind_some, Option.bind_none, Option.toList_some, Option.toList_none, List.cons_append, List.nil_append, ni_lit, ni_of, ni_add, ni_mul, ni_sub, ni_div, ni_lt, ni_le, ni_eq, ng_lt, ng_le, ng_lt', ng_le', ng_eq, ng_eq', ng_ng, Int32.neg_neg, ix_ni, if_pos, if_neg, reduceIte, d_20, e_20_5, e_20_16, e_20_13, e_20_77, e_20_84, e_20_102, e_20_157, e_20_120, e_20_163, e_20_108, e_20_83, e_20_21, mH c hk, mH c hl, z, y, mH1 c hk z, mH1 c hl y, w, D10])
        · exact r 2 (by omega) (by omega) (by unfold cpw; rw [z, y]; rfl) (fun h hs c => by simp (disch := first | assumption | omega | (simp only [Sh_pI, Sh_pL, Sh_pIs, Sh_pLs]; assumption)) only [↓ixb, Option.bind_some, Option.bind_none, Option.toList_some, Option.toList_none, List.cons_append, List.nil_append, ni_lit, ni_of, ni_add, ni_mul, ni_sub, ni_div, ni_lt, ni_le, ni_eq, ng_lt, ng_le, ng_lt', ng_le', ng_eq, ng_eq', ng_ng, Int32.neg_neg, ix_ni, if_pos, if_neg, reduceIte, d_20, e_20_5, e_20_16, e_20_13, e_20_77, e_20_84, e_20_102, e_20_157, e_20_120, e_20_163, e_20_108, e_20_83, e_20_21, mH c hk, mH c hl, z, y, D10])
      · exact r 2 (by omega) (by omega) (by unfold cpw; rw [if_pos (by omega)]) (fun h hs c => by simp (disch := first | assumption | omega | (simp only [Sh_pI, Sh_pL, Sh_pIs, Sh_pLs]; assumption)) only [↓ixb, Option.bind_some, Option.bind_none, Option.toList_some, Option.toList_none, List.cons_append, List.nil_append, ni_lit, ni_of, ni_add, ni_mul, ni_sub, ni_div, ni_lt, ni_le, ni_eq, ng_lt, ng_le, ng_lt', ng_le', ng_eq, ng_eq', ng_ng, Int32.neg_neg, ix_ni, if_pos, if_neg, reduceIte, d_20, e_20_5, e_20_16, e_20_13, e_20_77, e_20_84, e_20_102, e_20_157, e_20_120, e_20_163, e_20_108, e_20_83, e_20_21, mH c hk, z, D10])
    · refine refg V 1 (by omega) (fun h hs c => ?_) (fun h hs c => ?_)
      · rw [d_19 hs, d_17 hs, D6t hs hk]; simp (disch := first | assumption | omega | (simp only [Sh_pI, Sh_pL, Sh_pIs, Sh_pLs]; assumption)) only [↓ixb, Option.bind_some, Option.bind_none, Option.toList_some, Option.toList_none, List.cons_append, List.nil_append, ni_lit, ni_of, ni_add, ni_mul, ni_sub, ni_div, ni_lt, ni_le, ni_eq, ng_lt, ng_le, ng_lt', ng_le', ng_eq, ng_eq', ng_ng, Int32.neg_neg, ix_ni, if_pos, if_neg, reduceIte, e_17_4, D6f hs hm, e_17_11, e_19_6, D7, e_19_19]
      · rw [d_20 hs, D9t hs hk]; simp (disch := first | assumption | omega | (simp only [Sh_pI, Sh_pL, Sh_pIs, Sh_pLs]; assumption)) only [↓ixb, Option.bind_some, Option.bind_none, Option.toList_some, Option.toList_none, List.cons_append, List.nil_append, ni_lit, ni_of, ni_add, ni_mul, ni_sub, ni_div, ni_lt, ni_le, ni_eq, ng_lt, ng_le, ng_lt', ng_le', ng_eq, ng_eq', ng_ng, Int32.neg_neg, ix_ni, if_pos, if_neg, reduceIte, e_20_5, D9f hs hm, e_20_13, e_20_16, D10, e_20_21]
  · refine refg V 1 (by omega) (fun h hs c => ?_) (fun h hs c => ?_)
    · rw [d_19 hs, d_17 hs, D6f hs hn]; simp (disch := first | assumption | omega | (simp only [Sh_pI, Sh_pL, Sh_pIs, Sh_pLs]; assumption)) only [↓ixb, Option.bind_some, Option.bind_none, Option.toList_some, Option.toList_none, List.cons_append, List.nil_append, ni_lit, ni_of, ni_add, ni_mul, ni_sub, ni_div, ni_lt, ni_le, ni_eq, ng_lt, ng_le, ng_lt', ng_le', ng_eq, ng_eq', ng_ng, Int32.neg_neg, ix_ni, if_pos, if_neg, reduceIte, e_17_4, e_19_6, D7, e_19_19]
    · rw [d_20 hs, D9f hs hn]; simp (disch := first | assumption | omega | (simp only [Sh_pI, Sh_pL, Sh_pIs, Sh_pLs]; assumption)) only [↓ixb, Option.bind_some, Option.bind_none, Option.toList_some, Option.toList_none, List.cons_append, List.nil_append, ni_lit, ni_of, ni_add, ni_mul, ni_sub, ni_div, ni_lt, ni_le, ni_eq, ng_lt, ng_le, ng_lt', ng_le', ng_eq, ng_eq', ng_ng, Int32.neg_neg, ix_ni, if_pos, if_neg, reduceIte, e_20_5, e_20_16, D10, e_20_21]
