/-! links that hold, sureness, strength -/
def hrw (D : Nat → Nat → Nat) (L : Nat → Nat) (q i : Nat) : Option Nat := wc D (L 0) (L 1) (D 14 (8 * q + i)) (D 14 (8 * q + (i + 1)))
/-- does a link hold in a row of kind κ -/
def lkh (κ lk : Nat) (could hides : Bool) : Bool := if κ = 1 then could && lk == 0 else if κ = 2 then could || lk == 2 else if κ = 3 then could || lk == 2 || (lk == 1 && hides) else could
def lkq (D : Nat → Nat → Nat) (L : Nat → Nat) (q i : Nat) : Bool := lkh (D 11 q) (D 15 (8 * q + i)) (hrw D L q i).isSome (D 3 (D 14 (8 * q + i)) == 5)
/-- the first link that doesn't hold, from the i-th on, of m -/
def flk (D : Nat → Nat → Nat) (L : Nat → Nat) (q : Nat) : Nat → Nat → Option Nat
  | 0, _ => none
  | m + 1, i => if lkq D L q i = true then flk D L q m (i + 1) else some i
def suq (D : Nat → Nat → Nat) (L : Nat → Nat) (q i : Nat) : Nat := if D 3 (D 14 (8 * q + i)) = 3 then (if i = 0 then L 5 else match hrw D L q (i - 1) with
    | none => L 5
    | some y => if y < D 4 (D 14 (8 * q + i)) then L 3 else L 5) else L (2 + D 3 (D 14 (8 * q + i)))
def msq (D : Nat → Nat → Nat) (L : Nat → Nat) (q : Nat) : Nat → Nat
  | 0 => 99
  | i + 1 => mn (suq D L q i) (msq D L q i)
def lsq (D : Nat → Nat → Nat) (L : Nat → Nat) (q : Nat) : Nat → Nat
  | 0 => 0
  | i + 1 => lsq D L q i + (if D 15 (8 * q + i) = 2 then L 9 else if D 15 (8 * q + i) = 1 ∧ D 3 (D 14 (8 * q + i)) = 5 then L 8 else 0)
def les (L : Nat → Nat) (κ x : Nat) : Nat := if κ = 2 ∨ κ = 3 then x - L 10 else if κ = 5 then x - L 11 else if κ = 6 then (x - L 11) / 2 else x
def stq (D : Nat → Nat → Nat) (L : Nat → Nat) (q : Nat) : Nat := les L (D 11 q) (msq D L q (D 12 q) - lsq D L q (D 12 q - 1))
/-- a row's strength, if no link fails -/
def grq (D : Nat → Nat → Nat) (L : Nat → Nat) (q : Nat) : Option Nat := match flk D L q (D 12 q - 1) 0 with
  | some _ => none
  | none => some (stq D L q)
def okl (L : Nat → Nat) : Prop := (∀ j, j < 14 → L j ≤ 99) ∧ (∀ j, 2 ≤ j → j < 12 → L j ≤ 9) ∧ L 1 ≤ 2
theorem okl_F {s : Sg} {F : Nat} (V : Vs s) (hF : F ≤ sR s) : okl (lwf (sD s) F) := ⟨fun j hj => lw_le V hF hj, fun j h2 hj => lw_9 V hF h2 hj, lw_1 V hF⟩
theorem suq_9 {D : Nat → Nat → Nat} {L : Nat → Nat} {q i : Nat} (o : okl L) (h3 : D 3 (D 14 (8 * q + i)) ≤ 5) : suq D L q i ≤ 9 := by
  unfold suq
  have e5 := o.2.1 5 (by omega) (by omega)
  have e3 := o.2.1 3 (by omega) (by omega)
  split
  · split
    · exact e5
    · split
      · exact e5
      · split
        · exact e3
        · exact e5
  · exact o.2.1 _ (by omega) (by omega)
theorem msq_99 {D : Nat → Nat → Nat} {L : Nat → Nat} {q : Nat} : ∀ i, msq D L q i ≤ 99
  | 0 => Nat.le_refl _
  | i + 1 => by
    have := msq_99 (D := D) (L := L) (q := q) i
    rw [show msq D L q (i + 1) = mn (suq D L q i) (msq D L q i) from rfl]
    have := mn_le (suq D L q i) (msq D L q i)
    omega
theorem lsq_9 {D : Nat → Nat → Nat} {L : Nat → Nat} {q : Nat} (o : okl L) : ∀ i, lsq D L q i ≤ 9 * i
  | 0 => Nat.le_refl _
  | i + 1 => by
    have := lsq_9 (D := D) (L := L) (q := q) o i
    have e9 := o.2.1 9 (by omega) (by omega)
    have e8 := o.2.1 8 (by omega) (by omega)
    rw [show lsq D L q (i + 1) = lsq D L q i + (if D 15 (8 * q + i) = 2 then L 9 else if D 15 (8 * q + i) = 1 ∧ D 3 (D 14 (8 * q + i)) = 5 then L 8 else 0) from rfl]
    split
    · omega
    · split <;> omega
theorem les_le {L : Nat → Nat} {κ x : Nat} : les L κ x ≤ x := by
  unfold les
  repeat' split
  all_goals omega
theorem stq_99 {D : Nat → Nat → Nat} {L : Nat → Nat} {q : Nat} : stq D L q ≤ 99 := by
  unfold stq
  have := les_le (L := L) (κ := D 11 q) (x := msq D L q (D 12 q) - lsq D L q (D 12 q - 1))
  have := msq_99 (D := D) (L := L) (q := q) (D 12 q)
  omega
theorem kt_lk3 {κ : Nat} (hκ : κ ≤ 6) : am_lk [(0, 149), (1, 150), (2, 148), (3, 148), (6, 148), (7, 148), (9, 151)] (kt κ) = some (if κ = 1 then 151 else if κ = 2 then 149 else if κ = 3 then 150 else 148) := by
  rcases (show κ = 0 ∨ κ = 1 ∨ κ = 2 ∨ κ = 3 ∨ κ = 4 ∨ κ = 5 ∨ κ = 6 by omega) with rfl | rfl | rfl | rfl | rfl | rfl | rfl <;> rfl
theorem kt_lk9 {κ : Nat} (hκ : κ ≤ 6) : am_lk [(0, 159), (1, 159), (2, 158), (3, 161), (6, 160), (7, 158), (9, 158)] (kt κ) = some (if κ = 2 ∨ κ = 3 then 159 else if κ = 5 then 160 else if κ = 6 then 161 else 158) := by
  rcases (show κ = 0 ∨ κ = 1 ∨ κ = 2 ∨ κ = 3 ∨ κ = 4 ∨ κ = 5 ∨ κ = 6 by omega) with rfl | rfl | rfl | rfl | rfl | rfl | rfl <;> rfl
theorem flk_s {D : Nat → Nat → Nat} {L : Nat → Nat} {q m i : Nat} : flk D L q (m + 1) i = if lkq D L q i = true then flk D L q m (i + 1) else some i := rfl
theorem flk_le {D : Nat → Nat → Nat} {L : Nat → Nat} {q : Nat} : ∀ m i y, flk D L q m i = some y → y < i + m
  | 0, _, _, h => by cases h
  | m + 1, i, y, h => by
    rw [flk_s] at h
    split at h
    · have := flk_le m (i + 1) y h; omega
    · cases h; omega
theorem msq_s {D : Nat → Nat → Nat} {L : Nat → Nat} {q i : Nat} : msq D L q (i + 1) = mn (suq D L q i) (msq D L q i) := rfl
theorem lsq_s {D : Nat → Nat → Nat} {L : Nat → Nat} {q i : Nat} : lsq D L q (i + 1) = lsq D L q i + (if D 15 (8 * q + i) = 2 then L 9 else if D 15 (8 * q + i) = 1 ∧ D 3 (D 14 (8 * q + i)) = 5 then L 8 else 0) := rfl
section GRA
variable {h : am_H} {s : Sg} {D : Nat → Nat → Nat} {q r a w l : Nat}
theorem CQ_fr {W : Nat → Nat → Prop} (hw : ∀ a k, W a k → a < 303) {h' : am_H} (e : Kg W h h') (c : CQ h D q r a w l) : CQ h' D q r a w l := by
  obtain ⟨c2, c3, c4, c5, c6, c7, c8, c9, c10, c11, c12, c13, c14⟩ := c
  have qr : ∀ a k, a ≠ 248 → a ≠ 253 → hR h' a k = hR h a k := fun a k n1 n2 => e.2.2.2.1 a k (fun z => n1 z.1) n2
  have q : ∀ a k, 303 ≤ a → hI h' a k = hI h a k := fun a k n => e.2.2.2.2.1 a k (fun z => by have := hw a k z; omega)
  refine ⟨?_, c3, c4, c5, by rw [e.1]; exact c6, by rw [e.1]; exact c7, by rw [e.1]; exact c8, by rw [e.2.2.1]; exact c9, ?_, ?_, ?_, fun i hi => ?_, fun i hi => ?_⟩
  · unfold Rw at c2 ⊢
    rw [e.2.2.1, qr _ _ (by omega) (by omega), qr _ _ (by omega) (by omega)]; exact c2
  · rw [q _ _ c3]; exact c10
  · rw [q _ _ c3]; exact c11
  · rw [q _ _ c3]; exact c12
  · rw [q _ _ c4]; exact c13 i hi
  · rw [q _ _ c5]; exact c14 i hi
theorem D148 (hs : Sh h) {z : Option Nat} {x : Bool} {y1 y2 : Int32} : am_D 148 [vr z, vi (bi x), vi y1, vi y2] h = some (some (vi (bi x)), h) := by
  rw [d_148 hs]
  cases x
  · exact if_pos (Or.inl rfl)
  · exact if_pos (Or.inr rfl)
theorem DLH (hs : Sh h) (c : CQ h D q r a w l) (hκ : D 11 q ≤ 6) {lk : Nat} (hl : lk < 3) (x y : Bool) {f : Option am_V × am_H → Option (Option am_V × am_H)} : (am_lk [(0, 149), (1, 150), (2, 148), (3, 148), (6, 148), (7, 148), (9, 151)] (hK h a).1).bind (fun z => (am_D z [vr (some a), vi (bi x), vi (ni lk), vi (bi y)] h).bind f) = f (some (vi (bi (lkh (D 11 q) lk x y))), h) := by
  have hk := qK c
  rw [hk, kt_lk3 hκ]
  generalize D 11 q = κ at hκ hk
  simp only [Option.bind_some]
  rcases (show κ = 1 ∨ κ = 2 ∨ κ = 3 ∨ (κ ≠ 1 ∧ κ ≠ 2 ∧ κ ≠ 3) by omega) with rfl | rfl | rfl | n
  · have m : (hK h a).1 ∈ ([9] : List Nat) := by rw [hk]; decide
    rw [if_pos rfl, d_151 hs (qR c), if_pos m, D148 hs]
    simp (disch := first | assumption | omega | (simp only [Sh_pI, Sh_pL, Sh_pIs, Sh_pLs]; assumption)) only [↓ixb, Option.bind_some, Option.toList_some, Option.toList_none, List.cons_append, List.nil_append, e_151_7, ni_lit, ni_eq, bi0]
    unfold lkh
    cases x <;> rcases (show lk = 0 ∨ lk = 1 ∨ lk = 2 by omega) with rfl | rfl | rfl <;> rfl
  · have m : (hK h a).1 ∈ ([0, 1] : List Nat) := by rw [hk]; decide
    rw [if_neg (by omega), if_pos rfl, d_149 hs (qR c), if_pos m, D148 hs]
    simp (disch := first | assumption | omega | (simp only [Sh_pI, Sh_pL, Sh_pIs, Sh_pLs]; assumption)) only [↓ixb, Option.bind_some, Option.toList_some, Option.toList_none, List.cons_append, List.nil_append, e_149_7, ni_lit, ni_eq, bi0]
    unfold lkh
    cases x <;> rcases (show lk = 0 ∨ lk = 1 ∨ lk = 2 by omega) with rfl | rfl | rfl <;> rfl
  · have m : (hK h a).1 ∈ ([1] : List Nat) := by rw [hk]; decide
    have m2 : (hK h a).1 ∈ ([0, 1] : List Nat) := by rw [hk]; decide
    have e1 : am_D 149 [vr (some a), vi (bi x), vi (ni lk), vi (bi y)] h = some (some (vi (bi (x || lk == 2))), h) := by
      rw [d_149 hs (qR c), if_pos m2, D148 hs]
      simp (disch := first | assumption | omega | (simp only [Sh_pI, Sh_pL, Sh_pIs, Sh_pLs]; assumption)) only [↓ixb, Option.bind_some, Option.toList_some, Option.toList_none, List.cons_append, List.nil_append, e_149_7, ni_lit, ni_eq, bi0]
      cases x <;> rcases (show lk = 0 ∨ lk = 1 ∨ lk = 2 by omega) with rfl | rfl | rfl <;> rfl
    rw [if_neg (by omega), if_neg (by omega), if_pos rfl, d_150 hs (qR c), if_pos m, e1]
    simp (disch := first | assumption | omega | (simp only [Sh_pI, Sh_pL, Sh_pIs, Sh_pLs]; assumption)) only [↓ixb, Option.bind_some, Option.toList_some, Option.toList_none, List.cons_append, List.nil_append, e_150_7, ni_lit, ni_eq, bi0]
    unfold lkh
    cases x <;> cases y <;> rcases (show lk = 0 ∨ lk = 1 ∨ lk = 2 by omega) with rfl | rfl | rfl <;> rfl
  · rw [if_neg n.1, if_neg n.2.1, if_neg n.2.2, D148 hs]
    unfold lkh
    rw [if_neg n.1, if_neg n.2.1, if_neg n.2.2]
    rfl
theorem ni_mx0 {a b : Nat} (ha : a < 2147483648) (hb : b < 2147483648) : (if ni 0 < ni a - ni b then ni a - ni b else ni 0) = ni (a - b) := by
  by_cases c : b < a
  · rw [if_pos (by rw [ltt, ni_subi ha hb, ni_toInt (by omega)]; omega)]; exact ni_sub (by omega)
  · rw [if_neg (by rw [ltt, ni_subi ha hb, ni_toInt (by omega)]; omega), show a - b = 0 by omega]
theorem DLS (hs : Sh h) (c : CQ h D q r a w l) (hκ : D 11 q ≤ 6) {n : Nat} (hn : hK h n = (100, 14)) {L : Nat → Nat} (hL : ∀ j, j < 14 → hI h n j = ni (L j)) (o : okl L) {x : Nat} (hx : x ≤ 99) {f : Option am_V × am_H → Option (Option am_V × am_H)} : (am_lk [(0, 159), (1, 159), (2, 158), (3, 161), (6, 160), (7, 158), (9, 158)] (hK h a).1).bind (fun z => (am_D z [vr (some a), vi (ni x), vr (some n)] h).bind f) = f (some (vi (ni (les L (D 11 q) x))), h) := by
  have hk := qK c
  have l10 := o.1 10 (by omega)
  have l11 := o.1 11 (by omega)
  rw [hk, kt_lk9 hκ]
  generalize D 11 q = κ at hκ hk
  simp only [Option.bind_some]
  have e160 : κ = 5 ∨ κ = 6 → am_D 160 [vr (some a), vi (ni x), vr (some n)] h = some (some (vi (ni (x - L 11))), h) := fun k => by
    have m : (hK h a).1 ∈ ([3, 6] : List Nat) := by rw [hk]; rcases k with rfl | rfl <;> decide
    rw [d_160 hs (qR c) hn, if_pos m, d_158 hs]
    simp (disch := first | assumption | omega | (simp only [Sh_pI, Sh_pL, Sh_pIs, Sh_pLs]; assumption)) only [↓ixb, Option.bind_some, Option.toList_some, Option.toList_none, List.cons_append, List.nil_append, e_160_7 hs hn, hL, ni_lit, ni_mx0]
  rcases (show κ = 2 ∨ κ = 3 ∨ κ = 5 ∨ κ = 6 ∨ (κ ≠ 2 ∧ κ ≠ 3 ∧ κ ≠ 5 ∧ κ ≠ 6) by omega) with rfl | rfl | rfl | rfl | n
  · have m : (hK h a).1 ∈ ([0, 1] : List Nat) := by rw [hk]; decide
    rw [if_pos (by omega), d_159 hs (qR c) hn, if_pos m, d_158 hs]
    simp (disch := first | assumption | omega | (simp only [Sh_pI, Sh_pL, Sh_pIs, Sh_pLs]; assumption)) only [↓ixb, Option.bind_some, Option.toList_some, Option.toList_none, List.cons_append, List.nil_append, e_159_7 hs hn, hL, ni_lit, ni_mx0]
    rfl
  · have m : (hK h a).1 ∈ ([0, 1] : List Nat) := by rw [hk]; decide
    rw [if_pos (by omega), d_159 hs (qR c) hn, if_pos m, d_158 hs]
    simp (disch := first | assumption | omega | (simp only [Sh_pI, Sh_pL, Sh_pIs, Sh_pLs]; assumption)) only [↓ixb, Option.bind_some, Option.toList_some, Option.toList_none, List.cons_append, List.nil_append, e_159_7 hs hn, hL, ni_lit, ni_mx0]
    rfl
  · rw [if_neg (by omega), if_pos rfl, e160 (by omega)]; rfl
  · have m : (hK h a).1 ∈ ([3] : List Nat) := by rw [hk]; decide
    rw [if_neg (by omega), if_neg (by omega), if_pos rfl, d_161 hs (qR c) hn, if_pos m, e160 (by omega)]
    simp (disch := first | assumption | omega | (simp only [Sh_pI, Sh_pL, Sh_pIs, Sh_pLs]; assumption)) only [↓ixb, Option.bind_some, Option.toList_some, Option.toList_none, List.cons_append, List.nil_append, e_161_6, ni_lit, ni_div]
    rfl
  · rw [if_neg (by omega), if_neg (by omega), if_neg (by omega), d_158 hs]
    unfold les
    rw [if_neg (by omega), if_neg (by omega), if_neg (by omega)]
    rfl
/-- what hearLinks leaves in row 40 -/
def hd40 (D : Nat → Nat → Nat) (L : Nat → Nat) (q : Nat) (h : am_H) (i : Nat) : am_H := pIs h 40 (fun j => if i ≤ j ∧ j + 1 < D 12 q then oI (hrw D L q j) else hI h 40 j)
theorem oI_neg (o : Option Nat) (ho : ∀ y, o = some y → y < 2147483648) : (oI o = -ni 1) = (o.isSome = false) := by
  cases o with
  | none => simp [oI]
  | some y =>
    have := ho y rfl
    show (ni y = -ni 1) = _
    rw [ng_eq this (by omega) (by omega)]; simp
theorem L147 {F t : Nat} (hF : F ≤ sR s) (V : Vs s) (ht : t < sS s) (hr : r < sD s 10 t) : ∀ m i h, i + m + 1 = sD s 12 (8 * t + r) → Sh h → CS h s → CQ h (sD s) (8 * t + r) r a w l → am_E 147 (2, [some (vr (some 28)), some (vr (some a)), some (vr (some (nfa F))), some (vi (ni i))], [], h) = some (none, hd40 (sD s) (lwf (sD s) F) (8 * t + r) h i) := by
  have vM' := vM V
  have vR' := vR V
  have v := vq V ht hr
  have v8 := v.2.2.1
  intro m
  induction m with
  | zero =>
    intro i h e hs c q
    have hk := nfK hs (show F ≤ 6 by omega)
    unfold hd40
    rw [e_147_2 hs (qR q) hk, qZ q, pIs_self (fun j => by rw [if_neg (by omega)])]
    simp (disch := first | assumption | omega | (simp only [Sh_pI, Sh_pL, Sh_pIs, Sh_pLs]; assumption)) only [↓ixb, Option.bind_some, Option.bind_none, Option.toList_some, Option.toList_none, List.cons_append, List.nil_append, ni_lit, ni_of, ni_add, ni_mul, ni_sub, ni_div, ni_lt, ni_le, ni_eq, ng_lt, ng_le, ng_lt', ng_le', ng_eq, ng_eq', ng_ng, Int32.neg_neg, ix_ni, if_pos, if_neg, reduceIte]
  | succ m ih =>
    intro i h e hs c q
    have hk := nfK hs (show F ≤ 6 by omega)
    have w1 := v.2.2.2.2.1 i (by omega)
    have w2 := v.2.2.2.2.1 (i + 1) (by omega)
    have kg : Kg sc h (pI h 40 i (oI (hrw (sD s) (lwf (sD s) F) (8 * t + r) i))) := Kg_pI (by unfold sc; omega) (Kg_refl h)
    rw [e_147_2 hs (qR q) hk, qZ q]
    simp (disch := first | assumption | omega | (simp only [Sh_pI, Sh_pL, Sh_pIs, Sh_pLs]; assumption)) only [↓ixb, Option.bind_some, Option.bind_none, Option.toList_some, Option.toList_none, List.cons_append, List.nil_append, ni_lit, ni_of, ni_add, ni_mul, ni_sub, ni_div, ni_lt, ni_le, ni_eq, ng_lt, ng_le, ng_lt', ng_le', ng_eq, ng_eq', ng_ng, Int32.neg_neg, ix_ni, if_pos, if_neg, reduceIte, qWh q]
    rw [D139 hs V c w1 w2 hk (nfI V c hF (by omega)) (nfI V c hF (by omega)) (lw_le V hF (by omega)) (lw_1 V hF)]
    simp only [Option.bind_some, Option.toList_some, List.cons_append, List.nil_append]
    rw [e_147_45 hs (qR q) hk]
    simp (disch := first | assumption | omega | (simp only [Sh_pI, Sh_pL, Sh_pIs, Sh_pLs]; assumption)) only [↓ixb, Option.bind_some, Option.bind_none, Option.toList_some, Option.toList_none, List.cons_append, List.nil_append, ni_lit, ni_of, ni_add, ni_mul, ni_sub, ni_div, ni_lt, ni_le, ni_eq, ng_lt, ng_le, ng_lt', ng_le', ng_eq, ng_eq', ng_ng, Int32.neg_neg, ix_ni, if_pos, if_neg, reduceIte]
    have fin := ih (i + 1) (pI h 40 i (oI (hrw (sD s) (lwf (sD s) F) (8 * t + r) i))) (by omega) hs (CS_fr (fun _ _ z => Or.inl z) kg V c) (CQ_fr (fun a k z => by unfold sc at z; omega) kg q)
    unfold hd40 at fin ⊢
    rw [pIs_pI] at fin
    refine fin.trans ?_
    refine congrArg (fun g => some (none, pIs h 40 g)) ?_
    funext j
    rw [hI_pI]
    by_cases z : j = i
    · rw [if_neg (by omega), if_pos ⟨rfl, z⟩, if_pos (by omega), z]
    · rw [if_neg (c := 40 = 40 ∧ j = i) (fun y => z y.2)]
      by_cases y : i ≤ j ∧ j + 1 < sD s 12 (8 * t + r)
      · rw [if_pos y, if_pos (by omega)]
      · rw [if_neg y, if_neg (by omega)]
theorem Kg_hd {L : Nat → Nat} {i : Nat} : Kg sc h (hd40 D L q h i) := Kg_pIs (fun j => by unfold sc; omega) (Kg_refl h)
theorem D147 {F t : Nat} (hF : F ≤ sR s) (V : Vs s) (ht : t < sS s) (hr : r < sD s 10 t) (hs : Sh h) (c : CS h s) (q : CQ h (sD s) (8 * t + r) r a w l) : am_D 147 [vr (some 28), vr (some a), vr (some (nfa F))] h = some (none, hd40 (sD s) (lwf (sD s) F) (8 * t + r) h 0) := by
  have vR' := vR V
  have v := vq V ht hr
  have v2 := v.2.1
  rw [d_147 hs (qR q) (nfK hs (show F ≤ 6 by omega))]
  exact L147 hF V ht hr (sD s 12 (8 * t + r) - 1) 0 h (by omega) hs c q
theorem hrw_b {F t i : Nat} (hF : F ≤ sR s) (V : Vs s) (ht : t < sS s) (hr : r < sD s 10 t) (hi : i < sD s 12 (8 * t + r)) : ∀ y, hrw (sD s) (lwf (sD s) F) (8 * t + r) i = some y → y ≤ 400 := fun y e => by
  have v := vq V ht hr
  exact wc_le (lw_le V hF (by omega)) (vm V (v.2.2.2.2.1 i hi)).2.1 e
theorem bi_b {p : Prop} [Decidable p] {b : Bool} (e : p ↔ b = true) {α : Type} (f : Int32 → α) : (if p then f 1 else f 0) = f (bi b) := by
  cases b
  · rw [if_neg (by rw [e]; decide)]; rfl
  · rw [if_pos (e.mpr rfl)]; rfl
/-- of a row whose links were heard -/
def Hd (h : am_H) (D : Nat → Nat → Nat) (L : Nat → Nat) (q : Nat) : Prop := ∀ j, j + 1 < D 12 q → hI h 40 j = oI (hrw D L q j)
theorem L152 {F t : Nat} (hF : F ≤ sR s) (V : Vs s) (ht : t < sS s) (hr : r < sD s 10 t) (hs : Sh h) (c : CS h s) (q : CQ h (sD s) (8 * t + r) r a w l) (H : Hd h (sD s) (lwf (sD s) F) (8 * t + r)) : ∀ m i (o : Option am_V), i + m + 1 = sD s 12 (8 * t + r) → am_E 152 (2, [some (vr (some 28)), some (vr (some a)), some (vi (ni i)), o], [], h) = some (some (vi (oI (flk (sD s) (lwf (sD s) F) (8 * t + r) m i))), h) := by
  have vM' := vM V
  have v := vq V ht hr
  have v8 := v.2.2.1
  intro m
  induction m with
  | zero =>
    intro i o e
    rw [e_152_2 hs (qR q), qZ q]
    simp (disch := first | assumption | omega | (simp only [Sh_pI, Sh_pL, Sh_pIs, Sh_pLs]; assumption)) only [↓ixb, Option.bind_some, Option.bind_none, Option.toList_some, Option.toList_none, List.cons_append, List.nil_append, ni_lit, ni_of, ni_add, ni_mul, ni_sub, ni_div, ni_lt, ni_le, ni_eq, ng_lt, ng_le, ng_lt', ng_le', ng_eq, ng_eq', ng_ng, Int32.neg_neg, ix_ni, if_pos, if_neg, reduceIte]
    rfl
  | succ m ih =>
    intro i o e
    have w1 := v.2.2.2.2.1 i (by omega)
    have w3 := v.2.2.2.2.2.2 i (by omega)
    have c4 := (cmn c w1).2.2.2.1
    have v5 := (vm V w1).2.2.2.1
    have hj := H i (by omega)
    have hb := hrw_b hF V ht hr (show i < sD s 12 (8 * t + r) by omega)
    have hb' : ∀ y, hrw (sD s) (lwf (sD s) F) (8 * t + r) i = some y → y < 2147483648 := fun y e => by have := hb y e; omega
    have step : ∀ x : Bool, am_E 152 (52, [some (vr (some 28)), some (vr (some a)), some (vi (ni i)), some (vi (bi (sD s 3 (sD s 14 (8 * (8 * t + r) + i)) == 5)))], [vi (bi x), vr (some a)], h) = if lkh (sD s 11 (8 * t + r)) (sD s 15 (8 * (8 * t + r) + i)) x (sD s 3 (sD s 14 (8 * (8 * t + r) + i)) == 5) = true then some (some (vi (oI (flk (sD s) (lwf (sD s) F) (8 * t + r) m (i + 1)))), h) else some (some (vi (ni i)), h) := by
      intro x
      rw [e_152_52 hs (qR q) (qR q)]
      simp (disch := first | assumption | omega | (simp only [Sh_pI, Sh_pL, Sh_pIs, Sh_pLs]; assumption)) only [Option.bind_some, ix_ni, qLk q]
      rw [DLH hs q v.1 w3]
      simp only [Option.toList_some, List.cons_append, List.nil_append]
      rw [e_152_62 hs (qR q)]
      cases lkh (sD s 11 (8 * t + r)) (sD s 15 (8 * (8 * t + r) + i)) x (sD s 3 (sD s 14 (8 * (8 * t + r) + i)) == 5)
      · rw [if_pos (show bi false = 0 from rfl), if_neg (by decide)]
      · rw [if_neg (show ¬ bi true = 0 by decide), if_pos rfl]
        rw [show ni i + 1 = ni (i + 1) from ni_add1 i]
        exact ih (i + 1) _ (by omega)
    have s35 : ∀ y : Bool, y = (sD s 3 (sD s 14 (8 * (8 * t + r) + i)) == 5) → am_E 152 (35, [some (vr (some 28)), some (vr (some a)), some (vi (ni i)), o], [vi (bi y)], h) = some (some (vi (oI (flk (sD s) (lwf (sD s) F) (8 * t + r) (m + 1) i))), h) := by
      intro y hy
      rw [e_152_35 hs (qR q), hy]
      simp (disch := first | assumption | omega | (simp only [Sh_pI, Sh_pL, Sh_pIs, Sh_pLs]; assumption)) only [Option.bind_some, ix_ni, hj, ni_lit, oI_neg _ hb']
      have : (if (hrw (sD s) (lwf (sD s) F) (8 * t + r) i).isSome = false then am_E 152 (52, [some (vr (some 28)), some (vr (some a)), some (vi (ni i)), some (vi (bi (sD s 3 (sD s 14 (8 * (8 * t + r) + i)) == 5)))], [vi (ni 0), vr (some a)], h) else am_E 152 (52, [some (vr (some 28)), some (vr (some a)), some (vi (ni i)), some (vi (bi (sD s 3 (sD s 14 (8 * (8 * t + r) + i)) == 5)))], [vi (ni 1), vr (some a)], h)) = am_E 152 (52, [some (vr (some 28)), some (vr (some a)), some (vi (ni i)), some (vi (bi (sD s 3 (sD s 14 (8 * (8 * t + r) + i)) == 5)))], [vi (bi (hrw (sD s) (lwf (sD s) F) (8 * t + r) i).isSome), vr (some a)], h) := by
        cases (hrw (sD s) (lwf (sD s) F) (8 * t + r) i).isSome <;> rfl
      rw [this, step, flk_s]
      unfold lkq
      split <;> rfl
    rw [e_152_2 hs (qR q), qZ q]
    simp (disch := first | assumption | omega | (simp only [Sh_pI, Sh_pL, Sh_pIs, Sh_pLs]; assumption)) only [ni_lit, ni_sub, ni_le, if_neg, Option.bind_some, ix_ni, qWh q, c4, ni_eq]
    by_cases z : sD s 3 (sD s 14 (8 * (8 * t + r) + i)) = 5
    · rw [if_pos z]; exact s35 true (by rw [z]; rfl)
    · rw [if_neg z]; exact s35 false (by rw [beq_eq_false_iff_ne.mpr z])
theorem D152 {F t : Nat} (hF : F ≤ sR s) (V : Vs s) (ht : t < sS s) (hr : r < sD s 10 t) (hs : Sh h) (c : CS h s) (q : CQ h (sD s) (8 * t + r) r a w l) (H : Hd h (sD s) (lwf (sD s) F) (8 * t + r)) : am_D 152 [vr (some 28), vr (some a)] h = some (some (vi (oI (flk (sD s) (lwf (sD s) F) (8 * t + r) (sD s 12 (8 * t + r) - 1) 0))), h) := by
  have v := vq V ht hr
  have v2 := v.2.1
  rw [d_152 hs (qR q)]
  exact L152 hF V ht hr hs c q H (sD s 12 (8 * t + r) - 1) 0 _ (by omega)
theorem D156 {F t i : Nat} (hF : F ≤ sR s) (V : Vs s) (ht : t < sS s) (hr : r < sD s 10 t) (hs : Sh h) (c : CS h s) (q : CQ h (sD s) (8 * t + r) r a w l) (H : Hd h (sD s) (lwf (sD s) F) (8 * t + r)) (hi : i < sD s 12 (8 * t + r)) : am_D 156 [vr (some 28), vr (some a), vi (ni i), vr (some (nfa F))] h = some (some (vi (ni (suq (sD s) (lwf (sD s) F) (8 * t + r) i))), h) := by
  have vM' := vM V
  have vR' := vR V
  have v := vq V ht hr
  have v8 := v.2.2.1
  have w1 := v.2.2.2.2.1 i hi
  obtain ⟨c1, c2, c3, c4, c5, c6, c7⟩ := cmn c w1
  obtain ⟨u1, u2, u3, u4, u5, u6, u7⟩ := vm V w1
  have hk := nfK hs (show F ≤ 6 by omega)
  have L5 := nfI V c hF (j := 5) (by omega)
  have L3 := nfI V c hF (j := 3) (by omega)
  have f0 : ∀ {o0 o1 o2 o4 o5 : Option am_V}, am_E 156 (68, [o0, o1, o2, some (vr (some (nfa F))), o4, o5], [], h) = some (some (vi (ni (lwf (sD s) F 5))), h) := by
    intros; rw [e_156_68 hs hk, e_156_69 hs hk, L5]; rfl
  have f1 : ∀ {o0 o1 o2 o4 o5 : Option am_V}, am_E 156 (69, [o0, o1, o2, some (vr (some (nfa F))), o4, o5], [vi (ni 1)], h) = some (some (vi (ni (lwf (sD s) F 3))), h) := by
    intros; rw [e_156_69 hs hk, L3]; rfl
  rw [d_156 hs (qR q) hk]
  simp (disch := first | assumption | omega | (simp only [Sh_pI, Sh_pL, Sh_pIs, Sh_pLs]; assumption)) only [Option.bind_some, ix_ni, qWh q, c4, ni_lit, ni_eq, ni_add]
  unfold suq
  by_cases z : sD s 3 (sD s 14 (8 * (8 * t + r) + i)) = 3
  · rw [if_pos z, if_pos z]
    have c6' := c6 z
    have u6' := u6 z
    cases i with
    | zero =>
      simp (disch := first | assumption | omega | (simp only [Sh_pI, Sh_pL, Sh_pIs, Sh_pLs]; assumption)) only [ni_le, if_pos, f0]
      rfl
    | succ i =>
      have hj := H i (by omega)
      have hb := hrw_b hF V ht hr (show i < sD s 12 (8 * t + r) by omega)
      rw [if_neg (show ¬ i + 1 = 0 by omega), Nat.add_sub_cancel]
      simp (disch := first | assumption | omega | (simp only [Sh_pI, Sh_pL, Sh_pIs, Sh_pLs]; assumption)) only [ni_le, if_neg, ni_sub, Nat.add_sub_cancel, Option.bind_some, ix_ni, hj, c6', f0, f1]
      cases e : hrw (sD s) (lwf (sD s) F) (8 * t + r) i with
      | none => exact if_pos rfl
      | some y =>
        have := hb y e
        show (if ni y = -ni 1 then _ else if ni (sD s 4 (sD s 14 (8 * (8 * t + r) + (i + 1)))) ≤ ni y then _ else _) = _
        dsimp only
        rw [if_neg (by rw [ng_eq (by omega) (by omega) (by omega)]; exact fun z => z)]
        by_cases x : y < sD s 4 (sD s 14 (8 * (8 * t + r) + (i + 1)))
        · rw [if_neg (by rw [ni_le (by omega) (by omega)]; omega), if_pos x]
        · rw [if_pos (by rw [ni_le (by omega) (by omega)]; omega), if_neg x]
  · rw [if_neg z, if_neg z, nfI V c hF (by omega)]
theorem L157 {F t : Nat} (hF : F ≤ sR s) (V : Vs s) (ht : t < sS s) (hr : r < sD s 10 t) (hs : Sh h) (c : CS h s) (q : CQ h (sD s) (8 * t + r) r a w l) : ∀ m i, i + m + 1 = sD s 12 (8 * t + r) → am_E 157 (5, [some (vr (some 28)), some (vr (some a)), some (vr (some (nfa F))), some (vi (ni (lsq (sD s) (lwf (sD s) F) (8 * t + r) i))), some (vi (ni i))], [], h) = some (some (vi (ni (lsq (sD s) (lwf (sD s) F) (8 * t + r) (sD s 12 (8 * t + r) - 1)))), h) := by
  have vM' := vM V
  have vR' := vR V
  have v := vq V ht hr
  have v8 := v.2.2.1
  have hk := nfK hs (show F ≤ 6 by omega)
  intro m
  induction m with
  | zero =>
    intro i e
    rw [e_157_5 hs (qR q) hk, qZ q]
    simp (disch := first | assumption | omega | (simp only [Sh_pI, Sh_pL, Sh_pIs, Sh_pLs]; assumption)) only [↓ixb, Option.bind_some, Option.bind_none, Option.toList_some, Option.toList_none, List.cons_append, List.nil_append, ni_lit, ni_of, ni_add, ni_mul, ni_sub, ni_div, ni_lt, ni_le, ni_eq, ng_lt, ng_le, ng_lt', ng_le', ng_eq, ng_eq', ng_ng, Int32.neg_neg, ix_ni, if_pos, if_neg, reduceIte]
    rw [show i = sD s 12 (8 * t + r) - 1 by omega]
  | succ m ih =>
    intro i e
    have w1 := v.2.2.2.2.1 i (by omega)
    have w3 := v.2.2.2.2.2.2 i (by omega)
    have c4 := (cmn c w1).2.2.2.1
    have v5 := (vm V w1).2.2.2.1
    have L8 := nfI V c hF (j := 8) (by omega)
    have L9 := nfI V c hF (j := 9) (by omega)
    have b9 := lw_9 V hF (j := 9) (by omega) (by omega)
    have b8 := lw_9 V hF (j := 8) (by omega) (by omega)
    have bl := lsq_9 (D := sD s) (q := 8 * t + r) (okl_F V hF) i
    have fin := ih (i + 1) (by omega)
    rw [lsq_s] at fin
    rw [e_157_5 hs (qR q) hk, qZ q]
    by_cases z : sD s 15 (8 * (8 * t + r) + i) = 2
    · rw [if_pos z] at fin
      simp (disch := first | assumption | omega | (simp only [Sh_pI, Sh_pL, Sh_pIs, Sh_pLs]; assumption)) only [↓ixb, Option.bind_some, Option.bind_none, Option.toList_some, Option.toList_none, List.cons_append, List.nil_append, ni_lit, ni_of, ni_add, ni_mul, ni_sub, ni_div, ni_lt, ni_le, ni_eq, ng_lt, ng_le, ng_lt', ng_le', ng_eq, ng_eq', ng_ng, Int32.neg_neg, ix_ni, if_pos, if_neg, reduceIte, qLk q, L9, e_157_74 hs (qR q) hk, fin]
    · rw [if_neg z] at fin
      by_cases y : sD s 15 (8 * (8 * t + r) + i) = 1
      · by_cases x : sD s 3 (sD s 14 (8 * (8 * t + r) + i)) = 5
        · rw [if_pos ⟨y, x⟩] at fin
          simp (disch := first | assumption | omega | (simp only [Sh_pI, Sh_pL, Sh_pIs, Sh_pLs]; assumption)) only [↓ixb, Option.bind_some, Option.bind_none, Option.toList_some, Option.toList_none, List.cons_append, List.nil_append, ni_lit, ni_of, ni_add, ni_mul, ni_sub, ni_div, ni_lt, ni_le, ni_eq, ng_lt, ng_le, ng_lt', ng_le', ng_eq, ng_eq', ng_ng, Int32.neg_neg, ix_ni, if_pos, if_neg, reduceIte, qLk q, qWh q, c4, L8, e_157_74 hs (qR q) hk, fin]
        · rw [if_neg (fun k => x k.2)] at fin
          simp (disch := first | assumption | omega | (simp only [Sh_pI, Sh_pL, Sh_pIs, Sh_pLs]; assumption)) only [↓ixb, Option.bind_some, Option.bind_none, Option.toList_some, Option.toList_none, List.cons_append, List.nil_append, ni_lit, ni_of, ni_add, ni_mul, ni_sub, ni_div, ni_lt, ni_le, ni_eq, ng_lt, ng_le, ng_lt', ng_le', ng_eq, ng_eq', ng_ng, Int32.neg_neg, ix_ni, if_pos, if_neg, reduceIte, qLk q, qWh q, c4, e_157_74 hs (qR q) hk]
          exact fin
      · rw [if_neg (fun k => y k.1)] at fin
        simp (disch := first | assumption | omega | (simp only [Sh_pI, Sh_pL, Sh_pIs, Sh_pLs]; assumption)) only [↓ixb, Option.bind_some, Option.bind_none, Option.toList_some, Option.toList_none, List.cons_append, List.nil_append, ni_lit, ni_of, ni_add, ni_mul, ni_sub, ni_div, ni_lt, ni_le, ni_eq, ng_lt, ng_le, ng_lt', ng_le', ng_eq, ng_eq', ng_ng, Int32.neg_neg, ix_ni, if_pos, if_neg, reduceIte, qLk q, e_157_74 hs (qR q) hk]
        exact fin
theorem D157 {F t : Nat} (hF : F ≤ sR s) (V : Vs s) (ht : t < sS s) (hr : r < sD s 10 t) (hs : Sh h) (c : CS h s) (q : CQ h (sD s) (8 * t + r) r a w l) : am_D 157 [vr (some 28), vr (some a), vr (some (nfa F))] h = some (some (vi (ni (lsq (sD s) (lwf (sD s) F) (8 * t + r) (sD s 12 (8 * t + r) - 1)))), h) := by
  have vR' := vR V
  have v := vq V ht hr
  have v2 := v.2.1
  rw [d_157 hs (qR q) (nfK hs (show F ≤ 6 by omega))]
  exact L157 hF V ht hr hs c q (sD s 12 (8 * t + r) - 1) 0 (by omega)
theorem L162 {F t : Nat} (hF : F ≤ sR s) (V : Vs s) (ht : t < sS s) (hr : r < sD s 10 t) (hs : Sh h) (c : CS h s) (q : CQ h (sD s) (8 * t + r) r a w l) (H : Hd h (sD s) (lwf (sD s) F) (8 * t + r)) : ∀ m i, i + m = sD s 12 (8 * t + r) → am_E 162 (28, [some (vr (some 28)), some (vr (some a)), some (vr (some (nfa F))), some (vi (ni (msq (sD s) (lwf (sD s) F) (8 * t + r) i))), some (vi (ni i))], [], h) = some (some (vi (ni (stq (sD s) (lwf (sD s) F) (8 * t + r)))), h) := by
  have vM' := vM V
  have vR' := vR V
  have v := vq V ht hr
  have v8 := v.2.2.1
  have o := okl_F V hF
  have hk := nfK hs (show F ≤ 6 by omega)
  intro m
  induction m with
  | zero =>
    intro i e
    have ei : i = sD s 12 (8 * t + r) := by omega
    have b1 := msq_99 (D := sD s) (L := lwf (sD s) F) (q := 8 * t + r) i
    have b2 := lsq_9 (D := sD s) (q := 8 * t + r) o (sD s 12 (8 * t + r) - 1)
    rw [e_162_28 hs (qR q) hk, qZ q]
    simp (disch := first | assumption | omega | (simp only [Sh_pI, Sh_pL, Sh_pIs, Sh_pLs]; assumption)) only [↓ixb, Option.bind_some, Option.bind_none, Option.toList_some, Option.toList_none, List.cons_append, List.nil_append, ni_lit, ni_of, ni_add, ni_mul, ni_sub, ni_div, ni_lt, ni_le, ni_eq, ng_lt, ng_le, ng_lt', ng_le', ng_eq, ng_eq', ng_ng, Int32.neg_neg, ix_ni, if_pos, if_neg, reduceIte, D157 hF V ht hr hs c q]
    rw [e_162_65 hs hk (qR q)]
    simp (disch := first | assumption | omega | (simp only [Sh_pI, Sh_pL, Sh_pIs, Sh_pLs]; assumption)) only [ni_lit, ni_mx0]
    rw [DLS hs q v.1 hk (fun j hj => nfI V c hF hj) o (by omega)]
    simp (disch := first | assumption | omega | (simp only [Sh_pI, Sh_pL, Sh_pIs, Sh_pLs]; assumption)) only [↓ixb, Option.bind_some, Option.toList_some, Option.toList_none, List.cons_append, List.nil_append, e_162_73]
    rw [ei]
    rfl
  | succ m ih =>
    intro i e
    have w1 := v.2.2.2.2.1 i (by omega)
    have b1 := msq_99 (D := sD s) (L := lwf (sD s) F) (q := 8 * t + r) i
    have b2 := suq_9 (D := sD s) (q := 8 * t + r) (i := i) o (vm V w1).2.2.2.1
    rw [e_162_28 hs (qR q) hk, qZ q]
    simp (disch := first | assumption | omega | (simp only [Sh_pI, Sh_pL, Sh_pIs, Sh_pLs]; assumption)) only [↓ixb, Option.bind_some, Option.bind_none, Option.toList_some, Option.toList_none, List.cons_append, List.nil_append, ni_lit, ni_of, ni_add, ni_mul, ni_sub, ni_div, ni_lt, ni_le, ni_eq, ng_lt, ng_le, ng_lt', ng_le', ng_eq, ng_eq', ng_ng, Int32.neg_neg, ix_ni, if_pos, if_neg, reduceIte, D156 hF V ht hr hs c q H, e_162_46 hs (qR q) hk]
    rw [nimn]
    exact ih (i + 1) (by omega)
theorem Hd_hd {F t : Nat} : Hd (hd40 (sD s) (lwf (sD s) F) (8 * t + r) h 0) (sD s) (lwf (sD s) F) (8 * t + r) := fun j hj => by
  unfold hd40
  rw [hI_pIs, if_pos rfl, if_pos ⟨Nat.zero_le _, hj⟩]
/-- the class's grade of a row -/
theorem D162 {F t : Nat} (hF : F ≤ sR s) (V : Vs s) (ht : t < sS s) (hr : r < sD s 10 t) (hs : Sh h) (c : CS h s) (q : CQ h (sD s) (8 * t + r) r a w l) : am_D 162 [vr (some 28), vr (some a), vr (some (nfa F))] h = some (some (vi (oI (grq (sD s) (lwf (sD s) F) (8 * t + r)))), hd40 (sD s) (lwf (sD s) F) (8 * t + r) h 0) := by
  have vM' := vM V
  have vR' := vR V
  have v := vq V ht hr
  have v8 := v.2.2.1
  have v2 := v.2.1
  have o := okl_F V hF
  have hk := nfK hs (show F ≤ 6 by omega)
  have kg : Kg sc h (hd40 (sD s) (lwf (sD s) F) (8 * t + r) h 0) := Kg_hd
  have hs1 := Kg_Sh kg hs
  have c1 := CS_fr (fun _ _ z => Or.inl z) kg V c
  have q1 := CQ_fr (fun a k z => by unfold sc at z; omega) kg q
  have H1 : Hd (hd40 (sD s) (lwf (sD s) F) (8 * t + r) h 0) (sD s) (lwf (sD s) F) (8 * t + r) := Hd_hd
  have hk1 := nfK hs1 (show F ≤ 6 by omega)
  rw [d_162 hs (qR q) hk, D147 hF V ht hr hs c q]
  simp only [Option.bind_some, Option.toList_none, List.nil_append]
  rw [e_162_6 hs1 (qR q1) hk1, D152 hF V ht hr hs1 c1 q1 H1]
  simp only [Option.bind_some, Option.toList_some, List.cons_append, List.nil_append]
  rw [e_162_11 hs1 (qR q1) hk1]
  unfold grq
  cases e : flk (sD s) (lwf (sD s) F) (8 * t + r) (sD s 12 (8 * t + r) - 1) 0 with
  | some y => rw [if_neg (by rw [show oI (some y) = ni y from rfl, show (-1 : Int32) = -ni 1 from rfl, ng_eq (by have := flk_le _ _ _ e; omega) (by omega) (by omega)]; exact fun z => z)]; rfl
  | none =>
    rw [if_pos (show oI none = -1 from rfl)]
    rw [show (0 : Int32) = ni 0 from rfl, D156 hF V ht hr hs1 c1 q1 H1 (by omega)]
    simp only [Option.bind_some, Option.toList_some, List.cons_append, List.nil_append]
    rw [e_162_24 hs1 (qR q1) hk1]
    have w1 := v.2.2.2.2.1 0 (by omega)
    have b2 := suq_9 (D := sD s) (q := 8 * t + r) (i := 0) o (vm V w1).2.2.2.1
    have fin := L162 hF V ht hr hs1 c1 q1 H1 (sD s 12 (8 * t + r) - 1) 1 (by omega)
    rw [show msq (sD s) (lwf (sD s) F) (8 * t + r) 1 = suq (sD s) (lwf (sD s) F) (8 * t + r) 0 from by unfold msq mn msq; rw [if_pos (by omega)]] at fin
    exact fin
end GRA
