/-! like -/
def pfx (f g : Nat → Nat) : Nat → Nat → Nat
  | 0, i => i
  | m + 1, i => if f i = g i then pfx f g m (i + 1) else i
theorem pfx_s {f g : Nat → Nat} {m i : Nat} : pfx f g (m + 1) i = if f i = g i then pfx f g m (i + 1) else i := rfl
def gob (f g : Nat → Nat) : Nat → Nat → Nat → Bool
  | 0, _, _ => true
  | m + 1, x, y => if f x = g y then gob f g m (x + 1) (y + 1) else false
theorem gob_s {f g : Nat → Nat} {m x y : Nat} : gob f g (m + 1) x y = if f x = g y then gob f g m (x + 1) (y + 1) else false := rfl
theorem pfx_b {f g : Nat → Nat} : ∀ m i, i ≤ pfx f g m i ∧ pfx f g m i ≤ i + m
  | 0, _ => ⟨Nat.le_refl _, Nat.le_refl _⟩
  | m + 1, i => by
    have := pfx_b (f := f) (g := g) m (i + 1)
    rw [pfx_s]
    split <;> omega
def rwm (D : Nat → Nat → Nat) (q : Nat) : Nat → Nat := fun i => D 14 (8 * q + i)
def cpf (D : Nat → Nat → Nat) (q1 q2 : Nat) : Nat := pfx (rwm D q1) (rwm D q2) (mn (D 12 q1) (D 12 q2)) 0
def mor (D : Nat → Nat → Nat) (q1 q2 : Nat) : Bool := (D 12 q1 == D 12 q2 + 1) && gob (rwm D q1) (rwm D q2) (D 12 q2 - cpf D q1 q2) (cpf D q1 q2 + 1) (cpf D q1 q2)
def bek (D : Nat → Nat → Nat) (q1 q2 p : Nat) : Bool := (D 3 (rwm D q1 p) == 1) && !(D 3 (rwm D q2 p) == 1)
def bet (D : Nat → Nat → Nat) (q1 q2 : Nat) : Bool := (D 12 q1 == D 12 q2) && (decide (cpf D q1 q2 < D 12 q1) && (gob (rwm D q1) (rwm D q2) (D 12 q1 - (cpf D q1 q2 + 1)) (cpf D q1 q2 + 1) (cpf D q1 q2 + 1) && bek D q1 q2 (cpf D q1 q2)))
def lkn (D : Nat → Nat → Nat) (q1 q2 : Nat) : Nat := if mor D q1 q2 = true then 1 else if bet D q1 q2 = true then 2 else 0
theorem pfx_same {f : Nat → Nat} : ∀ m i, pfx f f m i = i + m
  | 0, _ => rfl
  | m + 1, i => by rw [pfx_s, if_pos rfl, pfx_same m (i + 1)]; omega
theorem lkn_same (D : Nat → Nat → Nat) (q : Nat) : lkn D q q = 0 := by
  have e : cpf D q q = D 12 q := by
    unfold cpf
    rw [pfx_same, Nat.zero_add]
    unfold mn
    rw [if_neg (by omega)]
  have h1 : mor D q q = false := by
    unfold mor
    rw [beq_eq_false_iff_ne.mpr (by omega), Bool.false_and]
  have h2 : bet D q q = false := by
    unfold bet
    rw [e, decide_eq_false (by omega), Bool.false_and, Bool.and_false]
  unfold lkn
  rw [h1, h2]
  rfl
/-- the count of differences, as the model walks -/
def btr (D : Nat → Nat → Nat) (q1 q2 : Nat) : Nat → Nat → Nat → Nat → Bool
  | 0, _, n, l => (n == 1) && bek D q1 q2 l
  | m + 1, i, n, l => if rwm D q1 i = rwm D q2 i then btr D q1 q2 m (i + 1) n l else btr D q1 q2 m (i + 1) (n + 1) i
theorem btr_s {D : Nat → Nat → Nat} {q1 q2 m i n l : Nat} : btr D q1 q2 (m + 1) i n l = if rwm D q1 i = rwm D q2 i then btr D q1 q2 m (i + 1) n l else btr D q1 q2 m (i + 1) (n + 1) i := rfl
theorem btr_2 {D : Nat → Nat → Nat} {q1 q2 : Nat} : ∀ m i n l, 2 ≤ n → btr D q1 q2 m i n l = false
  | 0, i, n, l, h => by
    show ((n == 1) && bek D q1 q2 l) = false
    rw [beq_eq_false_iff_ne.mpr (by omega), Bool.false_and]
  | m + 1, i, n, l, h => by
    rw [btr_s]
    split
    · exact btr_2 m _ n l h
    · exact btr_2 m _ (n + 1) i (by omega)
theorem btr_1 {D : Nat → Nat → Nat} {q1 q2 : Nat} : ∀ m i l, btr D q1 q2 m i 1 l = (gob (rwm D q1) (rwm D q2) m i i && bek D q1 q2 l)
  | 0, i, l => rfl
  | m + 1, i, l => by
    rw [btr_s, gob_s]
    by_cases z : rwm D q1 i = rwm D q2 i
    · rw [if_pos z, if_pos z, btr_1 m (i + 1) l]
    · rw [if_neg z, if_neg z, btr_2 m _ _ _ (by omega), Bool.false_and]
theorem btr_0 {D : Nat → Nat → Nat} {q1 q2 : Nat} : ∀ m i, btr D q1 q2 m i 0 0 = (decide (pfx (rwm D q1) (rwm D q2) m i < i + m) && (gob (rwm D q1) (rwm D q2) (i + m - (pfx (rwm D q1) (rwm D q2) m i + 1)) (pfx (rwm D q1) (rwm D q2) m i + 1) (pfx (rwm D q1) (rwm D q2) m i + 1) && bek D q1 q2 (pfx (rwm D q1) (rwm D q2) m i)))
  | 0, i => by
    show ((0 == 1) && bek D q1 q2 0) = (decide (i < i + 0) && _)
    rw [decide_eq_false (by omega), Bool.false_and]; rfl
  | m + 1, i => by
    rw [btr_s, pfx_s]
    by_cases z : rwm D q1 i = rwm D q2 i
    · rw [if_pos z, if_pos z, btr_0 m (i + 1), show i + (m + 1) = i + 1 + m by omega]
    · rw [if_neg z, if_neg z, Nat.zero_add, btr_1, decide_eq_true (by omega), Bool.true_and, show i + (m + 1) - (i + 1) = m by omega]
theorem btr_bet {D : Nat → Nat → Nat} {q1 q2 : Nat} (e : D 12 q1 = D 12 q2) : btr D q1 q2 (D 12 q1) 0 0 0 = bet D q1 q2 := by
  have e2 : mn (D 12 q1) (D 12 q2) = D 12 q1 := by unfold mn; split <;> omega
  rw [btr_0]
  unfold bet cpf
  rw [e2, Nat.zero_add, beq_iff_eq.mpr e, Bool.true_and]
section LIK
variable {h : am_H} {s : Sg}
theorem qWr {D : Nat → Nat → Nat} {q r a w l : Nat} (c : CQ h D q r a w l) {i : Nat} (hi : i < D 12 q) : hI h w i = ni (rwm D q i) := qWh c hi
theorem vqZ {D : Nat → Nat → Nat} {M q : Nat} (v : Vq D M q) : D 12 q ≤ 8 := v.2.2.1
theorem vqM {D : Nat → Nat → Nat} {M q i : Nat} (v : Vq D M q) (hi : i < D 12 q) : rwm D q i < M := v.2.2.2.2.1 i hi
theorem L230 (hs : Sh h) {D : Nat → Nat → Nat} {q1 q2 r1 r2 a1 a2 w1 w2 l1 l2 M : Nat} (hM : M ≤ 24) (c1 : CQ h D q1 r1 a1 w1 l1) (c2 : CQ h D q2 r2 a2 w2 l2) (v1 : Vq D M q1) (v2 : Vq D M q2) : ∀ m i, i + m = mn (D 12 q1) (D 12 q2) → am_E 230 (2, [some (vr (some a1)), some (vr (some a2)), some (vi (ni i))], [], h) = some (some (vi (ni (pfx (rwm D q1) (rwm D q2) m i))), h) := by
  have mm := mn_le (D 12 q1) (D 12 q2)
  have z1 := vqZ v1
  have z2 := vqZ v2
  intro m
  induction m with
  | zero =>
    intro i hi
    rw [e_230_2 hs (qR c1) (qR c2), qZ c1, qZ c2]
    by_cases z : D 12 q1 ≤ i
    · rw [if_pos (show ni (D 12 q1) ≤ ni i by rw [ni_le (by omega) (by omega)]; exact z)]; rfl
    · rw [if_neg (show ¬ ni (D 12 q1) ≤ ni i by rw [ni_le (by omega) (by omega)]; exact z), if_pos (show ni (D 12 q2) ≤ ni i by rw [ni_le (by omega) (by omega)]; omega)]; rfl
  | succ m ih =>
    intro i hi
    have i1 : i < D 12 q1 := by omega
    have i2 : i < D 12 q2 := by omega
    have f1 := vqM v1 i1
    have f2 := vqM v2 i2
    rw [e_230_2 hs (qR c1) (qR c2), qZ c1, qZ c2, if_neg (show ¬ ni (D 12 q1) ≤ ni i by rw [ni_le (by omega) (by omega)]; omega), if_neg (show ¬ ni (D 12 q2) ≤ ni i by rw [ni_le (by omega) (by omega)]; omega), ixb _ i1 (by omega), ixb _ i2 (by omega), qWr c1 i1, qWr c2 i2, ni_add1, pfx_s]
    by_cases z : rwm D q1 i = rwm D q2 i
    · rw [if_pos z, if_pos (show ni (rwm D q1 i) = ni (rwm D q2 i) by rw [z])]
      exact ih (i + 1) (by omega)
    · rw [if_neg z, if_neg (show ¬ ni (rwm D q1 i) = ni (rwm D q2 i) by rw [ni_eq (by omega) (by omega)]; exact z)]
theorem L231 (hs : Sh h) {D : Nat → Nat → Nat} {q1 q2 r1 r2 a1 a2 w1 w2 l1 l2 M : Nat} (hM : M ≤ 24) (c1 : CQ h D q1 r1 a1 w1 l1) (c2 : CQ h D q2 r2 a2 w2 l2) (v1 : Vq D M q1) (v2 : Vq D M q2) {x y N : Nat} (hx : x + N = D 12 q1) (hy : y + N = D 12 q2) : ∀ m i, i + m = N → am_E 231 (20, [some (vr (some a1)), some (vi (ni x)), some (vr (some a2)), some (vi (ni y)), some (vi (ni i))], [], h) = some (some (vi (bi (gob (rwm D q1) (rwm D q2) m (x + i) (y + i)))), h) := by
  have z1 := vqZ v1
  have z2 := vqZ v2
  intro m
  induction m with
  | zero =>
    intro i hi
    rw [e_231_20 hs (qR c1) (qR c2), qZ c1, ni_sub (show x ≤ D 12 q1 by omega), if_pos (show ni (D 12 q1 - x) ≤ ni i by rw [ni_le (by omega) (by omega)]; omega)]; rfl
  | succ m ih =>
    intro i hi
    have i1 : x + i < D 12 q1 := by omega
    have i2 : y + i < D 12 q2 := by omega
    have f1 := vqM v1 i1
    have f2 := vqM v2 i2
    rw [e_231_20 hs (qR c1) (qR c2), qZ c1, ni_sub (show x ≤ D 12 q1 by omega), if_neg (show ¬ ni (D 12 q1 - x) ≤ ni i by rw [ni_le (by omega) (by omega)]; omega), ni_add, ni_add, ixb _ i1 (by omega), ixb _ i2 (by omega), qWr c1 i1, qWr c2 i2, ni_add1, gob_s]
    by_cases z : rwm D q1 (x + i) = rwm D q2 (y + i)
    · rw [if_pos z, if_pos (show ni (rwm D q1 (x + i)) = ni (rwm D q2 (y + i)) by rw [z])]
      exact ih (i + 1) (by omega)
    · rw [if_neg z, if_neg (show ¬ ni (rwm D q1 (x + i)) = ni (rwm D q2 (y + i)) by rw [ni_eq (by omega) (by omega)]; exact z)]; rfl
theorem D231 (hs : Sh h) {D : Nat → Nat → Nat} {q1 q2 r1 r2 a1 a2 w1 w2 l1 l2 M : Nat} (hM : M ≤ 24) (c1 : CQ h D q1 r1 a1 w1 l1) (c2 : CQ h D q2 r2 a2 w2 l2) (v1 : Vq D M q1) (v2 : Vq D M q2) {x y N : Nat} (hx : x + N = D 12 q1) (hy : y + N = D 12 q2) : am_D 231 [vr (some a1), vi (ni x), vr (some a2), vi (ni y)] h = some (some (vi (bi (gob (rwm D q1) (rwm D q2) N x y))), h) := by
  rw [d_231 hs (qR c1) (qR c2), qZ c1, qZ c2, ni_sub (show x ≤ D 12 q1 by omega), ni_sub (show y ≤ D 12 q2 by omega), if_pos (show ni (D 12 q1 - x) = ni (D 12 q2 - y) by rw [show D 12 q1 - x = D 12 q2 - y by omega])]
  exact L231 hs hM c1 c2 v1 v2 hx hy N 0 (by omega)
theorem D232 (hs : Sh h) (V : Vs s) (c : CS h s) {q1 q2 r1 r2 a1 a2 w1 w2 l1 l2 : Nat} (c1 : CQ h (sD s) q1 r1 a1 w1 l1) (c2 : CQ h (sD s) q2 r2 a2 w2 l2) (v1 : Vq (sD s) (sM s) q1) (v2 : Vq (sD s) (sM s) q2) : am_D 232 [vr (some 28), vr (some a1), vr (some a2)] h = some (some (vi (ni (lkn (sD s) q1 q2))), h) := by
  have hM := vM V
  have z1 := vqZ v1
  have z2 := vqZ v2
  have b := pfx_b (f := rwm (sD s) q1) (g := rwm (sD s) q2) (mn (sD s 12 q1) (sD s 12 q2)) 0
  have mm := mn_le (sD s 12 q1) (sD s 12 q2)
  have L0 := L230 hs hM c1 c2 v1 v2 (mn (sD s 12 q1) (sD s 12 q2)) 0 (by omega)
  have d230 : am_D 230 [vr (some a1), vr (some a2)] h = some (some (vi (ni (cpf (sD s) q1 q2))), h) := by
    rw [d_230 hs (qR c1) (qR c2)]
    exact L0
  have b2 : cpf (sD s) q1 q2 ≤ sD s 12 q1 := by unfold cpf; omega
  have b3 : cpf (sD s) q1 q2 ≤ sD s 12 q2 := by unfold cpf; omega
  rw [d_232 hs (qR c1) (qR c2), lk_all c1]
  simp only [Option.bind_some]
  rw [d230]
  simp only [Option.bind_some, Option.toList_some, List.cons_append, List.nil_append]
  rw [e_232_11 hs (qR c1) (qR c2), qZ c1, qZ c2, ni_add1]
  by_cases z : sD s 12 q1 = sD s 12 q2 + 1
  · have hm : mor (sD s) q1 q2 = gob (rwm (sD s) q1) (rwm (sD s) q2) (sD s 12 q2 - cpf (sD s) q1 q2) (cpf (sD s) q1 q2 + 1) (cpf (sD s) q1 q2) := by
      unfold mor
      rw [beq_iff_eq.mpr z, Bool.true_and]
    have hb2 : bet (sD s) q1 q2 = false := by
      unfold bet
      rw [beq_eq_false_iff_ne.mpr (by omega), Bool.false_and]
    rw [if_pos (show ni (sD s 12 q1) = ni (sD s 12 q2 + 1) by rw [z]), lk_all c1]
    simp only [Option.bind_some]
    rw [ni_add1, D231 hs hM c1 c2 v1 v2 (x := cpf (sD s) q1 q2 + 1) (y := cpf (sD s) q1 q2) (N := sD s 12 q2 - cpf (sD s) q1 q2) (by omega) (by omega)]
    simp only [Option.bind_some, Option.toList_some, List.cons_append, List.nil_append]
    unfold lkn
    rw [hb2, hm, e_232_34 hs (qR c1) (qR c2)]
    cases y : gob (rwm (sD s) q1) (rwm (sD s) q2) (sD s 12 q2 - cpf (sD s) q1 q2) (cpf (sD s) q1 q2 + 1) (cpf (sD s) q1 q2)
    · rw [if_pos (show bi false = 0 from rfl), e_232_39 hs (qR c1) (qR c2), qZ c1, qZ c2, if_neg (show ¬ ni (sD s 12 q1) = ni (sD s 12 q2) by rw [ni_eq (by omega) (by omega)]; omega)]; rfl
    · rw [if_neg (show ¬ bi true = 0 by decide)]; rfl
  · have hm : mor (sD s) q1 q2 = false := by
      unfold mor
      rw [beq_eq_false_iff_ne.mpr z, Bool.false_and]
    rw [if_neg (show ¬ ni (sD s 12 q1) = ni (sD s 12 q2 + 1) by rw [ni_eq (by omega) (by omega)]; exact z), e_232_39 hs (qR c1) (qR c2), qZ c1, qZ c2]
    unfold lkn
    rw [hm, if_neg (show ¬ false = true by decide)]
    by_cases x : sD s 12 q1 = sD s 12 q2
    · rw [if_pos (show ni (sD s 12 q1) = ni (sD s 12 q2) by rw [x])]
      unfold bet
      rw [beq_iff_eq.mpr x, Bool.true_and]
      by_cases w : cpf (sD s) q1 q2 < sD s 12 q1
      · have f1 := vqM v1 w
        have w' : cpf (sD s) q1 q2 < sD s 12 q2 := by omega
        have f2 := vqM v2 w'
        rw [if_neg (show ¬ ni (sD s 12 q1) ≤ ni (cpf (sD s) q1 q2) by rw [ni_le (by omega) (by omega)]; omega), lk_all c1, decide_eq_true w, Bool.true_and]
        simp only [Option.bind_some]
        rw [ni_add1, D231 hs hM c1 c2 v1 v2 (x := cpf (sD s) q1 q2 + 1) (y := cpf (sD s) q1 q2 + 1) (N := sD s 12 q1 - (cpf (sD s) q1 q2 + 1)) (by omega) (by omega)]
        simp only [Option.bind_some, Option.toList_some, List.cons_append, List.nil_append]
        rw [e_232_69 hs (qR c1) (qR c2)]
        cases y : gob (rwm (sD s) q1) (rwm (sD s) q2) (sD s 12 q1 - (cpf (sD s) q1 q2 + 1)) (cpf (sD s) q1 q2 + 1) (cpf (sD s) q1 q2 + 1)
        · rw [if_pos (show bi false = 0 from rfl)]; rfl
        · have k1 : hI h (42 + 4 * rwm (sD s) q1 (cpf (sD s) q1 q2)) 3 = ni (sD s 3 (rwm (sD s) q1 (cpf (sD s) q1 q2))) := (cmn c f1).2.2.2.1
          have k2 : hI h (42 + 4 * rwm (sD s) q2 (cpf (sD s) q1 q2)) 3 = ni (sD s 3 (rwm (sD s) q2 (cpf (sD s) q1 q2))) := (cmn c f2).2.2.2.1
          have n1 : sD s 3 (rwm (sD s) q1 (cpf (sD s) q1 q2)) ≤ 5 := (vm V f1).2.2.2.1
          have n2 : sD s 3 (rwm (sD s) q2 (cpf (sD s) q1 q2)) ≤ 5 := (vm V f2).2.2.2.1
          have T1 : ∀ v : Nat, v ≤ 5 → (ni v = (1 : Int32)) = (v = 1) := fun v hv => ni_eq (by omega) (by decide)
          have g1 : hI h w1 (cpf (sD s) q1 q2) = ni (rwm (sD s) q1 (cpf (sD s) q1 q2)) := qWh c1 w
          have g2 : hI h w2 (cpf (sD s) q1 q2) = ni (rwm (sD s) q2 (cpf (sD s) q1 q2)) := qWh c2 w'
          rw [if_neg (show ¬ bi true = 0 by decide), ixb _ w (by omega), g1, ixb _ (show rwm (sD s) q1 (cpf (sD s) q1 q2) < 24 by omega) (by omega), k1, Bool.true_and]
          unfold bek
          have en : ∀ (v : Int32) (o4 o5 : Option am_V), am_E 232 (97, [some (vr (some 28)), some (vr (some a1)), some (vr (some a2)), some (vi (ni (cpf (sD s) q1 q2))), o4, o5], [vi v], h) = if v = 0 then some (some (vi (ni 0)), h) else if sD s 3 (rwm (sD s) q2 (cpf (sD s) q1 q2)) = 1 then some (some (vi (ni 0)), h) else some (some (vi (ni 2)), h) := by
            intro v o4 o5
            rw [e_232_97 hs (qR c2), ixb _ w' (by omega), g2, ixb _ (show rwm (sD s) q2 (cpf (sD s) q1 q2) < 24 by omega) (by omega), k2]
            by_cases u : sD s 3 (rwm (sD s) q2 (cpf (sD s) q1 q2)) = 1
            · rw [if_pos (show ni (sD s 3 (rwm (sD s) q2 (cpf (sD s) q1 q2))) = 1 by rw [u]; rfl), if_pos u, e_232_122 hs]
              split <;> rfl
            · rw [if_neg (show ¬ ni (sD s 3 (rwm (sD s) q2 (cpf (sD s) q1 q2))) = 1 by rw [T1 _ n2]; exact u), if_neg u, e_232_122 hs]
              split <;> rfl
          by_cases t : sD s 3 (rwm (sD s) q1 (cpf (sD s) q1 q2)) = 1
          · rw [if_pos (show ni (sD s 3 (rwm (sD s) q1 (cpf (sD s) q1 q2))) = 1 by rw [t]; rfl), en, if_neg (show ¬ (1 : Int32) = 0 by decide), beq_iff_eq.mpr t, Bool.true_and]
            by_cases u : sD s 3 (rwm (sD s) q2 (cpf (sD s) q1 q2)) = 1
            · rw [if_pos u, beq_iff_eq.mpr u]; rfl
            · rw [if_neg u, beq_eq_false_iff_ne.mpr u]; rfl
          · rw [if_neg (show ¬ ni (sD s 3 (rwm (sD s) q1 (cpf (sD s) q1 q2))) = 1 by rw [T1 _ n1]; exact t), en, if_pos rfl, beq_eq_false_iff_ne.mpr t]; rfl
      · rw [if_pos (show ni (sD s 12 q1) ≤ ni (cpf (sD s) q1 q2) by rw [ni_le (by omega) (by omega)]; omega), decide_eq_false w]; rfl
    · rw [if_neg (show ¬ ni (sD s 12 q1) = ni (sD s 12 q2) by rw [ni_eq (by omega) (by omega)]; exact x)]
      unfold bet
      rw [beq_eq_false_iff_ne.mpr x]; rfl
-- the model
def Mqr (h : am_H) (D : Nat → Nat → Nat) (q : Nat) : Prop := q < 64 ∧ hI h 276 q = ni (D 12 q) ∧ ∀ i, i < D 12 q → hI h 278 (8 * q + i) = ni (rwm D q i)
theorem Mqr_of (V : Vs s) (c : MS h s) {t r : Nat} (ht : t < sS s) (hr : r < sD s 10 t) : Mqr h (sD s) (8 * t + r) := ⟨by have := vS V; have := vN V ht; omega, mZ c ht hr, fun i hi => mWh c ht hr hi⟩
theorem L234b (hs : Sh h) {D : Nat → Nat → Nat} {q1 q2 M : Nat} (hM : M ≤ 24) (c1 : Mqr h D q1) (c2 : Mqr h D q2) (v1 : Vq D M q1) (v2 : Vq D M q2) (e : D 12 q1 = D 12 q2 + 1) : ∀ m i, i + m = D 12 q2 → am_E 234 (62, [some (vr (some 261)), some (vi (ni q1)), some (vi (ni q2)), some (vi (ni i))], [], h) = some (some (vi (bi (gob (rwm D q1) (rwm D q2) m (i + 1) i))), h) := by
  have z1 := vqZ v1
  have z2 := vqZ v2
  have x1 := c1.1
  have x2 := c2.1
  intro m
  induction m with
  | zero =>
    intro i hi
    rw [e_234_62 hs, ixb _ c2.1 (by omega), c2.2.1, if_pos (show ni (D 12 q2) ≤ ni i by rw [ni_le (by omega) (by omega)]; omega), e_234_105 hs, ixb _ c2.1 (by omega), c2.2.1, if_pos (show ni i = ni (D 12 q2) by rw [← hi]; rfl)]; rfl
  | succ m ih =>
    intro i hi
    have i1 : i + 1 < D 12 q1 := by omega
    have i2 : i < D 12 q2 := by omega
    have f1 := vqM v1 i1
    have f2 := vqM v2 i2
    have g1 : hI h 278 (8 * q1 + i + 1) = ni (rwm D q1 (i + 1)) := c1.2.2 (i + 1) i1
    have g2 := c2.2.2 i i2
    have n1 : (8 : Int32) * ni q1 + ni i + 1 = ni (8 * q1 + i + 1) := by rw [show (8 : Int32) = ni 8 from rfl, ni_mul, ni_add, ni_add1]
    have n2 : (8 : Int32) * ni q2 + ni i = ni (8 * q2 + i) := by rw [show (8 : Int32) = ni 8 from rfl, ni_mul, ni_add]
    rw [e_234_62 hs, ixb _ c2.1 (by omega), c2.2.1, if_neg (show ¬ ni (D 12 q2) ≤ ni i by rw [ni_le (by omega) (by omega)]; omega), n1, n2, ixb _ (show 8 * q1 + i + 1 < 512 by omega) (by omega), ixb _ (show 8 * q2 + i < 512 by omega) (by omega), g1, g2, gob_s, ni_add1]
    by_cases z : rwm D q1 (i + 1) = rwm D q2 i
    · rw [if_pos z, if_pos (show ni (rwm D q1 (i + 1)) = ni (rwm D q2 i) by rw [z])]
      exact ih (i + 1) (by omega)
    · rw [if_neg z, if_neg (show ¬ ni (rwm D q1 (i + 1)) = ni (rwm D q2 i) by rw [ni_eq (by omega) (by omega)]; exact z), e_234_105 hs, ixb _ c2.1 (by omega), c2.2.1, if_neg (show ¬ ni i = ni (D 12 q2) by rw [ni_eq (by omega) (by omega)]; omega)]; rfl
theorem L234a (hs : Sh h) {D : Nat → Nat → Nat} {q1 q2 M : Nat} (hM : M ≤ 24) (c1 : Mqr h D q1) (c2 : Mqr h D q2) (v1 : Vq D M q1) (v2 : Vq D M q2) (e : D 12 q1 = D 12 q2 + 1) : ∀ m i, i + m = D 12 q2 → am_E 234 (21, [some (vr (some 261)), some (vi (ni q1)), some (vi (ni q2)), some (vi (ni i))], [], h) = some (some (vi (bi (gob (rwm D q1) (rwm D q2) (D 12 q2 - pfx (rwm D q1) (rwm D q2) m i) (pfx (rwm D q1) (rwm D q2) m i + 1) (pfx (rwm D q1) (rwm D q2) m i)))), h) := by
  have z1 := vqZ v1
  have z2 := vqZ v2
  have x1 := c1.1
  have x2 := c2.1
  intro m
  induction m with
  | zero =>
    intro i hi
    rw [e_234_21 hs, ixb _ c2.1 (by omega), c2.2.1, if_pos (show ni (D 12 q2) ≤ ni i by rw [ni_le (by omega) (by omega)]; omega)]
    exact L234b hs hM c1 c2 v1 v2 e (D 12 q2 - i) i (by omega)
  | succ m ih =>
    intro i hi
    have i1 : i < D 12 q1 := by omega
    have i2 : i < D 12 q2 := by omega
    have f1 := vqM v1 i1
    have f2 := vqM v2 i2
    have g1 := c1.2.2 i i1
    have g2 := c2.2.2 i i2
    have n1 : (8 : Int32) * ni q1 + ni i = ni (8 * q1 + i) := by rw [show (8 : Int32) = ni 8 from rfl, ni_mul, ni_add]
    have n2 : (8 : Int32) * ni q2 + ni i = ni (8 * q2 + i) := by rw [show (8 : Int32) = ni 8 from rfl, ni_mul, ni_add]
    rw [e_234_21 hs, ixb _ c2.1 (by omega), c2.2.1, if_neg (show ¬ ni (D 12 q2) ≤ ni i by rw [ni_le (by omega) (by omega)]; omega), n1, n2, ixb _ (show 8 * q1 + i < 512 by omega) (by omega), ixb _ (show 8 * q2 + i < 512 by omega) (by omega), g1, g2, pfx_s, ni_add1]
    by_cases z : rwm D q1 i = rwm D q2 i
    · rw [if_pos z, if_pos (show ni (rwm D q1 i) = ni (rwm D q2 i) by rw [z])]
      exact ih (i + 1) (by omega)
    · rw [if_neg z, if_neg (show ¬ ni (rwm D q1 i) = ni (rwm D q2 i) by rw [ni_eq (by omega) (by omega)]; exact z)]
      exact L234b hs hM c1 c2 v1 v2 e (D 12 q2 - i) i (by omega)
theorem D234 (hs : Sh h) {D : Nat → Nat → Nat} {q1 q2 M : Nat} (hM : M ≤ 24) (c1 : Mqr h D q1) (c2 : Mqr h D q2) (v1 : Vq D M q1) (v2 : Vq D M q2) : am_D 234 [vr (some 261), vi (ni q1), vi (ni q2)] h = some (some (vi (bi (mor D q1 q2))), h) := by
  have z1 := vqZ v1
  have z2 := vqZ v2
  have x1 := c1.1
  have x2 := c2.1
  rw [d_234 hs, ixb _ c1.1 (by omega), ixb _ c2.1 (by omega), c1.2.1, c2.2.1, ni_add1]
  unfold mor
  by_cases e : D 12 q1 = D 12 q2 + 1
  · have f := L234a hs hM c1 c2 v1 v2 e (D 12 q2) 0 (by omega)
    have e2 : cpf D q1 q2 = pfx (rwm D q1) (rwm D q2) (D 12 q2) 0 := by
      unfold cpf
      rw [show mn (D 12 q1) (D 12 q2) = D 12 q2 by unfold mn; rw [if_neg (by omega)]]
    rw [if_pos (show ni (D 12 q1) = ni (D 12 q2 + 1) by rw [e]), beq_iff_eq.mpr e, Bool.true_and, e2]
    exact f
  · rw [if_neg (show ¬ ni (D 12 q1) = ni (D 12 q2 + 1) by rw [ni_eq (by omega) (by omega)]; exact e), beq_eq_false_iff_ne.mpr e]; rfl
theorem L235 (hs : Sh h) (V : Vs s) (c : MS h s) {q1 q2 : Nat} (c1 : Mqr h (sD s) q1) (c2 : Mqr h (sD s) q2) (v1 : Vq (sD s) (sM s) q1) (v2 : Vq (sD s) (sM s) q2) (e : sD s 12 q1 = sD s 12 q2) : ∀ m i n l, i + m = sD s 12 q1 → n ≤ i → (n = 0 ∨ l < i) → am_E 235 (25, [some (vr (some 261)), some (vi (ni q1)), some (vi (ni q2)), some (vi (ni n)), some (vi (ni l)), some (vi (ni i))], [], h) = some (some (vi (bi (btr (sD s) q1 q2 m i n l))), h) := by
  have hM := vM V
  have z1 := vqZ v1
  have z2 := vqZ v2
  have x1 := c1.1
  have x2 := c2.1
  intro m
  induction m with
  | zero =>
    intro i n l hi hn hl
    rw [e_235_25 hs, ixb _ c1.1 (by omega), c1.2.1, if_pos (show ni (sD s 12 q1) ≤ ni i by rw [ni_le (by omega) (by omega)]; omega)]
    show _ = some (some (vi (bi ((n == 1) && bek (sD s) q1 q2 l))), h)
    by_cases w : n = 1
    · have l1 : l < sD s 12 q1 := by omega
      have l2 : l < sD s 12 q2 := by omega
      have f1 := vqM v1 l1
      have f2 := vqM v2 l2
      have n1 : (8 : Int32) * ni q1 + ni l = ni (8 * q1 + l) := by rw [show (8 : Int32) = ni 8 from rfl, ni_mul, ni_add]
      have n2 : (8 : Int32) * ni q2 + ni l = ni (8 * q2 + l) := by rw [show (8 : Int32) = ni 8 from rfl, ni_mul, ni_add]
      have k1 : hI h 266 (rwm (sD s) q1 l) = ni (sD s 3 (rwm (sD s) q1 l)) := (mmn c f1).2.2.2.1
      have k2 : hI h 266 (rwm (sD s) q2 l) = ni (sD s 3 (rwm (sD s) q2 l)) := (mmn c f2).2.2.2.1
      have b1 : sD s 3 (rwm (sD s) q1 l) ≤ 5 := (vm V f1).2.2.2.1
      have b2 : sD s 3 (rwm (sD s) q2 l) ≤ 5 := (vm V f2).2.2.2.1
      have T1 : ∀ v : Nat, v ≤ 5 → (ni v = (1 : Int32)) = (v = 1) := fun v hv => ni_eq (by omega) (by decide)
      rw [if_pos (show ni n = 1 by rw [w]; rfl), n1, n2, ixb _ (show 8 * q1 + l < 512 by omega) (by omega), c1.2.2 l l1, ixb _ (show rwm (sD s) q1 l < 24 by omega) (by omega), k1, beq_iff_eq.mpr w, Bool.true_and]
      unfold bek
      by_cases t : sD s 3 (rwm (sD s) q1 l) = 1
      · rw [if_pos (show ni (sD s 3 (rwm (sD s) q1 l)) = 1 by rw [t]; rfl), ixb _ (show 8 * q2 + l < 512 by omega) (by omega), c2.2.2 l l2, ixb _ (show rwm (sD s) q2 l < 24 by omega) (by omega), k2, beq_iff_eq.mpr t, Bool.true_and]
        by_cases u : sD s 3 (rwm (sD s) q2 l) = 1
        · rw [if_pos (show ni (sD s 3 (rwm (sD s) q2 l)) = 1 by rw [u]; rfl), beq_iff_eq.mpr u]; rfl
        · rw [if_neg (show ¬ ni (sD s 3 (rwm (sD s) q2 l)) = 1 by rw [T1 _ b2]; exact u), beq_eq_false_iff_ne.mpr u]; rfl
      · rw [if_neg (show ¬ ni (sD s 3 (rwm (sD s) q1 l)) = 1 by rw [T1 _ b1]; exact t), beq_eq_false_iff_ne.mpr t]; rfl
    · rw [if_neg (show ¬ ni n = 1 by rw [show (1 : Int32) = ni 1 from rfl, ni_eq (by omega) (by omega)]; exact w), beq_eq_false_iff_ne.mpr w]; rfl
  | succ m ih =>
    intro i n l hi hn hl
    have i1 : i < sD s 12 q1 := by omega
    have i2 : i < sD s 12 q2 := by omega
    have f1 := vqM v1 i1
    have f2 := vqM v2 i2
    have n1 : (8 : Int32) * ni q1 + ni i = ni (8 * q1 + i) := by rw [show (8 : Int32) = ni 8 from rfl, ni_mul, ni_add]
    have n2 : (8 : Int32) * ni q2 + ni i = ni (8 * q2 + i) := by rw [show (8 : Int32) = ni 8 from rfl, ni_mul, ni_add]
    rw [e_235_25 hs, ixb _ c1.1 (by omega), c1.2.1, if_neg (show ¬ ni (sD s 12 q1) ≤ ni i by rw [ni_le (by omega) (by omega)]; omega), n1, n2, ixb _ (show 8 * q1 + i < 512 by omega) (by omega), ixb _ (show 8 * q2 + i < 512 by omega) (by omega), c1.2.2 i i1, c2.2.2 i i2, btr_s]
    by_cases z : rwm (sD s) q1 i = rwm (sD s) q2 i
    · rw [if_pos z, if_pos (show ni (rwm (sD s) q1 i) = ni (rwm (sD s) q2 i) by rw [z]), e_235_70 hs, ni_add1]
      exact ih (i + 1) n l (by omega) (by omega) (by omega)
    · rw [if_neg z, if_neg (show ¬ ni (rwm (sD s) q1 i) = ni (rwm (sD s) q2 i) by rw [ni_eq (by omega) (by omega)]; exact z), e_235_70 hs, ni_add1, ni_add1]
      exact ih (i + 1) (n + 1) i (by omega) (by omega) (by omega)
theorem D235 (hs : Sh h) (V : Vs s) (c : MS h s) {q1 q2 : Nat} (c1 : Mqr h (sD s) q1) (c2 : Mqr h (sD s) q2) (v1 : Vq (sD s) (sM s) q1) (v2 : Vq (sD s) (sM s) q2) : am_D 235 [vr (some 261), vi (ni q1), vi (ni q2)] h = some (some (vi (bi (bet (sD s) q1 q2))), h) := by
  have z1 := vqZ v1
  have z2 := vqZ v2
  have x1 := c1.1
  have x2 := c2.1
  rw [d_235 hs, ixb _ c1.1 (by omega), ixb _ c2.1 (by omega), c1.2.1, c2.2.1]
  by_cases e : sD s 12 q1 = sD s 12 q2
  · rw [if_pos (show ni (sD s 12 q1) = ni (sD s 12 q2) by rw [e]), ← btr_bet e]
    exact L235 hs V c c1 c2 v1 v2 e (sD s 12 q1) 0 0 0 (by omega) (by omega) (by omega)
  · rw [if_neg (show ¬ ni (sD s 12 q1) = ni (sD s 12 q2) by rw [ni_eq (by omega) (by omega)]; exact e)]
    unfold bet
    rw [beq_eq_false_iff_ne.mpr e]; rfl
-- the search
def lki (D : Nat → Nat → Nat) (q t : Nat) : Nat → Nat → Option Nat
  | 0, _ => none
  | m + 1, r => if lkn D q (8 * t + r) = 0 then lki D q t m (r + 1) else some (100 * t + 10 * r + lkn D q (8 * t + r))
theorem lki_s {D : Nat → Nat → Nat} {q t m r : Nat} : lki D q t (m + 1) r = if lkn D q (8 * t + r) = 0 then lki D q t m (r + 1) else some (100 * t + 10 * r + lkn D q (8 * t + r)) := rfl
def lko (D : Nat → Nat → Nat) (q : Nat) : Nat → Nat → Int32
  | 0, _ => -ni 1
  | m + 1, t => match lki D q t (D 10 t) 0 with
    | some v => ni v
    | none => lko D q m (t + 1)
theorem lko_s {D : Nat → Nat → Nat} {q m t : Nat} : lko D q (m + 1) t = match lki D q t (D 10 t) 0 with
    | some v => ni v
    | none => lko D q m (t + 1) := rfl
theorem L233i (hs : Sh h) (V : Vs s) (c : CS h s) {q1 r1 a1 w1 l1 t : Nat} (c1 : CQ h (sD s) q1 r1 a1 w1 l1) (v1 : Vq (sD s) (sM s) q1) (ht : t < sS s) {x1 x2 : Option am_V} : ∀ m r (o6 : Option am_V), r + m = sD s 10 t → ∃ o5 o6', am_E 233 (38, [some (vr (some 16)), x1, x2, some (vr (some a1)), some (vi (ni t)), some (vi (ni r)), o6], [], h) = match lki (sD s) q1 t m r with
    | some v => some (some (vi (ni v)), h)
    | none => am_E 233 (23, [some (vr (some 16)), x1, x2, some (vr (some a1)), some (vi (ni (t + 1))), o5, o6'], [], h) := by
  have vS' := vS V
  have vN' := vN V ht
  intro m
  induction m with
  | zero =>
    intro r o6 hr
    refine ⟨some (vi (ni r)), o6, ?_⟩
    rw [e_233_38 hs (qR c1), ixb _ (show t < 8 by omega) (by omega), cN c ht, if_pos (show ni (sD s 10 t) ≤ ni r by rw [ni_le (by omega) (by omega)]; omega), ni_add1]; rfl
  | succ m ih =>
    intro r o6 hr
    have hr' : r < sD s 10 t := by omega
    obtain ⟨a, w, l, q1', q⟩ := cRow c ht hr'
    have v2 := vq V ht hr'
    obtain ⟨o5, o6', e⟩ := ih (r + 1) (some (vi (ni (lkn (sD s) q1 (8 * t + r))))) (by omega)
    refine ⟨o5, o6', ?_⟩
    have b : lkn (sD s) q1 (8 * t + r) ≤ 2 := by unfold lkn; split <;> first | omega | (split <;> omega)
    rw [e_233_38 hs (qR c1), ixb _ (show t < 8 by omega) (by omega), cN c ht, if_neg (show ¬ ni (sD s 10 t) ≤ ni r by rw [ni_le (by omega) (by omega)]; omega), D24t hs V c ht hr', q1']
    simp only [Option.bind_some, Option.toList_some, List.cons_append, List.nil_append]
    rw [e_233_69_1 hs (qR c1) (qR q) (qR c1), D232 hs V c c1 q v1 v2]
    simp only [Option.bind_some, Option.toList_some, List.cons_append, List.nil_append]
    rw [e_233_72 hs (qR c1), lki_s]
    by_cases z : lkn (sD s) q1 (8 * t + r) = 0
    · rw [if_pos z, if_pos (show ni (lkn (sD s) q1 (8 * t + r)) = 0 by rw [z]; rfl), ni_add1]
      exact e
    · rw [if_neg z, if_neg (show ¬ ni (lkn (sD s) q1 (8 * t + r)) = 0 by rw [show (0 : Int32) = ni 0 from rfl, ni_eq (by omega) (by omega)]; exact z), show (100 : Int32) = ni 100 from rfl, show (10 : Int32) = ni 10 from rfl, ni_mul, ni_mul, ni_add, ni_add]
theorem L233 (hs : Sh h) (V : Vs s) (c : CS h s) {q1 r1 a1 w1 l1 : Nat} (c1 : CQ h (sD s) q1 r1 a1 w1 l1) (v1 : Vq (sD s) (sM s) q1) {x1 x2 : Option am_V} : ∀ m t (o5 o6 : Option am_V), t + m = sS s → am_E 233 (23, [some (vr (some 16)), x1, x2, some (vr (some a1)), some (vi (ni t)), o5, o6], [], h) = some (some (vi (lko (sD s) q1 m t)), h) := by
  have vS' := vS V
  intro m
  induction m with
  | zero =>
    intro t o5 o6 ht
    rw [e_233_23 hs (qR c1), cS c, if_pos (show ni (sS s) ≤ ni t by rw [ni_le (by omega) (by omega)]; omega)]; rfl
  | succ m ih =>
    intro t o5 o6 ht
    obtain ⟨p5, p6, e⟩ := L233i hs V c c1 v1 (show t < sS s by omega) (x1 := x1) (x2 := x2) (sD s 10 t) 0 o6 (by omega)
    rw [e_233_23 hs (qR c1), cS c, if_neg (show ¬ ni (sS s) ≤ ni t by rw [ni_le (by omega) (by omega)]; omega), show (0 : Int32) = ni 0 from rfl, e, lko_s]
    cases lki (sD s) q1 t (sD s 10 t) 0 with
    | some v => rfl
    | none => exact ih (t + 1) p5 p6 (by omega)
theorem L236i (hs : Sh h) (V : Vs s) (c : MS h s) {q1 t : Nat} (c1 : Mqr h (sD s) q1) (v1 : Vq (sD s) (sM s) q1) (ht : t < sS s) {x1 x2 : Option am_V} : ∀ m r, r + m = sD s 10 t → ∃ o5, am_E 236 (37, [some (vr (some 261)), x1, x2, some (vi (ni q1)), some (vi (ni t)), some (vi (ni r))], [], h) = match lki (sD s) q1 t m r with
    | some v => some (some (vi (ni v)), h)
    | none => am_E 236 (25, [some (vr (some 261)), x1, x2, some (vi (ni q1)), some (vi (ni (t + 1))), o5], [], h) := by
  have hM := vM V
  have vS' := vS V
  have vN' := vN V ht
  have x1' := c1.1
  intro m
  induction m with
  | zero =>
    intro r hr
    refine ⟨some (vi (ni r)), ?_⟩
    rw [e_236_37 hs, ixb _ (show t < 8 by omega) (by omega), mN c ht, if_pos (show ni (sD s 10 t) ≤ ni r by rw [ni_le (by omega) (by omega)]; omega), ni_add1]; rfl
  | succ m ih =>
    intro r hr
    have hr' : r < sD s 10 t := by omega
    have c2 := Mqr_of V c ht hr'
    have v2 := vq V ht hr'
    obtain ⟨o5, e⟩ := ih (r + 1) (by omega)
    refine ⟨o5, ?_⟩
    have n1 : (8 : Int32) * ni t + ni r = ni (8 * t + r) := by rw [show (8 : Int32) = ni 8 from rfl, ni_mul, ni_add]
    rw [e_236_37 hs, ixb _ (show t < 8 by omega) (by omega), mN c ht, if_neg (show ¬ ni (sD s 10 t) ≤ ni r by rw [ni_le (by omega) (by omega)]; omega), n1, lki_s]
    by_cases y : 8 * t + r = q1
    · rw [if_pos (show ni (8 * t + r) = ni q1 by rw [y]), if_pos (show lkn (sD s) q1 (8 * t + r) = 0 by rw [y]; exact lkn_same _ _), e_236_124 hs, ni_add1]
      exact e
    · rw [if_neg (show ¬ ni (8 * t + r) = ni q1 by rw [ni_eq (by omega) (by omega)]; exact y), D234 hs hM c1 c2 v1 v2]
      simp only [Option.bind_some, Option.toList_some, List.cons_append, List.nil_append]
      rw [e_236_77 hs, n1, show (100 : Int32) = ni 100 from rfl, show (10 : Int32) = ni 10 from rfl, ni_mul, ni_mul, ni_add, ni_add1]
      cases u : mor (sD s) q1 (8 * t + r)
      · rw [if_pos (show bi false = 0 from rfl), D235 hs V c c1 c2 v1 v2]
        simp only [Option.bind_some, Option.toList_some, List.cons_append, List.nil_append]
        rw [e_236_107 hs, show (100 : Int32) = ni 100 from rfl, show (10 : Int32) = ni 10 from rfl, ni_mul, ni_mul, ni_add, show (2 : Int32) = ni 2 from rfl, ni_add]
        cases u2 : bet (sD s) q1 (8 * t + r)
        · rw [if_pos (show bi false = 0 from rfl), if_pos (show lkn (sD s) q1 (8 * t + r) = 0 by unfold lkn; rw [u, u2]; rfl), e_236_124 hs, ni_add1]
          exact e
        · have k : lkn (sD s) q1 (8 * t + r) = 2 := by unfold lkn; rw [u, u2]; rfl
          rw [if_neg (show ¬ bi true = 0 by decide), k, if_neg (show ¬ 2 = 0 by decide)]
      · have k : lkn (sD s) q1 (8 * t + r) = 1 := by unfold lkn; rw [u]; rfl
        rw [if_neg (show ¬ bi true = 0 by decide), k, if_neg (show ¬ 1 = 0 by decide)]
theorem L236 (hs : Sh h) (V : Vs s) (c : MS h s) {q1 : Nat} (c1 : Mqr h (sD s) q1) (v1 : Vq (sD s) (sM s) q1) {x1 x2 : Option am_V} : ∀ m t (o5 : Option am_V), t + m = sS s → am_E 236 (25, [some (vr (some 261)), x1, x2, some (vi (ni q1)), some (vi (ni t)), o5], [], h) = some (some (vi (lko (sD s) q1 m t)), h) := by
  have vS' := vS V
  intro m
  induction m with
  | zero =>
    intro t o5 ht
    rw [e_236_25 hs, mS c, if_pos (show ni (sS s) ≤ ni t by rw [ni_le (by omega) (by omega)]; omega)]; rfl
  | succ m ih =>
    intro t o5 ht
    obtain ⟨p5, e⟩ := L236i hs V c c1 v1 (show t < sS s by omega) (x1 := x1) (x2 := x2) (sD s 10 t) 0 (by omega)
    rw [e_236_25 hs, mS c, if_neg (show ¬ ni (sS s) ≤ ni t by rw [ni_le (by omega) (by omega)]; omega), show (0 : Int32) = ni 0 from rfl, e, lko_s]
    cases lki (sD s) q1 t (sD s 10 t) 0 with
    | some v => rfl
    | none => exact ih (t + 1) p5 (by omega)
end LIK
theorem A38 : ∀ a1 a2, Alike 233 236 [vi a1, vi a2] := fun a1 a2 => glue fun s V => by
  by_cases g : isQ s a1 a2
  · obtain ⟨t, r, ht, hr, rfl, rfl⟩ := g
    have v := vq V ht hr
    refine ⟨lko (sD s) (8 * t + r) (sS s) 0, s, V, HC_0 fun h hs c => ?_, HM_0 fun h hs c => ?_⟩
    · obtain ⟨a, w, l, q1, q⟩ := cRow c ht hr
      rw [d_233 hs, D24t hs V c ht hr, q1]
      simp only [Option.bind_some, Option.toList_some, List.cons_append, List.nil_append]
      rw [e_233_9_1 hs (qR q)]
      exact L233 hs V c q v (sS s) 0 _ _ (by omega)
    · have n1 : (8 : Int32) * ni t + ni r = ni (8 * t + r) := by rw [show (8 : Int32) = ni 8 from rfl, ni_mul, ni_add]
      rw [d_236 hs, D27t hs V c ht hr]
      simp only [Option.bind_some, Option.toList_some, List.cons_append, List.nil_append]
      rw [e_236_6 hs, if_neg (show ¬ ni 1 = 0 by decide), n1]
      exact L236 hs V c (Mqr_of V c ht hr) v (sS s) 0 _ (by omega)
  · refine refgT V 1 (by omega) (fun h hs c => ?_) (fun h hs c => ?_)
    · rw [d_233 hs, D24f hs V c g]
      simp (disch := first | assumption | omega | (simp only [Sh_pI, Sh_pL, Sh_pIs, Sh_pLs]; assumption)) only [↓ixb, Option.bind_some, Option.bind_none, Option.toList_some, Option.toList_none, List.cons_append, List.nil_append, ni_lit, ni_of, ni_add, ni_mul, ni_sub, ni_div, ni_lt, ni_le, ni_eq, ng_lt, ng_le, ng_lt', ng_le', ng_eq, ng_eq', ng_ng, Int32.neg_neg, ix_ni, if_pos, if_neg, reduceIte, e_233_9, D102, e_233_19]
    · rw [d_236 hs, D27f hs V c g]
      simp (disch := first | assumption | omega | (simp only [Sh_pI, Sh_pL, Sh_pIs, Sh_pLs]; assumption)) only [↓ixb, Option.bind_some, Option.bind_none, Option.toList_some, Option.toList_none, List.cons_append, List.nil_append, ni_lit, ni_of, ni_add, ni_mul, ni_sub, ni_div, ni_lt, ni_le, ni_eq, ng_lt, ng_le, ng_lt', ng_le', ng_eq, ng_eq', ng_ng, Int32.neg_neg, ix_ni, if_pos, if_neg, reduceIte, e_236_6, D104, e_236_14]
