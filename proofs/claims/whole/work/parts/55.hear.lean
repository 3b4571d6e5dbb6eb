/-! who could hear whom, and when -/
/-- the laws by what is in force (0: those at first) -/
def lwf (D : Nat → Nat → Nat) (F j : Nat) : Nat := if F = 0 then t0 j else D 9 (14 * (F - 1) + j)
def nfa (F : Nat) : Nat := if F = 0 then 0 else 30 + F
theorem t0_le : ∀ j, j < 14 → t0 j ≤ 99 := by decide
theorem t0_9 : ∀ j, j < 12 → 2 ≤ j → t0 j ≤ 9 := by decide
section LWF
variable {h : am_H} {s : Sg} {F : Nat}
theorem lw_le (V : Vs s) (hF : F ≤ sR s) {j : Nat} (hj : j < 14) : lwf (sD s) F j ≤ 99 := by
  unfold lwf
  by_cases z : F = 0
  · rw [if_pos z]; exact t0_le j hj
  · rw [if_neg z]; exact (V.1.2.2.2.2.1 (F - 1) (by omega)).1 j hj
theorem lw_9 (V : Vs s) (hF : F ≤ sR s) {j : Nat} (h2 : 2 ≤ j) (hj : j < 12) : lwf (sD s) F j ≤ 9 := by
  unfold lwf
  by_cases z : F = 0
  · rw [if_pos z]; exact t0_9 j hj h2
  · rw [if_neg z]; exact (V.1.2.2.2.2.1 (F - 1) (by omega)).2.2 j h2 hj
theorem lw_1 (V : Vs s) (hF : F ≤ sR s) : lwf (sD s) F 1 ≤ 2 := by
  unfold lwf
  by_cases z : F = 0
  · rw [if_pos z]; decide
  · rw [if_neg z]; exact (V.1.2.2.2.2.1 (F - 1) (by omega)).2.1
theorem nfK (hs : Sh h) (hF : F ≤ 6) : hK h (nfa F) = (100, 14) := by
  unfold nfa
  by_cases z : F = 0
  · rw [if_pos z]; exact sk hs 0 (100, 14) rfl
  · rw [if_neg z, show 30 + F = 31 + (F - 1) by omega]; exact fq_31 hs (by omega)
theorem nfI (V : Vs s) (c : CS h s) (hF : F ≤ sR s) {j : Nat} (hj : j < 14) : hI h (nfa F) j = ni (lwf (sD s) F j) := by
  unfold nfa lwf
  by_cases z : F = 0
  · rw [if_pos z, if_pos z]; exact c.2.2.1 j hj
  · rw [if_neg z, if_neg z, show 30 + F = 31 + 0 + (F - 1) by omega]; exact c.2.2.2.2.1.2.2.1 (F - 1) (by omega) j hj
theorem fI_0 : fI 0 = -ni 1 := rfl
theorem fI_s (k : Nat) : fI (k + 1) = ni k := by
  unfold fI; rw [if_neg (by omega), Nat.add_sub_cancel]
theorem D136 (hs : Sh h) (V : Vs s) (c : CS h s) (hF : F ≤ sR s) : am_D 136 [vr (some 28), vi (fI F)] h = some (some (vr (some (nfa F))), h) := by
  have vR' := vR V
  rw [d_136 hs]
  cases F with
  | zero =>
    rw [fI_0, D99f hs V c (fun k hk e => absurd e (by rw [eqt, ng_toInt (by omega), ni_toInt (by omega)]; omega))]
    simp (disch := first | assumption | omega | (simp only [Sh_pI, Sh_pL, Sh_pIs, Sh_pLs]; assumption)) only [↓ixb, Option.bind_some, Option.bind_none, Option.toList_some, Option.toList_none, List.cons_append, List.nil_append, ni_lit, ni_of, ni_add, ni_mul, ni_sub, ni_div, ni_lt, ni_le, ni_eq, ng_lt, ng_le, ng_lt', ng_le', ng_eq, ng_eq', ng_ng, Int32.neg_neg, ix_ni, if_pos, if_neg, reduceIte, e_136_5]
    rfl
  | succ F =>
    rw [fI_s, D99t hs V c (by omega)]
    simp (disch := first | assumption | omega | (simp only [Sh_pI, Sh_pL, Sh_pIs, Sh_pLs]; assumption)) only [↓ixb, Option.bind_some, Option.bind_none, Option.toList_some, Option.toList_none, List.cons_append, List.nil_append, ni_lit, ni_of, ni_add, ni_mul, ni_sub, ni_div, ni_lt, ni_le, ni_eq, ng_lt, ng_le, ng_lt', ng_le', ng_eq, ng_eq', ng_ng, Int32.neg_neg, ix_ni, if_pos, if_neg, reduceIte, e_136_5]
    rw [show nfa (F + 1) = 31 + F from by unfold nfa; rw [if_neg (by omega)]; omega]
theorem D137 (hs : Sh h) (V : Vs s) (c : CS h s) : am_D 137 [vr (some 28)] h = some (some (vr (some (nfa (sD s 22 3)))), h) := by
  have vR' := vR V
  have vF := V.2.1
  rw [d_137 hs, cF c, D136 hs V c vF]
  simp only [Option.bind_some, Option.toList_some, List.cons_append, List.nil_append]
  exact e_137_8 hs (nfK hs (by omega))
theorem m0 (c : MS h s) {j : Nat} (hj : j < 14) : hI h 272 j = ni (t0 j) := c.2.2.1 j hj
theorem mRl (c : MS h s) {r j : Nat} (hr : r < sR s) (hj : j < 14) : hI h 273 (14 * r + j) = ni (sD s 9 (14 * r + j)) := c.2.2.2.2.1.2.1 r hr j hj
theorem D142 (hs : Sh h) (V : Vs s) (c : MS h s) (hF : F ≤ sR s) (hb : hI h 261 43 = fI F) {j : Nat} (hj : j < 14) : am_D 142 [vr (some 261), vi (ni j)] h = some (some (vi (ni (lwf (sD s) F j))), h) := by
  have vR' := vR V
  rw [d_142 hs, hb]
  unfold lwf
  cases F with
  | zero =>
    rw [fI_0]
    simp (disch := first | assumption | omega | (simp only [Sh_pI, Sh_pL, Sh_pIs, Sh_pLs]; assumption)) only [↓ixb, Option.bind_some, Option.bind_none, Option.toList_some, Option.toList_none, List.cons_append, List.nil_append, ni_lit, ni_of, ni_add, ni_mul, ni_sub, ni_div, ni_lt, ni_le, ni_eq, ng_lt, ng_le, ng_lt', ng_le', ng_eq, ng_eq', ng_ng, Int32.neg_neg, ix_ni, if_pos, if_neg, reduceIte, m0 c hj]
  | succ F =>
    rw [fI_s]
    simp (disch := first | assumption | omega | (simp only [Sh_pI, Sh_pL, Sh_pIs, Sh_pLs]; assumption)) only [↓ixb, Option.bind_some, Option.bind_none, Option.toList_some, Option.toList_none, List.cons_append, List.nil_append, ni_lit, ni_of, ni_add, ni_mul, ni_sub, ni_div, ni_lt, ni_le, ni_eq, ng_lt, ng_le, ng_lt', ng_le', ng_eq, ng_eq', ng_ng, Int32.neg_neg, ix_ni, if_pos, if_neg, reduceIte, mRl c (show F < sR s by omega) hj, Nat.add_sub_cancel]
theorem MSb (V : Vs s) (c : MS h s) (v : Int32) : MS (pI h 261 43 v) s := (Mok_q V c (Kg_pI (by unfold scm; omega) (Kg_refl h))).1
end LWF
-- the years
/-- the first of m years from y on in which a and b are in one place -/
def wy (D : Nat → Nat → Nat) (a b : Nat) : Nat → Nat → Option Nat
  | 0, _ => none
  | m + 1, y => if plc D a y (D 5 a) = plc D b y (D 5 b) then some y else wy D a b m (y + 1)
def mx (a b : Nat) : Nat := if a < b then b else a
def mn (a b : Nat) : Nat := if a < b then a else b
/-- when a could hear b, by age A and near N -/
def wc (D : Nat → Nat → Nat) (A N a b : Nat) : Option Nat := if N = 0 then some 0 else if mn (D 1 a) (D 1 b) < mx (D 0 a) (D 0 b) + A then none else if N = 1 then some (mx (D 0 a) (D 0 b) + A) else wy D a b (mn (D 1 a) (D 1 b) + 1 - (mx (D 0 a) (D 0 b) + A)) (mx (D 0 a) (D 0 b) + A)
def oI (o : Option Nat) : Int32 := match o with
  | none => -ni 1
  | some y => ni y
theorem wy_s {D : Nat → Nat → Nat} {a b m y : Nat} : wy D a b (m + 1) y = if plc D a y (D 5 a) = plc D b y (D 5 b) then some y else wy D a b m (y + 1) := rfl
theorem plc_s {D : Nat → Nat → Nat} {m y t : Nat} : plc D m y (t + 1) = if D 7 (3 * m + t) ≤ y ∧ y ≤ D 8 (3 * m + t) then D 6 (3 * m + t) else plc D m y t := rfl
theorem nimn {a b : Nat} : (if a < b then ni a else ni b) = ni (mn a b) := by unfold mn; split <;> rfl
theorem nimx {a b : Nat} : (if a < b then ni b else ni a) = ni (mx a b) := by unfold mx; split <;> rfl
theorem wy_lt {D : Nat → Nat → Nat} {a b : Nat} : ∀ m y z, wy D a b m y = some z → z < y + m
  | 0, _, _, h => by cases h
  | m + 1, y, z, h => by
    unfold wy at h
    split at h
    · cases h; omega
    · have := wy_lt m (y + 1) z h; omega
theorem wc_le {D : Nat → Nat → Nat} {A N a b y : Nat} (hA : A ≤ 99) (ha : D 1 a ≤ 400) (h : wc D A N a b = some y) : y ≤ 400 := by
  unfold wc at h
  have hm : mn (D 1 a) (D 1 b) ≤ 400 := by unfold mn; split <;> omega
  split at h
  · cases h; omega
  · split at h
    · cases h
    · split at h
      · cases h; omega
      · have := wy_lt _ _ _ h; omega
theorem wy_skip {D : Nat → Nat → Nat} {a b m : Nat} : ∀ d y, (∀ z, y ≤ z → z < y + d → plc D a z (D 5 a) ≠ plc D b z (D 5 b)) → wy D a b (d + m) y = wy D a b m (y + d)
  | 0, y, _ => by rw [Nat.zero_add, Nat.add_zero]
  | d + 1, y, h => by
    rw [show d + 1 + m = (d + m) + 1 by omega, wy_s]
    rw [if_neg (h y (Nat.le_refl _) (by omega)), wy_skip d (y + 1) (fun z h1 h2 => h z (by omega) (by omega))]
    rw [show y + 1 + d = y + (d + 1) by omega]
/-- the next year in which a may be elsewhere, by his first t journeys -/
def nmf (D : Nat → Nat → Nat) (a y : Nat) : Nat → Nat
  | 0 => 401
  | t + 1 => mn (if y ≤ D 8 (3 * a + t) then D 8 (3 * a + t) + 1 else 401) (mn (if y < D 7 (3 * a + t) then D 7 (3 * a + t) else 401) (nmf D a y t))
/-- how many of his moves come after y -/
def evc (D : Nat → Nat → Nat) (a y : Nat) : Nat → Nat
  | 0 => 0
  | t + 1 => evc D a y t + (if y < D 7 (3 * a + t) then 1 else 0) + (if y ≤ D 8 (3 * a + t) then 1 else 0)
theorem nmf_s {D : Nat → Nat → Nat} {a y t : Nat} : nmf D a y (t + 1) = mn (if y ≤ D 8 (3 * a + t) then D 8 (3 * a + t) + 1 else 401) (mn (if y < D 7 (3 * a + t) then D 7 (3 * a + t) else 401) (nmf D a y t)) := rfl
theorem evc_s {D : Nat → Nat → Nat} {a y t : Nat} : evc D a y (t + 1) = evc D a y t + (if y < D 7 (3 * a + t) then 1 else 0) + (if y ≤ D 8 (3 * a + t) then 1 else 0) := rfl
theorem mn_le (a b : Nat) : mn a b ≤ a ∧ mn a b ≤ b ∧ (mn a b = a ∨ mn a b = b) := by unfold mn; split <;> omega
theorem nmf_gt {D : Nat → Nat → Nat} {a y : Nat} (hy : y ≤ 400) : ∀ t, y < nmf D a y t
  | 0 => by unfold nmf; omega
  | t + 1 => by
    have ih := nmf_gt (D := D) (a := a) hy t
    unfold nmf
    have h1 := mn_le (if y ≤ D 8 (3 * a + t) then D 8 (3 * a + t) + 1 else 401) (mn (if y < D 7 (3 * a + t) then D 7 (3 * a + t) else 401) (nmf D a y t))
    have h2 := mn_le (if y < D 7 (3 * a + t) then D 7 (3 * a + t) else 401) (nmf D a y t)
    have h3 : y < (if y ≤ D 8 (3 * a + t) then D 8 (3 * a + t) + 1 else 401) := by split <;> omega
    have h4 : y < (if y < D 7 (3 * a + t) then D 7 (3 * a + t) else 401) := by split <;> omega
    omega
theorem nmf_le {D : Nat → Nat → Nat} {a y : Nat} : ∀ t, nmf D a y t ≤ 401
  | 0 => by unfold nmf; omega
  | t + 1 => by
    have ih := nmf_le (D := D) (a := a) (y := y) t
    unfold nmf
    have h1 := mn_le (if y ≤ D 8 (3 * a + t) then D 8 (3 * a + t) + 1 else 401) (mn (if y < D 7 (3 * a + t) then D 7 (3 * a + t) else 401) (nmf D a y t))
    have h2 := mn_le (if y < D 7 (3 * a + t) then D 7 (3 * a + t) else 401) (nmf D a y t)
    omega
theorem plc_same {D : Nat → Nat → Nat} {a y z : Nat} (hz : z ≤ 400) (h1 : y ≤ z) : ∀ t, z < nmf D a y t → plc D a z t = plc D a y t
  | 0, _ => rfl
  | t + 1, h => by
    unfold nmf at h
    have m1 := mn_le (if y ≤ D 8 (3 * a + t) then D 8 (3 * a + t) + 1 else 401) (mn (if y < D 7 (3 * a + t) then D 7 (3 * a + t) else 401) (nmf D a y t))
    have m2 := mn_le (if y < D 7 (3 * a + t) then D 7 (3 * a + t) else 401) (nmf D a y t)
    have ih := plc_same (D := D) (a := a) hz h1 t (by omega)
    have e1 : z < (if y ≤ D 8 (3 * a + t) then D 8 (3 * a + t) + 1 else 401) := by omega
    have e2 : z < (if y < D 7 (3 * a + t) then D 7 (3 * a + t) else 401) := by omega
    unfold plc
    by_cases c : D 7 (3 * a + t) ≤ y ∧ y ≤ D 8 (3 * a + t)
    · rw [if_pos c.2] at e1
      rw [if_pos c, if_pos (by omega)]
    · by_cases c1 : D 7 (3 * a + t) ≤ y
      · rw [if_neg c, if_neg (by omega), ih]
      · rw [if_pos (by omega)] at e2
        rw [if_neg c, if_neg (by omega), ih]
theorem evc_mono {D : Nat → Nat → Nat} {a y v : Nat} (h : y ≤ v) : ∀ t, evc D a v t ≤ evc D a y t
  | 0 => Nat.le_refl _
  | t + 1 => by
    have ih := evc_mono (D := D) (a := a) h t
    unfold evc
    have h1 : (if v < D 7 (3 * a + t) then 1 else 0) ≤ (if y < D 7 (3 * a + t) then 1 else 0) := by
      split
      · rw [if_pos (by omega)]; omega
      · omega
    have h2 : (if v ≤ D 8 (3 * a + t) then 1 else 0) ≤ (if y ≤ D 8 (3 * a + t) then 1 else 0) := by
      split
      · rw [if_pos (by omega)]; omega
      · omega
    omega
theorem evc_dec {D : Nat → Nat → Nat} {a y v : Nat} (hv : v ≤ 400) (h : y < v) : ∀ t, nmf D a y t = v → evc D a v t + 1 ≤ evc D a y t
  | 0, e => by unfold nmf at e; omega
  | t + 1, e => by
    unfold nmf at e
    have m1 := mn_le (if y ≤ D 8 (3 * a + t) then D 8 (3 * a + t) + 1 else 401) (mn (if y < D 7 (3 * a + t) then D 7 (3 * a + t) else 401) (nmf D a y t))
    have m2 := mn_le (if y < D 7 (3 * a + t) then D 7 (3 * a + t) else 401) (nmf D a y t)
    have mo := evc_mono (D := D) (a := a) (Nat.le_of_lt h) t
    unfold evc
    have h1 : (if v < D 7 (3 * a + t) then 1 else 0) ≤ (if y < D 7 (3 * a + t) then 1 else 0) := by
      split
      · rw [if_pos (by omega)]; omega
      · omega
    have h2 : (if v ≤ D 8 (3 * a + t) then 1 else 0) ≤ (if y ≤ D 8 (3 * a + t) then 1 else 0) := by
      split
      · rw [if_pos (by omega)]; omega
      · omega
    generalize hA : (if y ≤ D 8 (3 * a + t) then D 8 (3 * a + t) + 1 else 401) = A at e m1
    generalize hB : (if y < D 7 (3 * a + t) then D 7 (3 * a + t) else 401) = B at e m1 m2
    rcases m1.2.2 with k | k
    · by_cases c : y ≤ D 8 (3 * a + t)
      · rw [if_pos c] at hA
        rw [if_neg (c := v ≤ D 8 (3 * a + t)) (by omega), if_pos c]; omega
      · rw [if_neg c] at hA; omega
    · rcases m2.2.2 with k2 | k2
      · by_cases c : y < D 7 (3 * a + t)
        · rw [if_pos c] at hB
          rw [if_neg (c := v < D 7 (3 * a + t)) (by omega), if_pos c]; omega
        · rw [if_neg c] at hB; omega
      · have ih := evc_dec (D := D) (a := a) hv h t (by omega)
        omega
theorem evc_le {D : Nat → Nat → Nat} {a y : Nat} : ∀ t, evc D a y t ≤ 2 * t
  | 0 => Nat.le_refl _
  | t + 1 => by
    have ih := evc_le (D := D) (a := a) (y := y) t
    unfold evc
    split <;> split <;> omega
theorem ni_mn {a b : Nat} (ha : a < 2147483648) (hb : b < 2147483648) : (if ni a < ni b then ni a else ni b) = ni (mn a b) := by
  simp only [ni_lt ha hb]
  exact nimn
theorem ni_mx {a b : Nat} (ha : a < 2147483648) (hb : b < 2147483648) : (if ni a < ni b then ni b else ni a) = ni (mx a b) := by
  simp only [ni_lt ha hb]
  exact nimx
section HEAR
variable {h : am_H} {s : Sg} {a b y : Nat}
theorem L138 (hs : Sh h) (V : Vs s) (c : CS h s) (hm : a < sM s) (hy : y < 2147483648) : ∀ k t, t + k = sD s 5 a → am_E 138 (6, [some (vr (some (42 + 4 * a))), some (vi (ni y)), some (vi (ni (nmf (sD s) a y t))), some (vi (ni t))], [], h) = some (some (vi (ni (nmf (sD s) a y (sD s 5 a)))), h) := by
  have vM' := vM V
  have v := vm V hm
  obtain ⟨v1, v2, v3, v4, v5, v6, v7⟩ := v
  obtain ⟨c1, c2, c3, c4, c5, c6, c7⟩ := cmn c hm
  intro k
  induction k with
  | zero =>
    intro t e
    rw [e_138_6 hs (by omega), c5]
    simp (disch := first | assumption | omega | (simp only [Sh_pI, Sh_pL, Sh_pIs, Sh_pLs]; assumption)) only [↓ixb, Option.bind_some, Option.bind_none, Option.toList_some, Option.toList_none, List.cons_append, List.nil_append, ni_lit, ni_of, ni_add, ni_mul, ni_sub, ni_div, ni_lt, ni_le, ni_eq, ng_lt, ng_le, ng_lt', ng_le', ng_eq, ng_eq', ng_ng, Int32.neg_neg, ix_ni, if_pos, if_neg, reduceIte]
    rw [show t = sD s 5 a by omega]
  | succ k ih =>
    intro t e
    have z := c7 t (by omega)
    have w := v7 t (by omega)
    have nl := nmf_le (D := sD s) (a := a) (y := y) t
    have n2 := mn_le (sD s 7 (3 * a + t)) (nmf (sD s) a y t)
    rw [show 42 + 4 * a + 1 = 43 + 4 * a by omega, show 42 + 4 * a + 2 = 44 + 4 * a by omega, show 42 + 4 * a + 3 = 45 + 4 * a by omega] at z
    have fin := ih (t + 1) (by omega)
    have ms : ∀ x, x ≤ 401 → mn 401 x = x := fun x hx => by unfold mn; split <;> omega
    have f2 : ∀ x, x ≤ 401 → am_E 138 (35, [some (vr (some (42 + 4 * a))), some (vi (ni y)), some (vi (ni x)), some (vi (ni t))], [], h) = am_E 138 (6, [some (vr (some (42 + 4 * a))), some (vi (ni y)), some (vi (ni (mn (if y ≤ sD s 8 (3 * a + t) then sD s 8 (3 * a + t) + 1 else 401) x))), some (vi (ni (t + 1)))], [], h) := by
      intro x hx
      rw [e_138_35 hs (by omega)]
      by_cases r : y ≤ sD s 8 (3 * a + t)
      · rw [if_pos r]
        simp (disch := first | assumption | omega | (simp only [Sh_pI, Sh_pL, Sh_pIs, Sh_pLs]; assumption)) only [Option.bind_some, ni_lit, ni_add, ix_ni, if_neg, z.2.2, ni_lt, nimn, e_138_58]
      · rw [if_neg r, ms x hx]
        simp (disch := first | assumption | omega | (simp only [Sh_pI, Sh_pL, Sh_pIs, Sh_pLs]; assumption)) only [Option.bind_some, ni_lit, ni_add, ix_ni, if_pos, z.2.2, ni_lt, e_138_58]
    rw [← fin, e_138_6 hs (by omega), c5, nmf_s]
    by_cases r : y < sD s 7 (3 * a + t)
    · rw [if_pos r]
      simp (disch := first | assumption | omega | (simp only [Sh_pI, Sh_pL, Sh_pIs, Sh_pLs]; assumption)) only [Option.bind_some, ni_lit, ni_le, ix_ni, if_neg, z.2.1, ni_lt, nimn]
      exact f2 _ (by omega)
    · rw [if_neg r, ms _ nl]
      simp (disch := first | assumption | omega | (simp only [Sh_pI, Sh_pL, Sh_pIs, Sh_pLs]; assumption)) only [Option.bind_some, ni_le, ix_ni, if_neg, if_pos, z.2.1]
      exact f2 _ nl
theorem D138 (hs : Sh h) (V : Vs s) (c : CS h s) (hm : a < sM s) (hy : y < 2147483648) : am_D 138 [vr (some (42 + 4 * a)), vi (ni y)] h = some (some (vi (ni (nmf (sD s) a y (sD s 5 a)))), h) := by
  have vM' := vM V
  rw [d_138 hs (by omega)]
  exact L138 hs V c hm hy (sD s 5 a) 0 (by omega)
theorem plc_b (V : Vs s) (ha : a < sM s) : plc (sD s) a y (sD s 5 a) < 2147483648 := by
  obtain ⟨a1, a2, a3, a4, a5, a6, a7⟩ := vm V ha
  have : ∀ t, t ≤ sD s 5 a → plc (sD s) a y t < 8 := by
    intro t
    induction t with
    | zero => intro _; exact a3
    | succ t ih =>
      intro ht
      unfold plc
      split
      · exact (a7 t (by omega)).1
      · exact ih (by omega)
  exact Nat.lt_trans (this _ (Nat.le_refl _)) (by omega)
theorem L139 (hs : Sh h) (V : Vs s) (c : CS h s) (ha : a < sM s) (hb : b < sM s) {t : Nat} (ht : t ≤ 400) : ∀ m k y (o : Option am_V), k + m = 13 → y ≤ 500 → evc (sD s) a y (sD s 5 a) + evc (sD s) b y (sD s 5 b) + k ≤ 12 ∨ t < y → am_E 139 (59, [some (vr (some (42 + 4 * a))), some (vr (some (42 + 4 * b))), o, some (vi (ni y)), some (vi (ni t)), some (vi (ni k))], [], h) = some (some (vi (oI (wy (sD s) a b (t + 1 - y) y))), h) := by
  have vM' := vM V
  intro m
  induction m with
  | zero =>
    intro k y o e hy hc
    have : t < y := by omega
    rw [show t + 1 - y = 0 by omega, e_139_59 hs (by omega) (by omega)]
    simp (disch := first | assumption | omega | (simp only [Sh_pI, Sh_pL, Sh_pIs, Sh_pLs]; assumption)) only [↓ixb, Option.bind_some, Option.bind_none, Option.toList_some, Option.toList_none, List.cons_append, List.nil_append, ni_lit, ni_of, ni_add, ni_mul, ni_sub, ni_div, ni_lt, ni_le, ni_eq, ng_lt, ng_le, ng_lt', ng_le', ng_eq, ng_eq', ng_ng, Int32.neg_neg, ix_ni, if_pos, if_neg, reduceIte]
    rfl
  | succ m ih =>
    intro k y o e hy hc
    rw [e_139_59 hs (by omega) (by omega)]
    by_cases g : t < y
    · rw [show t + 1 - y = 0 by omega]
      simp (disch := first | assumption | omega | (simp only [Sh_pI, Sh_pL, Sh_pIs, Sh_pLs]; assumption)) only [↓ixb, Option.bind_some, Option.bind_none, Option.toList_some, Option.toList_none, List.cons_append, List.nil_append, ni_lit, ni_of, ni_add, ni_mul, ni_sub, ni_div, ni_lt, ni_le, ni_eq, ng_lt, ng_le, ng_lt', ng_le', ng_eq, ng_eq', ng_ng, Int32.neg_neg, ix_ni, if_pos, if_neg, reduceIte]
      rfl
    · have hc' : evc (sD s) a y (sD s 5 a) + evc (sD s) b y (sD s 5 b) + k ≤ 12 := by omega
      simp (disch := first | assumption | omega | (simp only [Sh_pI, Sh_pL, Sh_pIs, Sh_pLs]; assumption)) only [↓ixb, Option.bind_some, Option.bind_none, Option.toList_some, Option.toList_none, List.cons_append, List.nil_append, ni_lit, ni_of, ni_add, ni_mul, ni_sub, ni_div, ni_lt, ni_le, ni_eq, ng_lt, ng_le, ng_lt', ng_le', ng_eq, ng_eq', ng_ng, Int32.neg_neg, ix_ni, if_pos, if_neg, reduceIte, D65 hs V c ha (show y < 2147483648 by omega), D65 hs V c hb (show y < 2147483648 by omega), e_139_77]
      have w1 : plc (sD s) a y (sD s 5 a) < 2147483648 ∧ plc (sD s) b y (sD s 5 b) < 2147483648 := ⟨plc_b V ha, plc_b V hb⟩
      rw [e_139_82 hs (by omega) (by omega), show t + 1 - y = (t - y) + 1 by omega, wy_s]
      simp only [ni_eq w1.1 w1.2]
      by_cases p : plc (sD s) a y (sD s 5 a) = plc (sD s) b y (sD s 5 b)
      · rw [if_pos p, if_pos p]; rfl
      · rw [if_neg p, if_neg p]
        have ga := nmf_gt (D := sD s) (a := a) (show y ≤ 400 by omega) (sD s 5 a)
        have gb := nmf_gt (D := sD s) (a := b) (show y ≤ 400 by omega) (sD s 5 b)
        have la := nmf_le (D := sD s) (a := a) (y := y) (sD s 5 a)
        have lb := nmf_le (D := sD s) (a := b) (y := y) (sD s 5 b)
        have mm := mn_le (nmf (sD s) b y (sD s 5 b)) (nmf (sD s) a y (sD s 5 a))
        simp (disch := first | assumption | omega | (simp only [Sh_pI, Sh_pL, Sh_pIs, Sh_pLs]; assumption)) only [↓ixb, Option.bind_some, Option.toList_some, Option.toList_none, List.cons_append, List.nil_append, D138 hs V c ha (show y < 2147483648 by omega), D138 hs V c hb (show y < 2147483648 by omega), e_139_92, e_139_97, ni_mn, ni_lit, ni_add]
        generalize hv : mn (nmf (sD s) b y (sD s 5 b)) (nmf (sD s) a y (sD s 5 a)) = v at mm
        have sk' : ∀ z, y ≤ z → z < v → z ≤ 400 → plc (sD s) a z (sD s 5 a) ≠ plc (sD s) b z (sD s 5 b) := fun z h1 h2 h3 => by
          rw [plc_same h3 h1 _ (by omega), plc_same h3 h1 _ (by omega)]; exact p
        by_cases gv : t < v
        · rw [ih (k + 1) v (am_nl o) (by omega) (by omega) (Or.inr gv), show t + 1 - v = 0 by omega]
          have q := wy_skip (D := sD s) (a := a) (b := b) (m := 0) (t - y) (y + 1) (fun z h1 h2 => sk' z (by omega) (by omega) (by omega))
          rw [Nat.add_zero] at q
          rw [q]
          rfl
        · have ev : evc (sD s) a v (sD s 5 a) + evc (sD s) b v (sD s 5 b) + 1 ≤ evc (sD s) a y (sD s 5 a) + evc (sD s) b y (sD s 5 b) := by
            have ma := evc_mono (D := sD s) (a := a) (show y ≤ v by omega) (sD s 5 a)
            have mb := evc_mono (D := sD s) (a := b) (show y ≤ v by omega) (sD s 5 b)
            rcases mm.2.2 with x | x
            · have := evc_dec (D := sD s) (a := b) (show v ≤ 400 by omega) (show y < v by omega) (sD s 5 b) x.symm
              omega
            · have := evc_dec (D := sD s) (a := a) (show v ≤ 400 by omega) (show y < v by omega) (sD s 5 a) x.symm
              omega
          rw [ih (k + 1) v (am_nl o) (by omega) (by omega) (Or.inl (by omega))]
          have q := wy_skip (D := sD s) (a := a) (b := b) (m := t + 1 - v) (v - (y + 1)) (y + 1) (fun z h1 h2 => sk' z (by omega) (by omega) (by omega))
          rw [show v - (y + 1) + (t + 1 - v) = t - y by omega, show y + 1 + (v - (y + 1)) = v by omega] at q
          rw [q]
theorem mx_le {a b n : Nat} (ha : a ≤ n) (hb : b ≤ n) : mx a b ≤ n := by unfold mx; split <;> omega
/-- the class's answer to when a could hear b -/
theorem D139 (hs : Sh h) (V : Vs s) (c : CS h s) (ha : a < sM s) (hb : b < sM s) {n A N : Nat} (hk : hK h n = (100, 14)) (h0 : hI h n 0 = ni A) (h1 : hI h n 1 = ni N) (hA : A ≤ 99) (hN : N ≤ 2) : am_D 139 [vr (some (42 + 4 * a)), vr (some (42 + 4 * b)), vr (some n)] h = some (some (vi (oI (wc (sD s) A N a b))), h) := by
  have vM' := vM V
  obtain ⟨a1, a2, a3, a4, a5, a6, a7⟩ := vm V ha
  obtain ⟨b1, b2, b3, b4, b5, b6, b7⟩ := vm V hb
  have l1 := mx_le (show sD s 0 a ≤ 400 by omega) (show sD s 0 b ≤ 400 by omega)
  have l2 := mn_le (sD s 1 b) (sD s 1 a)
  have e1 : mn (sD s 1 b) (sD s 1 a) = mn (sD s 1 a) (sD s 1 b) := by unfold mn; split <;> split <;> omega
  rw [d_139 hs (by omega) (by omega) hk, h0, h1, (cmn c ha).1, (cmn c hb).1, (cmn c ha).2.1, (cmn c hb).2.1]
  rw [ni_mx (by omega) (by omega), ni_mn (by omega) (by omega), e1, ni_add]
  rw [e1] at l2
  unfold wc
  rcases (show N = 0 ∨ N = 1 ∨ N = 2 by omega) with rfl | rfl | rfl
  · simp (disch := first | assumption | omega | (simp only [Sh_pI, Sh_pL, Sh_pIs, Sh_pLs]; assumption)) only [↓ixb, Option.bind_some, Option.bind_none, Option.toList_some, Option.toList_none, List.cons_append, List.nil_append, ni_lit, ni_of, ni_add, ni_mul, ni_sub, ni_div, ni_lt, ni_le, ni_eq, ng_lt, ng_le, ng_lt', ng_le', ng_eq, ng_eq', ng_ng, Int32.neg_neg, ix_ni, if_pos, if_neg, reduceIte]; rfl
  · rw [if_neg (show ¬ ni 1 = 0 by decide), if_pos (show ni 1 = 1 from rfl), if_neg (show ¬ (1 : Nat) = 0 by omega), if_pos (show (1 : Nat) = 1 from rfl)]
    by_cases q : mn (sD s 1 a) (sD s 1 b) < mx (sD s 0 a) (sD s 0 b) + A
    · rw [if_pos q, if_pos (by rw [ni_lt (by omega) (by omega)]; exact q)]; rfl
    · rw [if_neg q, if_neg (by rw [ni_lt (by omega) (by omega)]; exact q)]; rfl
  · rw [if_neg (show ¬ ni 2 = 0 by decide), if_neg (show ¬ ni 2 = 1 by decide), if_neg (show ¬ (2 : Nat) = 0 by omega), if_neg (show ¬ (2 : Nat) = 1 by omega), show (0 : Int32) = ni 0 from rfl]
    have ec1 := evc_le (D := sD s) (a := a) (y := mx (sD s 0 a) (sD s 0 b) + A) (sD s 5 a)
    have ec2 := evc_le (D := sD s) (a := b) (y := mx (sD s 0 a) (sD s 0 b) + A) (sD s 5 b)
    rw [L139 hs V c ha hb (by omega) 13 0 _ _ (by omega) (by omega) (Or.inl (by omega))]
    by_cases q : mn (sD s 1 a) (sD s 1 b) < mx (sD s 0 a) (sD s 0 b) + A
    · rw [if_pos q, show mn (sD s 1 a) (sD s 1 b) + 1 - (mx (sD s 0 a) (sD s 0 b) + A) = 0 by omega]; rfl
    · rw [if_neg q]
-- the model's answer
theorem L143 (hs : Sh h) (V : Vs s) (c : MS h s) {F : Nat} (hF : F ≤ sR s) (hbF : hI h 261 43 = fI F) (hN : lwf (sD s) F 1 = 2) (ha : a < sM s) (hb : b < sM s) {t : Nat} (ht : t ≤ 400) {o3 : Option am_V} : ∀ m y, m = t + 1 - y → y ≤ 500 → am_E 143 (82, [some (vr (some 261)), some (vi (ni a)), some (vi (ni b)), o3, some (vi (ni t)), some (vi (ni y))], [], h) = some (some (vi (oI (wy (sD s) a b m y))), h) := by
  intro m
  induction m with
  | zero =>
    intro y e hy
    rw [e_143_82 hs]
    simp (disch := first | assumption | omega | (simp only [Sh_pI, Sh_pL, Sh_pIs, Sh_pLs]; assumption)) only [↓ixb, Option.bind_some, Option.bind_none, Option.toList_some, Option.toList_none, List.cons_append, List.nil_append, ni_lit, ni_of, ni_add, ni_mul, ni_sub, ni_div, ni_lt, ni_le, ni_eq, ng_lt, ng_le, ng_lt', ng_le', ng_eq, ng_eq', ng_ng, Int32.neg_neg, ix_ni, if_pos, if_neg, reduceIte]
    rfl
  | succ m ih =>
    intro y e hy
    have w1 : plc (sD s) a y (sD s 5 a) < 2147483648 ∧ plc (sD s) b y (sD s 5 b) < 2147483648 := ⟨plc_b V ha, plc_b V hb⟩
    rw [e_143_82 hs]
    simp (disch := first | assumption | omega | (simp only [Sh_pI, Sh_pL, Sh_pIs, Sh_pLs]; assumption)) only [↓ixb, Option.bind_some, Option.bind_none, Option.toList_some, Option.toList_none, List.cons_append, List.nil_append, ni_lit, ni_of, ni_add, ni_mul, ni_sub, ni_div, ni_lt, ni_le, ni_eq, ng_lt, ng_le, ng_lt', ng_le', ng_eq, ng_eq', ng_ng, Int32.neg_neg, ix_ni, if_pos, if_neg, reduceIte, D142 hs V c hF hbF, hN, e_143_94, D67 hs V c ha (show y < 2147483648 by omega), e_143_105, D67 hs V c hb (show y < 2147483648 by omega), e_143_112]
    rw [wy_s]
    by_cases p : plc (sD s) a y (sD s 5 a) = plc (sD s) b y (sD s 5 b)
    · rw [if_pos p, if_pos p]; rfl
    · rw [if_neg p, if_neg p]; exact ih (y + 1) (by omega) (by omega)
theorem D143 (hs : Sh h) (V : Vs s) (c : MS h s) {F : Nat} (hF : F ≤ sR s) (hbF : hI h 261 43 = fI F) (ha : a < sM s) (hb : b < sM s) : am_D 143 [vr (some 261), vi (ni a), vi (ni b)] h = some (some (vi (oI (wc (sD s) (lwf (sD s) F 0) (lwf (sD s) F 1) a b))), h) := by
  have vM' := vM V
  have vR' := vR V
  have hA := lw_le V hF (show 0 < 14 by omega)
  have hN := lw_1 V hF
  obtain ⟨a1, a2, a3, a4, a5, a6, a7⟩ := vm V ha
  obtain ⟨b1, b2, b3, b4, b5, b6, b7⟩ := vm V hb
  have l1 := mx_le (show sD s 0 a ≤ 400 by omega) (show sD s 0 b ≤ 400 by omega)
  have l2 := mn_le (sD s 1 a) (sD s 1 b)
  have f1 : (if sD s 0 a ≤ sD s 0 b then sD s 0 b else sD s 0 a) = mx (sD s 0 a) (sD s 0 b) := by unfold mx; split <;> split <;> omega
  have f2 : (if sD s 1 b ≤ sD s 1 a then sD s 1 b else sD s 1 a) = mn (sD s 1 a) (sD s 1 b) := by unfold mn; split <;> split <;> omega
  have go : ∀ {o4 o5 : Option am_V} (y : Nat), am_E 143 (71, [some (vr (some 261)), some (vi (ni a)), some (vi (ni b)), some (vi (ni (mx (sD s 0 a) (sD s 0 b)))), o4, o5], [vi (ni (mn (sD s 1 a) (sD s 1 b)))], h) = am_E 143 (82, [some (vr (some 261)), some (vi (ni a)), some (vi (ni b)), some (vi (ni (mx (sD s 0 a) (sD s 0 b)))), some (vi (ni (mn (sD s 1 a) (sD s 1 b)))), some (vi (ni (mx (sD s 0 a) (sD s 0 b) + lwf (sD s) F 0)))], [], h) := by
    intro o4 o5 y
    simp (disch := first | assumption | omega | (simp only [Sh_pI, Sh_pL, Sh_pIs, Sh_pLs]; assumption)) only [↓ixb, Option.bind_some, Option.bind_none, Option.toList_some, Option.toList_none, List.cons_append, List.nil_append, ni_lit, ni_of, ni_add, ni_mul, ni_sub, ni_div, ni_lt, ni_le, ni_eq, ng_lt, ng_le, ng_lt', ng_le', ng_eq, ng_eq', ng_ng, Int32.neg_neg, ix_ni, if_pos, if_neg, reduceIte, e_143_71, D142 hs V c hF hbF, e_143_79]
  have go' : ∀ {o4 o5 : Option am_V} (x : Nat), x = mn (sD s 1 a) (sD s 1 b) → am_E 143 (71, [some (vr (some 261)), some (vi (ni a)), some (vi (ni b)), some (vi (ni (mx (sD s 0 a) (sD s 0 b)))), o4, o5], [vi (ni x)], h) = am_E 143 (82, [some (vr (some 261)), some (vi (ni a)), some (vi (ni b)), some (vi (ni (mx (sD s 0 a) (sD s 0 b)))), some (vi (ni (mn (sD s 1 a) (sD s 1 b)))), some (vi (ni (mx (sD s 0 a) (sD s 0 b) + lwf (sD s) F 0)))], [], h) := by
    intro o4 o5 x hx
    rw [hx]; exact go 0
  have st : lwf (sD s) F 1 ≠ 0 → am_D 143 [vr (some 261), vi (ni a), vi (ni b)] h = am_E 143 (82, [some (vr (some 261)), some (vi (ni a)), some (vi (ni b)), some (vi (ni (mx (sD s 0 a) (sD s 0 b)))), some (vi (ni (mn (sD s 1 a) (sD s 1 b)))), some (vi (ni (mx (sD s 0 a) (sD s 0 b) + lwf (sD s) F 0)))], [], h) := by
    intro n0
    have ma := mmn c ha
    have mb := mmn c hb
    have s40 : ∀ {o3 o4 o5 : Option am_V} (x : Nat), x = mx (sD s 0 a) (sD s 0 b) → am_E 143 (40, [some (vr (some 261)), some (vi (ni a)), some (vi (ni b)), o3, o4, o5], [vi (ni x)], h) = am_E 143 (82, [some (vr (some 261)), some (vi (ni a)), some (vi (ni b)), some (vi (ni (mx (sD s 0 a) (sD s 0 b)))), some (vi (ni (mn (sD s 1 a) (sD s 1 b)))), some (vi (ni (mx (sD s 0 a) (sD s 0 b) + lwf (sD s) F 0)))], [], h) := by
      intro o3 o4 o5 x hx
      rw [hx, e_143_40 hs]
      by_cases q : sD s 1 b ≤ sD s 1 a
      · rw [if_pos q] at f2
        simp (disch := first | assumption | omega | (simp only [Sh_pI, Sh_pL, Sh_pIs, Sh_pLs]; assumption)) only [Option.bind_some, ix_ni, ma.2.1, mb.2.1, ni_le, if_pos]
        exact go' _ f2
      · rw [if_neg q] at f2
        simp (disch := first | assumption | omega | (simp only [Sh_pI, Sh_pL, Sh_pIs, Sh_pLs]; assumption)) only [Option.bind_some, ix_ni, ma.2.1, mb.2.1, ni_le, if_neg]
        exact go' _ f2
    rw [d_143 hs, show (1 : Int32) = ni 1 from rfl, D142 hs V c hF hbF (by omega)]
    simp (disch := first | assumption | omega | (simp only [Sh_pI, Sh_pL, Sh_pIs, Sh_pLs]; assumption)) only [↓ixb, Option.bind_some, Option.toList_some, Option.toList_none, List.cons_append, List.nil_append, e_143_5, ni_lit, ix_ni, ma.1, mb.1, ni_le, ni_eq]
    rw [if_neg n0]
    by_cases q : sD s 0 a ≤ sD s 0 b
    · rw [if_pos q] at f1
      rw [if_pos q]; exact s40 _ f1
    · rw [if_neg q] at f1
      rw [if_neg q]; exact s40 _ f1
  unfold wc
  rcases (show lwf (sD s) F 1 = 0 ∨ lwf (sD s) F 1 = 1 ∨ lwf (sD s) F 1 = 2 by omega) with e | e | e
  · rw [if_pos e, d_143 hs, show (1 : Int32) = ni 1 from rfl, D142 hs V c hF hbF (by omega), e]
    simp (disch := first | assumption | omega | (simp only [Sh_pI, Sh_pL, Sh_pIs, Sh_pLs]; assumption)) only [↓ixb, Option.bind_some, Option.bind_none, Option.toList_some, Option.toList_none, List.cons_append, List.nil_append, ni_lit, ni_of, ni_add, ni_mul, ni_sub, ni_div, ni_lt, ni_le, ni_eq, ng_lt, ng_le, ng_lt', ng_le', ng_eq, ng_eq', ng_ng, Int32.neg_neg, ix_ni, if_pos, if_neg, reduceIte, e_143_5]
    rfl
  · rw [st (by omega), if_neg (by omega), e_143_82 hs]
    by_cases q : mn (sD s 1 a) (sD s 1 b) < mx (sD s 0 a) (sD s 0 b) + lwf (sD s) F 0
    · rw [if_pos q]
      simp (disch := first | assumption | omega | (simp only [Sh_pI, Sh_pL, Sh_pIs, Sh_pLs]; assumption)) only [↓ixb, Option.bind_some, Option.bind_none, Option.toList_some, Option.toList_none, List.cons_append, List.nil_append, ni_lit, ni_of, ni_add, ni_mul, ni_sub, ni_div, ni_lt, ni_le, ni_eq, ng_lt, ng_le, ng_lt', ng_le', ng_eq, ng_eq', ng_ng, Int32.neg_neg, ix_ni, if_pos, if_neg, reduceIte]; rfl
    · rw [if_neg q, if_pos e]
      simp (disch := first | assumption | omega | (simp only [Sh_pI, Sh_pL, Sh_pIs, Sh_pLs]; assumption)) only [↓ixb, Option.bind_some, Option.bind_none, Option.toList_some, Option.toList_none, List.cons_append, List.nil_append, ni_lit, ni_of, ni_add, ni_mul, ni_sub, ni_div, ni_lt, ni_le, ni_eq, ng_lt, ng_le, ng_lt', ng_le', ng_eq, ng_eq', ng_ng, Int32.neg_neg, ix_ni, if_pos, if_neg, reduceIte, D142 hs V c hF hbF, e, e_143_94]; rfl
  · rw [st (by omega), if_neg (by omega), L143 hs V c hF hbF e ha hb (by omega) _ _ rfl (by omega)]
    by_cases q : mn (sD s 1 a) (sD s 1 b) < mx (sD s 0 a) (sD s 0 b) + lwf (sD s) F 0
    · rw [if_pos q, show mn (sD s 1 a) (sD s 1 b) + 1 - (mx (sD s 0 a) (sD s 0 b) + lwf (sD s) F 0) = 0 by omega]; rfl
    · rw [if_neg q, if_neg (by omega)]
end HEAR
