/-! the model's flow -/
/-- the model's net: from in to out of a man as much as he lets through, from 48 to those who begin, from out of one to in of the next -/
def cNt (B : Nat → Bool) (A : Nat → Nat → Bool) (cap : Nat → Nat) (a b : Nat) : Nat := if a < 48 ∧ a % 2 = 0 then (if b = a + 1 then cap (a / 2) else 0) else if a < 48 then (if b % 2 = 0 ∧ b < 48 ∧ A (a / 2) (b / 2) = true then 99 else 0) else if a = 48 ∧ b % 2 = 0 ∧ b < 48 ∧ B (b / 2) = true then 99 else 0
theorem cNt_le {B : Nat → Bool} {A : Nat → Nat → Bool} {cap : Nat → Nat} (hc : ∀ m, cap m ≤ 99) (a b : Nat) : cNt B A cap a b ≤ 99 := by
  unfold cNt
  have := hc (a / 2)
  split
  · split <;> omega
  · split
    · split <;> omega
    · split <;> omega
def ixm (a b : Nat) : Nat := if a < 48 then a / 2 else b / 2
def cNp (B : Nat → Bool) (A : Nat → Nat → Bool) (cap : Nat → Nat) (m a b : Nat) : Nat := if ixm a b < m then cNt B A cap a b else 0
/-- what one round of the outer loop writes -/
def cNs (B : Nat → Bool) (A : Nat → Nat → Bool) (cap : Nat → Nat) (m : Nat) (V : Nat → Nat → Nat) (a b : Nat) : Nat := if a = 2 * m + 1 ∧ b % 2 = 0 ∧ 0 ≤ b / 2 ∧ b / 2 < 24 ∧ A m (b / 2) = true then 99 else if B m = true ∧ a = 48 ∧ b = 2 * m then 99 else if a = 2 * m ∧ b = 2 * m + 1 then cap m else V a b
theorem cNs_e {B : Nat → Bool} {A : Nat → Nat → Bool} {cap : Nat → Nat} {m a b : Nat} (hm : m < 24) (ha : a < 49) (hb : b < 49) : cNs B A cap m (cNp B A cap m) a b = cNp B A cap (m + 1) a b := by
  unfold cNs cNp ixm
  by_cases h1 : a < 48
  · rw [if_pos h1]
    by_cases h2 : a / 2 = m
    · rw [if_neg (show ¬ a / 2 < m by omega), if_pos (show a / 2 < m + 1 by omega)]
      unfold cNt
      by_cases h3 : a % 2 = 0
      · rw [if_neg (show ¬ (a = 2 * m + 1 ∧ _) from fun z => by omega), if_neg (show ¬ (B m = true ∧ a = 48 ∧ b = 2 * m) from fun z => by omega), if_pos (show a < 48 ∧ a % 2 = 0 from ⟨h1, h3⟩), h2]
        by_cases h4 : b = a + 1
        · rw [if_pos (show a = 2 * m ∧ b = 2 * m + 1 by omega), if_pos h4]
        · rw [if_neg (show ¬ (a = 2 * m ∧ b = 2 * m + 1) by omega), if_neg h4]
      · rw [if_neg (show ¬ (a < 48 ∧ a % 2 = 0) from fun z => h3 z.2), if_pos h1, h2]
        by_cases h4 : b % 2 = 0 ∧ b < 48 ∧ A m (b / 2) = true
        · rw [if_pos h4, if_pos ⟨by omega, h4.1, Nat.zero_le _, by omega, h4.2.2⟩]
        · rw [if_neg h4, if_neg (fun z => h4 ⟨z.2.1, by omega, z.2.2.2.2⟩), if_neg (show ¬ (B m = true ∧ a = 48 ∧ b = 2 * m) from fun z => by omega), if_neg (by omega)]
    · rw [if_neg (show ¬ (a = 2 * m + 1 ∧ _) from fun z => by omega), if_neg (show ¬ (B m = true ∧ a = 48 ∧ b = 2 * m) from fun z => by omega), if_neg (show ¬ (a = 2 * m ∧ b = 2 * m + 1) by omega)]
      by_cases h3 : a / 2 < m
      · rw [if_pos h3, if_pos (show a / 2 < m + 1 by omega)]
      · rw [if_neg h3, if_neg (show ¬ a / 2 < m + 1 by omega)]
  · have h48 : a = 48 := by omega
    rw [if_neg h1, if_neg (show ¬ (a = 2 * m + 1 ∧ _) from fun z => by omega)]
    by_cases h2 : b / 2 = m
    · rw [if_neg (show ¬ b / 2 < m by omega), if_pos (show b / 2 < m + 1 by omega)]
      unfold cNt
      rw [if_neg (show ¬ (a < 48 ∧ a % 2 = 0) from fun z => h1 z.1), if_neg h1, h2]
      by_cases h3 : B m = true ∧ b = 2 * m
      · rw [if_pos ⟨h3.1, h48, h3.2⟩, if_pos ⟨h48, by omega, by omega, h3.1⟩]
      · rw [if_neg (fun z => h3 ⟨z.1, z.2.2⟩), if_neg (show ¬ (a = 2 * m ∧ b = 2 * m + 1) by omega), if_neg (fun z => h3 ⟨z.2.2.2, by omega⟩)]
    · rw [if_neg (show ¬ (B m = true ∧ a = 48 ∧ b = 2 * m) from fun z => by omega), if_neg (show ¬ (a = 2 * m ∧ b = 2 * m + 1) by omega)]
      by_cases h3 : b / 2 < m
      · rw [if_pos h3, if_pos (show b / 2 < m + 1 by omega)]
      · rw [if_neg h3, if_neg (show ¬ b / 2 < m + 1 by omega)]
section FLM
def scR (a _k : Nat) : Prop := a = 294
def V9 (h : am_H) (V : Nat → Nat → Nat) : Prop := ∀ a b, a < 49 → b < 49 → hI h 294 (49 * a + b) = ni (V a b)
theorem V9_p {h : am_H} {V : Nat → Nat → Nat} {u v x : Nat} (hv : v < 49) (c : V9 h V) : V9 (pI h 294 (49 * u + v) (ni x)) (fun a b => if a = u ∧ b = v then x else V a b) := fun a b ha hb => by
  rw [hI_pI]
  by_cases y : a = u ∧ b = v
  · rw [if_pos ⟨rfl, by rw [y.1, y.2]⟩]
    show _ = ni (if a = u ∧ b = v then x else V a b)
    rw [if_pos y]
  · rw [if_neg (by omega)]
    show _ = ni (if a = u ∧ b = v then x else V a b)
    rw [if_neg y]
    exact c a b ha hb
theorem V9_c {h : am_H} {V W : Nat → Nat → Nat} (e : ∀ a b, a < 49 → b < 49 → V a b = W a b) (c : V9 h V) : V9 h W := fun a b ha hb => by rw [← e a b ha hb]; exact c a b ha hb
theorem L189i {A : Nat → Bool} {m : Nat} (hm : m < 24) {x1 : Int32} : ∀ n {h : am_H} k {V : Nat → Nat → Nat}, k + n = 24 → Sh h → hI h 297 m = sb A 24 → V9 h V → ∃ h1, am_E 189 (79, [some (vr (some 261)), some (vi x1), some (vi (ni m)), some (vi (ni k))], [], h) = am_E 189 (24, [some (vr (some 261)), some (vi x1), some (vi (ni (m + 1))), some (vi (ni 24))], [], h1) ∧ Kg scR h h1 ∧ V9 h1 (fun a b => if a = 2 * m + 1 ∧ b % 2 = 0 ∧ k ≤ b / 2 ∧ b / 2 < 24 ∧ A (b / 2) = true then 99 else V a b) := by
  intro n
  induction n with
  | zero =>
    intro h k V hk hs hA c
    have e : k = 24 := by omega
    subst e
    refine ⟨h, ?_, Kg_refl h, V9_c (fun a b ha hb => ?_) c⟩
    · rw [e_189_79 hs, if_pos (show (24 : Int32) ≤ ni 24 by decide), ni_add1]
    · rw [if_neg (by omega)]
  | succ n ih =>
    intro h k V hk hs hA c
    have b0 := e_189_79 (x1 := x1) (x2 := ni m) (x3 := ni k) hs
    rw [if_neg (show ¬ (24 : Int32) ≤ ni k by rw [show (24 : Int32) = ni 24 from rfl, ni_le (by omega) (by omega)]; omega), ixb _ hm (by omega), hA, bt_up (by omega) (by omega), decide_eq_true (show k < 24 by omega), Bool.true_and] at b0
    have nx : ∀ h2 : am_H, Sh h2 → am_E 189 (118, [some (vr (some 261)), some (vi x1), some (vi (ni m)), some (vi (ni k))], [], h2) = am_E 189 (79, [some (vr (some 261)), some (vi x1), some (vi (ni m)), some (vi (ni (k + 1)))], [], h2) := fun h2 hs2 => by rw [e_189_118 hs2, ni_add1]
    cases ak : A k
    · rw [ak, if_neg (show ¬ bi false = 1 by decide)] at b0
      obtain ⟨h1, d, k1, g⟩ := ih (k + 1) (by omega) hs hA c
      refine ⟨h1, ?_, k1, V9_c (fun a b ha hb => ?_) g⟩
      · rw [b0, nx h hs]; exact d
      · by_cases y : a = 2 * m + 1 ∧ b % 2 = 0 ∧ k + 1 ≤ b / 2 ∧ b / 2 < 24 ∧ A (b / 2) = true
        · rw [if_pos y, if_pos ⟨y.1, y.2.1, by omega, y.2.2.2.1, y.2.2.2.2⟩]
        · rw [if_neg y, if_neg (fun z => by
            by_cases w : b / 2 = k
            · rw [w, ak] at z; exact absurd z.2.2.2.2 (by decide)
            · exact y ⟨z.1, z.2.1, by omega, z.2.2.2.1, z.2.2.2.2⟩)]
    · rw [ak, if_pos (show bi true = 1 from rfl), show (49 : Int32) * (2 * ni m + 1) + 2 * ni k = ni (49 * (2 * m + 1) + 2 * k) by rw [show (49 : Int32) = ni 49 from rfl, show (2 : Int32) = ni 2 from rfl, ni_mul, ni_mul, ni_add1, ni_mul, ni_add], ixb _ (show 49 * (2 * m + 1) + 2 * k < 2450 by omega) (by omega)] at b0
      have hs1 : Sh (pI h 294 (49 * (2 * m + 1) + 2 * k) (ni 99)) := hs
      obtain ⟨h1, d, k1, g⟩ := ih (h := pI h 294 (49 * (2 * m + 1) + 2 * k) (ni 99)) (k + 1) (by omega) hs1 (by rw [hI_pI, if_neg (by omega)]; exact hA) (V9_p (by omega) c)
      refine ⟨h1, ?_, Kg_trans (Kg_pI rfl (Kg_refl h)) k1, V9_c (fun a b ha hb => ?_) g⟩
      · rw [b0]; exact (nx _ hs1).trans d
      · by_cases y : a = 2 * m + 1 ∧ b % 2 = 0 ∧ k + 1 ≤ b / 2 ∧ b / 2 < 24 ∧ A (b / 2) = true
        · rw [if_pos y, if_pos ⟨y.1, y.2.1, by omega, y.2.2.2.1, y.2.2.2.2⟩]
        · rw [if_neg y]
          by_cases w : a = 2 * m + 1 ∧ b = 2 * k
          · rw [if_pos w, if_pos ⟨w.1, by omega, by omega, by omega, by rw [show b / 2 = k by omega]; exact ak⟩]
          · rw [if_neg w, if_neg (fun z => by
              by_cases w2 : b / 2 = k
              · exact w ⟨z.1, by omega⟩
              · exact y ⟨z.1, z.2.1, by omega, z.2.2.2.1, z.2.2.2.2⟩)]
theorem L189o {B : Nat → Bool} {A : Nat → Nat → Bool} {cap : Nat → Nat} {x1 : Int32} : ∀ n {h : am_H} m (o3 : Option am_V), m + n = 24 → Sh h → (∀ x, x < 24 → hI h 295 x = ni (cap x) ∧ hI h 296 x = bi (B x) ∧ hI h 297 x = sb (A x) 24) → V9 h (cNp B A cap m) → ∃ h1 o3', am_E 189 (24, [some (vr (some 261)), some (vi x1), some (vi (ni m)), o3], [], h) = am_E 189 (132, [some (vr (some 261)), some (vi x1), some (vi 0), o3'], [], h1) ∧ Kg scR h h1 ∧ V9 h1 (cNt B A cap) := by
  intro n
  induction n with
  | zero =>
    intro h m o3 hm hs g c
    have e : m = 24 := by omega
    subst e
    refine ⟨h, o3, ?_, Kg_refl h, V9_c (fun a b ha hb => ?_) c⟩
    · rw [e_189_24 hs, if_pos (show (24 : Int32) ≤ ni 24 by decide)]
    · unfold cNp ixm
      by_cases y : a < 48
      · rw [if_pos y, if_pos (by omega)]
      · rw [if_neg y]
        by_cases w : b / 2 < 24
        · rw [if_pos w]
        · rw [if_neg w]
          unfold cNt
          rw [if_neg (fun z => y z.1), if_neg y, if_neg (by omega)]
  | succ n ih =>
    intro h m o3 hm hs g c
    have m24 : m < 24 := by omega
    obtain ⟨g1, g2, g3⟩ := g m m24
    have i1 : (49 : Int32) * (2 * ni m) + 2 * ni m + 1 = ni (49 * (2 * m) + (2 * m + 1)) := by rw [show (49 : Int32) = ni 49 from rfl, show (2 : Int32) = ni 2 from rfl, ni_mul, ni_mul, ni_add, ni_add1]; rfl
    have i2 : (2352 : Int32) + 2 * ni m = ni (49 * 48 + 2 * m) := by rw [show (2352 : Int32) = ni 2352 from rfl, show (2 : Int32) = ni 2 from rfl, ni_mul, ni_add]
    have b0 := e_189_24 (x1 := x1) (x2 := ni m) (o3 := o3) hs
    have e296 : hI (pI h 294 (49 * (2 * m) + (2 * m + 1)) (ni (cap m))) 296 m = bi (B m) := by rw [hI_pI, if_neg (by omega)]; exact g2
    rw [if_neg (show ¬ (24 : Int32) ≤ ni m by rw [show (24 : Int32) = ni 24 from rfl, ni_le (by omega) (by omega)]; omega), ixb _ m24 (by omega), i1, ixb _ (show 49 * (2 * m) + (2 * m + 1) < 2450 by omega) (by omega), ixb _ m24 (by omega), g1, e296] at b0
    have cp1 := V9_p (u := 2 * m) (v := 2 * m + 1) (x := cap m) (by omega) c
    have k1 : Kg scR h (pI h 294 (49 * (2 * m) + (2 * m + 1)) (ni (cap m))) := Kg_pI rfl (Kg_refl h)
    have fin : ∀ (h2 : am_H), Kg scR h h2 → V9 h2 (fun a b => if B m = true ∧ a = 48 ∧ b = 2 * m then 99 else if a = 2 * m ∧ b = 2 * m + 1 then cap m else cNp B A cap m a b) → am_E 189 (24, [some (vr (some 261)), some (vi x1), some (vi (ni m)), o3], [], h) = am_E 189 (77, [some (vr (some 261)), some (vi x1), some (vi (ni m)), o3], [], h2) → ∃ h1 o3', am_E 189 (24, [some (vr (some 261)), some (vi x1), some (vi (ni m)), o3], [], h) = am_E 189 (132, [some (vr (some 261)), some (vi x1), some (vi 0), o3'], [], h1) ∧ Kg scR h h1 ∧ V9 h1 (cNt B A cap) := fun h2 k2 c2 e2 => by
      have hs2 := Kg_Sh k2 hs
      have q : ∀ a j, a ≠ 294 → hI h2 a j = hI h a j := fun a j ne => k2.2.2.2.2.1 a j ne
      obtain ⟨h3, d3, k3, g3'⟩ := L189i (A := A m) m24 24 (x1 := x1) (h := h2) 0 (by omega) hs2 (by rw [q _ _ (by omega)]; exact g3) c2
      have k23 := Kg_trans k2 k3
      obtain ⟨h4, o3', d4, k4, g4⟩ := ih (h := h3) (m + 1) (some (vi (ni 24))) (by omega) (Kg_Sh k23 hs) (fun x hx => by
        rw [k23.2.2.2.2.1 295 _ (by unfold scR; omega), k23.2.2.2.2.1 296 _ (by unfold scR; omega), k23.2.2.2.2.1 297 _ (by unfold scR; omega)]; exact g x hx) (V9_c (fun a b ha hb => cNs_e m24 ha hb) g3')
      refine ⟨h4, o3', ?_, Kg_trans k23 k4, g4⟩
      rw [e2, e_189_77 hs2]
      exact d3.trans d4
    cases hB : B m
    · rw [hB, if_neg (show ¬ bi false = 1 by decide)] at b0
      exact fin _ k1 (V9_c (fun a b ha hb => by rw [if_neg (show ¬ (B m = true ∧ a = 48 ∧ b = 2 * m) from fun z => by rw [hB] at z; exact absurd z.1 (by decide))]) cp1) b0
    · rw [hB, if_pos (show bi true = 1 from rfl), i2, ixb _ (show 49 * 48 + 2 * m < 2450 by omega) (by omega)] at b0
      exact fin _ (Kg_pI rfl k1) (V9_c (fun a b ha hb => by
        by_cases y : a = 48 ∧ b = 2 * m
        · rw [if_pos y, if_pos ⟨hB, y.1, y.2⟩]
        · rw [if_neg y, if_neg (show ¬ (B m = true ∧ a = 48 ∧ b = 2 * m) from fun z => y z.2)]) (V9_p (u := 48) (v := 2 * m) (x := 99) (by omega) cp1)) b0
/-- the most ways -/
def Mxf (c : Nat → Nat → Nat) (t f : Nat) : Prop := ∃ p, ∃ S : Nat → Bool, Rsd c p t f ∧ Cut t S ∧ ∀ a b, a < 49 → b < 49 → S a = true → S b = false → p a b = 0
theorem Mxf_u {c : Nat → Nat → Nat} {t f f' : Nat} (a : Mxf c t f) (b : Mxf c t f') : f = f' := by
  obtain ⟨p, S, r, u, z⟩ := a
  obtain ⟨p', S', r', u', z'⟩ := b
  exact Rsd_two r r' u u' z z'
theorem Mxf_le {c p : Nat → Nat → Nat} {t f k : Nat} (a : Mxf c t f) (b : Rsd c p t k) : k ≤ f := by
  obtain ⟨p', S, r, u, z⟩ := a
  have e := Rsd_eq r u z
  have l := Rsd_le b u
  omega
theorem L189f {c : Nat → Nat → Nat} {T L : Nat} (hT : T < 24) (hc : ∀ a b, c a b ≤ 99) (hL : L < 1000) : ∀ m {h : am_H} k {p : Nat → Nat → Nat} (o3 : Option am_V), k + m = L → Sh h → hI h 261 50 = ni T → V9 h p → Rsd c p (2 * T) k → ∃ h1 k1, am_E 189 (132, [some (vr (some 261)), some (vi (ni L)), some (vi (ni k)), o3], [], h) = some (some (vi (ni k1)), h1) ∧ Kg scQ h h1 ∧ k1 ≤ L ∧ (Mxf c (2 * T) k1 ∨ (k1 = L ∧ ∃ p1, Rsd c p1 (2 * T) L)) := by
  intro m
  induction m with
  | zero =>
    intro h k p o3 hk hs h50 v r
    have e : k = L := by omega
    subst e
    refine ⟨h, k, ?_, Kg_refl h, Nat.le_refl _, Or.inr ⟨rfl, p, r⟩⟩
    rw [e_189_132 hs, if_pos (show ni k ≤ ni k by rw [ni_le (by omega) (by omega)]; omega)]
  | succ m ih =>
    intro h k p o3 hk hs h50 v r
    have b0 := e_189_132 (x1 := ni L) (x2 := ni k) (o3 := o3) hs
    rw [if_neg (show ¬ ni L ≤ ni k by rw [ni_le (by omega) (by omega)]; omega)] at b0
    have r9 : RM9 h p := fun a b ha hb => ⟨v a b ha hb, by have := r.2 a b; have := hc a b; have := hc b a; omega⟩
    rcases D188 hs hT h50 r9 with ⟨h1, S, d, k1, _, cu, z⟩ | ⟨h1, n, l, par, rk, sn, d, k1, s, st, g⟩
    · refine ⟨h1, k, ?_, k1, by omega, Or.inl ⟨p, S, r, cu, z⟩⟩
      rw [b0, d]
      simp only [Option.bind_some, Option.toList_some, List.cons_append, List.nil_append]
      rw [e_189_141 (Kg_Sh k1 hs), if_pos rfl]
    · have sx := s.sx _ st
      obtain ⟨h2, k2, d2, kk, l2, f⟩ := ih (h := h1) (k + 1) (p := trc par n p (2 * T)) o3 (by omega) (Kg_Sh k1 hs) (by rw [k1.2.2.2.2.1 261 50 (by unfold scQ; omega)]; exact h50) g (Rsd_s r s.tr st sx.2.1)
      refine ⟨h2, k2, ?_, Kg_trans k1 kk, l2, f⟩
      rw [b0, d]
      simp only [Option.bind_some, Option.toList_some, List.cons_append, List.nil_append]
      rw [e_189_141 (Kg_Sh k1 hs), if_neg (show ¬ (1 : Int32) = 0 by decide), ni_add1]
      exact d2
theorem L189a : ∀ m {h : am_H} i {x1 : Int32} {o3 : Option am_V}, i + m = 2450 → Sh h → (∀ x, x < i → hI h 294 x = 0) → ∃ h1, am_E 189 (2, [some (vr (some 261)), some (vi x1), some (vi (ni i)), o3], [], h) = am_E 189 (24, [some (vr (some 261)), some (vi x1), some (vi 0), o3], [], h1) ∧ Kg scR h h1 ∧ ∀ x, x < 2450 → hI h1 294 x = 0 := by
  intro m
  induction m with
  | zero =>
    intro h i x1 o3 hi hs g
    refine ⟨h, ?_, Kg_refl h, fun x hx => g x (by omega)⟩
    rw [e_189_2 hs, if_pos (show (2450 : Int32) ≤ ni i by rw [show (2450 : Int32) = ni 2450 from rfl, ni_le (by omega) (by omega)]; omega)]
  | succ m ih =>
    intro h i x1 o3 hi hs g
    obtain ⟨h1, d, k, g1⟩ := ih (h := pI h 294 i 0) (i + 1) (x1 := x1) (o3 := o3) (by omega) hs (fun x hx => by
      rw [hI_pI]
      by_cases y : x = i
      · rw [if_pos ⟨rfl, y⟩]
      · rw [if_neg (fun z => y z.2)]; exact g x (by omega))
    refine ⟨h1, ?_, Kg_trans (Kg_pI rfl (Kg_refl h)) k, g1⟩
    rw [e_189_2 hs, if_neg (show ¬ (2450 : Int32) ≤ ni i by rw [show (2450 : Int32) = ni 2450 from rfl, ni_le (by omega) (by omega)]; omega), ixb _ (show i < 2450 by omega) (by omega), ni_add1]
    exact d
theorem D189 {h : am_H} (hs : Sh h) {B : Nat → Bool} {A : Nat → Nat → Bool} {cap : Nat → Nat} {T L : Nat} (hT : T < 24) (hcap : ∀ m, cap m ≤ 99) (hL : L < 1000) (h50 : hI h 261 50 = ni T) (g : ∀ x, x < 24 → hI h 295 x = ni (cap x) ∧ hI h 296 x = bi (B x) ∧ hI h 297 x = sb (A x) 24) : ∃ h1 k1, am_D 189 [vr (some 261), vi (ni L)] h = some (some (vi (ni k1)), h1) ∧ Kg scQ h h1 ∧ k1 ≤ L ∧ (Mxf (cNt B A cap) (2 * T) k1 ∨ (k1 = L ∧ ∃ p1, Rsd (cNt B A cap) p1 (2 * T) L)) := by
  obtain ⟨h1, d1, k1, g1⟩ := L189a 2450 (h := h) 0 (x1 := ni L) (o3 := none) (by omega) hs (fun x hx => by omega)
  have hs1 := Kg_Sh k1 hs
  have q1 : ∀ a j, a ≠ 294 → hI h1 a j = hI h a j := fun a j ne => k1.2.2.2.2.1 a j ne
  obtain ⟨h2, o3', d2, k2, v2⟩ := L189o (B := B) (A := A) (cap := cap) (x1 := ni L) 24 (h := h1) 0 none (by omega) hs1 (fun x hx => by rw [q1 _ _ (by omega), q1 _ _ (by omega), q1 _ _ (by omega)]; exact g x hx) (fun a b ha hb => by
    rw [g1 _ (by omega)]
    unfold cNp
    rw [if_neg (by omega)]; rfl)
  have k12 : Kg scR h h2 := Kg_trans k1 k2
  have hs2 := Kg_Sh k12 hs
  obtain ⟨h3, f, d3, k3, l3, m3⟩ := L189f hT (cNt_le hcap) hL L (h := h2) 0 o3' (by omega) hs2 (by rw [k12.2.2.2.2.1 261 50 (by unfold scR; omega)]; exact h50) v2 (Rsd_0 _ _)
  refine ⟨h3, f, ?_, Kg_trans (Kg_mono (fun a k z => Or.inl z) k12) k3, l3, m3⟩
  rw [d_189 hs]
  exact d1.trans (d2.trans d3)
end FLM
