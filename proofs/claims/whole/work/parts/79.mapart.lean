/-! how many ways apart: the model's half -/
section APM
variable {s : Sg} {t : Nat}
theorem bgn_T (V : Vs s) (ht : t < sS s) : ∀ n, n ≤ sD s 10 t → bgn s t n (lst (sD s) (8 * t)) = false
  | 0, _ => rfl
  | n + 1, hn => by
    have v := vq V ht (show n < sD s 10 t by omega)
    have z2 : 2 ≤ sD s 12 (8 * t + n) := v.2.1
    rw [bgn_s, bgn_T V ht n (by omega), Bool.false_or]
    cases y : inN s t n
    · rfl
    · rw [Bool.true_and]
      refine beq_eq_false_iff_ne.mpr fun z => ?_
      have e : lst (sD s) (8 * t + n) = lst (sD s) (8 * t) := by
        unfold inN at y
        rw [Bool.and_eq_true, Bool.and_eq_true] at y
        exact beq_iff_eq.mp y.2.2
      rw [← e] at z
      exact v.2.2.2.2.2.1 0 (sD s 12 (8 * t + n) - 1) (by omega) (by omega) z
/-- all in-doors but one, and 48 -/
def inS (T : Nat) (x : Nat) : Bool := x == 48 || (x % 2 == 0 && !(x == 2 * T))
theorem su_k : su (fun u => if u < 48 ∧ u % 2 = 0 then 1 else 0) 49 = 24 := by decide
theorem cut_24 {B : Nat → Bool} {A : Nat → Nat → Bool} {T : Nat} (hT : T < 24) (hB : B T = false) : cs (cNt B A (fun _ => 1)) (inS T) ≤ 24 := by
  rw [← su_k]
  refine su_le fun u hu => ?_
  by_cases h1 : u < 48 ∧ u % 2 = 0
  · rw [if_pos h1]
    have e : su (fun v => if inS T u = true ∧ inS T v = false then (cNt B A (fun _ => 1) u v : Int) else 0) 49 ≤ su (fun v => if v = u + 1 then 1 else 0) 49 := su_le fun v hv => by
      unfold cNt
      rw [if_pos h1]
      split <;> split <;> simp
    rw [su_1] at e
    by_cases w : u + 1 < 49
    · rw [if_pos w] at e; exact e
    · omega
  · rw [if_neg h1]
    have e : su (fun v => if inS T u = true ∧ inS T v = false then (cNt B A (fun _ => 1) u v : Int) else 0) 49 ≤ su (fun _ => 0) 49 := su_le fun v hv => by
      by_cases y : inS T u = true ∧ inS T v = false
      · rw [if_pos y]
        obtain ⟨y1, y2⟩ := y
        unfold inS at y1 y2
        have u48 : u = 48 := by
          by_cases z : u = 48
          · exact z
          · rw [beq_eq_false_iff_ne.mpr z, Bool.false_or, Bool.and_eq_true] at y1
            have := beq_iff_eq.mp y1.1
            omega
        unfold cNt
        rw [if_neg h1, if_neg (by omega)]
        by_cases z : u = 48 ∧ v % 2 = 0 ∧ v < 48 ∧ B (v / 2) = true
        · obtain ⟨_, z1, z2, z3⟩ := z
          rw [beq_eq_false_iff_ne.mpr (show v ≠ 48 by omega), Bool.false_or, beq_iff_eq.mpr z1, Bool.true_and] at y2
          have vt : v = 2 * T := by
            by_cases x : v = 2 * T
            · exact x
            · rw [beq_eq_false_iff_ne.mpr x] at y2; cases y2
          rw [vt, show 2 * T / 2 = T by omega, hB] at z3
          cases z3
        · rw [if_neg z]; decide
      · rw [if_neg y]; decide
    rw [su_0] at e
    exact e
theorem Cut_in {T : Nat} (hT : T < 24) : Cut (2 * T) (inS T) := by
  refine ⟨rfl, ?_⟩
  unfold inS
  rw [beq_self_eq_true, beq_eq_false_iff_ne.mpr (show 2 * T ≠ 48 by omega)]
  simp
def nB (s : Sg) (t : Nat) : Nat → Bool := bgn s t (sD s 10 t)
def nA (s : Sg) (t : Nat) : Nat → Nat → Bool := nxt s t (sD s 10 t)
def nT (s : Sg) (t : Nat) : Nat := lst (sD s) (8 * t)
theorem nT_24 (V : Vs s) (ht : t < sS s) : nT s t < 24 := by
  have hM := vM V
  have := vlst V ht (vN1 V ht)
  have e : nT s t = lst (sD s) (8 * t + 0) := rfl
  omega
theorem L187 : ∀ m {h : am_H} i, i + m = 24 → Sh h → (∀ x, x < i → hI h 295 x = ni 1) → ∃ h1, am_E 187 (2, [some (vr (some 261)), some (vi (ni i))], [], h) = some (none, h1) ∧ Kg (fun a _ => a = 295) h h1 ∧ ∀ x, x < 24 → hI h1 295 x = ni 1 := by
  intro m
  induction m with
  | zero =>
    intro h i hi hs g
    refine ⟨h, ?_, Kg_refl h, fun x hx => g x (by omega)⟩
    rw [e_187_2 hs, if_pos (show (24 : Int32) ≤ ni i by rw [show (24 : Int32) = ni 24 from rfl, ni_le (by omega) (by omega)]; omega)]
  | succ m ih =>
    intro h i hi hs g
    obtain ⟨h1, d, k, g1⟩ := ih (h := pI h 295 i 1) (i + 1) (by omega) hs (fun x hx => by
      rw [hI_pI]
      by_cases y : x = i
      · rw [if_pos ⟨rfl, y⟩]; rfl
      · rw [if_neg (fun z => y z.2)]; exact g x (by omega))
    refine ⟨h1, ?_, Kg_trans (Kg_pI rfl (Kg_refl h)) k, g1⟩
    rw [e_187_2 hs, if_neg (show ¬ (24 : Int32) ≤ ni i by rw [show (24 : Int32) = ni 24 from rfl, ni_le (by omega) (by omega)]; omega), ixb _ (show i < 24 by omega) (by omega), ni_add1]
    exact d
theorem D187 {h : am_H} (hs : Sh h) : ∃ h1, am_D 187 [vr (some 261)] h = some (none, h1) ∧ Kg (fun a _ => a = 295) h h1 ∧ ∀ x, x < 24 → hI h1 295 x = ni 1 := by
  obtain ⟨h1, d, k, g⟩ := L187 24 (h := h) 0 (by omega) hs (fun x hx => by omega)
  exact ⟨h1, (d_187 hs).trans d, k, g⟩
def scS (a k : Nat) : Prop := (a = 261 ∧ 50 ≤ k ∧ k ≤ 51) ∨ (294 ≤ a ∧ a ≤ 299)
theorem D190 {h : am_H} (V : Vs s) (ht : t < sS s) (hs : Sh h) (c : MS h s) (hb : hI h 261 43 = fI (sD s 22 3)) : ∃ h1 f, am_D 190 [vr (some 261), vi (ni t)] h = some (some (vi (ni f)), h1) ∧ Kg scS h h1 ∧ Mxf (cNt (nB s t) (nA s t) (fun _ => 1)) (2 * nT s t) f ∧ f ≤ 24 ∧ NO h1 s t (sD s 10 t) := by
  have hT := nT_24 V ht
  obtain ⟨h1, d1, k1, n1⟩ := D186 V ht hs c hb
  have hs1 := Kg_Sh k1 hs
  obtain ⟨h2, d2, k2, g2⟩ := D187 hs1
  have hs2 := Kg_Sh k2 hs1
  have q2 : ∀ a j, a ≠ 295 → hI h2 a j = hI h1 a j := fun a j ne => k2.2.2.2.2.1 a j ne
  obtain ⟨h3, f, d3, k3, l3, m3⟩ := D189 (B := nB s t) (A := nA s t) (cap := fun _ => 1) (T := nT s t) (L := 30) hs2 hT (fun _ => by omega) (by omega) (by rw [q2 _ _ (by omega)]; exact n1.1) (fun x hx => ⟨g2 x hx, by rw [q2 _ _ (by omega)]; exact (n1.2.2 x hx).1, by rw [q2 _ _ (by omega)]; exact (n1.2.2 x hx).2⟩)
  have c24 := cut_24 (A := nA s t) hT (bgn_T V ht (sD s 10 t) (Nat.le_refl _))
  have q3 : ∀ a j, ¬ scQ a j → hI h3 a j = hI h2 a j := fun a j ne => k3.2.2.2.2.1 a j ne
  have kk : Kg scS h h3 := Kg_trans (Kg_mono (fun a k z => by unfold scO at z; unfold scS; omega) k1) (Kg_trans (Kg_mono (fun a k z => by unfold scS; omega) k2) (Kg_mono (fun a k z => by unfold scQ at z; unfold scS; omega) k3))
  have e : Mxf (cNt (nB s t) (nA s t) (fun _ => 1)) (2 * nT s t) f ∧ f ≤ 24 := by
    rcases m3 with m3 | ⟨e, p1, r1⟩
    · refine ⟨m3, ?_⟩
      obtain ⟨p, S, r, u, z⟩ := m3
      have := Rsd_le r (Cut_in hT)
      have c24' : cs (cNt (nB s t) (nA s t) (fun _ => 1)) (inS (nT s t)) ≤ 24 := c24
      omega
    · have := Rsd_le r1 (Cut_in hT)
      have c24' : cs (cNt (nB s t) (nA s t) (fun _ => 1)) (inS (nT s t)) ≤ 24 := c24
      omega
  refine ⟨h3, f, ?_, kk, e.1, e.2, ?_, ?_, fun x hx => ⟨?_, ?_⟩⟩
  · rw [d_190 hs, d1]
    simp only [Option.bind_some, Option.toList_none, List.nil_append]
    rw [e_190_5 hs1, d2]
    simp only [Option.bind_some, Option.toList_none, List.nil_append]
    rw [e_190_9 hs2, show (30 : Int32) = ni 30 from rfl, d3]
    simp only [Option.bind_some, Option.toList_some, List.cons_append, List.nil_append]
    exact e_190_15 (Kg_Sh k3 hs2)
  · rw [q3 _ _ (by unfold scQ; omega), q2 _ _ (by omega)]; exact n1.1
  · rw [q3 _ _ (by unfold scQ; omega), q2 _ _ (by omega)]; exact n1.2.1
  · rw [q3 _ _ (by unfold scQ; omega), q2 _ _ (by omega)]; exact (n1.2.2 x hx).1
  · rw [q3 _ _ (by unfold scQ; omega), q2 _ _ (by omega)]; exact (n1.2.2 x hx).2
end APM
