/-! the class's flow -/
def bp (p : Nat → Nat → Nat) : Nat → Nat → Bool := fun a b => decide (1 ≤ p a b)
theorem RB_c {h : am_H} {a b : Nat → Nat → Bool} (e : ∀ u v, u < 49 → v < 49 → a u v = b u v) (r : RB h a) : RB h b := fun u hu k hk => by
  rw [r u hu k hk]
  by_cases z : k < 49
  · rw [e u k hu z]
  · rw [decide_eq_false z]; rfl
theorem trc_st {seen : Nat → Prop} {par rk : Nat → Nat} {p0 : Nat → Nat → Nat} (T : Tree seen par rk p0) : ∀ n p x, seen x → rk x ≤ n → trc par (n + 1) p x = trc par n p x
  | 0, p, x, hx, h => by
    by_cases z : x = 48
    · rw [trc_s, if_pos z]; rfl
    · obtain ⟨t1, t2, t3, t4, t5⟩ := T x hx z
      omega
  | n + 1, p, x, hx, h => by
    by_cases z : x = 48
    · exact (trc_s.trans (if_pos z)).trans (trc_s.trans (if_pos z)).symm
    · obtain ⟨t1, t2, t3, t4, t5⟩ := T x hx z
      exact (trc_s.trans (if_neg z)).trans ((trc_st T n (agN p (par x) x) (par x) t2 (by omega)).trans (trc_s.trans (if_neg z)).symm)
theorem L184 {B : Nat → Bool} {A : Nat → Nat → Bool} {T : Nat} (hT : T < 24) (hA : ∀ m, m < 24 → A m m = false) : ∀ m {h : am_H} k {p : Nat → Nat → Nat}, k + m = 24 → Sh h → hI h 254 0 = ni T → RB h (bp p) → Rsd (cC B A T) p T k → (∀ a b, p a b ≤ cC B A T a b + k) → ∃ h1 f, ∃ p1 : Nat → Nat → Nat, am_E 184 (6, [some (vr (some 254)), some (vi (ni k))], [], h) = some (some (vi (ni f)), h1) ∧ Kg (fun a _ => a = 256 ∨ a = 257) h h1 ∧ RB h1 (bp p1) ∧ Rsd (cC B A T) p1 T f ∧ (∀ a b, p1 a b ≤ cC B A T a b + f) ∧ f ≤ 24 ∧ (f = 24 ∨ ∃ S : Nat → Bool, Cut T S ∧ ∀ a b, a < 49 → b < 49 → S a = true → S b = false → p1 a b = 0) := by
  intro m
  induction m with
  | zero =>
    intro h k p hk hs h0 r s pk
    have e : k = 24 := by omega
    subst e
    refine ⟨h, 24, p, ?_, Kg_refl h, r, s, pk, Nat.le_refl _, Or.inl rfl⟩
    rw [e_184_6 hs, if_pos (show (24 : Int32) ≤ ni 24 by decide)]
  | succ m ih =>
    intro h k p hk hs h0 r s pk
    have b0 := e_184_6 (x1 := ni k) hs
    obtain ⟨h1, par, rk, sn, d1, k1, f1, f2, f3, f4, f5⟩ := D181 hT hs r h0
    have hs1 := Kg_Sh k1 hs
    have q1 : hI h1 254 0 = ni T := by rw [k1.2.2.2.2.1 254 0 (by omega)]; exact h0
    have r1 : RB h1 (bp p) := RB_fr (fun k => by omega) k1 r
    have kk1 : Kg (fun a _ => a = 256 ∨ a = 257) h h1 := Kg_mono (fun a k z => Or.inr z) k1
    rw [if_neg (show ¬ (24 : Int32) ≤ ni k by rw [show (24 : Int32) = ni 24 from rfl, ni_le (by omega) (by omega)]; omega), d1] at b0
    simp only [Option.bind_some, Option.toList_some, List.cons_append, List.nil_append] at b0
    rw [e_184_16 hs1] at b0
    cases sT : sn T
    · rw [sT, if_pos (show bi false = 0 from rfl)] at b0
      refine ⟨h1, k, p, b0, kk1, r1, s, pk, by omega, Or.inr ⟨sn, ⟨f5, sT⟩, fun a b ha hb sa sb => ?_⟩⟩
      by_cases z : 1 ≤ p a b
      · have := f3 a b hb sa (decide_eq_true z)
        rw [sb] at this; cases this
      · omega
    · have f2' : Tree (fun x => sn x = true) par rk p := fun x hx ne => by
        obtain ⟨t1, t2, t3, t4, t5⟩ := f2 x hx ne
        refine ⟨t1, t2, t3, t4, ?_⟩
        unfold adN at t5
        by_cases z : bp p (par x) x = true
        · exact of_decide_eq_true z
        · rw [if_neg z] at t5; omega
      have rT := (f1 T sT).2.2
      obtain ⟨h2, d2, k2, r2⟩ := D183 hT f2 sT rT hs1 r1 q1 f4
      have hs2 := Kg_Sh k2 hs1
      have r3 : RB h2 (bp (trc par 49 p T)) := RB_c (lnk f2' (R := rk T) (fun x hx ne hr => by
        obtain ⟨t1, t2, t3, t4, t5⟩ := f2' x hx ne
        exact okC s pk (by omega) hT hA t3 t1 ne t5) 49 p (bp p) T sT (Nat.le_refl _) (fun _ _ _ _ => rfl) (fun _ _ _ _ => rfl)) r2
      have s3 : Rsd (cC B A T) (trc par 49 p T) T (k + 1) := by
        have := Rsd_s s f2' (n := 50) sT (by omega)
        rw [trc_st f2' 49 p T sT rT] at this
        exact this
      have pk3 : ∀ a b, trc par 49 p T a b ≤ cC B A T a b + (k + 1) := fun a b => by
        have x1 := trc_b f2' a b 49 p T sT (fun _ _ _ _ => rfl)
        have x2 := pk a b
        split at x1 <;> omega
      obtain ⟨h3, f, p1, d3, k3, g1, g2, g3, g4, g5⟩ := ih (h := h2) (k + 1) (by omega) hs2 (by rw [k2.2.2.2.2.1 254 0 (by omega)]; exact q1) r3 s3 pk3
      refine ⟨h3, f, p1, ?_, Kg_trans kk1 (Kg_trans (Kg_mono (fun a k z => Or.inl z) k2) k3), g1, g2, g3, g4, g5⟩
      rw [sT, if_neg (show ¬ bi true = 0 by decide), d2] at b0
      simp only [Option.bind_some, Option.toList_none, List.nil_append] at b0
      rw [b0, e_184_23 hs2, ni_add1]
      exact d3
theorem D184 {h : am_H} {B : Nat → Bool} {A : Nat → Nat → Bool} {T : Nat} (hT : T < 24) (hA : ∀ m, m < 24 → A m m = false) (hs : Sh h) (h0 : hI h 254 0 = ni T) (h1 : hI h 254 1 = sb B 24) (h2 : ∀ x, x < 24 → hI h 255 x = sb (A x) 24) : ∃ h3 f, ∃ p1 : Nat → Nat → Nat, am_D 184 [vr (some 254)] h = some (some (vi (ni f)), h3) ∧ Kg (fun a _ => a = 256 ∨ a = 257) h h3 ∧ RB h3 (bp p1) ∧ Rsd (cC B A T) p1 T f ∧ (∀ a b, p1 a b ≤ cC B A T a b + f) ∧ f ≤ 24 ∧ (f = 24 ∨ ∃ S : Nat → Bool, Cut T S ∧ ∀ a b, a < 49 → b < 49 → S a = true → S b = false → p1 a b = 0) := by
  obtain ⟨h4, d1, k1, r1⟩ := D179 hT hs h0 h1 h2
  have hs4 := Kg_Sh k1 hs
  obtain ⟨h3, f, p1, d3, k3, g⟩ := L184 hT hA 24 (h := h4) 0 (p := cC B A T) (by omega) hs4 (by rw [k1.2.2.2.2.1 254 0 (by omega)]; exact h0) (RB_c (fun u v _ _ => ad0_c) r1) (Rsd_0 _ _) (fun a b => Nat.le_refl _)
  refine ⟨h3, f, p1, ?_, Kg_trans (Kg_mono (fun a k z => Or.inl z) k1) k3, g⟩
  rw [d_184 hs, d1]
  simp only [Option.bind_some, Option.toList_none, List.nil_append]
  rw [e_184_4 hs4]
  exact d3
