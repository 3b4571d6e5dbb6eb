/-! residual nets: what flows out of one door; one way changes little -/
theorem bal {c p : Nat → Nat → Nat} {T k o u w : Nat} (r : Rsd c p T k) (ho : o < 49) (hu : u < 49) (hw : w < 49) (oT : o ≠ T) (o48 : o ≠ 48) (uo : u ≠ o) (wo : w ≠ o) (uw : u ≠ w) (c1 : ∀ v, v ≠ w → c v o = 0) (c2 : c w o ≤ 1) : p u o ≤ 1 := by
  have ae := r.1 (fun x => x == o)
  have z1 : chi (fun x => x == o) T = 0 := by
    unfold chi
    rw [if_neg (fun y => oT (beq_iff_eq.mp y).symm)]
  have z2 : chi (fun x => x == o) 48 = 0 := by
    unfold chi
    rw [if_neg (fun y => o48 (beq_iff_eq.mp y).symm)]
  rw [z1, z2] at ae
  have b : cs p (fun x => x == o) ≤ su (fun a => su (fun v => (if (a == o) = true ∧ (v == o) = false then (c a v : Int) else 0)) 49 + (su (fun v => if a = o ∧ v = w then 1 else 0) 49 + su (fun v => if a = o ∧ v = u then -(p u o : Int) else 0) 49)) 49 := by
    unfold cs
    refine su_le fun a ha => ?_
    rw [← su_add, ← su_add]
    refine su_le fun v hv => ?_
    show (if (a == o) = true ∧ (v == o) = false then (p a v : Int) else 0) ≤ (if (a == o) = true ∧ (v == o) = false then (c a v : Int) else 0) + ((if a = o ∧ v = w then 1 else 0) + if a = o ∧ v = u then -(p u o : Int) else 0)
    by_cases y : a = o
    · subst y
      by_cases x : v = a
      · subst x
        rw [if_neg (fun q => by rw [beq_self_eq_true] at q; exact absurd q.2 (by decide)), if_neg (fun q => by rw [beq_self_eq_true] at q; exact absurd q.2 (by decide)), if_neg (fun q => wo q.2.symm), if_neg (fun q => uo q.2.symm)]
        decide
      · have s : (a == a) = true ∧ (v == a) = false := ⟨beq_self_eq_true a, beq_eq_false_iff_ne.mpr x⟩
        rw [if_pos s, if_pos s]
        have pr := r.2 a v
        by_cases vw : v = w
        · subst vw
          rw [if_pos ⟨rfl, rfl⟩, if_neg (fun q => uw q.2.symm)]
          omega
        · rw [if_neg (fun q => vw q.2)]
          have c0 := c1 v vw
          by_cases vu : v = u
          · subst vu
            rw [if_pos ⟨rfl, rfl⟩]; omega
          · rw [if_neg (fun q => vu q.2)]; omega
    · rw [if_neg (fun q => y (beq_iff_eq.mp q.1)), if_neg (fun q => y (beq_iff_eq.mp q.1)), if_neg (fun q => y q.1), if_neg (fun q => y q.1)]
      decide
  rw [su_add, su_add, su_11 ho hw, su_11 ho hu] at b
  have b' : cs p (fun x => x == o) ≤ cs c (fun x => x == o) + (1 + -(p u o : Int)) := b
  omega
theorem trc_b {seen : Nat → Prop} {par rk : Nat → Nat} {p0 : Nat → Nat → Nat} (T : Tree seen par rk p0) (a b : Nat) : ∀ n p x, seen x → (∀ a b, rk a ≤ rk x → rk b ≤ rk x → p a b = p0 a b) → trc par n p x a b ≤ if rk a ≤ rk x ∧ rk b ≤ rk x then p0 a b + 1 else p a b
  | 0, p, x, hx, h3 => by
    show p a b ≤ _
    split
    · next y => rw [h3 a b y.1 y.2]; omega
    · exact Nat.le_refl _
  | n + 1, p, x, hx, h3 => by
    rw [trc_s]
    by_cases z : x = 48
    · rw [if_pos z]
      split
      · next y => rw [h3 a b y.1 y.2]; omega
      · exact Nat.le_refl _
    · obtain ⟨t1, t2, t3, t4, t5⟩ := T x hx z
      rw [if_neg z]
      refine Nat.le_trans (trc_b T a b n (agN p (par x) x) (par x) t2 (fun a b ha hb => by
        unfold agN
        rw [if_neg (fun y => by rw [y.2] at hb; omega), if_neg (fun y => by rw [y.1] at ha; omega)]
        exact h3 a b (by omega) (by omega))) ?_
      by_cases y : rk a ≤ rk (par x) ∧ rk b ≤ rk (par x)
      · rw [if_pos y, if_pos (show rk a ≤ rk x ∧ rk b ≤ rk x by omega)]; exact Nat.le_refl _
      · rw [if_neg y]
        unfold agN
        by_cases y1 : a = par x ∧ b = x
        · rw [if_pos y1]
          split
          · next y => rw [h3 a b y.1 y.2]; omega
          · omega
        · rw [if_neg y1]
          by_cases y2 : a = x ∧ b = par x
          · rw [if_pos y2, if_pos (show rk a ≤ rk x ∧ rk b ≤ rk x by rw [y2.1, y2.2]; omega), h3 a b (by rw [y2.1]; omega) (by rw [y2.2]; omega)]
            exact Nat.le_refl _
          · rw [if_neg y2]
            split
            · next y => rw [h3 a b y.1 y.2]; omega
            · exact Nat.le_refl _
