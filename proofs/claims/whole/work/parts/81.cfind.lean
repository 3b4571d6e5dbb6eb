/-! the class's search for a way -/
section CSF
def adN (adj : Nat → Nat → Bool) : Nat → Nat → Nat := fun u v => if adj u v = true then 1 else 0
def Fnd (adj : Nat → Nat → Bool) (par rk : Nat → Nat) (sn fr : Nat → Bool) (n : Nat) : Prop := sn 48 = true ∧ (∀ x, sn x = true → x < 49 ∧ par x < 49 ∧ rk x ≤ n) ∧ (∀ x, fr x = true → sn x = true) ∧ (∀ u, sn u = true → fr u = false → ∀ v, v < 49 → adj u v = true → sn v = true) ∧ ctb (fun x => sn x && !fr x) 49 = n ∧ Tree (fun x => sn x = true) par rk (adN adj)
theorem Fnd_0 (adj : Nat → Nat → Bool) : Fnd adj (fun _ => 48) (fun _ => 0) (fun k => k == 48) (fun k => k == 48) 0 := by
  refine ⟨rfl, fun x hx => ?_, fun x hx => hx, fun u hu hf => ?_, by decide, fun x hx ne => ?_⟩
  · have e : x = 48 := beq_iff_eq.mp hx
    exact ⟨by omega, show 48 < 49 by omega, show 0 ≤ 0 by omega⟩
  · have hu' : (u == 48) = true := hu
    have hf' : (u == 48) = false := hf
    rw [hu'] at hf'; cases hf'
  · exact absurd (beq_iff_eq.mp hx) ne
theorem Fnd_s {adj : Nat → Nat → Bool} {par rk : Nat → Nat} {sn fr : Nat → Bool} {n u : Nat} (f : Fnd adj par rk sn fr n) (hu : fr u = true) : Fnd adj (fun x => if (decide (x < 49) && (adj u x && !sn x)) = true then u else par x) (fun x => if (decide (x < 49) && (adj u x && !sn x)) = true then n + 1 else rk x) (fun x => sn x || (decide (x < 49) && (adj u x && !sn x))) (fun x => (fr x && !(x == u)) || (decide (x < 49) && (adj u x && !sn x))) (n + 1) := by
  obtain ⟨f1, f2, f3, f4, f5, f6⟩ := f
  have su := f3 u hu
  have u49 := (f2 u su).1
  refine ⟨?_, fun x hx => ?_, fun x hx => ?_, fun a ha hf v hv hav => ?_, ?_, fun x hx ne => ?_⟩
  · show (sn 48 || _) = true
    rw [f1]; rfl
  · by_cases z : (decide (x < 49) && (adj u x && !sn x)) = true
    · show x < 49 ∧ (if (decide (x < 49) && (adj u x && !sn x)) = true then u else par x) < 49 ∧ (if (decide (x < 49) && (adj u x && !sn x)) = true then n + 1 else rk x) ≤ n + 1
      rw [if_pos z, if_pos z]
      rw [Bool.and_eq_true] at z
      exact ⟨of_decide_eq_true z.1, u49, Nat.le_refl _⟩
    · show x < 49 ∧ (if (decide (x < 49) && (adj u x && !sn x)) = true then u else par x) < 49 ∧ (if (decide (x < 49) && (adj u x && !sn x)) = true then n + 1 else rk x) ≤ n + 1
      rw [if_neg z, if_neg z]
      have hx' : (sn x || (decide (x < 49) && (adj u x && !sn x))) = true := hx
      rw [Bool.or_eq_true] at hx'
      rcases hx' with g | g
      · have := f2 x g
        exact ⟨this.1, this.2.1, by omega⟩
      · exact absurd g z
  · have hx' : ((fr x && !(x == u)) || (decide (x < 49) && (adj u x && !sn x))) = true := hx
    show (sn x || (decide (x < 49) && (adj u x && !sn x))) = true
    rw [Bool.or_eq_true] at hx' ⊢
    rcases hx' with g | g
    · rw [Bool.and_eq_true] at g
      exact Or.inl (f3 x g.1)
    · exact Or.inr g
  · have ha' : (sn a || (decide (a < 49) && (adj u a && !sn a))) = true := ha
    have hf' : ((fr a && !(a == u)) || (decide (a < 49) && (adj u a && !sn a))) = false := hf
    show (sn v || (decide (v < 49) && (adj u v && !sn v))) = true
    rw [Bool.or_eq_false_iff] at hf'
    rw [hf'.2, Bool.or_false] at ha'
    by_cases z : a = u
    · subst z
      rw [hav, decide_eq_true hv]
      cases sn v <;> rfl
    · have g : fr a = false := by
        have g := hf'.1
        rw [beq_eq_false_iff_ne.mpr z] at g
        cases y : fr a
        · rfl
        · rw [y] at g; cases g
      rw [f4 a ha' g v hv hav]; rfl
  · have e : (fun x => (sn x || (decide (x < 49) && (adj u x && !sn x))) && !((fr x && !(x == u)) || (decide (x < 49) && (adj u x && !sn x)))) = fun x => (sn x && !fr x) || (u == x) := by
      funext x
      by_cases z : x = u
      · subst z
        rw [su, hu, beq_self_eq_true]
        simp
      · rw [beq_eq_false_iff_ne.mpr z, beq_eq_false_iff_ne.mpr (fun y => z y.symm)]
        cases y : sn x
        · have g : fr x = false := by
            cases w : fr x
            · rfl
            · rw [f3 x w] at y; cases y
          rw [g]
          cases decide (x < 49) <;> cases adj u x <;> rfl
        · cases fr x <;> cases decide (x < 49) <;> cases adj u x <;> rfl
    show ctb (fun x => (sn x || (decide (x < 49) && (adj u x && !sn x))) && !((fr x && !(x == u)) || (decide (x < 49) && (adj u x && !sn x)))) 49 = n + 1
    rw [e, ctb_up (f := fun x => sn x && !fr x) (show (sn u && !fr u) = false by rw [hu, su]; rfl), if_pos u49, f5]
  · have nu : ∀ y, sn y = true → ¬ (decide (y < 49) && (adj u y && !sn y)) = true := fun y hy z => by
      rw [hy, Bool.not_true, Bool.and_false, Bool.and_false] at z
      cases z
    show x < 49 ∧ (sn _ || _) = true ∧ _ ∧ (if (decide ((if (decide (x < 49) && (adj u x && !sn x)) = true then u else par x) < 49) && _) = true then n + 1 else rk _) < _ ∧ 1 ≤ adN adj _ x
    by_cases z : (decide (x < 49) && (adj u x && !sn x)) = true
    · simp only [if_pos z]
      rw [if_neg (nu u su), su]
      have z' := z
      rw [Bool.and_eq_true, Bool.and_eq_true] at z'
      refine ⟨of_decide_eq_true z'.1, rfl, u49, by have := (f2 u su).2.2; omega, ?_⟩
      unfold adN
      rw [if_pos z'.2.1]
      exact Nat.le_refl _
    · simp only [if_neg z]
      have hx' : (sn x || (decide (x < 49) && (adj u x && !sn x))) = true := hx
      rw [Bool.or_eq_true] at hx'
      have sx : sn x = true := by
        rcases hx' with g | g
        · exact g
        · exact absurd g z
      obtain ⟨t1, t2, t3, t4, t5⟩ := f6 x sx ne
      have t2' : sn (par x) = true := t2
      rw [if_neg (nu _ t2'), t2']
      exact ⟨t1, rfl, t3, t4, t5⟩
/-- the bits of room's longs -/
def RB (h : am_H) (adj : Nat → Nat → Bool) : Prop := ∀ u, u < 49 → ∀ k, k < 64 → bl (hL h 256 u) k = (decide (k < 49) && adj u k)
theorem RB_fr {W : Nat → Nat → Prop} {h h1 : am_H} {adj : Nat → Nat → Bool} (hw : ∀ k, ¬ W 256 k) (k : Kg W h h1) (r : RB h adj) : RB h1 adj := fun u hu j hj => by
  rw [k.2.2.2.2.2 _ _ (hw _)]; exact r u hu j hj
theorem L181i {x1 x3 x7 : Int64} {nw : Nat → Bool} (h7 : ∀ k, k < 64 → bl x7 k = (decide (k < 49) && nw k)) {u : Nat} {x5 : Int32} : ∀ m {h : am_H} y (o8 : Option am_V), y + m = 49 → Sh h → ∃ h1 o8', am_E 181 (61, [some (vr (some 254)), some (vl x1), none, some (vl x3), none, some (vi x5), some (vi (ni u)), some (vl x7), o8, some (vi (ni y))], [], h) = am_E 181 (19, [some (vr (some 254)), some (vl (x1 ||| x7)), none, some (vl ((x3 &&& (x3 - 1)) ||| x7)), none, some (vi (x5 + 1)), some (vi (ni u)), some (vl x7), o8', some (vi (ni 49))], [], h1) ∧ Kg (fun a _ => a = 257) h h1 ∧ ∀ x, x < 49 → hI h1 257 x = if y ≤ x ∧ nw x = true then ni u else hI h 257 x := by
  intro m
  induction m with
  | zero =>
    intro h y o8 hy hs
    have e : y = 49 := by omega
    subst e
    refine ⟨h, o8, ?_, Kg_refl h, fun x hx => ?_⟩
    · rw [e_181_61 hs, if_pos (show (49 : Int32) ≤ ni 49 by decide)]
    · rw [if_neg (by omega)]
  | succ m ih =>
    intro h y o8 hy hs
    have y49 : y < 49 := by omega
    have bb : ((x7 >>> ((ni y).toInt64 &&& 63)) &&& 1) = cond (nw y) 1 0 := by
      rw [bl_shr x7 (show y < 64 by omega), h7 y (by omega), decide_eq_true y49, Bool.true_and]
    have b0 := e_181_61 (x1 := x1) (o2 := none) (x3 := x3) (o4 := none) (x5 := x5) (x6 := ni u) (x7 := x7) (o8 := o8) (x9 := ni y) hs
    rw [if_neg (show ¬ (49 : Int32) ≤ ni y by rw [show (49 : Int32) = ni 49 from rfl, ni_le (by omega) (by omega)]; omega), bb] at b0
    cases nv : nw y
    · rw [nv, if_pos (show lg_cmp (cond false 1 0) 0 = 0 by rw [lg_b]), e_181_89 hs, ni_add1] at b0
      obtain ⟨h1, o8', d, k, g⟩ := ih (h := h) (y + 1) (am_nl o8) (by omega) hs
      refine ⟨h1, o8', b0.trans d, k, fun x hx => ?_⟩
      rw [g x hx]
      by_cases z : y + 1 ≤ x ∧ nw x = true
      · rw [if_pos z, if_pos ⟨by omega, z.2⟩]
      · rw [if_neg z, if_neg (fun w => by
          by_cases e : x = y
          · rw [e, nv] at w; exact absurd w.2 (by decide)
          · exact z ⟨by omega, w.2⟩)]
    · have hs1 : Sh (pI h 257 y (ni u)) := hs
      rw [nv, if_neg (show ¬ lg_cmp (cond true 1 0) 0 = 0 by rw [lg_b]; decide), ixb _ y49 (by omega), e_181_89 hs1, ni_add1] at b0
      obtain ⟨h1, o8', d, k, g⟩ := ih (h := pI h 257 y (ni u)) (y + 1) (am_nl o8) (by omega) hs1
      refine ⟨h1, o8', b0.trans d, Kg_trans (Kg_pI rfl (Kg_refl h)) k, fun x hx => ?_⟩
      rw [g x hx, hI_pI]
      by_cases z : y + 1 ≤ x ∧ nw x = true
      · rw [if_pos z, if_pos ⟨by omega, z.2⟩]
      · rw [if_neg z]
        by_cases e : x = y
        · rw [if_pos ⟨rfl, e⟩, if_pos ⟨by omega, by rw [e]; exact nv⟩]
        · rw [if_neg (fun w => e w.2), if_neg (fun w => z ⟨by omega, w.2⟩)]
theorem L181 {adj : Nat → Nat → Bool} {T : Nat} (hT : T < 24) : ∀ m {h : am_H} {par rk : Nat → Nat} {sn fr : Nat → Bool} {x1 x3 : Int64} n (o6 o7 o8 o9 : Option am_V), n + m = 49 → Sh h → RB h adj → hI h 254 0 = ni T → Fnd adj par rk sn fr n → (∀ k, k < 64 → bl x1 k = (decide (k < 49) && sn k)) → (∀ k, k < 64 → bl x3 k = (decide (k < 49) && fr k)) → (∀ x, x < 49 → sn x = true → x ≠ 48 → hI h 257 x = ni (par x)) → ∃ h1, ∃ par1 : Nat → Nat, ∃ rk1 : Nat → Nat, ∃ sn1 : Nat → Bool, am_E 181 (19, [some (vr (some 254)), some (vl x1), none, some (vl x3), none, some (vi (ni n)), o6, o7, o8, o9], [], h) = some (some (vi (bi (sn1 T))), h1) ∧ Kg (fun a _ => a = 257) h h1 ∧ (∀ x, sn1 x = true → x < 49 ∧ par1 x < 49 ∧ rk1 x ≤ 49) ∧ Tree (fun x => sn1 x = true) par1 rk1 (adN adj) ∧ (∀ u v, v < 49 → sn1 u = true → adj u v = true → sn1 v = true) ∧ (∀ x, x < 49 → sn1 x = true → x ≠ 48 → hI h1 257 x = ni (par1 x)) ∧ sn1 48 = true := by
  intro m
  induction m with
  | zero =>
    intro h par rk sn fr x1 x3 n o6 o7 o8 o9 hn hs r h254 f b1 b3 g
    have e : n = 49 := by omega
    subst e
    have bT : ((x1 >>> ((ni T).toInt64 &&& 63)) &&& 1) = cond (sn T) 1 0 := by
      rw [bl_shr x1 (show T < 64 by omega), b1 T (by omega), decide_eq_true (show T < 49 by omega), Bool.true_and]
    have fr0 : ∀ x, x < 49 → fr x = false := by
      intro x hx
      cases y : fr x
      · rfl
      · have c := ctb_up (f := fun k => sn k && !fr k) (x := x) (show (sn x && !fr x) = false by rw [y]; cases sn x <;> rfl) 49
        rw [if_pos hx, f.2.2.2.2.1] at c
        have := ctb_le (f := fun k => (sn k && !fr k) || (x == k)) 49
        omega
    refine ⟨h, par, rk, sn, ?_, Kg_refl h, f.2.1, f.2.2.2.2.2, fun u v hv hu ha => f.2.2.2.1 u hu (fr0 u (f.2.1 u hu).1) v hv ha, g, f.1⟩
    rw [e_181_19 hs, if_pos (show (49 : Int32) ≤ ni 49 by decide), e_181_115 hs, h254, bT]
    cases sn T
    · rw [if_pos (show lg_cmp (cond false 1 0) 0 = 0 by rw [lg_b])]; rfl
    · rw [if_neg (show ¬ lg_cmp (cond true 1 0) 0 = 0 by rw [lg_b]; decide)]; rfl
  | succ m ih =>
    intro h par rk sn fr x1 x3 n o6 o7 o8 o9 hn hs r h254 f b1 b3 g
    have bT : ((x1 >>> ((ni T).toInt64 &&& 63)) &&& 1) = cond (sn T) 1 0 := by
      rw [bl_shr x1 (show T < 64 by omega), b1 T (by omega), decide_eq_true (show T < 49 by omega), Bool.true_and]
    have n49 : ¬ (49 : Int32) ≤ ni n := by rw [show (49 : Int32) = ni 49 from rfl, ni_le (by omega) (by omega)]; omega
    rcases bl_least x3 fr b3 with ⟨z, fr0⟩ | ⟨u, u49, fu, lo, z⟩
    · refine ⟨h, par, rk, sn, ?_, Kg_refl h, fun x hx => ⟨(f.2.1 x hx).1, (f.2.1 x hx).2.1, by have := (f.2.1 x hx).2.2; omega⟩, f.2.2.2.2.2, fun u v hv hu ha => f.2.2.2.1 u hu (fr0 u (f.2.1 u hu).1) v hv ha, g, f.1⟩
      rw [e_181_19 hs, if_neg n49, if_pos z, e_181_115 hs, h254, bT]
      cases sn T
      · rw [if_pos (show lg_cmp (cond false 1 0) 0 = 0 by rw [lg_b])]; rfl
      · rw [if_neg (show ¬ lg_cmp (cond true 1 0) 0 = 0 by rw [lg_b]; decide)]; rfl
    · have bu : bl x3 u = true := by rw [b3 u (by omega), decide_eq_true u49, fu]; rfl
      have bl0 : ∀ j, j < u → bl x3 j = false := fun j hj => by rw [b3 j (by omega), lo j hj, Bool.and_false]
      have b7 : ∀ k, k < 64 → bl (hL h 256 u &&& (x1 ^^^ (-1))) k = (decide (k < 49) && (decide (k < 49) && (adj u k && !sn k))) := fun k hk => by
        rw [bl_and, r u u49 k hk, bl_not x1 hk, b1 k hk]
        cases decide (k < 49) <;> cases adj u k <;> cases sn k <;> rfl
      obtain ⟨h1, o8', d, k1, g1⟩ := L181i (x1 := x1) (x3 := x3) (x5 := ni n) (u := u) (nw := fun k => decide (k < 49) && (adj u k && !sn k)) b7 49 (h := h) 0 none (by omega) hs
      have hs1 := Kg_Sh k1 hs
      obtain ⟨h2, par1, rk1, sn1, d2, k2, f1, f2, f3, f4, f5⟩ := ih (h := h1) (x1 := x1 ||| (hL h 256 u &&& (x1 ^^^ (-1)))) (x3 := (x3 &&& (x3 - 1)) ||| (hL h 256 u &&& (x1 ^^^ (-1)))) (n + 1) (some (vi (ni u))) (some (vl (hL h 256 u &&& (x1 ^^^ (-1))))) o8' (some (vi (ni 49))) (by omega) hs1 (RB_fr (fun k => by omega) k1 r) (by rw [k1.2.2.2.2.1 254 0 (by omega)]; exact h254) (Fnd_s f fu) (fun k hk => by
        rw [bl_or, b1 k hk, b7 k hk]
        cases decide (k < 49) <;> rfl) (fun k hk => by
        rw [bl_or, bl_drop x3 bu bl0 k hk, b3 k hk, b7 k hk]
        cases decide (k < 49) <;> cases fr k <;> rfl) (fun x hx sx ne => by
        rw [g1 x hx]
        by_cases w : (decide (x < 49) && (adj u x && !sn x)) = true
        · rw [if_pos ⟨Nat.zero_le _, w⟩]
          show _ = ni (if (decide (x < 49) && (adj u x && !sn x)) = true then u else par x)
          rw [if_pos w]
        · rw [if_neg (fun y => w y.2)]
          show _ = ni (if (decide (x < 49) && (adj u x && !sn x)) = true then u else par x)
          rw [if_neg w]
          have sx' : (sn x || (decide (x < 49) && (adj u x && !sn x))) = true := sx
          rw [Bool.or_eq_true] at sx'
          rcases sx' with y | y
          · exact g x hx y ne
          · exact absurd y w)
      refine ⟨h2, par1, rk1, sn1, ?_, Kg_trans k1 k2, f1, f2, f3, f4, f5⟩
      rw [e_181_19 hs, if_neg n49, if_neg z, bl_lows x3 u49 bu bl0, D180 hs, bcL_low u u49]
      simp only [Option.bind_some, Option.toList_some, List.cons_append, List.nil_append]
      rw [e_181_41 hs, ixb _ u49 (by omega)]
      refine d.trans ?_
      rw [ni_add1]
      exact d2
theorem bl_48 : ∀ k, k < 64 → bl 281474976710656 k = (decide (k < 49) && (k == 48)) := by decide +kernel
theorem D181 {adj : Nat → Nat → Bool} {T : Nat} (hT : T < 24) {h : am_H} (hs : Sh h) (r : RB h adj) (h254 : hI h 254 0 = ni T) : ∃ h1, ∃ par1 : Nat → Nat, ∃ rk1 : Nat → Nat, ∃ sn1 : Nat → Bool, am_D 181 [vr (some 254)] h = some (some (vi (bi (sn1 T))), h1) ∧ Kg (fun a _ => a = 257) h h1 ∧ (∀ x, sn1 x = true → x < 49 ∧ par1 x < 49 ∧ rk1 x ≤ 49) ∧ Tree (fun x => sn1 x = true) par1 rk1 (adN adj) ∧ (∀ u v, v < 49 → sn1 u = true → adj u v = true → sn1 v = true) ∧ (∀ x, x < 49 → sn1 x = true → x ≠ 48 → hI h1 257 x = ni (par1 x)) ∧ sn1 48 = true := by
  have e := d_181 hs
  rw [h254, if_neg (show ¬ ni T = -1 by rw [show (-1 : Int32) = -ni 1 from rfl, ng_eq (by omega) (by omega) (by omega)]; exact id)] at e
  obtain ⟨h1, par1, rk1, sn1, d, g⟩ := L181 (adj := adj) hT 49 (h := h) (par := fun _ => 48) (rk := fun _ => 0) (sn := fun k => k == 48) (fr := fun k => k == 48) (x1 := 281474976710656) (x3 := 281474976710656) 0 none none none none (by omega) hs r h254 (Fnd_0 adj) bl_48 bl_48 (fun x hx sx ne => absurd (beq_iff_eq.mp sx) ne)
  exact ⟨h1, par1, rk1, sn1, e.trans d, g⟩
end CSF
