/-! the model's search for a way -/
def ctb (f : Nat → Bool) : Nat → Nat
  | 0 => 0
  | n + 1 => ctb f n + (if f n = true then 1 else 0)
theorem ctb_s {f : Nat → Bool} {n : Nat} : ctb f (n + 1) = ctb f n + (if f n = true then 1 else 0) := rfl
theorem ctb_le {f : Nat → Bool} : ∀ n, ctb f n ≤ n
  | 0 => Nat.le_refl _
  | n + 1 => by have := ctb_le (f := f) n; rw [ctb_s]; split <;> omega
theorem ctb_up {f : Nat → Bool} {x : Nat} (hf : f x = false) : ∀ n, ctb (fun k => f k || (x == k)) n = ctb f n + (if x < n then 1 else 0)
  | 0 => by rw [if_neg (by omega)]; rfl
  | n + 1 => by
    rw [ctb_s, ctb_s, ctb_up hf n]
    by_cases h : x = n
    · subst h
      rw [hf, beq_self_eq_true, if_neg (show ¬ x < x by omega), if_pos (show x < x + 1 by omega)]; rfl
    · rw [beq_eq_false_iff_ne.mpr h, Bool.or_false]
      by_cases h2 : x < n
      · rw [if_pos h2, if_pos (show x < n + 1 by omega)]; omega
      · rw [if_neg h2, if_neg (show ¬ x < n + 1 by omega)]; omega
def Srch (p : Nat → Nat → Nat) (l : Nat → Nat) (n : Nat) (par rk : Nat → Nat) (sn : Nat → Bool) : Prop := sn 48 = true ∧ (∀ i, i < n → l i < 49 ∧ rk (l i) = i ∧ sn (l i) = true) ∧ (∀ x, sn x = true → x < 49 ∧ rk x < n ∧ l (rk x) = x ∧ par x < 49) ∧ n = ctb sn 49 ∧ Tree (fun x => sn x = true) par rk p
section SRA
variable {p : Nat → Nat → Nat} {l : Nat → Nat} {n : Nat} {par rk : Nat → Nat} {sn : Nat → Bool}
theorem Srch.z (s : Srch p l n par rk sn) : sn 48 = true := s.1
theorem Srch.li (s : Srch p l n par rk sn) : ∀ i, i < n → l i < 49 ∧ rk (l i) = i ∧ sn (l i) = true := s.2.1
theorem Srch.sx (s : Srch p l n par rk sn) : ∀ x, sn x = true → x < 49 ∧ rk x < n ∧ l (rk x) = x ∧ par x < 49 := s.2.2.1
theorem Srch.ct (s : Srch p l n par rk sn) : n = ctb sn 49 := s.2.2.2.1
theorem Srch.tr (s : Srch p l n par rk sn) : Tree (fun x => sn x = true) par rk p := s.2.2.2.2
end SRA
def upf (f : Nat → Nat) (k v : Nat) : Nat → Nat := fun i => if i = k then v else f i
theorem upf_e {f : Nat → Nat} {k v : Nat} : upf f k v k = v := if_pos rfl
theorem upf_n {f : Nat → Nat} {k v i : Nat} (h : i ≠ k) : upf f k v i = f i := if_neg h
theorem Srch_n {p : Nat → Nat → Nat} {l : Nat → Nat} {n : Nat} {par rk : Nat → Nat} {sn : Nat → Bool} (s : Srch p l n par rk sn) : n ≤ 49 := by rw [s.ct]; exact ctb_le _
theorem Srch_add {p : Nat → Nat → Nat} {l : Nat → Nat} {n : Nat} {par rk : Nat → Nat} {sn : Nat → Bool} (s : Srch p l n par rk sn) {u y : Nat} (hu : sn u = true) (hy : y < 49) (ny : sn y = false) (hp : 1 ≤ p u y) : Srch p (upf l n y) (n + 1) (upf par y u) (upf rk y n) (fun k => sn k || (y == k)) := by
  have su := s.sx u hu
  refine ⟨?_, fun i hi => ?_, fun x hx => ?_, ?_, fun x hx x48 => ?_⟩
  · show (sn 48 || (y == 48)) = true
    rw [s.z]; rfl
  · by_cases h : i = n
    · subst h
      rw [upf_e, upf_e]
      refine ⟨hy, rfl, ?_⟩
      show (sn y || (y == y)) = true
      rw [beq_self_eq_true, Bool.or_true]
    · obtain ⟨a, b, c⟩ := s.li i (by omega)
      have ne : l i ≠ y := fun z => by rw [z, ny] at c; cases c
      rw [upf_n h, upf_n ne]
      refine ⟨a, b, ?_⟩
      show (sn (l i) || (y == l i)) = true
      rw [c]; rfl
  · have hx' : (sn x || (y == x)) = true := hx
    by_cases h : x = y
    · subst h
      rw [upf_e, upf_e, upf_e]
      exact ⟨hy, by omega, rfl, su.1⟩
    · rw [beq_eq_false_iff_ne.mpr (fun z => h z.symm), Bool.or_false] at hx'
      obtain ⟨a, b, c, d⟩ := s.sx x hx'
      rw [upf_n h, upf_n h, upf_n (by omega)]
      exact ⟨a, by omega, c, d⟩
  · rw [ctb_up ny, if_pos hy, ← s.ct]
  · have hx' : (sn x || (y == x)) = true := hx
    show x < 49 ∧ (sn (upf par y u x) || (y == upf par y u x)) = true ∧ upf par y u x < 49 ∧ upf rk y n (upf par y u x) < upf rk y n x ∧ 1 ≤ p (upf par y u x) x
    have nu : u ≠ y := fun z => by rw [z, ny] at hu; cases hu
    by_cases h : x = y
    · subst h
      rw [upf_e, upf_n nu, upf_e, hu]
      exact ⟨hy, rfl, su.1, su.2.1, hp⟩
    · rw [beq_eq_false_iff_ne.mpr (fun z => h z.symm), Bool.or_false] at hx'
      obtain ⟨a, b, c, d, e⟩ := s.tr x hx' x48
      have b' : sn (par x) = true := b
      have ne : par x ≠ y := fun z => by rw [z, ny] at b'; cases b'
      rw [upf_n h, upf_n ne, upf_n h, b']
      exact ⟨a, rfl, c, d, e⟩
section SRM
/-- what the model's cells say of a search -/
def SM (h : am_H) (l : Nat → Nat) (n : Nat) (par : Nat → Nat) (sn : Nat → Bool) : Prop := (∀ i, i < n → hI h 299 i = ni (l i)) ∧ ∀ x, x < 49 → hI h 298 x = if sn x = true then ni (par x) else -ni 1
def RM9 (h : am_H) (p : Nat → Nat → Nat) : Prop := ∀ a b, a < 49 → b < 49 → hI h 294 (49 * a + b) = ni (p a b) ∧ p a b ≤ 1000
def scP (a _k : Nat) : Prop := a = 298 ∨ a = 299
theorem RM9_fr {W : Nat → Nat → Prop} {h h1 : am_H} {p : Nat → Nat → Nat} (hw : ∀ k, ¬ W 294 k) (k : Kg W h h1) (r : RM9 h p) : RM9 h1 p := fun a b ha hb => ⟨by rw [k.2.2.2.2.1 _ _ (hw _)]; exact (r a b ha hb).1, (r a b ha hb).2⟩
theorem L188i {p : Nat → Nat → Nat} {x2 : Int32} {u i : Nat} : ∀ m {h : am_H} {l : Nat → Nat} {n : Nat} {par rk : Nat → Nat} {sn : Nat → Bool} y, y + m = 49 → Sh h → RM9 h p → Srch p l n par rk sn → SM h l n par sn → sn u = true → ∃ h1 l1 n1 par1 rk1 sn1, am_E 188 (75, [some (vr (some 261)), some (vi (ni n)), some (vi x2), some (vi (ni i)), some (vi (ni u)), some (vi (ni y))], [], h) = am_E 188 (49, [some (vr (some 261)), some (vi (ni n1)), some (vi x2), some (vi (ni (i + 1))), some (vi (ni u)), some (vi (ni 49))], [], h1) ∧ Kg scP h h1 ∧ Srch p l1 n1 par1 rk1 sn1 ∧ SM h1 l1 n1 par1 sn1 ∧ n ≤ n1 ∧ (∀ k, k < n → l1 k = l k) ∧ (∀ k, sn k = true → sn1 k = true) ∧ ∀ k, y ≤ k → k < 49 → 1 ≤ p u k → sn1 k = true := by
  intro m
  induction m with
  | zero =>
    intro h l n par rk sn y hy hs r s c hu
    have e : y = 49 := by omega
    subst e
    refine ⟨h, l, n, par, rk, sn, ?_, Kg_refl h, s, c, Nat.le_refl _, fun _ _ => rfl, fun _ z => z, fun k h1 h2 => by omega⟩
    rw [e_188_75 hs, if_pos (show (49 : Int32) ≤ ni 49 by decide), ni_add1]
  | succ m ih =>
    intro h l n par rk sn y hy hs r s c hu
    have y49 : y < 49 := by omega
    have n49 := Srch_n s
    have su := s.sx u hu
    have b0 := e_188_75 (x1 := ni n) (x2 := x2) (x3 := ni i) (x4 := ni u) (x5 := ni y) hs
    rw [if_neg (show ¬ (49 : Int32) ≤ ni y by rw [show (49 : Int32) = ni 49 from rfl, ni_le (by omega) (by omega)]; omega), ixb _ (show y < 50 by omega) (by omega), c.2 y y49] at b0
    have nx : ∀ (h2 : am_H) (n2 : Nat), Sh h2 → am_E 188 (129, [some (vr (some 261)), some (vi (ni n2)), some (vi x2), some (vi (ni i)), some (vi (ni u)), some (vi (ni y))], [], h2) = am_E 188 (75, [some (vr (some 261)), some (vi (ni n2)), some (vi x2), some (vi (ni i)), some (vi (ni u)), some (vi (ni (y + 1)))], [], h2) := fun h2 n2 hs2 => by
      rw [e_188_129 hs2, ni_add1]
    cases ny : sn y
    · rw [ny, if_neg (show ¬ false = true by decide), if_pos (show -ni 1 = -1 from rfl), show (49 : Int32) * ni u + ni y = ni (49 * u + y) by rw [show (49 : Int32) = ni 49 from rfl, ni_mul, ni_add], ixb _ (show 49 * u + y < 2450 by omega) (by omega), (r u y su.1 y49).1] at b0
      have pb := (r u y su.1 y49).2
      by_cases hp : 1 ≤ p u y
      · rw [if_neg (show ¬ ni (p u y) ≤ 0 by rw [show (0 : Int32) = ni 0 from rfl, ni_le (by omega) (by omega)]; omega), ixb _ (show y < 50 by omega) (by omega), ixb _ (show n < 50 by omega) (by omega), ni_add1] at b0
        have kg : Kg scP h (pI (pI h 298 y (ni u)) 299 n (ni y)) := Kg_pI (Or.inr rfl) (Kg_pI (Or.inl rfl) (Kg_refl h))
        have s2 := Srch_add s hu y49 ny hp
        have c2 : SM (pI (pI h 298 y (ni u)) 299 n (ni y)) (upf l n y) (n + 1) (upf par y u) (fun k => sn k || (y == k)) := by
          refine ⟨fun k hk => ?_, fun x hx => ?_⟩
          · by_cases h1 : k = n
            · subst h1
              rw [pe, upf_e]
            · rw [hI_pI, if_neg (fun z => h1 z.2), hI_pI, if_neg (by omega), upf_n h1]
              exact c.1 k (by omega)
          · rw [hI_pI, if_neg (by omega), hI_pI]
            by_cases h1 : x = y
            · subst h1
              rw [if_pos ⟨rfl, rfl⟩, upf_e]
              show _ = if (sn x || (x == x)) = true then ni u else -ni 1
              rw [beq_self_eq_true, Bool.or_true, if_pos rfl]
            · rw [if_neg (fun z => h1 z.2), upf_n h1, c.2 x hx]
              show _ = if (sn x || (y == x)) = true then ni (par x) else -ni 1
              rw [beq_eq_false_iff_ne.mpr (fun z => h1 z.symm), Bool.or_false]
        obtain ⟨h1, l1, n1, par1, rk1, sn1, d, k1, s1, c1, g1, g2, g3, g4⟩ := ih (h := pI (pI h 298 y (ni u)) 299 n (ni y)) (y + 1) (by omega) (Kg_Sh kg hs) (RM9_fr (fun k => by unfold scP; omega) kg r) s2 c2 (show (sn u || (y == u)) = true by rw [hu]; rfl)
        refine ⟨h1, l1, n1, par1, rk1, sn1, ?_, Kg_trans kg k1, s1, c1, by omega, fun k hk => ?_, fun k hk => g3 k (show (sn k || (y == k)) = true by rw [hk]; rfl), fun k h1 h2 h3 => ?_⟩
        · rw [b0, nx _ _ (Kg_Sh kg hs)]; exact d
        · rw [g2 k (by omega), upf_n (by omega)]
        · by_cases e : k = y
          · subst e
            exact g3 k (show (sn k || (k == k)) = true by rw [beq_self_eq_true, Bool.or_true])
          · exact g4 k (by omega) h2 h3
      · rw [if_pos (show ni (p u y) ≤ 0 by rw [show (0 : Int32) = ni 0 from rfl, ni_le (by omega) (by omega)]; omega)] at b0
        obtain ⟨h1, l1, n1, par1, rk1, sn1, d, k1, s1, c1, g1, g2, g3, g4⟩ := ih (h := h) (y + 1) (by omega) hs r s c hu
        refine ⟨h1, l1, n1, par1, rk1, sn1, ?_, k1, s1, c1, g1, g2, g3, fun k h1 h2 h3 => ?_⟩
        · rw [b0, nx _ _ hs]; exact d
        · by_cases e : k = y
          · subst e; exact absurd h3 hp
          · exact g4 k (by omega) h2 h3
    · have py := (s.sx y ny).2.2.2
      rw [ny, if_pos rfl, if_neg (show ¬ ni (par y) = -1 by rw [show (-1 : Int32) = -ni 1 from rfl, ng_eq (by omega) (by omega) (by omega)]; exact id)] at b0
      obtain ⟨h1, l1, n1, par1, rk1, sn1, d, k1, s1, c1, g1, g2, g3, g4⟩ := ih (h := h) (y + 1) (by omega) hs r s c hu
      refine ⟨h1, l1, n1, par1, rk1, sn1, ?_, k1, s1, c1, g1, g2, g3, fun k h1 h2 h3 => ?_⟩
      · rw [b0, nx _ _ hs]; exact d
      · by_cases e : k = y
        · subst e; exact g3 k ny
        · exact g4 k (by omega) h2 h3
theorem L188o {p : Nat → Nat → Nat} {t : Nat} (ht : t < 49) : ∀ m {h : am_H} {l : Nat → Nat} {n : Nat} {par rk : Nat → Nat} {sn : Nat → Bool} i (o4 o5 : Option am_V), i + m = 50 → i ≤ n → Sh h → RM9 h p → Srch p l n par rk sn → SM h l n par sn → (∀ j, j < i → ∀ k, k < 49 → 1 ≤ p (l j) k → sn k = true) → ∃ h1 l1 n1 par1 rk1 sn1 o1 o3 o4' o5', am_E 188 (49, [some (vr (some 261)), some (vi (ni n)), some (vi (ni t)), some (vi (ni i)), o4, o5], [], h) = am_E 188 (141, [some (vr (some 261)), some (vi o1), some (vi (ni t)), some (vi o3), o4', o5'], [], h1) ∧ Kg scP h h1 ∧ Srch p l1 n1 par1 rk1 sn1 ∧ SM h1 l1 n1 par1 sn1 ∧ (sn1 t = true ∨ ∀ a b, a < 49 → b < 49 → sn1 a = true → sn1 b = false → p a b = 0) := by
  intro m
  induction m with
  | zero =>
    intro h l n par rk sn i o4 o5 hi hin hs r s c cl
    have n49 := Srch_n s
    omega
  | succ m ih =>
    intro h l n par rk sn i o4 o5 hi hin hs r s c cl
    have n49 := Srch_n s
    have b0 := e_188_49 (x1 := ni n) (x2 := ni t) (x3 := ni i) (o4 := o4) (o5 := o5) hs
    by_cases e : n ≤ i
    · rw [if_pos (show ni n ≤ ni i by rw [ni_le (by omega) (by omega)]; omega)] at b0
      refine ⟨h, l, n, par, rk, sn, _, _, _, _, b0, Kg_refl h, s, c, Or.inr fun a b ha hb sa sb => ?_⟩
      obtain ⟨x1, x2, x3, x4⟩ := s.sx a sa
      have := cl (rk a) (by omega) b hb
      rw [x3, sb] at this
      by_cases z : 1 ≤ p a b
      · cases this z
      · omega
    · rw [if_neg (show ¬ ni n ≤ ni i by rw [ni_le (by omega) (by omega)]; omega), ixb _ (show t < 50 by omega) (by omega), c.2 t ht] at b0
      cases st : sn t
      · obtain ⟨l1, l2, l3⟩ := s.li i (by omega)
        rw [st, if_neg (show ¬ false = true by decide), if_pos (show -ni 1 = -1 from rfl), ixb _ (show i < 50 by omega) (by omega), c.1 i (by omega)] at b0
        obtain ⟨h1, l1', n1, par1, rk1, sn1, d, k1, s1, c1, g1, g2, g3, g4⟩ := L188i (x2 := ni t) (u := l i) (i := i) 49 0 (by omega) hs r s c l3
        obtain ⟨h2, l2', n2, par2, rk2, sn2, o1, o3, o4', o5', d2, k2, s2, c2, f⟩ := ih (h := h1) (i + 1) (some (vi (ni (l i)))) (some (vi (ni 49))) (by omega) (by omega) (Kg_Sh k1 hs) (RM9_fr (fun k => by unfold scP; omega) k1 r) s1 c1 (fun j hj k hk hp => by
          by_cases y : j = i
          · subst y
            rw [g2 j (by omega)] at hp
            exact g4 k (by omega) hk hp
          · rw [g2 j (by omega)] at hp
            exact g3 k (cl j (by omega) k hk hp))
        refine ⟨h2, l2', n2, par2, rk2, sn2, o1, o3, o4', o5', ?_, Kg_trans k1 k2, s2, c2, f⟩
        rw [b0]
        exact d.trans d2
      · have py := (s.sx t st).2.2.2
        rw [st, if_pos rfl, if_neg (show ¬ ni (par t) = -1 by rw [show (-1 : Int32) = -ni 1 from rfl, ng_eq (by omega) (by omega) (by omega)]; exact id)] at b0
        exact ⟨h, l, n, par, rk, sn, _, _, _, _, b0, Kg_refl h, s, c, Or.inl st⟩
theorem L188t {p0 : Nat → Nat → Nat} {l : Nat → Nat} {n : Nat} {par rk : Nat → Nat} {sn : Nat → Bool} (s : Srch p0 l n par rk sn) : ∀ m {h : am_H} (p : Nat → Nat → Nat) x (o1 o2 o4 o5 : Option am_V), Sh h → SM h l n par sn → sn x = true → (rk x < m ∨ x = 48) → (∀ a b, a < 49 → b < 49 → hI h 294 (49 * a + b) = ni (p a b)) → (∀ a b, rk a ≤ rk x → rk b ≤ rk x → p a b = p0 a b) → ∃ h1, am_E 188 (155, [some (vr (some 261)), o1, o2, some (vi (ni x)), o4, o5], [], h) = some (some (vi (ni 1)), h1) ∧ Kg (fun a _ => a = 294) h h1 ∧ ∀ a b, a < 49 → b < 49 → hI h1 294 (49 * a + b) = ni (trc par m p x a b) := by
  intro m
  induction m with
  | zero =>
    intro h p x o1 o2 o4 o5 hs c hx hm hp ag
    have e : x = 48 := by omega
    subst e
    refine ⟨h, ?_, Kg_refl h, hp⟩
    rw [e_188_155 hs, if_pos (show ni 48 = 48 from rfl)]; rfl
  | succ m ih =>
    intro h p x o1 o2 o4 o5 hs c hx hm hp ag
    have x49 := (s.sx x hx).1
    by_cases e : x = 48
    · subst e
      refine ⟨h, ?_, Kg_refl h, fun a b ha hb => ?_⟩
      · rw [e_188_155 hs, if_pos (show ni 48 = 48 from rfl)]; rfl
      · rw [trc_s, if_pos rfl]; exact hp a b ha hb
    · obtain ⟨t1, t2, t3, t4, t5⟩ := s.tr x hx e
      have t2' : sn (par x) = true := t2
      have ne : par x ≠ x := fun y => by rw [y] at t4; omega
      have e1 : p (par x) x = p0 (par x) x := ag _ _ (by omega) (Nat.le_refl _)
      have c298 : hI h 298 x = ni (par x) := by rw [c.2 x x49, hx, if_pos rfl]
      have kg : Kg (fun a _ => a = 294) h (pI (pI h 294 (49 * par x + x) (ni (p (par x) x - 1))) 294 (49 * x + par x) (ni (p x (par x) + 1))) := Kg_pI rfl (Kg_pI rfl (Kg_refl h))
      obtain ⟨h1, d, k, g⟩ := ih (h := pI (pI h 294 (49 * par x + x) (ni (p (par x) x - 1))) 294 (49 * x + par x) (ni (p x (par x) + 1))) (agN p (par x) x) (par x) o1 (am_nl o2) o4 o5 (Kg_Sh kg hs) ⟨fun i hi => by rw [kg.2.2.2.2.1 _ _ (by omega)]; exact c.1 i hi, fun y hy => by rw [kg.2.2.2.2.1 _ _ (by omega)]; exact c.2 y hy⟩ t2' (by omega) (fun a b ha hb => by
        rw [hI_pI, hI_pI]
        unfold agN
        by_cases y1 : a = x ∧ b = par x
        · obtain ⟨rfl, rfl⟩ := y1
          rw [if_pos ⟨rfl, rfl⟩, if_neg (fun z => ne z.1.symm), if_pos ⟨rfl, rfl⟩]
        · rw [if_neg (by omega)]
          by_cases y2 : a = par x ∧ b = x
          · obtain ⟨rfl, rfl⟩ := y2
            rw [if_pos ⟨rfl, rfl⟩, if_pos ⟨rfl, rfl⟩]
          · rw [if_neg (by omega), if_neg y2, if_neg y1]
            exact hp a b ha hb) (fun a b ha hb => by
        unfold agN
        rw [if_neg (fun y => by rw [y.2] at hb; omega), if_neg (fun y => by rw [y.1] at ha; omega)]
        exact ag a b (by omega) (by omega))
      refine ⟨h1, ?_, Kg_trans kg k, fun a b ha hb => ?_⟩
      · have i1 : (49 : Int32) * ni (par x) + ni x = ni (49 * par x + x) := by rw [show (49 : Int32) = ni 49 from rfl, ni_mul, ni_add]
        have i2 : (49 : Int32) * ni x + ni (par x) = ni (49 * x + par x) := by rw [show (49 : Int32) = ni 49 from rfl, ni_mul, ni_add]
        have r1 : ni (p (par x) x) - 1 = ni (p (par x) x - 1) := ni_sub (b := 1) (by omega)
        have cc : hI (pI h 294 (49 * par x + x) (ni (p (par x) x - 1))) 298 x = ni (par x) := by rw [hI_pI, if_neg (by omega)]; exact c298
        have c4 : hI (pI h 294 (49 * par x + x) (ni (p (par x) x - 1))) 294 (49 * x + par x) = ni (p x (par x)) := by rw [hI_pI, if_neg (by omega)]; exact hp _ _ x49 t3
        have c5 : hI (pI (pI h 294 (49 * par x + x) (ni (p (par x) x - 1))) 294 (49 * x + par x) (ni (p x (par x) + 1))) 298 x = ni (par x) := by rw [hI_pI, if_neg (by omega)]; exact cc
        rw [e_188_155 hs, if_neg (show ¬ ni x = 48 by rw [show (48 : Int32) = ni 48 from rfl, ni_eq (by omega) (by omega)]; exact e), ixb _ (show x < 50 by omega) (by omega), c298, i1, ixb _ (show 49 * par x + x < 2450 by omega) (by omega), ixb _ (show 49 * par x + x < 2450 by omega) (by omega), hp _ _ t3 x49, r1, ixb _ (show x < 50 by omega) (by omega), cc, i2, ixb _ (show 49 * x + par x < 2450 by omega) (by omega), ixb _ (show 49 * x + par x < 2450 by omega) (by omega), c4, ni_add1, ixb _ (show x < 50 by omega) (by omega), c5]
        exact d
      · rw [g a b ha hb, trc_s, if_neg e]
theorem L188a : ∀ m {h : am_H} i {x1 x2 : Int32} {o4 o5 : Option am_V}, i + m = 49 → Sh h → (∀ x, x < i → hI h 298 x = -ni 1) → ∃ h1, am_E 188 (11, [some (vr (some 261)), some (vi x1), some (vi x2), some (vi (ni i)), o4, o5], [], h) = am_E 188 (49, [some (vr (some 261)), some (vi x1), some (vi x2), some (vi 0), o4, o5], [], pI (pI h1 298 48 48) 299 0 48) ∧ Kg scP h h1 ∧ ∀ x, x < 49 → hI h1 298 x = -ni 1 := by
  intro m
  induction m with
  | zero =>
    intro h i x1 x2 o4 o5 hi hs g
    refine ⟨h, ?_, Kg_refl h, fun x hx => g x (by omega)⟩
    rw [e_188_11 hs, if_pos (show (49 : Int32) ≤ ni i by rw [show (49 : Int32) = ni 49 from rfl, ni_le (by omega) (by omega)]; omega)]
  | succ m ih =>
    intro h i x1 x2 o4 o5 hi hs g
    obtain ⟨h1, d, k, g1⟩ := ih (h := pI h 298 i (-1)) (i + 1) (x1 := x1) (x2 := x2) (o4 := o4) (o5 := o5) (by omega) hs (fun x hx => by
      rw [hI_pI]
      by_cases y : x = i
      · rw [if_pos ⟨rfl, y⟩]; rfl
      · rw [if_neg (fun z => y z.2)]; exact g x (by omega))
    refine ⟨h1, ?_, Kg_trans (Kg_pI (Or.inl rfl) (Kg_refl h)) k, g1⟩
    rw [e_188_11 hs, if_neg (show ¬ (49 : Int32) ≤ ni i by rw [show (49 : Int32) = ni 49 from rfl, ni_le (by omega) (by omega)]; omega), ixb _ (show i < 50 by omega) (by omega), ni_add1]
    exact d
theorem Srch_0 (p : Nat → Nat → Nat) : Srch p (fun _ => 48) 1 (fun _ => 48) (fun _ => 0) (fun k => 48 == k) := by
  refine ⟨rfl, fun i hi => ⟨show 48 < 49 by omega, show 0 = i by omega, rfl⟩, fun x hx => ?_, by decide, fun x hx ne => ?_⟩
  · have e : 48 = x := beq_iff_eq.mp hx
    exact ⟨by omega, show 0 < 1 by omega, e, show 48 < 49 by omega⟩
  · exact absurd (beq_iff_eq.mp hx).symm ne
def scQ (a _k : Nat) : Prop := a = 294 ∨ a = 298 ∨ a = 299
/-- the search: a way more, or a cut -/
theorem D188 {h : am_H} {p : Nat → Nat → Nat} {T : Nat} (hs : Sh h) (hT : T < 24) (h50 : hI h 261 50 = ni T) (r : RM9 h p) : (∃ h1, ∃ S : Nat → Bool, am_D 188 [vr (some 261)] h = some (some (vi 0), h1) ∧ Kg scQ h h1 ∧ RM9 h1 p ∧ Cut (2 * T) S ∧ ∀ a b, a < 49 → b < 49 → S a = true → S b = false → p a b = 0) ∨ ∃ h1 n l par rk sn, am_D 188 [vr (some 261)] h = some (some (vi 1), h1) ∧ Kg scQ h h1 ∧ Srch p l n par rk sn ∧ sn (2 * T) = true ∧ ∀ a b, a < 49 → b < 49 → hI h1 294 (49 * a + b) = ni (trc par n p (2 * T) a b) := by
  have d0 := d_188 hs
  rw [h50, show (2 : Int32) * ni T = ni (2 * T) by rw [show (2 : Int32) = ni 2 from rfl, ni_mul]] at d0
  obtain ⟨h0, e0, k0, g0⟩ := L188a 49 (h := h) 0 (x1 := ni 1) (x2 := ni (2 * T)) (o4 := none) (o5 := none) (by omega) hs (fun x hx => by omega)
  have kg : Kg scP h (pI (pI h0 298 48 48) 299 0 48) := Kg_pI (Or.inr rfl) (Kg_pI (Or.inl rfl) k0)
  have c0 : SM (pI (pI h0 298 48 48) 299 0 48) (fun _ => 48) 1 (fun _ => 48) (fun k => 48 == k) := by
    refine ⟨fun i hi => ?_, fun x hx => ?_⟩
    · have e : i = 0 := by omega
      subst e
      rw [pe]; rfl
    · rw [hI_pI, if_neg (by omega), hI_pI]
      by_cases y : x = 48
      · rw [if_pos ⟨rfl, y⟩]
        show _ = if (48 == x) = true then ni 48 else -ni 1
        rw [if_pos (beq_iff_eq.mpr y.symm)]; rfl
      · rw [if_neg (fun z => y z.2), g0 x hx]
        show _ = if (48 == x) = true then ni 48 else -ni 1
        rw [if_neg (fun z => y (beq_iff_eq.mp z).symm)]
  have hs0 := Kg_Sh kg hs
  have r0 : RM9 (pI (pI h0 298 48 48) 299 0 48) p := RM9_fr (fun k => by unfold scP; omega) kg r
  obtain ⟨h1, l, n, par, rk, sn, o1, o3, o4', o5', d, k, s, c, f⟩ := L188o (t := 2 * T) (by omega) 50 (h := pI (pI h0 298 48 48) 299 0 48) 0 none none (by omega) (by omega) hs0 r0 (Srch_0 p) c0 (fun j hj => by omega)
  have hs1 := Kg_Sh k hs0
  have kk : Kg scP h h1 := Kg_trans kg k
  have dd : am_D 188 [vr (some 261)] h = am_E 188 (141, [some (vr (some 261)), some (vi o1), some (vi (ni (2 * T))), some (vi o3), o4', o5'], [], h1) := d0.trans (e0.trans d)
  have f0 := e_188_141 (o1 := some (vi o1)) (x2 := ni (2 * T)) (o3 := some (vi o3)) (o4 := o4') (o5 := o5') hs1
  rw [ixb _ (show 2 * T < 50 by omega) (by omega), c.2 _ (show 2 * T < 49 by omega)] at f0
  cases st : sn (2 * T)
  · rw [st, if_neg (show ¬ false = true by decide), if_pos (show -ni 1 = -1 from rfl)] at f0
    refine Or.inl ⟨h1, sn, dd.trans f0, Kg_mono (fun a k z => Or.inr z) kk, RM9_fr (fun k => by unfold scP; omega) kk r, ⟨s.z, st⟩, ?_⟩
    rcases f with f | f
    · rw [st] at f; cases f
    · exact f
  · have py := (s.sx _ st).2.2.2
    rw [st, if_pos rfl, if_neg (show ¬ ni (par (2 * T)) = -1 by rw [show (-1 : Int32) = -ni 1 from rfl, ng_eq (by omega) (by omega) (by omega)]; exact id)] at f0
    have r1 : RM9 h1 p := RM9_fr (fun k => by unfold scP; omega) kk r
    obtain ⟨h2, d2, k2, g2⟩ := L188t s n (h := h1) p (2 * T) (some (vi o1)) (some (vi (ni (2 * T)))) o4' o5' hs1 c st (Or.inl (s.sx _ st).2.1) (fun a b ha hb => (r1 a b ha hb).1) (fun _ _ _ _ => rfl)
    exact Or.inr ⟨h2, n, l, par, rk, sn, dd.trans (f0.trans d2), Kg_trans (Kg_mono (fun a k z => Or.inr z) kk) (Kg_mono (fun a k z => Or.inl z) k2), s, st, g2⟩
end SRM
