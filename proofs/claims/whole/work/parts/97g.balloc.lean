/-! books: a row of men is made -/
theorem am_nt_r {α : Type} {k : Nat} {A B : Nat → α} {y : Nat} (h : k ≤ y) : am_nt k A B y = B y := by
  unfold am_nt
  have e : Nat.blt y k = false := by
    rw [Bool.eq_false_iff]
    intro z
    have : y < k := Nat.blt_eq.mp z
    omega
  rw [e]; rfl
theorem shR_hi {a k : Nat} (h : 262 ≤ a) : shR a k = none := by
  have e : shR a = fun _ => none := by
    unfold shR
    repeat rw [am_nt_r (by omega)]
  rw [e]
section ALC
variable {h h1 h2 : am_H}
/-- the cells that were there are as they were, but for W and WR -/
def Ke (W WR : Nat → Nat → Prop) (h h1 : am_H) : Prop := hN h ≤ hN h1 ∧ (∀ a, a < hN h → hK h1 a = hK h a) ∧ (∀ a k, a < hN h → ¬ WR a k → hR h1 a k = hR h a k) ∧ (∀ a k, a < hN h → ¬ W a k → hI h1 a k = hI h a k) ∧ ∀ a k, a < hN h → ¬ W a k → hL h1 a k = hL h a k
def nW (_ _ : Nat) : Prop := False
theorem Ke_refl {W WR : Nat → Nat → Prop} (h : am_H) : Ke W WR h h := ⟨Nat.le_refl _, fun _ _ => rfl, fun _ _ _ _ => rfl, fun _ _ _ _ => rfl, fun _ _ _ _ => rfl⟩
theorem Ke_trans {W WR : Nat → Nat → Prop} (k1 : Ke W WR h h1) (k2 : Ke W WR h1 h2) : Ke W WR h h2 := ⟨Nat.le_trans k1.1 k2.1, fun a ha => (k2.2.1 a (Nat.lt_of_lt_of_le ha k1.1)).trans (k1.2.1 a ha), fun a k ha n => (k2.2.2.1 a k (Nat.lt_of_lt_of_le ha k1.1) n).trans (k1.2.2.1 a k ha n), fun a k ha n => (k2.2.2.2.1 a k (Nat.lt_of_lt_of_le ha k1.1) n).trans (k1.2.2.2.1 a k ha n), fun a k ha n => (k2.2.2.2.2 a k (Nat.lt_of_lt_of_le ha k1.1) n).trans (k1.2.2.2.2 a k ha n)⟩
theorem Ke_mono {W WR V VR : Nat → Nat → Prop} (w : ∀ a k, W a k → V a k) (wr : ∀ a k, WR a k → VR a k) (k1 : Ke W WR h h1) : Ke V VR h h1 := ⟨k1.1, k1.2.1, fun a k ha n => k1.2.2.1 a k ha (fun z => n (wr a k z)), fun a k ha n => k1.2.2.2.1 a k ha (fun z => n (w a k z)), fun a k ha n => k1.2.2.2.2 a k ha (fun z => n (w a k z))⟩
theorem Ke_g {W WR : Nat → Nat → Prop} (k : Kg W h h1) (r : hR h1 = hR h) : Ke W WR h h1 := ⟨by rw [k.1]; exact Nat.le_refl _, fun a _ => by rw [k.2.2.1], fun a j _ _ => by rw [r], fun a j _ n => k.2.2.2.2.1 a j n, fun a j _ n => k.2.2.2.2.2 a j n⟩
theorem Sh_al {kd : Nat × Nat} {sl : Nat} (hs : Sh h) : Sh (al h kd sl) := by
  obtain ⟨s1, s2, ⟨s3, s4⟩, s5⟩ := hs
  have K : ∀ b, hK (al h kd sl) b = if b = hN h then kd else hK h b := fun _ => rfl
  have R : ∀ b k, hR (al h kd sl) b k = if b = hN h then none else hR h b k := fun _ _ => rfl
  have N : hN (al h kd sl) = hN h + 1 := rfl
  have okn : ∀ x, am_okr h x [0, 1, 2, 3, 6, 7, 9] = true → am_okr (al h kd sl) x [0, 1, 2, 3, 6, 7, 9] = true := fun x hx => by
    cases x with
    | none => rfl
    | some v =>
      have hx' : decide ((hK h v).1 ∈ [0, 1, 2, 3, 6, 7, 9]) = true := hx
      have ne : v ≠ hN h := fun z => by
        have := s4 v (by omega)
        rw [this] at hx'
        exact absurd hx' (by decide)
      show decide ((hK (al h kd sl) v).1 ∈ [0, 1, 2, 3, 6, 7, 9]) = true
      rw [K, if_neg ne]; exact hx'
  refine ⟨fun a h1 h2 => ?_, fun a k r e => ?_, ⟨by rw [N]; omega, fun a ha => ?_⟩, fun k hk => ?_⟩
  · rw [K, if_neg (by omega)]; exact s1 a h1 h2
  · have lt : a < 262 := by
      by_cases y : a < 262
      · exact y
      · rw [shR_hi (by omega)] at e; cases e
    rw [R, if_neg (by omega)]; exact s2 a k r e
  · rw [N] at ha
    rw [K, if_neg (by omega)]; exact s4 a (by omega)
  · have := s5 k hk
    rw [R, if_neg (by omega), R, if_neg (by omega)]
    exact ⟨okn _ this.1, okn _ this.2⟩
theorem Sh_pRr {a j : Nat} {v : Option Nat} (hs : Sh h) (n : shR a j = none) (h37 : a ≠ 37) (h147 : a ≠ 147) : Sh (pR h a j v) := by
  obtain ⟨s1, s2, s3, s5⟩ := hs
  refine ⟨s1, fun b k r e => ?_, s3, fun k hk => ?_⟩
  · rw [hR_pR, if_neg (fun z => by rw [z.1, z.2, n] at e; cases e)]; exact s2 b k r e
  · have := s5 k hk
    rw [hR_pR, if_neg (fun z => h37 z.1.symm), hR_pR, if_neg (fun z => h147 z.1.symm)]
    exact this
/-- a new row of ints -/
def aW (h : am_H) (n : Nat) (g : Nat → Int32) : am_H := pIs (al h (100, n) n) (hN h) g
theorem aW_N {n : Nat} {g : Nat → Int32} : hN (aW h n g) = hN h + 1 := rfl
theorem aW_S {n : Nat} {g : Nat → Int32} : hSl (aW h n g) = hSl h + n := rfl
theorem aW_K {n b : Nat} {g : Nat → Int32} : hK (aW h n g) b = if b = hN h then (100, n) else hK h b := rfl
theorem aW_R {n b k : Nat} {g : Nat → Int32} : hR (aW h n g) b k = if b = hN h then none else hR h b k := rfl
theorem aW_I {n b k : Nat} {g : Nat → Int32} : hI (aW h n g) b k = if b = hN h then g k else hI h b k := by
  show (if b = hN h then g k else if b = hN h then 0 else hI h b k) = _
  by_cases y : b = hN h
  · rw [if_pos y, if_pos y]
  · rw [if_neg y, if_neg y, if_neg y]
theorem aW_L {n b k : Nat} {g : Nat → Int32} : hL (aW h n g) b k = if b = hN h then 0 else hL h b k := rfl
theorem aW_Sh {n : Nat} {g : Nat → Int32} (hs : Sh h) : Sh (aW h n g) := Sh_al (kd := (100, n)) (sl := n) hs
theorem D110a {a : Nat} (ha : a = 250 ∨ a = 251) (hs : Sh h) {n : Nat} (n8 : n ≤ 8) : ∃ g : Nat → Int32, am_D 110 [vr (some a), vi (ni n)] h = some (some (vr (some (hN h))), aW h n g) ∧ ∀ j, j < n → g j = hI h a j := by
  have N := hs.2.2.1.1
  have sa : Sh (al h (100, n) n) := Sh_al hs
  have Kn : hK (al h (100, n) n) (hN h) = (100, n) := if_pos rfl
  have Ia : ∀ k, hI (al h (100, n) n) a k = hI h a k := fun k => if_neg (by omega)
  have lt0 : ¬ ni n < 0 := by rw [show (0 : Int32) = ni 0 from rfl, ni_lt (by omega) (by omega)]; omega
  have n10 : n ≤ 10000 := by omega
  rcases ha with rfl | rfl
  · have K0 : hK (al h (100, n) n) 250 = (100, 8) := (if_neg (by omega)).trans (sk hs 250 (100, 8) rfl)
    by_cases y : n = 8
    · subst y
      refine ⟨hI h 250, ?_, fun j _ => rfl⟩
      rw [d_110 hs, if_pos (show ni 8 = Int32.ofNat 8 from rfl), e_110_10 (show Sh (pIs (al h (100, 8) 8) (hN h) (hI h 250)) from sa)]
      refine Eq.trans (if_pos ?_) rfl
      exact ⟨by show (hK (al h (100, 8) 8) (hN h)).1 = 100; rw [Kn], by omega⟩
    · refine ⟨va_cpy (hI (al h (100, n) n) 250) (hI (al h (100, n) n) (hN h)) (0 : Int32).toNatClampNeg (0 : Int32).toNatClampNeg n, ?_, fun j hj => ?_⟩
      have m : (if ni n < Int32.ofNat 8 then ni n else Int32.ofNat 8) = ni n := if_pos (show ni n < ni 8 by rw [ni_lt (by omega) (by omega)]; omega)
      · rw [d_110 hs, if_neg (show ¬ ni n = Int32.ofNat 8 by show ¬ ni n = ni 8; rw [ni_eq (by omega) (by omega)]; exact y), if_neg lt0, ni_nn (by omega), if_pos n10, e_110_17_1 sa, m, ni_nn (by omega)]
        refine Eq.trans (if_pos ?_) rfl
        exact ⟨by rw [K0], by rw [Kn], by omega, by decide, by decide, by decide, lt0, by rw [K0]; show 0 + n ≤ 8; omega, by rw [Kn]; show 0 + n ≤ n; omega⟩
      · have v := vac (f := hI (al h (100, n) n) 250) (g := hI (al h (100, n) n) (hN h)) (show n < 2147483648 by omega) hj
        rw [ni_nn (show n < 2147483648 by omega)] at v
        exact v.trans (Ia j)
  · have K0 : hK (al h (100, n) n) 251 = (100, 8) := (if_neg (by omega)).trans (sk hs 251 (100, 8) rfl)
    by_cases y : n = 8
    · subst y
      refine ⟨hI h 251, ?_, fun j _ => rfl⟩
      rw [d_110_1 hs, if_pos (show ni 8 = Int32.ofNat 8 from rfl), e_110_10 (show Sh (pIs (al h (100, 8) 8) (hN h) (hI h 251)) from sa)]
      refine Eq.trans (if_pos ?_) rfl
      exact ⟨by show (hK (al h (100, 8) 8) (hN h)).1 = 100; rw [Kn], by omega⟩
    · refine ⟨va_cpy (hI (al h (100, n) n) 251) (hI (al h (100, n) n) (hN h)) (0 : Int32).toNatClampNeg (0 : Int32).toNatClampNeg n, ?_, fun j hj => ?_⟩
      have m : (if ni n < Int32.ofNat 8 then ni n else Int32.ofNat 8) = ni n := if_pos (show ni n < ni 8 by rw [ni_lt (by omega) (by omega)]; omega)
      · rw [d_110_1 hs, if_neg (show ¬ ni n = Int32.ofNat 8 by show ¬ ni n = ni 8; rw [ni_eq (by omega) (by omega)]; exact y), if_neg lt0, ni_nn (by omega), if_pos n10, e_110_17 sa, m, ni_nn (by omega)]
        refine Eq.trans (if_pos ?_) rfl
        exact ⟨by rw [K0], by rw [Kn], by omega, by decide, by decide, by decide, lt0, by rw [K0]; show 0 + n ≤ 8; omega, by rw [Kn]; show 0 + n ≤ n; omega⟩
      · have v := vac (f := hI (al h (100, n) n) 251) (g := hI (al h (100, n) n) (hN h)) (show n < 2147483648 by omega) hj
        rw [ni_nn (show n < 2147483648 by omega)] at v
        exact v.trans (Ia j)
/-- what a row's constructor writes -/
def rwH (h : am_H) (a : Nat) (r n wd : Int32) (w l : Nat) : am_H := pR (pR (pI (pI (pI h a 0 r) a 1 n) a 2 wd) a 3 (some w)) a 4 (some l)
theorem rwH_Sh {a w l : Nat} {r n wd : Int32} (ha : 303 ≤ a) (hs : Sh h) : Sh (rwH h a r n wd w l) := Sh_pRr (Sh_pRr (h := pI (pI (pI h a 0 r) a 1 n) a 2 wd) hs (shR_hi (by omega)) (by omega) (by omega)) (shR_hi (by omega)) (by omega) (by omega)
theorem D111 (hs : Sh h) {a w l n : Nat} {r wd : Int32} (ha : 303 ≤ a) (hm : (hK h a).1 ∈ ([0, 1, 2, 3, 6, 7, 9] : List Nat)) (hw : hK h w = (100, n)) : am_D 111 [vr (some a), vi r, vi wd, vr (some w), vr (some l)] h = some (none, rwH h a r (ni n) wd w l) := by
  have hn : Int32.ofNat (hK (pI h a 0 r) w).2 = ni n := by show Int32.ofNat (hK h w).2 = ni n; rw [hw]; rfl
  have s1 : Sh (pR (pI (pI (pI h a 0 r) a 1 (ni n)) a 2 wd) a 3 (some w)) := Sh_pRr (h := pI (pI (pI h a 0 r) a 1 (ni n)) a 2 wd) hs (shR_hi (by omega)) (by omega) (by omega)
  rw [d_111 hs]
  refine (if_pos hm).trans ((if_pos (Or.inl (by show (hK h w).1 = 100; rw [hw]))).trans ((if_pos hm).trans ((if_pos hm).trans ((if_pos hm).trans ?_))))
  rw [hn, e_111_25 s1]
  refine (if_pos hm).trans ?_
  exact e_111_31 (rwH_Sh ha hs)
theorem D11x (hs : Sh h) {a w l n : Nat} {r wd : Int32} (ha : 303 ≤ a) (hm : (hK h a).1 ∈ ([0, 1, 2, 3, 6, 7, 9] : List Nat)) (hw : hK h w = (100, n)) : ∀ y, 111 ≤ y → y ≤ 117 → am_D y [vr (some a), vi r, vi wd, vr (some w), vr (some l)] h = some (none, rwH h a r (ni n) wd w l) := by
  have s2 : Sh (rwH h a r (ni n) wd w l) := rwH_Sh ha hs
  have e1 := D111 (r := r) (wd := wd) (l := l) hs ha hm hw
  have e2 : am_D 112 [vr (some a), vi r, vi wd, vr (some w), vr (some l)] h = some (none, rwH h a r (ni n) wd w l) := by
    rw [d_112 hs, e1]
    simp only [Option.bind_some, Option.toList_none, List.nil_append]
    exact e_112_9 s2
  have e3 : am_D 113 [vr (some a), vi r, vi wd, vr (some w), vr (some l)] h = some (none, rwH h a r (ni n) wd w l) := by
    rw [d_113 hs, e1]
    simp only [Option.bind_some, Option.toList_none, List.nil_append]
    exact e_113_9 s2
  have e4 : am_D 114 [vr (some a), vi r, vi wd, vr (some w), vr (some l)] h = some (none, rwH h a r (ni n) wd w l) := by
    rw [d_114 hs, e3]
    simp only [Option.bind_some, Option.toList_none, List.nil_append]
    exact e_114_9 s2
  have e5 : am_D 115 [vr (some a), vi r, vi wd, vr (some w), vr (some l)] h = some (none, rwH h a r (ni n) wd w l) := by
    rw [d_115 hs, e1]
    simp only [Option.bind_some, Option.toList_none, List.nil_append]
    exact e_115_9 s2
  have e6 : am_D 116 [vr (some a), vi r, vi wd, vr (some w), vr (some l)] h = some (none, rwH h a r (ni n) wd w l) := by
    rw [d_116 hs, e1]
    simp only [Option.bind_some, Option.toList_none, List.nil_append]
    exact e_116_9 s2
  have e7 : am_D 117 [vr (some a), vi r, vi wd, vr (some w), vr (some l)] h = some (none, rwH h a r (ni n) wd w l) := by
    rw [d_117 hs, e6]
    simp only [Option.bind_some, Option.toList_none, List.nil_append]
    exact e_117_9 s2
  intro y y1 y2
  have c : y = 111 ∨ y = 112 ∨ y = 113 ∨ y = 114 ∨ y = 115 ∨ y = 116 ∨ y = 117 := by omega
  rcases c with rfl | rfl | rfl | rfl | rfl | rfl | rfl
  · exact e1
  · exact e2
  · exact e3
  · exact e4
  · exact e5
  · exact e6
  · exact e7
/-- a row of men in three cells from N on: its men, its links, itself -/
def RwA (h : am_H) (N r κ n wd : Nat) (wh lk : Nat → Nat) : Prop := hK h N = (100, n) ∧ hK h (N + 1) = (100, n) ∧ hK h (N + 2) = (kt κ, 0) ∧ hR h (N + 2) 3 = some N ∧ hR h (N + 2) 4 = some (N + 1) ∧ hI h (N + 2) 0 = ni r ∧ hI h (N + 2) 1 = ni n ∧ hI h (N + 2) 2 = ni wd ∧ ∀ j, j < n → hI h N j = ni (wh j) ∧ hI h (N + 1) j = ni (lk j)
theorem RwA_ke {W WR : Nat → Nat → Prop} {N r κ n wd : Nat} {wh lk : Nat → Nat} (k : Ke W WR h h1) (w : ∀ a j, W a j → a < 303) (wr : ∀ a j, WR a j → a < 303) (h3 : 303 ≤ N) (lt : N + 2 < hN h) (x : RwA h N r κ n wd wh lk) : RwA h1 N r κ n wd wh lk := by
  obtain ⟨x1, x2, x3, x4, x5, x6, x7, x8, x9⟩ := x
  have nw : ∀ a j, 303 ≤ a → ¬ W a j := fun a j ha z => by have := w a j z; omega
  have nwr : ∀ a j, 303 ≤ a → ¬ WR a j := fun a j ha z => by have := wr a j z; omega
  refine ⟨(k.2.1 _ (by omega)).trans x1, (k.2.1 _ (by omega)).trans x2, (k.2.1 _ (by omega)).trans x3, (k.2.2.1 _ _ (by omega) (nwr _ _ (by omega))).trans x4, (k.2.2.1 _ _ (by omega) (nwr _ _ (by omega))).trans x5, (k.2.2.2.1 _ _ (by omega) (nw _ _ (by omega))).trans x6, (k.2.2.2.1 _ _ (by omega) (nw _ _ (by omega))).trans x7, (k.2.2.2.1 _ _ (by omega) (nw _ _ (by omega))).trans x8, fun j hj => ⟨?_, ?_⟩⟩
  · exact (k.2.2.2.1 _ _ (by omega) (nw _ _ (by omega))).trans (x9 j hj).1
  · exact (k.2.2.2.1 _ _ (by omega) (nw _ _ (by omega))).trans (x9 j hj).2
theorem kt_in : ∀ κ, κ < 7 → kt κ ∈ ([0, 1, 2, 3, 6, 7, 9] : List Nat) := by decide
theorem D118k (hs : Sh h) {κ n w l : Nat} {r wd : Int32} {o0 o1 o4 : Option am_V} (hκ : κ ≤ 6) (lw : w < hN h) (hw : hK h w = (100, n)) : am_E 118 (am_tg 1 [60, 74, 88, 102, 116, 130] 144 (ni κ), [o0, o1, some (vi r), some (vi wd), o4, some (vr (some w)), some (vr (some l))], [], h) = some (some (vr (some (hN h))), rwH (al h (kt κ, 0) 5) (hN h) r (ni n) wd w l) := by
  have N := hs.2.2.1.1
  have go : ∀ q y, q ∈ ([0, 1, 2, 3, 6, 7, 9] : List Nat) → 111 ≤ y → y ≤ 117 → Sh (al h (q, 0) 5) ∧ Sh (rwH (al h (q, 0) 5) (hN h) r (ni n) wd w l) ∧ am_D y [vr (some (hN h)), vi r, vi wd, vr (some w), vr (some l)] (al h (q, 0) 5) = some (none, rwH (al h (q, 0) 5) (hN h) r (ni n) wd w l) := fun q y hq y1 y2 => by
    have s3 : Sh (al h (q, 0) 5) := Sh_al hs
    have K3 : ∀ b, hK (al h (q, 0) 5) b = if b = hN h then (q, 0) else hK h b := fun _ => rfl
    exact ⟨s3, rwH_Sh N s3, D11x s3 N (by rw [K3, if_pos rfl]; exact hq) (by rw [K3, if_neg (by omega)]; exact hw) y y1 y2⟩
  have c : κ = 0 ∨ κ = 1 ∨ κ = 2 ∨ κ = 3 ∨ κ = 4 ∨ κ = 5 ∨ κ = 6 := by omega
  rcases c with rfl | rfl | rfl | rfl | rfl | rfl | rfl
  · obtain ⟨s3, s4, d⟩ := go 7 111 (by decide) (by omega) (by omega)
    show am_E 118 (144, _, [], h) = some (some (vr (some (hN h))), rwH (al h (7, 0) 5) (hN h) r (ni n) wd w l)
    rw [e_118_144 hs, e_118_147 s3, d]
    simp only [Option.bind_some, Option.toList_none, List.nil_append]
    exact e_118_157 s4
  · obtain ⟨s3, s4, d⟩ := go 9 112 (by decide) (by omega) (by omega)
    show am_E 118 (60, _, [], h) = some (some (vr (some (hN h))), rwH (al h (9, 0) 5) (hN h) r (ni n) wd w l)
    rw [e_118_60 hs, e_118_63 s3, d]
    simp only [Option.bind_some, Option.toList_none, List.nil_append]
    exact e_118_73 s4
  · obtain ⟨s3, s4, d⟩ := go 0 113 (by decide) (by omega) (by omega)
    show am_E 118 (74, _, [], h) = some (some (vr (some (hN h))), rwH (al h (0, 0) 5) (hN h) r (ni n) wd w l)
    rw [e_118_74 hs, e_118_77 s3, d]
    simp only [Option.bind_some, Option.toList_none, List.nil_append]
    exact e_118_87 s4
  · obtain ⟨s3, s4, d⟩ := go 1 114 (by decide) (by omega) (by omega)
    show am_E 118 (88, _, [], h) = some (some (vr (some (hN h))), rwH (al h (1, 0) 5) (hN h) r (ni n) wd w l)
    rw [e_118_88 hs, e_118_91 s3, d]
    simp only [Option.bind_some, Option.toList_none, List.nil_append]
    exact e_118_101 s4
  · obtain ⟨s3, s4, d⟩ := go 2 115 (by decide) (by omega) (by omega)
    show am_E 118 (102, _, [], h) = some (some (vr (some (hN h))), rwH (al h (2, 0) 5) (hN h) r (ni n) wd w l)
    rw [e_118_102 hs, e_118_105 s3, d]
    simp only [Option.bind_some, Option.toList_none, List.nil_append]
    exact e_118_115 s4
  · obtain ⟨s3, s4, d⟩ := go 6 116 (by decide) (by omega) (by omega)
    show am_E 118 (116, _, [], h) = some (some (vr (some (hN h))), rwH (al h (6, 0) 5) (hN h) r (ni n) wd w l)
    rw [e_118_116 hs, e_118_119 s3, d]
    simp only [Option.bind_some, Option.toList_none, List.nil_append]
    exact e_118_129 s4
  · obtain ⟨s3, s4, d⟩ := go 3 117 (by decide) (by omega) (by omega)
    show am_E 118 (130, _, [], h) = some (some (vr (some (hN h))), rwH (al h (3, 0) 5) (hN h) r (ni n) wd w l)
    rw [e_118_130 hs, e_118_133 s3, d]
    simp only [Option.bind_some, Option.toList_none, List.nil_append]
    exact e_118_143 s4
/-- one cell more -/
def One (h h1 : am_H) (kdn : Nat × Nat) (sl : Nat) (fI' : Nat → Int32) (fR : Nat → Option Nat) : Prop := Sh h1 ∧ hN h1 = hN h + 1 ∧ hSl h1 = hSl h + sl ∧ (∀ b, hK h1 b = if b = hN h then kdn else hK h b) ∧ (∀ b k, hR h1 b k = if b = hN h then fR k else hR h b k) ∧ (∀ b k, hI h1 b k = if b = hN h then fI' k else hI h b k) ∧ ∀ b k, hL h1 b k = if b = hN h then 0 else hL h b k
theorem One_aW {n : Nat} {g : Nat → Int32} (hs : Sh h) : One h (aW h n g) (100, n) n g (fun _ => none) := ⟨aW_Sh hs, aW_N, aW_S, fun _ => aW_K, fun _ _ => aW_R, fun _ _ => aW_I, fun _ _ => aW_L⟩
def rwI (r n wd : Int32) (k : Nat) : Int32 := if k = 2 then wd else if k = 1 then n else if k = 0 then r else 0
def rwR (w l : Nat) (k : Nat) : Option Nat := if k = 4 then some l else if k = 3 then some w else none
theorem One_rw {q w l : Nat} {r n wd : Int32} (N : 303 ≤ hN h) (hs : Sh h) : One h (rwH (al h (q, 0) 5) (hN h) r n wd w l) (q, 0) 5 (rwI r n wd) (rwR w l) := by
  refine ⟨rwH_Sh N (Sh_al hs), rfl, rfl, fun _ => rfl, fun b k => ?_, fun b k => ?_, fun _ _ => rfl⟩
  · unfold rwH rwR
    rw [hR_pR, hR_pR]
    show (if b = hN h ∧ k = 4 then some l else if b = hN h ∧ k = 3 then some w else if b = hN h then none else hR h b k) = _
    by_cases y : b = hN h
    · rw [if_pos y]
      by_cases y4 : k = 4
      · rw [if_pos ⟨y, y4⟩, if_pos y4, if_pos y]
      · rw [if_neg (fun z => y4 z.2), if_neg y4]
        by_cases y3 : k = 3
        · rw [if_pos ⟨y, y3⟩, if_pos y3, if_pos y]
        · rw [if_neg (fun z => y3 z.2), if_neg y3, if_pos y]
    · rw [if_neg (fun z => y z.1), if_neg (fun z => y z.1), if_neg y, if_neg y]
  · unfold rwI
    show (if b = hN h ∧ k = 2 then wd else if b = hN h ∧ k = 1 then n else if b = hN h ∧ k = 0 then r else if b = hN h then 0 else hI h b k) = _
    by_cases y : b = hN h
    · rw [if_pos y]
      by_cases y2 : k = 2
      · rw [if_pos ⟨y, y2⟩, if_pos y2, if_pos y]
      · rw [if_neg (fun z => y2 z.2), if_neg y2]
        by_cases y1 : k = 1
        · rw [if_pos ⟨y, y1⟩, if_pos y1, if_pos y]
        · rw [if_neg (fun z => y1 z.2), if_neg y1]
          by_cases y0 : k = 0
          · rw [if_pos ⟨y, y0⟩, if_pos y0, if_pos y]
          · rw [if_neg (fun z => y0 z.2), if_neg y0, if_pos y]
    · rw [if_neg (fun z => y z.1), if_neg (fun z => y z.1), if_neg (fun z => y z.1), if_neg y, if_neg y]
theorem D110e {a : Nat} (ha : a = 250 ∨ a = 251) (hs : Sh h) {n : Nat} (n8 : n ≤ 8) : ∃ H, ∃ g : Nat → Int32, am_D 110 [vr (some a), vi (ni n)] h = some (some (vr (some (hN h))), H) ∧ One h H (100, n) n g (fun _ => none) ∧ ∀ j, j < n → g j = hI h a j := by
  obtain ⟨g, d, e⟩ := D110a ha hs n8
  exact ⟨_, g, d, One_aW hs, e⟩
theorem D118e (hs : Sh h) {κ n w l : Nat} {r wd : Int32} {o0 o1 o4 : Option am_V} (hκ : κ ≤ 6) (lw : w < hN h) (hw : hK h w = (100, n)) : ∃ H, am_E 118 (am_tg 1 [60, 74, 88, 102, 116, 130] 144 (ni κ), [o0, o1, some (vi r), some (vi wd), o4, some (vr (some w)), some (vr (some l))], [], h) = some (some (vr (some (hN h))), H) ∧ One h H (kt κ, 0) 5 (rwI r (ni n) wd) (rwR w l) := ⟨_, D118k hs hκ lw hw, One_rw hs.2.2.1.1 hs⟩
theorem D118 (hs : Sh h) {κ r wd n : Nat} (hκ : κ ≤ 6) (n8 : n ≤ 8) {wh lk : Nat → Nat} (g : ∀ j, j < n → hI h 250 j = ni (wh j) ∧ hI h 251 j = ni (lk j)) : ∃ h1, am_D 118 [vr (some 248), vi (ni κ), vi (ni r), vi (ni wd), vi (ni n)] h = some (some (vr (some (hN h + 2))), h1) ∧ Sh h1 ∧ Ke nW nW h h1 ∧ hN h1 = hN h + 3 ∧ hSl h1 = hSl h + n + n + 5 ∧ RwA h1 (hN h) r κ n wd wh lk := by
  have N := hs.2.2.1.1
  obtain ⟨A, g1, d1, ⟨s1, n1, l1, K1, R1, I1, J1⟩, e1⟩ := D110e (Or.inl rfl) hs n8
  obtain ⟨B, g2, d2, ⟨s2, n2, l2, K2, R2, I2, J2⟩, e2⟩ := D110e (Or.inr rfl) s1 n8
  obtain ⟨C, d3, s3, n3, l3, K3, R3, I3, J3⟩ := D118e (κ := κ) (n := n) (w := hN h) (l := hN h + 1) (r := ni r) (wd := ni wd) (o0 := some (vr (some 248))) (o1 := some (vi (ni κ))) (o4 := some (vi (ni n))) s2 hκ (by omega) (by rw [K2, if_neg (by omega), K1, if_pos rfl])
  refine ⟨C, ?_, s3, ?_, by omega, by omega, ?_⟩
  · rw [d_118 hs, d1]
    simp only [Option.bind_some, Option.toList_some, List.cons_append, List.nil_append]
    rw [e_118_9 s1, d2]
    simp only [Option.bind_some, Option.toList_some, List.cons_append, List.nil_append]
    rw [e_118_20 s2, n1, d3, n2, n1]
  · refine ⟨by omega, fun a ha => ?_, fun a k ha _ => ?_, fun a k ha _ => ?_, fun a k ha _ => ?_⟩
    · rw [K3, if_neg (by omega), K2, if_neg (by omega), K1, if_neg (by omega)]
    · rw [R3, if_neg (by omega), R2, if_neg (by omega), R1, if_neg (by omega)]
    · rw [I3, if_neg (by omega), I2, if_neg (by omega), I1, if_neg (by omega)]
    · rw [J3, if_neg (by omega), J2, if_neg (by omega), J1, if_neg (by omega)]
  · have c2 : hN h + 2 = hN B := by omega
    have c1 : hN h + 1 = hN A := by omega
    refine ⟨?_, ?_, ?_, ?_, ?_, ?_, ?_, ?_, fun j hj => ⟨?_, ?_⟩⟩
    · rw [K3, if_neg (by omega), K2, if_neg (by omega), K1, if_pos rfl]
    · rw [K3, if_neg (by omega), K2, if_pos c1]
    · rw [K3, if_pos c2]
    · rw [R3, if_pos c2]; rfl
    · rw [R3, if_pos c2]; rfl
    · rw [I3, if_pos c2]; rfl
    · rw [I3, if_pos c2]; rfl
    · rw [I3, if_pos c2]; rfl
    · rw [I3, if_neg (by omega), I2, if_neg (by omega), I1, if_pos rfl, e1 j hj]; exact (g j hj).1
    · rw [I3, if_neg (by omega), I2, if_pos c1, e2 j hj, I1, if_neg (by omega)]; exact (g j hj).2
end ALC
