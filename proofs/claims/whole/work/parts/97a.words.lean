/-! texts: words -/
def wof (w : Nat) : Nat := [0, 5, 11, 20, 26, 35, 41, 47, 54, 60, 67, 72, 79, 84, 90, 97, 102, 110, 116, 124, 130, 137, 144, 152, 159].getD w 0
def wln (w : Nat) : Nat := [4, 5, 8, 5, 8, 5, 5, 6, 5, 6, 4, 6, 4, 5, 6, 4, 7, 5, 7, 5, 6, 6, 7, 6].getD w 0
def wch (w j : Nat) : Nat := wt.getD (wof w + j) 0
theorem wt_len : wt.length = 159 := by decide +kernel
theorem w_tab : ∀ w, w < 24 → wof w + wln w < 159 ∧ wt.getD (wof w + wln w) 0 = 0 ∧ wof (w + 1) = wof w + wln w + 1 ∧ wln w ≤ 8 ∧ 0 < wln w := by decide +kernel
theorem w_ch : ∀ w, w < 24 → ∀ j, j < 8 → j < wln w → wch w j ≠ 0 ∧ wch w j ≠ 46 ∧ wch w j < 256 := by decide +kernel
/-- the class's lists: their first words, their ends -/
def sbg (k : Nat) : Nat := [0, 14, 20, 20, 23].getD k 0
def snd' (k : Nat) : Nat := [14, 20, 23, 24, 24].getD k 0
def chv (k i : Nat) : Int32 := (((am_byt k).getD i 0 &&& 255).toUInt32 % 65536).toInt32
theorem s_len : ∀ k, k < 5 → (am_byt k).length = wof (snd' k) - wof (sbg k) ∧ snd' k ≤ 24 ∧ sbg k < snd' k ∧ (Int32.ofNat (am_byt k).length >>> ((0 : Int32) &&& 31)) = ni (wof (snd' k) - wof (sbg k)) := by decide +kernel
theorem s_mon : ∀ v, v < 25 → ∀ w, w < 25 → v < w → wof v < wof w := by decide +kernel
theorem s_ch1 : ∀ k, k < 5 → ∀ w, w < 24 → ∀ j, j < 8 → (sbg k ≤ w ∧ w < snd' k ∧ j < wln w) → chv k (wof w - wof (sbg k) + j) = ni (wch w j) := by decide +kernel
theorem s_ch2 : ∀ k, k < 5 → ∀ w, w < 24 → (sbg k ≤ w ∧ w < snd' k) → chv k (wof w - wof (sbg k) + wln w) = ni 46 := by decide +kernel
theorem s_ch : ∀ k, k < 5 → ∀ w, w < 24 → sbg k ≤ w → w < snd' k → (∀ j, j < 8 → j < wln w → chv k (wof w - wof (sbg k) + j) = ni (wch w j)) ∧ chv k (wof w - wof (sbg k) + wln w) = ni 46 := fun k hk w hw a b => ⟨fun j h1 h2 => s_ch1 k hk w hw j h1 ⟨a, b, h2⟩, s_ch2 k hk w hw ⟨a, b⟩⟩
theorem s_nar : ∀ k, k < 5 → ∀ i, i < 100 → i < (am_byt k).length → narrow FieldType.char (.int (chv k i)) = .int (chv k i) := by decide +kernel
theorem s_100 : ∀ k, k < 5 → (am_byt k).length < 100 := by decide +kernel
/-- how far a word stands at p -/
def mlr (c : Nat → Int32) (z p w : Nat) : Nat → Nat → Nat
  | 0, j => j
  | m + 1, j => if (decide (p + j < z) && decide (c (p + j) = ni (wch w j))) = true then mlr c z p w m (j + 1) else j
def ml (c : Nat → Int32) (z p w : Nat) : Nat := mlr c z p w (wln w) 0
/-- which of m words from w on stands at p: where not, what came furthest -/
def wdx (c : Nat → Int32) (z p : Nat) : Nat → Nat → Nat → Nat ⊕ (Nat × Nat)
  | 0, _, F => .inl (p + F)
  | m + 1, w, F => if ml c z p w = wln w then .inr (w, p + wln w) else wdx c z p m (w + 1) (mx F (ml c z p w))
theorem mlr_s {c : Nat → Int32} {z p w m j : Nat} : mlr c z p w (m + 1) j = if (decide (p + j < z) && decide (c (p + j) = ni (wch w j))) = true then mlr c z p w m (j + 1) else j := rfl
theorem wdx_s {c : Nat → Int32} {z p m w F : Nat} : wdx c z p (m + 1) w F = if ml c z p w = wln w then .inr (w, p + wln w) else wdx c z p m (w + 1) (mx F (ml c z p w)) := rfl
theorem mlr_b {c : Nat → Int32} {z p w : Nat} : ∀ m j, j ≤ mlr c z p w m j ∧ mlr c z p w m j ≤ j + m ∧ (p + j ≤ z → p + mlr c z p w m j ≤ z)
  | 0, j => ⟨Nat.le_refl _, Nat.le_refl _, id⟩
  | m + 1, j => by
    rw [mlr_s]
    by_cases y : (decide (p + j < z) && decide (c (p + j) = ni (wch w j))) = true
    · rw [if_pos y]
      have ih := mlr_b (c := c) (z := z) (p := p) (w := w) m (j + 1)
      rw [Bool.and_eq_true] at y
      have := of_decide_eq_true y.1
      exact ⟨by omega, by omega, fun _ => ih.2.2 (by omega)⟩
    · rw [if_neg y]
      exact ⟨Nat.le_refl _, by omega, id⟩
theorem wdx_b {c : Nat → Int32} {z p : Nat} (hp : p ≤ z) : ∀ m w F, w + m ≤ 24 → p + F ≤ z → match wdx c z p m w F with
    | .inl q => p ≤ q ∧ q ≤ z
    | .inr (v, q) => w ≤ v ∧ v < w + m ∧ p < q ∧ q ≤ z
  | 0, w, F, _, hF => by show p ≤ p + F ∧ p + F ≤ z; omega
  | m + 1, w, F, hw, hF => by
    have b := mlr_b (c := c) (z := z) (p := p) (w := w) (wln w) 0
    have b' : ml c z p w = mlr c z p w (wln w) 0 := rfl
    have t := w_tab w (by omega)
    rw [wdx_s]
    by_cases y : ml c z p w = wln w
    · rw [if_pos y]
      show w ≤ w ∧ w < w + (m + 1) ∧ p < p + wln w ∧ p + wln w ≤ z
      omega
    · rw [if_neg y]
      have ih := wdx_b (c := c) (z := z) (p := p) hp m (w + 1) (mx F (ml c z p w)) (by omega) (by unfold mx; split <;> omega)
      revert ih
      cases wdx c z p m (w + 1) (mx F (ml c z p w)) with
      | inl q => exact id
      | inr x => exact fun ih => ⟨by have := ih.1; omega, by have := ih.2.1; omega, ih.2.2⟩
section TXC
variable {h : am_H}
theorem D72 (hs : Sh h) {k : Nat} (hk : k < 5) : am_D 72 [vr (some (2 + k))] h = some (some (vi (ni (wof (snd' k) - wof (sbg k)))), h) := by
  have e71 : am_D 71 [vr (some (2 + k))] h = some (some (vi 0), h) := by
    rw [d_71 hs (show 2 ≤ 2 + k ∧ 2 + k < 7 by omega), if_neg (by decide), if_pos (by decide +kernel)]
  rw [d_72 hs (show 2 ≤ 2 + k ∧ 2 + k < 7 by omega), e71]
  simp only [Option.bind_some, Option.toList_some, List.cons_append, List.nil_append]
  rw [e_72_9 hs, show 2 + k - 2 = k by omega, (s_len k hk).2.2.2]
theorem D75 (hs : Sh h) {k i : Nat} (hk : k < 5) (hi : i < (am_byt k).length) : am_D 75 [vr (some (2 + k)), vi (ni i)] h = some (some (vi (chv k i)), h) := by
  have l100 := s_100 k hk
  have e73 : am_D 73 [vr (some (2 + k))] h = some (some (vi 1), h) := by
    rw [d_73 hs (show 2 ≤ 2 + k ∧ 2 + k < 7 by omega), if_neg (by decide), if_pos rfl]
  have e74 : am_D 74 [vr (some (2 + k + 5)), vi (ni i)] h = some (some (vi (chv k i)), h) := by
    rw [d_74 hs (show 7 ≤ 2 + k + 5 ∧ 2 + k + 5 < 12 by omega), show 2 + k + 5 - 7 = k by omega, if_pos (show (¬ ni i < 0 ∧ ni i < Int32.ofNat (am_byt k).length) ∧ am_cats [] ≤ 8 from ⟨⟨by rw [show (0 : Int32) = ni 0 from rfl, ni_lt (by omega) (by omega)]; omega, by show ni i < ni (am_byt k).length; rw [ni_lt (by omega) (by omega)]; exact hi⟩, by decide⟩), ixb _ hi (by omega)]
    exact if_pos (s_nar k hk i (by omega) hi)
  rw [d_75 hs (show 2 ≤ 2 + k ∧ 2 + k < 7 by omega), e73]
  simp only [Option.bind_some, Option.toList_some, List.cons_append, List.nil_append]
  rw [e_75_4 hs (show 2 ≤ 2 + k ∧ 2 + k < 7 by omega), if_neg (by decide), e74]
  simp only [Option.bind_some, Option.toList_some, List.cons_append, List.nil_append]
  rw [e_75_15 hs]
  exact if_pos (s_nar k hk i (by omega) hi)
/-- the letters that the class reads -/
def TX (h : am_H) (i : Nat) (c : Nat → Int32) (z : Nat) : Prop := hR h 248 1 = some (18 + i) ∧ i < 8 ∧ hI h 248 2 = ni z ∧ z ≤ 100 ∧ ∀ k, k < z → (hL h (18 + i) k).toInt32 = c k
variable {i : Nat} {c : Nat → Int32} {z : Nat}
/-- a letter that is no dot -/
theorem L77n (hs : Sh h) (t : TX h i c z) {p k num same fur x : Nat} {fits : Bool} {o7 : Option am_V} (hk : k < 5) (hx : x < (am_byt k).length) {ch : Nat} (hc : chv k x = ni ch) (h46 : ch ≠ 46) (h256 : ch < 256) (hp : hI h 248 3 = ni p) (hps : p + same ≤ 1000) (hsf : same ≤ fur) (hf : fur ≤ 1000) : am_E 77 (13, [some (vr (some 248)), some (vr (some (2 + k))), some (vi (ni num)), some (vi (ni same)), some (vi (ni fur)), some (vi (bi fits)), some (vi (ni x)), o7], [], h) = am_E 77 (13, [some (vr (some 248)), some (vr (some (2 + k))), some (vi (ni num)), some (vi (ni (if (fits && (decide (p + same < z) && decide (c (p + same) = ni ch))) = true then same + 1 else same))), some (vi (ni (mx fur (if (fits && (decide (p + same < z) && decide (c (p + same) = ni ch))) = true then same + 1 else same)))), some (vi (bi (fits && (decide (p + same < z) && decide (c (p + same) = ni ch))))), some (vi (ni (x + 1))), some (vi (ni ch))], [], h) := by
  have l100 := s_100 k hk
  have hk' : 2 ≤ 2 + k ∧ 2 + k < 7 := by omega
  obtain ⟨t1, t2, t3, t4, t5⟩ := t
  have b0 := e_77_13 (x2 := ni num) (x3 := ni same) (x4 := ni fur) (x5 := bi fits) (x6 := ni x) (o7 := o7) hs hk'
  rw [D72 hs hk] at b0
  simp only [Option.bind_some, Option.toList_some, List.cons_append, List.nil_append] at b0
  rw [e_77_19 hs hk', ← (s_len k hk).1, if_neg (show ¬ ni (am_byt k).length ≤ ni x by rw [ni_le (by omega) (by omega)]; omega), D75 hs hk hx] at b0
  simp only [Option.bind_some, Option.toList_some, List.cons_append, List.nil_append] at b0
  rw [e_77_28 hs hk', hc, if_neg (show ¬ ni ch = 46 by rw [show (46 : Int32) = ni 46 from rfl, ni_eq (by omega) (by omega)]; exact h46)] at b0
  have no : am_E 77 (76, [some (vr (some 248)), some (vr (some (2 + k))), some (vi (ni num)), some (vi (ni same)), some (vi (ni fur)), some (vi (bi fits)), some (vi (ni x)), some (vi (ni ch))], [], h) = am_E 77 (13, [some (vr (some 248)), some (vr (some (2 + k))), some (vi (ni num)), some (vi (ni same)), some (vi (ni (mx fur same))), some (vi (bi false)), some (vi (ni (x + 1))), some (vi (ni ch))], [], h) := by
    rw [e_77_76 hs hk', e_77_77 hs hk', if_pos rfl, e_77_91 hs hk', e_77_128 hs hk', ni_mx (by omega) (by omega), ni_add1]; rfl
  have yes : am_E 77 (77, [some (vr (some 248)), some (vr (some (2 + k))), some (vi (ni num)), some (vi (ni same)), some (vi (ni fur)), some (vi (bi fits)), some (vi (ni x)), some (vi (ni ch))], [vi 1], h) = am_E 77 (13, [some (vr (some 248)), some (vr (some (2 + k))), some (vi (ni num)), some (vi (ni (same + 1))), some (vi (ni (mx fur (same + 1)))), some (vi (bi true)), some (vi (ni (x + 1))), some (vi (ni ch))], [], h) := by
    rw [e_77_77 hs hk', if_neg (show ¬ (1 : Int32) = 0 by decide), e_77_91 hs hk', e_77_128 hs hk', ni_add1, ni_mx (by omega) (by omega), ni_add1]; rfl
  cases fits
  · rw [if_pos (show bi false = 0 from rfl)] at b0
    rw [Bool.false_and, if_neg (by decide)]
    exact b0.trans no
  · rw [if_neg (show ¬ bi true = 0 by decide), t3, hp, ni_add] at b0
    rw [Bool.true_and]
    by_cases y : p + same < z
    · rw [if_neg (show ¬ ni z ≤ ni (p + same) by rw [ni_le (by omega) (by omega)]; omega), t1, Option.bind_some, fq_18 hs t2, if_pos (show ((101 : Nat), (100 : Nat)).1 = 101 from rfl), ixb _ (show p + same < 100 by omega) (by omega), t5 _ y] at b0
      rw [decide_eq_true y, Bool.true_and]
      by_cases e : c (p + same) = ni ch
      · rw [if_pos e] at b0
        rw [decide_eq_true e, if_pos rfl]
        exact b0.trans yes
      · rw [if_neg e] at b0
        rw [decide_eq_false e, if_neg (by decide)]
        exact b0.trans no
    · rw [if_pos (show ni z ≤ ni (p + same) by rw [ni_le (by omega) (by omega)]; omega)] at b0
      rw [decide_eq_false y, Bool.false_and, if_neg (by decide)]
      exact b0.trans no
/-- the dot -/
theorem L77d (hs : Sh h) {p k num same fur x : Nat} {fits : Bool} {o7 : Option am_V} (hk : k < 5) (hx : x < (am_byt k).length) (hc : chv k x = ni 46) (hp : hI h 248 3 = ni p) : am_E 77 (13, [some (vr (some 248)), some (vr (some (2 + k))), some (vi (ni num)), some (vi (ni same)), some (vi (ni fur)), some (vi (bi fits)), some (vi (ni x)), o7], [], h) = if fits = true then some (some (vi (ni num)), pI h 248 3 (ni (p + same))) else am_E 77 (13, [some (vr (some 248)), some (vr (some (2 + k))), some (vi (ni (num + 1))), some (vi (ni 0)), some (vi (ni fur)), some (vi (bi true)), some (vi (ni (x + 1))), some (vi (ni 46))], [], h) := by
  have l100 := s_100 k hk
  have hk' : 2 ≤ 2 + k ∧ 2 + k < 7 := by omega
  have b0 := e_77_13 (x2 := ni num) (x3 := ni same) (x4 := ni fur) (x5 := bi fits) (x6 := ni x) (o7 := o7) hs hk'
  rw [D72 hs hk] at b0
  simp only [Option.bind_some, Option.toList_some, List.cons_append, List.nil_append] at b0
  rw [e_77_19 hs hk', ← (s_len k hk).1, if_neg (show ¬ ni (am_byt k).length ≤ ni x by rw [ni_le (by omega) (by omega)]; omega), D75 hs hk hx] at b0
  simp only [Option.bind_some, Option.toList_some, List.cons_append, List.nil_append] at b0
  rw [e_77_28 hs hk', hc, if_pos (show ni 46 = 46 from rfl), hp, ni_add] at b0
  cases fits
  · rw [if_pos (show bi false = 0 from rfl), e_77_128 hs hk', ni_add1, ni_add1] at b0
    rw [if_neg (by decide)]
    exact b0
  · rw [if_neg (show ¬ bi true = 0 by decide)] at b0
    rw [if_pos rfl]
    exact b0
theorem L77u (hs : Sh h) (t : TX h i c z) {p k num same fur w : Nat} (hk : k < 5) (hw : sbg k ≤ w) (hw2 : w < snd' k) (hp : hI h 248 3 = ni p) (hps : p + same ≤ 1000) (hsf : same ≤ fur) (hf : fur ≤ 1000) : ∀ m j (o7 : Option am_V), j + m = wln w → ∃ o7', am_E 77 (13, [some (vr (some 248)), some (vr (some (2 + k))), some (vi (ni num)), some (vi (ni same)), some (vi (ni fur)), some (vi (bi false)), some (vi (ni (wof w - wof (sbg k) + j))), o7], [], h) = am_E 77 (13, [some (vr (some 248)), some (vr (some (2 + k))), some (vi (ni (num + 1))), some (vi (ni 0)), some (vi (ni fur)), some (vi (bi true)), some (vi (ni (wof (w + 1) - wof (sbg k)))), o7'], [], h) := by
  have sl := s_len k hk
  have w24 : w < 24 := by omega
  have tw := w_tab w w24
  have sc := s_ch k hk w w24 hw hw2
  have mo : wof (sbg k) ≤ wof w := by
    by_cases e : sbg k = w
    · rw [e]; exact Nat.le_refl _
    · exact Nat.le_of_lt (s_mon (sbg k) (by omega) w (by omega) (by omega))
  have me : wof (w + 1) ≤ wof (snd' k) := by
    by_cases e : w + 1 = snd' k
    · rw [e]; exact Nat.le_refl _
    · exact Nat.le_of_lt (s_mon (w + 1) (by omega) (snd' k) (by omega) (by omega))
  intro m
  induction m with
  | zero =>
    intro j o7 hj
    have e : j = wln w := by omega
    subst e
    refine ⟨some (vi (ni 46)), (L77d hs hk (by omega) sc.2 hp).trans ?_⟩
    rw [if_neg (by decide), show wof w - wof (sbg k) + wln w + 1 = wof (w + 1) - wof (sbg k) by omega]
  | succ m ih =>
    intro j o7 hj
    have cj := w_ch w w24 j (by omega) (by omega)
    obtain ⟨o7', d⟩ := ih (j + 1) (some (vi (ni (wch w j)))) (by omega)
    refine ⟨o7', (L77n hs t hk (by omega) (sc.1 j (by omega) (by omega)) cj.2.1 cj.2.2 hp hps hsf hf).trans ?_⟩
    rw [Bool.false_and, if_neg (by decide), show mx fur same = fur by unfold mx; split <;> omega]
    exact d
theorem L77f (hs : Sh h) (t : TX h i c z) {p k num F w : Nat} (hk : k < 5) (hw : sbg k ≤ w) (hw2 : w < snd' k) (hp : hI h 248 3 = ni p) (hp2 : p ≤ 200) (hF : F ≤ 8) : ∀ m j (o7 : Option am_V), j + m = wln w → (mlr c z p w m j = wln w ∧ am_E 77 (13, [some (vr (some 248)), some (vr (some (2 + k))), some (vi (ni num)), some (vi (ni j)), some (vi (ni (mx F j))), some (vi (bi true)), some (vi (ni (wof w - wof (sbg k) + j))), o7], [], h) = some (some (vi (ni num)), pI h 248 3 (ni (p + wln w)))) ∨ (mlr c z p w m j ≠ wln w ∧ ∃ o7', am_E 77 (13, [some (vr (some 248)), some (vr (some (2 + k))), some (vi (ni num)), some (vi (ni j)), some (vi (ni (mx F j))), some (vi (bi true)), some (vi (ni (wof w - wof (sbg k) + j))), o7], [], h) = am_E 77 (13, [some (vr (some 248)), some (vr (some (2 + k))), some (vi (ni (num + 1))), some (vi (ni 0)), some (vi (ni (mx F (mlr c z p w m j)))), some (vi (bi true)), some (vi (ni (wof (w + 1) - wof (sbg k)))), o7'], [], h)) := by
  have sl := s_len k hk
  have w24 : w < 24 := by omega
  have tw := w_tab w w24
  have sc := s_ch k hk w w24 hw hw2
  have mo : wof (sbg k) ≤ wof w := by
    by_cases e : sbg k = w
    · rw [e]; exact Nat.le_refl _
    · exact Nat.le_of_lt (s_mon (sbg k) (by omega) w (by omega) (by omega))
  have me : wof (w + 1) ≤ wof (snd' k) := by
    by_cases e : w + 1 = snd' k
    · rw [e]; exact Nat.le_refl _
    · exact Nat.le_of_lt (s_mon (w + 1) (by omega) (snd' k) (by omega) (by omega))
  intro m
  induction m with
  | zero =>
    intro j o7 hj
    have e : j = wln w := by omega
    subst e
    exact Or.inl ⟨rfl, (L77d hs hk (by omega) sc.2 hp).trans (if_pos rfl)⟩
  | succ m ih =>
    intro j o7 hj
    have cj := w_ch w w24 j (by omega) (by omega)
    have mb : mx F j ≤ 8 ∧ j ≤ mx F j := by unfold mx; split <;> omega
    have st := L77n (num := num) (fits := true) (o7 := o7) hs t hk (show wof w - wof (sbg k) + j < (am_byt k).length by omega) (sc.1 j (by omega) (by omega)) cj.2.1 cj.2.2 hp (show p + j ≤ 1000 by omega) mb.2 (show mx F j ≤ 1000 by omega)
    rw [Bool.true_and] at st
    rw [mlr_s]
    by_cases y : (decide (p + j < z) && decide (c (p + j) = ni (wch w j))) = true
    · rw [if_pos y, y, show mx (mx F j) (j + 1) = mx F (j + 1) by unfold mx; split <;> split <;> (try split) <;> omega] at st
      rw [if_pos y]
      rcases ih (j + 1) (some (vi (ni (wch w j)))) (by omega) with ⟨a, b⟩ | ⟨a, o, b⟩
      · exact Or.inl ⟨a, st.trans b⟩
      · exact Or.inr ⟨a, o, st.trans b⟩
    · rw [if_neg y, Bool.eq_false_iff.mpr y, show mx (mx F j) j = mx F j from if_neg (by omega)] at st
      rw [if_neg y]
      obtain ⟨o, d⟩ := L77u (num := num) (same := j) (fur := mx F j) hs t hk hw hw2 hp (by omega) mb.2 (by omega) m (j + 1) (some (vi (ni (wch w j)))) (by omega)
      exact Or.inr ⟨by omega, o, st.trans d⟩
/-- what a list of words answers -/
def rsW (h : am_H) (b : Nat) : Nat ⊕ (Nat × Nat) → Option (Option am_V × am_H)
  | .inl q => some (some (vi (-ni 1)), pI h 248 0 (ni q))
  | .inr x => some (some (vi (ni (x.1 - b))), pI h 248 3 (ni x.2))
theorem L77 (hs : Sh h) (t : TX h i c z) {p k : Nat} (hk : k < 5) (hp : hI h 248 3 = ni p) (hp2 : p ≤ 200) : ∀ m w F (o7 : Option am_V), w + m = snd' k → sbg k ≤ w → F ≤ 8 → am_E 77 (13, [some (vr (some 248)), some (vr (some (2 + k))), some (vi (ni (w - sbg k))), some (vi (ni 0)), some (vi (ni F)), some (vi (bi true)), some (vi (ni (wof w - wof (sbg k)))), o7], [], h) = rsW h (sbg k) (wdx c z p m w F) := by
  have sl := s_len k hk
  have l100 := s_100 k hk
  have hk' : 2 ≤ 2 + k ∧ 2 + k < 7 := by omega
  intro m
  induction m with
  | zero =>
    intro w F o7 hw hb hF
    have e : w = snd' k := by omega
    subst e
    rw [e_77_13 hs hk', D72 hs hk]
    simp only [Option.bind_some, Option.toList_some, List.cons_append, List.nil_append]
    rw [e_77_19 hs hk', if_pos (show ni (wof (snd' k) - wof (sbg k)) ≤ ni (wof (snd' k) - wof (sbg k)) by rw [ni_le (by omega) (by omega)]; omega), hp, ni_add]
    rfl
  | succ m ih =>
    intro w F o7 hw hb hF
    have w24 : w < 24 := by omega
    have tw := w_tab w w24
    have b := mlr_b (c := c) (z := z) (p := p) (w := w) (wln w) 0
    have f := L77f (num := w - sbg k) (F := F) hs t hk hb (by omega) hp hp2 hF (wln w) 0 o7 (by omega)
    rw [show mx F 0 = F by unfold mx; split <;> omega, Nat.add_zero] at f
    rw [wdx_s]
    rcases f with ⟨a, d⟩ | ⟨a, o, d⟩
    · have a' : ml c z p w = wln w := a
      rw [if_pos a']
      exact d
    · have a' : ¬ ml c z p w = wln w := a
      rw [if_neg a']
      have mle : ml c z p w ≤ 8 := by have : ml c z p w = mlr c z p w (wln w) 0 := rfl; omega
      have nx := ih (w + 1) (mx F (ml c z p w)) o (by omega) (by omega) (by unfold mx; split <;> omega)
      rw [show w + 1 - sbg k = w - sbg k + 1 by omega] at nx
      exact d.trans nx
theorem D77 (hs : Sh h) (t : TX h i c z) {p k : Nat} (hk : k < 5) (hp : hI h 248 3 = ni p) (hp2 : p ≤ 200) : am_D 77 [vr (some 248), vr (some (2 + k))] h = rsW h (sbg k) (wdx c z p (snd' k - sbg k) (sbg k) 0) := by
  have sl := s_len k hk
  have l := L77 hs t hk hp hp2 (snd' k - sbg k) (sbg k) 0 none (by omega) (Nat.le_refl _) (by omega)
  rw [Nat.sub_self, Nat.sub_self] at l
  rw [d_77 hs (show 2 ≤ 2 + k ∧ 2 + k < 7 by omega)]
  exact l
end TXC
section TXM
variable {h : am_H} {i : Nat} {c : Nat → Int32} {z : Nat}
/-- the letters that the model reads -/
def TMx (h : am_H) (i : Nat) (c : Nat → Int32) (z : Nat) : Prop := hI h 261 37 = ni (100 * i) ∧ i < 8 ∧ hI h 261 39 = ni z ∧ z ≤ 100 ∧ (∀ k, k < z → (hL h 285 (100 * i + k)).toInt32 = c k) ∧ ∀ k, k < 159 → hI h 287 k = ni (wt.getD k 0)
theorem L86s (hs : Sh h) (t : TMx h i c z) {w : Nat} (hw : w < 24) {x1 x2 x4 : Int32} {o6 o7 : Option am_V} : ∀ m j, j + m = wln w → am_E 86 (118, [some (vr (some 261)), some (vi x1), some (vi x2), some (vi (ni (wof w + j))), some (vi x4), some (vi (ni w)), o6, o7], [], h) = am_E 86 (11, [some (vr (some 261)), some (vi x1), some (vi x2), some (vi (ni (wof (w + 1)))), some (vi x4), some (vi (ni (w + 1))), o6, o7], [], h) := by
  have tw := w_tab w hw
  intro m
  induction m with
  | zero =>
    intro j hj
    have e : j = wln w := by omega
    subst e
    rw [e_86_118 hs, ixb _ (show wof w + wln w < 159 by omega) (by omega), t.2.2.2.2.2 _ (by omega), tw.2.1, if_pos (show ni 0 = 0 from rfl), ni_add1, ni_add1, tw.2.2.1]
  | succ m ih =>
    intro j hj
    have cj := w_ch w hw j (by omega) (by omega)
    have nx := ih (j + 1) (by omega)
    have e : wt.getD (wof w + j) 0 = wch w j := rfl
    refine (e_86_118 hs).trans ?_
    rw [ixb _ (show wof w + j < 159 by omega) (by omega), t.2.2.2.2.2 _ (by omega), e, if_neg (show ¬ ni (wch w j) = 0 by rw [show (0 : Int32) = ni 0 from rfl, ni_eq (by omega) (by omega)]; exact cj.1), ni_add1]
    exact nx
theorem L86i (hs : Sh h) (t : TMx h i c z) {w p : Nat} (hw : w < 24) (hp : p ≤ z) {x1 x2 x3 x4 : Int32} : ∀ m j, j + m = wln w → p + j ≤ z → am_E 86 (32, [some (vr (some 261)), some (vi x1), some (vi x2), some (vi x3), some (vi x4), some (vi (ni w)), some (vi (ni (p + j))), some (vi (ni (wof w + j)))], [], h) = am_E 86 (83, [some (vr (some 261)), some (vi x1), some (vi x2), some (vi x3), some (vi x4), some (vi (ni w)), some (vi (ni (p + mlr c z p w m j))), some (vi (ni (wof w + mlr c z p w m j)))], [], h) := by
  have tw := w_tab w hw
  obtain ⟨t1, t2, t3, t4, t5, t6⟩ := t
  intro m
  induction m with
  | zero =>
    intro j hj hz
    have e : j = wln w := by omega
    subst e
    rw [e_86_32 hs, ixb _ (show wof w + wln w < 159 by omega) (by omega), t6 _ (by omega), tw.2.1, if_pos (show ni 0 = 0 from rfl)]; rfl
  | succ m ih =>
    intro j hj hz
    have cj := w_ch w hw j (by omega) (by omega)
    have e : wt.getD (wof w + j) 0 = wch w j := rfl
    refine (e_86_32 hs).trans ?_
    rw [ixb _ (show wof w + j < 159 by omega) (by omega), t6 _ (by omega), e, if_neg (show ¬ ni (wch w j) = 0 by rw [show (0 : Int32) = ni 0 from rfl, ni_eq (by omega) (by omega)]; exact cj.1), t3, mlr_s]
    by_cases y : p + j < z
    · rw [if_neg (show ¬ ni z ≤ ni (p + j) by rw [ni_le (by omega) (by omega)]; omega), t1, ni_add, ixb _ (show 100 * i + (p + j) < 800 by omega) (by omega), ixb _ (show wof w + j < 159 by omega) (by omega), t6 _ (by omega), e, t5 _ y, decide_eq_true y, Bool.true_and]
      by_cases q : c (p + j) = ni (wch w j)
      · rw [if_pos q, decide_eq_true q, if_pos rfl, ni_add1, ni_add1]
        exact ih (j + 1) (by omega) (by omega)
      · rw [if_neg q, decide_eq_false q, if_neg (by decide)]
    · rw [if_pos (show ni z ≤ ni (p + j) by rw [ni_le (by omega) (by omega)]; omega), decide_eq_false y, Bool.false_and, if_neg (by decide)]
def rsM (h : am_H) : Nat ⊕ (Nat × Nat) → Option (Option am_V × am_H)
  | .inl q => some (some (vi (-ni 1)), pI h 261 41 (ni q))
  | .inr x => some (some (vi (ni x.1)), pI h 261 38 (ni x.2))
theorem L86 (hs : Sh h) (t : TMx h i c z) {p b : Nat} (hp : p ≤ z) (h38 : hI h 261 38 = ni p) {e : Nat} (he : e < 24) : ∀ m w F (o6 o7 : Option am_V), w + m = e + 1 → b ≤ w → F ≤ 8 → am_E 86 (11, [some (vr (some 261)), some (vi (ni b)), some (vi (ni e)), some (vi (ni (wof w))), some (vi (ni (p + F))), some (vi (ni w)), o6, o7], [], h) = rsM h (wdx c z p m w F) := by
  have z100 := t.2.2.2.1
  intro m
  induction m with
  | zero =>
    intro w F o6 o7 hw hb hF
    rw [e_86_11 hs, if_pos (show ni e < ni w by rw [ni_lt (by omega) (by omega)]; omega)]; rfl
  | succ m ih =>
    intro w F o6 o7 hw hb hF
    have w24 : w < 24 := by omega
    have tw := w_tab w w24
    have bb := mlr_b (c := c) (z := z) (p := p) (w := w) (wln w) 0
    have M : ml c z p w = mlr c z p w (wln w) 0 := rfl
    refine (e_86_11 hs).trans ?_
    rw [if_neg (show ¬ ni e < ni w by rw [ni_lt (by omega) (by omega)]; omega), if_neg (show ¬ ni w < ni b by rw [ni_lt (by omega) (by omega)]; omega), h38]
    refine (L86i hs t w24 hp (wln w) 0 (by omega) (by omega)).trans ?_
    rw [← M, e_86_83 hs, ixb _ (show wof w + ml c z p w < 159 by omega) (by omega), t.2.2.2.2.2 _ (by omega), wdx_s]
    by_cases y : ml c z p w = wln w
    · rw [y, tw.2.1, if_pos (show ni 0 = 0 from rfl), if_pos rfl]; rfl
    · have cj := w_ch w w24 (ml c z p w) (by omega) (by omega)
      have e' : wt.getD (wof w + ml c z p w) 0 = wch w (ml c z p w) := rfl
      have fin : ∀ G, G = mx F (ml c z p w) → am_E 86 (116, [some (vr (some 261)), some (vi (ni b)), some (vi (ni e)), some (vi (ni (wof w))), some (vi (ni (p + F))), some (vi (ni w)), some (vi (ni (p + ml c z p w))), some (vi (ni (wof w + ml c z p w)))], [vi (ni (p + G))], h) = rsM h (wdx c z p m (w + 1) (mx F (ml c z p w))) := fun G hG => by
        rw [e_86_116 hs, hG]
        exact (L86s hs t w24 (wln w) 0 (by omega)).trans (ih (w + 1) _ _ _ (by omega) (by omega) (by unfold mx; split <;> omega))
      rw [e', if_neg (show ¬ ni (wch w (ml c z p w)) = 0 by rw [show (0 : Int32) = ni 0 from rfl, ni_eq (by omega) (by omega)]; exact cj.1), if_neg y]
      by_cases q : ml c z p w ≤ F
      · rw [if_pos (show ni (p + ml c z p w) ≤ ni (p + F) by rw [ni_le (by omega) (by omega)]; omega)]
        exact fin F (by unfold mx; split <;> omega)
      · rw [if_neg (show ¬ ni (p + ml c z p w) ≤ ni (p + F) by rw [ni_le (by omega) (by omega)]; omega)]
        exact fin (ml c z p w) (by unfold mx; split <;> omega)
theorem L86b (hs : Sh h) (t : TMx h i c z) {b e : Nat} (hb : b ≤ e) (he : e < 24) {x4 : Int32} (h38 : hI h 261 38 = x4) : ∀ d w (o6 o7 : Option am_V), w + d = b → ∃ o6' o7', am_E 86 (11, [some (vr (some 261)), some (vi (ni b)), some (vi (ni e)), some (vi (ni (wof w))), some (vi x4), some (vi (ni w)), o6, o7], [], h) = am_E 86 (11, [some (vr (some 261)), some (vi (ni b)), some (vi (ni e)), some (vi (ni (wof b))), some (vi x4), some (vi (ni b)), o6', o7'], [], h) := by
  intro d
  induction d with
  | zero =>
    intro w o6 o7 hw
    have e : w = b := by omega
    subst e
    exact ⟨o6, o7, rfl⟩
  | succ d ih =>
    intro w o6 o7 hw
    obtain ⟨o6', o7', q⟩ := ih (w + 1) (some (vi x4)) (some (vi (ni (wof w)))) (by omega)
    refine ⟨o6', o7', (e_86_11 hs).trans ?_⟩
    rw [if_neg (show ¬ ni e < ni w by rw [ni_lt (by omega) (by omega)]; omega), if_pos (show ni w < ni b by rw [ni_lt (by omega) (by omega)]; omega), h38]
    exact (L86s hs t (by omega) (wln w) 0 (by omega)).trans q
theorem D86 (hs : Sh h) (t : TMx h i c z) {p b e : Nat} (hp : p ≤ z) (h38 : hI h 261 38 = ni p) (hb : b ≤ e) (he : e < 24) : am_D 86 [vr (some 261), vi (ni b), vi (ni e)] h = rsM h (wdx c z p (e + 1 - b) b 0) := by
  obtain ⟨o6', o7', q⟩ := L86b hs t hb he h38 b 0 none none (by omega)
  rw [d_86 hs, h38]
  exact q.trans (L86 hs t hp h38 he (e + 1 - b) b 0 o6' o7' (by omega) (Nat.le_refl _) (by omega))
end TXM
