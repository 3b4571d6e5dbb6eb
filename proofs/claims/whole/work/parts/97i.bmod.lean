/-! books: the model's rows -/
section BMP
variable {c : Nat → Int32} {z : Nat}
/-- no word of a row begins with another letter than a blank -/
theorem wdx_sp {p : Nat} (hc : c p ≠ ni 32) : ∀ m w F, 20 ≤ w → w + m ≤ 24 → wdx c z p m w F = .inl (p + F)
  | 0, w, F, _, _ => rfl
  | m + 1, w, F, h1, h2 => by
    have t := w_tab w (by omega)
    have c0 : wch w 0 = 32 := (show ∀ w, w < 24 → 20 ≤ w → wch w 0 = 32 by decide +kernel) w (by omega) h1
    have e : ml c z p w = 0 := by
      unfold ml
      obtain ⟨k, hk⟩ : ∃ k, wln w = k + 1 := ⟨wln w - 1, by omega⟩
      rw [hk, mlr_s, c0, if_neg (fun y => by
        rw [Bool.and_eq_true] at y
        exact hc (of_decide_eq_true y.2))]
    rw [wdx_s, e, if_neg (by omega), show mx F 0 = F by unfold mx; split <;> omega]
    exact wdx_sp hc m (w + 1) F (by omega) (by omega)
theorem wdc_sp {p k : Nat} (hk : k = 3 ∨ k = 4) (hc : c p ≠ ni 32) : wdc c z p k = .inl p := by
  rcases hk with rfl | rfl
  · exact wdc_l (wdx_sp hc 4 20 0 (by omega) (by omega))
  · exact wdc_l (wdx_sp hc 1 23 0 (by omega) (by omega))
end BMP
section BMM
variable {h : am_H} {i : Nat} {c : Nat → Int32} {z : Nat}
def wB (r a k : Nat) : Prop := (a = 261 ∧ (k = 38 ∨ k = 40 ∨ k = 41)) ∨ ((a = 289 ∨ a = 290 ∨ a = 291) ∧ k = r) ∨ ((a = 292 ∨ a = 293) ∧ 8 * r ≤ k ∧ k < 8 * r + 8)
def Kb (r : Nat) (h h1 : am_H) : Prop := Kg (wB r) h h1
theorem Kb_m {r : Nat} {h h1 : am_H} (k : Km h h1) : Kb r h h1 := Kg_mono (fun _ _ z => Or.inl z) k
theorem TMx_b {r : Nat} {h h1 : am_H} (k : Kb r h h1) (t : TMx h i c z) : TMx h1 i c z := TMx_fr k (by unfold wB; omega) (fun j => by unfold wB; omega) t
theorem L89 (hs : Sh h) {r n y p : Nat} {wh : Nat → Nat} (hr : r < 8) (n8 : n < 8) (y99 : y ≤ 99) (h290 : hI h 290 r = ni n) (h40 : hI h 261 40 = ni y) (hw : ∀ j, j < n → wh j ≤ 99 ∧ hI h 292 (8 * r + j) = ni (wh j)) : ∀ m j, j + m = n → anyb (fun j => wh j == y) j = false → am_E 89 (35, [some (vr (some 261)), some (vi (ni r)), some (vi (ni p)), some (vi (ni j))], [], h) = if anyb (fun j => wh j == y) n = true then some (some (vi 0), pI h 261 41 (ni p)) else some (some (vi 1), pI (pI h 292 (8 * r + n) (ni y)) 290 r (ni (n + 1))) := by
  intro m
  induction m with
  | zero =>
    intro j hj a
    have e : j = n := by omega
    subst e
    rw [e_89_35 hs, ixb _ hr (by omega), h290, if_pos (show ni j ≤ ni j by rw [ni_le (by omega) (by omega)]; omega), ixb _ hr (by omega), h290, show (8 : Int32) * ni r + ni j = ni (8 * r + j) by rw [show (8 : Int32) = ni 8 from rfl, ni_mul, ni_add], ixb _ (show 8 * r + j < 64 by omega) (by omega), ixb _ hr (by omega), ixb _ hr (by omega), pn (by omega), h290, h40, ni_add1, a, if_neg (by decide)]
  | succ m ih =>
    intro j hj a
    have w := hw j (by omega)
    refine (e_89_35 hs).trans ?_
    rw [ixb _ hr (by omega), h290, if_neg (show ¬ ni n ≤ ni j by rw [ni_le (by omega) (by omega)]; omega), show (8 : Int32) * ni r + ni j = ni (8 * r + j) by rw [show (8 : Int32) = ni 8 from rfl, ni_mul, ni_add], ixb _ (show 8 * r + j < 64 by omega) (by omega), w.2, h40]
    by_cases e : wh j = y
    · rw [if_pos (show ni (wh j) = ni y by rw [e]), d_87 hs]
      simp only [Option.bind_some, Option.toList_some, List.cons_append, List.nil_append]
      rw [e_89_68 (show Sh (pI h 261 41 (ni p)) from hs), if_pos (show (0 : Int32) = 0 ∨ (0 : Int32) = 1 from Or.inl rfl), if_pos (show anyb (fun j => wh j == y) n = true from (anyb_iff n).mpr ⟨j, by omega, beq_iff_eq.mpr e⟩)]
    · rw [if_neg (show ¬ ni (wh j) = ni y by rw [ni_eq (by omega) (by omega)]; exact e), ni_add1]
      exact ih (j + 1) (by omega) (by rw [anyb_s, a, beq_eq_false_iff_ne.mpr e]; rfl)
def rN (h1 : am_H) (r n : Nat) (wh : Nat → Nat) : Nat ⊕ (Nat × Nat) → Prop
  | .inl q => hI h1 261 41 = ni q
  | .inr y => hI h1 261 38 = ni y.2 ∧ hI h1 290 r = ni (n + 1) ∧ ∀ j, j < n + 1 → hI h1 292 (8 * r + j) = ni (up1 wh n y.1 j)
def wBn (r a k : Nat) : Prop := (a = 261 ∧ (k = 38 ∨ k = 40 ∨ k = 41)) ∨ (a = 290 ∧ k = r) ∨ (a = 292 ∧ 8 * r ≤ k ∧ k < 8 * r + 8)
theorem D89 (hs : Sh h) (t : TMx h i c z) {r n p M : Nat} {wh : Nat → Nat} (hM : M ≤ 24) (h0 : hI h 261 0 = ni M) (h38 : hI h 261 38 = ni p) (hp : p ≤ z) (hr : r < 8) (n8 : n < 8) (h290 : hI h 290 r = ni n) (hw : ∀ j, j < n → wh j ≤ 99 ∧ hI h 292 (8 * r + j) = ni (wh j)) : ∃ h1, am_D 89 [vr (some 261), vi (ni r)] h = some (some (vi (bi (isR (rmn c z p M wh n)))), h1) ∧ Kg (wBn r) h h1 ∧ rN h1 r n wh (rmn c z p M wh n) := by
  have z100 := t.2.2.2.1
  obtain ⟨h1, d1, k1, r1⟩ := D88 (L := 100) (x1 := 99) hs t h38 (by omega) (fun n hn => by
    rw [show (99 : Int32) = ni 99 from rfl, ni_le (by omega) (by omega)]; omega)
  have hs1 := Kg_Sh k1 hs
  have kn : Kg (wBn r) h h1 := Kg_mono (fun _ _ z => Or.inl z) k1
  have b0 := d_89 (x1 := ni r) hs
  rw [d1] at b0
  simp only [Option.bind_some, Option.toList_some, List.cons_append, List.nil_append] at b0
  rw [h38, e_89_11 hs1] at b0
  cases e : rnn c z p with
  | none =>
    have e1 : rn c z p 100 = .inl p := by unfold rn; rw [e]
    have e2 : rmn c z p M wh n = .inl p := rmn_l (by unfold rn; rw [e])
    rw [e1] at b0 r1
    rw [if_pos (show bi (isR (.inl p : Nat ⊕ (Nat × Nat))) = 0 from rfl)] at b0
    rw [e2]
    exact ⟨h1, b0, kn, r1⟩
  | some y =>
    have b := rnn_b (n := y.1) (q := y.2) e
    have e1 : rn c z p 100 = .inr y := by unfold rn; rw [e]; exact if_pos (by omega)
    rw [e1] at b0 r1
    have r1' : hI h1 261 38 = ni y.2 ∧ hI h1 261 40 = ni y.1 := r1
    have h01 : hI h1 261 0 = ni M := by rw [k1.2.2.2.2.1 261 0 (by omega)]; exact h0
    rw [if_neg (show ¬ bi (isR (.inr y : Nat ⊕ (Nat × Nat))) = 0 from show ¬ bi true = 0 by decide), r1'.2, h01] at b0
    by_cases yM : y.1 < M
    · have eM : rn c z p M = .inr y := by unfold rn; rw [e]; exact if_pos yM
      rw [if_pos (show ni y.1 < ni M by rw [ni_lt (by omega) (by omega)]; exact yM)] at b0
      have l := L89 (p := p) hs1 hr n8 b.1 (by rw [k1.2.2.2.2.1 290 r (by omega)]; exact h290) r1'.2 (fun j hj => ⟨(hw j hj).1, by rw [k1.2.2.2.2.1 292 _ (by omega)]; exact (hw j hj).2⟩) n 0 (by omega) rfl
      have b1 := b0.trans l
      rw [rmn_r eM]
      cases u : anyb (fun j => wh j == y.1) n
      · rw [u, if_neg (by decide)] at b1
        rw [if_neg (by decide)]
        refine ⟨_, b1, Kg_pI (Or.inr (Or.inl ⟨rfl, rfl⟩)) (Kg_pI (Or.inr (Or.inr (by omega))) kn), (pn (by omega)).trans ((pn (by omega)).trans r1'.1), pe, fun j hj => ?_⟩
        by_cases q : j = n
        · rw [q, up1_e]; exact (pn (by omega)).trans pe
        · rw [up1_n q, pn (by omega), pn (by omega), k1.2.2.2.2.1 292 _ (by omega)]; exact (hw j (by omega)).2
      · rw [u, if_pos rfl] at b1
        rw [if_pos rfl]
        exact ⟨_, b1, Kg_pI (Or.inl ⟨rfl, Or.inr (Or.inr rfl)⟩) kn, pe⟩
    · have eM : rn c z p M = .inl p := by unfold rn; rw [e]; exact if_neg yM
      rw [if_neg (show ¬ ni y.1 < ni M by rw [ni_lt (by omega) (by omega)]; exact yM), d_87 hs1] at b0
      simp only [Option.bind_some, Option.toList_some, List.cons_append, List.nil_append] at b0
      rw [e_89_32 (show Sh (pI h1 261 41 (ni p)) from hs1), if_pos (show (0 : Int32) = 0 ∨ (0 : Int32) = 1 from Or.inl rfl)] at b0
      rw [rmn_l eM]
      exact ⟨_, b0, Kg_pI (Or.inl ⟨rfl, Or.inr (Or.inr rfl)⟩) kn, pe⟩
/-- the word behind a man -/
theorem L90w (hs : Sh h) (t : TMx h i c z) {r n p : Nat} {o2 : Option am_V} (h38 : hI h 261 38 = ni p) (hp : p ≤ z) (hr : r < 8) (n1 : 1 ≤ n) (n8 : n ≤ 8) (h290 : hI h 290 r = ni n) (no : n = 1 ∨ ¬ (z ≤ p ∨ c p = ni 59)) : ∃ h1 v, am_E 90 (135, [some (vr (some 261)), some (vi (ni r)), o2], [], h) = am_E 90 (180, [some (vr (some 261)), some (vi (ni r)), o2], [vi v], h1) ∧ Km h h1 ∧ (∀ q, nx c z p n = .inl q → v = -ni 1 ∧ hI h1 261 41 = ni q) ∧ ∀ x, nx c z p n = .inr x → v = ni (x.1 + 20) ∧ hI h1 261 38 = ni x.2 := by
  have b0 := e_90_135 (x1 := ni r) (o2 := o2) hs
  rw [ixb _ hr (by omega), h290] at b0
  by_cases h8 : n = 8
  · obtain ⟨h1, d1, k1, r1⟩ := D86c hs t (b := 23) (e := 23) hp h38 (by omega) (by omega)
    have d1' : am_D 86 [vr (some 261), vi 23, vi 23] h = some (some (vi (rI (wdx c z p 1 23 0))), h1) := d1
    have r1' : rM h1 (wdx c z p 1 23 0) := r1
    have hs1 := Kg_Sh k1 hs
    have no' : ¬ (z ≤ p ∨ c p = ni 59) := no.resolve_left (by omega)
    rw [if_pos (show ni n = 8 by rw [h8]; rfl), d1'] at b0
    simp only [Option.bind_some, Option.toList_some, List.cons_append, List.nil_append] at b0
    rw [e_90_154 hs1] at b0
    refine ⟨h1, _, b0, k1, ?_⟩
    cases e : wdx c z p 1 23 0 with
    | inl q' =>
      rw [e] at r1'
      have ew : wdc c z p 4 = .inl q' := wdc_l e
      rw [nx_8l (by omega) no' (by omega) ew]
      exact ⟨fun q hq => by cases hq; exact ⟨rfl, r1'⟩, fun x hx => by cases hx⟩
    | inr x' =>
      have bw := wdx_b (c := c) hp 1 23 0 (by omega) (by omega)
      rw [e] at r1' bw
      have bw' : 23 ≤ x'.1 ∧ x'.1 < 23 + 1 ∧ p < x'.2 ∧ x'.2 ≤ z := bw
      have ew : wdc c z p 4 = .inr (x'.1 - 23, x'.2) := wdc_r e
      rw [nx_8r (by omega) no' (by omega) ew]
      refine ⟨fun q hq => (by cases hq), fun x hx => ?_⟩
      cases hx
      refine ⟨?_, r1'⟩
      show ni x'.1 = ni (3 + 20)
      rw [show x'.1 = 3 + 20 by omega]
  · rw [if_neg (show ¬ ni n = 8 by rw [show (8 : Int32) = ni 8 from rfl, ni_eq (by omega) (by omega)]; exact h8), ixb _ hr (by omega), h290] at b0
    by_cases h1 : n = 1
    · obtain ⟨h1', d1, k1, r1⟩ := D86c hs t (b := 20) (e := 22) hp h38 (by omega) (by omega)
      have d1' : am_D 86 [vr (some 261), vi 20, vi 22] h = some (some (vi (rI (wdx c z p 3 20 0))), h1') := d1
      have r1' : rM h1' (wdx c z p 3 20 0) := r1
      have hs1 := Kg_Sh k1 hs
      rw [if_neg (show ¬ 2 ≤ ni n by rw [show (2 : Int32) = ni 2 from rfl, ni_le (by omega) (by omega)]; omega), e_90_177 hs, d1'] at b0
      simp only [Option.bind_some, Option.toList_some, List.cons_append, List.nil_append] at b0
      refine ⟨h1', _, b0, k1, ?_⟩
      rw [h1, nx_1]
      cases e : wdx c z p 3 20 0 with
      | inl q' =>
        rw [e] at r1'
        have ew : wdc c z p 2 = .inl q' := wdc_l e
        rw [ew]
        exact ⟨fun q hq => by cases hq; exact ⟨rfl, r1'⟩, fun x hx => by cases hx⟩
      | inr x' =>
        have bw := wdx_b (c := c) hp 3 20 0 (by omega) (by omega)
        rw [e] at r1' bw
        have bw' : 20 ≤ x'.1 ∧ x'.1 < 20 + 3 ∧ p < x'.2 ∧ x'.2 ≤ z := bw
        have ew : wdc c z p 2 = .inr (x'.1 - 20, x'.2) := wdc_r e
        rw [ew]
        refine ⟨fun q hq => (by cases hq), fun x hx => ?_⟩
        cases hx
        refine ⟨?_, r1'⟩
        show ni x'.1 = ni (x'.1 - 20 + 20)
        rw [show x'.1 - 20 + 20 = x'.1 by omega]
    · obtain ⟨h1', d1, k1, r1⟩ := D86c hs t (b := 20) (e := 23) hp h38 (by omega) (by omega)
      have d1' : am_D 86 [vr (some 261), vi 20, vi 23] h = some (some (vi (rI (wdx c z p 4 20 0))), h1') := d1
      have r1' : rM h1' (wdx c z p 4 20 0) := r1
      have hs1 := Kg_Sh k1 hs
      have no' : ¬ (z ≤ p ∨ c p = ni 59) := no.resolve_left h1
      rw [if_pos (show 2 ≤ ni n by rw [show (2 : Int32) = ni 2 from rfl, ni_le (by omega) (by omega)]; omega), e_90_177 hs, d1'] at b0
      simp only [Option.bind_some, Option.toList_some, List.cons_append, List.nil_append] at b0
      refine ⟨h1', _, b0, k1, ?_⟩
      rw [nx_3 h1 no' (by omega)]
      cases e : wdx c z p 4 20 0 with
      | inl q' =>
        rw [e] at r1'
        have ew : wdc c z p 3 = .inl q' := wdc_l e
        rw [ew]
        exact ⟨fun q hq => by cases hq; exact ⟨rfl, r1'⟩, fun x hx => by cases hx⟩
      | inr x' =>
        have bw := wdx_b (c := c) hp 4 20 0 (by omega) (by omega)
        rw [e] at r1' bw
        have bw' : 20 ≤ x'.1 ∧ x'.1 < 20 + 4 ∧ p < x'.2 ∧ x'.2 ≤ z := bw
        have ew : wdc c z p 3 = .inr (x'.1 - 20, x'.2) := wdc_r e
        rw [ew]
        refine ⟨fun q hq => (by cases hq), fun x hx => ?_⟩
        cases hx
        refine ⟨?_, r1'⟩
        show ni x'.1 = ni (x'.1 - 20 + 20)
        rw [show x'.1 - 20 + 20 = x'.1 by omega]
/-- the wording -/
theorem L90d (hs : Sh h) (t : TMx h i c z) {r p : Nat} {o2 : Option am_V} (h38 : hI h 261 38 = ni p) (hp : p ≤ z) (hr : r < 8) : (∃ d, dgt c z p = some d ∧ d < 8 ∧ am_E 90 (180, [some (vr (some 261)), some (vi (ni r)), o2], [vi (ni 23)], h) = some (some (vi 1), pI (pI h 291 r (ni d)) 261 38 (ni (p + 1)))) ∨ ((∀ d, dgt c z p = some d → ¬ d < 8) ∧ am_E 90 (180, [some (vr (some 261)), some (vi (ni r)), o2], [vi (ni 23)], h) = some (some (vi 0), pI h 261 41 (ni p))) := by
  have z100 := t.2.2.2.1
  have b0 := e_90_180 (x1 := ni r) (o2 := o2) (xs0 := ni 23) hs
  rw [if_neg (ni_n1 (by omega)), if_pos (show ni 23 = 23 from rfl), t.2.2.1, h38] at b0
  have bad : ∀ o, am_E 90 (223, [some (vr (some 261)), some (vi (ni r)), o], [], h) = some (some (vi 0), pI h 261 41 (ni p)) := fun o => by
    rw [e_90_223 hs, h38, d_87 hs]
    simp only [Option.bind_some, Option.toList_some, List.cons_append, List.nil_append]
    rw [e_90_231 (show Sh (pI h 261 41 (ni p)) from hs), if_pos (show (0 : Int32) = 0 ∨ (0 : Int32) = 1 from Or.inl rfl)]
  by_cases y : p < z
  · rw [if_neg (show ¬ ni z ≤ ni p by rw [ni_le (by omega) (by omega)]; omega), D84 hs t h38 y] at b0
    simp only [Option.bind_some, Option.toList_some, List.cons_append, List.nil_append] at b0
    rw [e_90_209 hs] at b0
    by_cases a : (c p).toInt < 48
    · rw [if_pos (show c p < 48 by rw [ltt]; exact a), bad] at b0
      refine Or.inr ⟨fun d hd => ?_, b0⟩
      have g := dgt_t hd
      rw [g.2.2, ni_toInt (by omega)] at a
      omega
    · rw [if_neg (show ¬ c p < 48 by rw [ltt]; exact a), D84 hs t h38 y] at b0
      simp only [Option.bind_some, Option.toList_some, List.cons_append, List.nil_append] at b0
      rw [e_90_218 hs] at b0
      by_cases b : (c p).toInt ≤ 55
      · have d : dgt c z p = some ((c p).toInt.toNat - 48) := by
          unfold dgt
          rw [if_pos y, if_pos (by omega)]
        have g := dgt_t d
        rw [if_pos (show c p ≤ 55 by rw [lett]; exact b), D84 hs t h38 y] at b0
        simp only [Option.bind_some, Option.toList_some, List.cons_append, List.nil_append] at b0
        have e4 : c p - 48 = ni ((c p).toInt.toNat - 48) := by
          obtain ⟨k, k1, k2, k3⟩ := ni_ex (x := c p) (by omega)
          rw [show (c p).toInt.toNat = k by omega, k3, show ni k - 48 = ni (k - 48) from ni_sub (b := 48) (by omega)]
        rw [e_90_241 hs, ixb _ hr (by omega), e4, pn (by omega), h38, ni_add1] at b0
        exact Or.inl ⟨_, d, by omega, b0⟩
      · rw [if_neg (show ¬ c p ≤ 55 by rw [lett]; exact b), bad] at b0
        refine Or.inr ⟨fun d hd => ?_, b0⟩
        have g := dgt_t hd
        rw [g.2.2, ni_toInt (by omega)] at b
        omega
  · rw [if_pos (show ni z ≤ ni p by rw [ni_le (by omega) (by omega)]; omega), bad] at b0
    refine Or.inr ⟨fun d hd => ?_, b0⟩
    have g := dgt_t hd
    omega
/-- what the model's cells say of a row so far -/
def MRw (h : am_H) (r n wd : Nat) (wh lk : Nat → Nat) : Prop := hI h 290 r = ni n ∧ hI h 291 r = ni wd ∧ (∀ j, j < n → hI h 292 (8 * r + j) = ni (wh j)) ∧ ∀ j, j + 1 < n → hI h 293 (8 * r + j) = ni (lk j)
def rQ (h1 : am_H) (c : Nat → Int32) (z r : Nat) (b : Bool) : RR → Prop
  | .inl q => (b = false ∧ hI h1 261 41 = ni q) ∨ (b = true ∧ hI h1 261 38 = ni q ∧ q < z ∧ c q ≠ ni 59)
  | .inr y => b = true ∧ hI h1 261 38 = ni y.2.2.2.2 ∧ MRw h1 r y.1 y.2.1 y.2.2.1 y.2.2.2.1
def wBm (r a k : Nat) : Prop := wB r a k ∧ ¬ (a = 289)
def P90 (M r : Nat) (c : Nat → Int32) (z i m : Nat) : Prop := ∀ (n p : Nat) (wh lk : Nat → Nat) (h : am_H) (o2 : Option am_V), m + n = 8 → 1 ≤ n → p ≤ z → Sh h → TMx h i c z → hI h 261 0 = ni M → hI h 261 38 = ni p → (∀ j, j < n → wh j ≤ 99) → MRw h r n 0 wh lk → ∃ h1 b, am_E 90 (105, [some (vr (some 261)), some (vi (ni r)), o2], [], h) = some (some (vi (bi b)), h1) ∧ Kg (wBm r) h h1 ∧ rQ h1 c z r b (rwk c z M m n p wh lk)
theorem P90_go {M r m : Nat} (hM : M ≤ 24) (hr : r < 8) (ih : ∀ m', m = m' + 1 → P90 M r c z i m') : P90 M r c z i m := by
  intro n p wh lk h o2 hm n1 hp hs t h0 h38 w99 R
  have z100 := t.2.2.2.1
  have n8 : n ≤ 8 := by omega
  have lkn : ∀ v j, j + 1 < n → up1 lk (n - 1) v j = lk j := fun v j hj => up1_n (by omega)
  have from135 : ∀ o2 : Option am_V, (n = 1 ∨ ¬ (z ≤ p ∨ c p = ni 59)) → ∃ h1 b, am_E 90 (135, [some (vr (some 261)), some (vi (ni r)), o2], [], h) = some (some (vi (bi b)), h1) ∧ Kg (wBm r) h h1 ∧ rQ h1 c z r b (rwk c z M m n p wh lk) := fun o2 no => by
    obtain ⟨h1, v, d1, k1, gl, gr⟩ := L90w (o2 := o2) hs t h38 hp hr n1 n8 R.1 no
    have hs1 := Kg_Sh k1 hs
    have kb1 : Kg (wBm r) h h1 := Kg_mono (fun a j z => ⟨Or.inl z, by omega⟩) k1
    have q1 : ∀ a j, 262 ≤ a → hI h1 a j = hI h a j := fun a j ha => k1.2.2.2.2.1 a j (by omega)
    have t1' := TMx_m k1 t
    cases e : nx c z p n with
    | inl q =>
      have g := gl q e
      rw [rwk_l e]
      refine ⟨h1, false, ?_, kb1, Or.inl ⟨rfl, g.2⟩⟩
      rw [d1, e_90_180 hs1, g.1, if_pos (show -ni 1 = -1 from rfl)]; rfl
    | inr x =>
      have g := gr x e
      have b := nx_rb hp e
      rw [rwk_r e]
      by_cases x3 : x.1 < 3
      · obtain ⟨m', hm'⟩ : ∃ m', m = m' + 1 := ⟨m - 1, by omega⟩
        have nlt : n < 8 := by omega
        rw [if_pos x3, hm']
        have b0 := d1.trans (e_90_180 hs1)
        rw [g.1, if_neg (ni_n1 (by omega)), if_neg (show ¬ ni (x.1 + 20) = 23 by rw [show (23 : Int32) = ni 23 from rfl, ni_eq (by omega) (by omega)]; omega), ixb _ hr (by omega), (q1 290 r (by omega)).trans R.1, show (8 : Int32) * ni r + ni n - 1 = ni (8 * r + (n - 1)) by rw [show (8 : Int32) = ni 8 from rfl, ni_mul, ni_add, show ni (8 * r + n) - 1 = ni (8 * r + n - 1) from ni_sub (b := 1) (by omega), show 8 * r + n - 1 = 8 * r + (n - 1) by omega], ixb _ (show 8 * r + (n - 1) < 64 by omega) (by omega), show ni (x.1 + 20) - 20 = ni x.1 by rw [show ni (x.1 + 20) - 20 = ni (x.1 + 20 - 20) from ni_sub (b := 20) (by omega), Nat.add_sub_cancel]] at b0
        have kb2 : Kg (wBm r) h (pI h1 293 (8 * r + (n - 1)) (ni x.1)) := Kg_pI ⟨Or.inr (Or.inr ⟨Or.inr rfl, by omega, by omega⟩), by omega⟩ kb1
        have hs2 := Kg_Sh kb2 hs
        have t2 : TMx (pI h1 293 (8 * r + (n - 1)) (ni x.1)) i c z := TMx_fr kb2 (by unfold wBm wB; omega) (fun j => by unfold wBm wB; omega) t
        obtain ⟨h3, d3, k3, r3⟩ := D89 (n := n) (wh := wh) hs2 t2 hM ((pn (by omega)).trans (by rw [k1.2.2.2.2.1 261 0 (by omega)]; exact h0)) ((pn (by omega)).trans g.2) b.2.1 hr nlt ((pn (by omega)).trans ((q1 290 r (by omega)).trans R.1)) (fun j hj => ⟨w99 j hj, (pn (by omega)).trans ((q1 292 _ (by omega)).trans (R.2.2.1 j hj))⟩)
        have kb3 : Kg (wBm r) h h3 := Kg_trans kb2 (Kg_mono (fun a j z => by unfold wBn at z; unfold wBm wB; omega) k3)
        have hs3 := Kg_Sh kb3 hs
        rw [d3] at b0
        simp only [Option.bind_some, Option.toList_some, List.cons_append, List.nil_append] at b0
        rw [e_90_284 hs3] at b0
        cases e3 : rmn c z x.2 M wh n with
        | inl q =>
          rw [e3] at b0 r3
          rw [if_pos (show bi (isR (.inl q : Nat ⊕ (Nat × Nat))) = 0 from rfl)] at b0
          rw [rwl_l e3]
          exact ⟨h3, false, b0, kb3, Or.inl ⟨rfl, r3⟩⟩
        | inr y =>
          have b3 := rmn_rb b.2.1 e3
          rw [e3] at b0 r3
          have r3' : hI h3 261 38 = ni y.2 ∧ hI h3 290 r = ni (n + 1) ∧ ∀ j, j < n + 1 → hI h3 292 (8 * r + j) = ni (up1 wh n y.1 j) := r3
          rw [if_neg (show ¬ bi (isR (.inr y : Nat ⊕ (Nat × Nat))) = 0 from show ¬ bi true = 0 by decide)] at b0
          rw [rwl_r e3]
          have q3 : ∀ a j, a = 291 ∨ a = 293 → hI h3 a j = hI (pI h1 293 (8 * r + (n - 1)) (ni x.1)) a j := fun a j ha => k3.2.2.2.2.1 a j (by unfold wBn; omega)
          obtain ⟨h4, b4, d4, k4, r4⟩ := ih m' hm' (n + 1) y.2 (up1 wh n y.1) (up1 lk (n - 1) x.1) h3 (some (vi (ni (x.1 + 20)))) (by omega) (by omega) b3.2.2.2.1 hs3 (TMx_fr kb3 (by unfold wBm wB; omega) (fun j => by unfold wBm wB; omega) t) (by rw [kb3.2.2.2.2.1 261 0 (by unfold wBm wB; omega)]; exact h0) r3'.1 (fun j hj => by
            by_cases q : j = n
            · rw [q, up1_e]; exact b3.2.1
            · rw [up1_n q]; exact w99 j (by omega)) ⟨r3'.2.1, by rw [q3 291 r (Or.inl rfl), pn (by omega), q1 291 r (by omega)]; exact R.2.1, r3'.2.2, fun j hj => by
            rw [q3 293 _ (Or.inr rfl)]
            by_cases q : j = n - 1
            · rw [q, up1_e]; exact pe
            · rw [up1_n q, pn (by omega), q1 293 _ (by omega)]; exact R.2.2.2 j (by omega)⟩
          exact ⟨h4, b4, b0.trans d4, Kg_trans kb3 k4, r4⟩
      · rw [if_neg x3]
        have x3' : x.1 = 3 := by
          by_cases q : x.1 = 4
          · have := b.2.2.2.2.2.1 q
            rcases no with n1' | no
            · have := b.2.2.2.1 n1'; omega
            · exact absurd this.2 no
          · omega
        have v23 : v = ni 23 := by rw [g.1, x3']
        rcases L90d (o2 := o2) hs1 t1' g.2 b.2.1 hr with ⟨d, d5, d8, d6⟩ | ⟨no5, d6⟩
        · rw [rwe_d x3' d5, if_pos d8]
          refine ⟨pI (pI h1 291 r (ni d)) 261 38 (ni (x.2 + 1)), true, by rw [d1, v23]; exact d6, Kg_pI ⟨Or.inl ⟨rfl, Or.inl rfl⟩, by omega⟩ (Kg_pI ⟨Or.inr (Or.inl ⟨Or.inr (Or.inr rfl), rfl⟩), by omega⟩ kb1), rfl, pe, (pn (by omega)).trans ((pn (by omega)).trans ((q1 290 r (by omega)).trans R.1)), (pn (by omega)).trans pe, fun j hj => (pn (by omega)).trans ((pn (by omega)).trans ((q1 292 _ (by omega)).trans (R.2.2.1 j hj))), fun j hj => ?_⟩
          show hI _ 293 (8 * r + j) = ni (up1 lk (n - 1) x.1 j)
          rw [lkn _ j hj]
          exact (pn (by omega)).trans ((pn (by omega)).trans ((q1 293 _ (by omega)).trans (R.2.2.2 j hj)))
        · have er : rwe c z n wh (up1 lk (n - 1) x.1) x = .inl x.2 := by
            cases e6 : dgt c z x.2 with
            | none => exact rwe_n x3' e6
            | some d => rw [rwe_d x3' e6, if_neg (no5 d e6)]
          rw [er]
          exact ⟨_, false, by rw [d1, v23]; exact d6, Kg_pI ⟨Or.inl ⟨rfl, Or.inr (Or.inr rfl)⟩, by omega⟩ kb1, Or.inl ⟨rfl, pe⟩⟩
  have b0 := e_90_105 (x1 := ni r) (o2 := o2) hs
  rw [ixb _ hr (by omega), R.1] at b0
  by_cases h1 : n = 1
  · rw [if_pos (show ni n < 2 by rw [show (2 : Int32) = ni 2 from rfl, ni_lt (by omega) (by omega)]; omega)] at b0
    obtain ⟨h1', b, f1, f2⟩ := from135 o2 (Or.inl h1)
    exact ⟨h1', b, b0.trans f1, f2⟩
  · rw [if_neg (show ¬ ni n < 2 by rw [show (2 : Int32) = ni 2 from rfl, ni_lt (by omega) (by omega)]; omega), t.2.2.1, h38] at b0
    have stop : (z ≤ p ∨ c p = ni 59) → rQ h c z r true (rwk c z M m n p wh lk) := fun w => by
      rw [rwk_r (nx_4 h1 w), if_neg (show ¬ ((4 : Nat), p).1 < 3 from by show ¬ 4 < 3; omega), rwe_4 (show ((4 : Nat), p).1 ≠ 3 from by show 4 ≠ 3; omega)]
      refine ⟨rfl, h38, R.1, R.2.1, R.2.2.1, fun j hj => ?_⟩
      show hI h 293 (8 * r + j) = ni (up1 lk (n - 1) 4 j)
      rw [lkn _ j hj]; exact R.2.2.2 j hj
    by_cases y : p < z
    · rw [if_neg (show ¬ ni z ≤ ni p by rw [ni_le (by omega) (by omega)]; omega), D84 hs t h38 y] at b0
      simp only [Option.bind_some, Option.toList_some, List.cons_append, List.nil_append] at b0
      rw [e_90_130 hs] at b0
      by_cases w : c p = ni 32
      · rw [if_pos (show c p = 32 from w)] at b0
        have no : ¬ (z ≤ p ∨ c p = ni 59) := fun q => q.elim (fun q => by omega) (fun q => by
          rw [w, ni_eq (by omega) (by omega)] at q
          omega)
        obtain ⟨h1', b, f1, f2⟩ := from135 o2 (Or.inr no)
        exact ⟨h1', b, b0.trans f1, f2⟩
      · rw [if_neg (show ¬ c p = 32 from w)] at b0
        refine ⟨h, true, b0, Kg_refl h, ?_⟩
        by_cases u : c p = ni 59
        · exact stop (Or.inr u)
        · have no : ¬ (z ≤ p ∨ c p = ni 59) := fun q => q.elim (fun q => by omega) u
          have en : nx c z p n = .inl p := by
            by_cases n8' : n < 8
            · rw [nx_3 h1 no n8']; exact wdc_sp (Or.inl rfl) w
            · exact nx_8l h1 no n8' (wdc_sp (Or.inr rfl) w)
          rw [rwk_l en]
          exact Or.inr ⟨rfl, h38, y, u⟩
    · rw [if_pos (show ni z ≤ ni p by rw [ni_le (by omega) (by omega)]; omega)] at b0
      exact ⟨h, true, b0, Kg_refl h, stop (Or.inl (by omega))⟩
theorem L90 {M r : Nat} (hM : M ≤ 24) (hr : r < 8) : ∀ m, P90 M r c z i m := by
  intro m
  induction m with
  | zero => exact P90_go hM hr (fun m' e => by omega)
  | succ m ih => exact P90_go hM hr (fun m' e => by
      have e' : m = m' := by omega
      rw [← e']; exact ih)
def rK (h1 : am_H) (c : Nat → Int32) (z r : Nat) (b : Bool) : RK → Prop
  | .inl q => (b = false ∧ hI h1 261 41 = ni q) ∨ (b = true ∧ hI h1 261 38 = ni q ∧ q < z ∧ c q ≠ ni 59)
  | .inr y => b = true ∧ hI h1 261 38 = ni y.2.2.2.2.2 ∧ hI h1 289 r = ni y.1 ∧ MRw h1 r y.2.1 y.2.2.1 y.2.2.2.1 y.2.2.2.2.1
theorem D90 (hs : Sh h) (t : TMx h i c z) {p M r : Nat} (hM : M ≤ 24) (hr : r < 8) (h0 : hI h 261 0 = ni M) (h38 : hI h 261 38 = ni p) (hp : p ≤ z) : ∃ h1 b, am_D 90 [vr (some 261), vi (ni r)] h = some (some (vi (bi b)), h1) ∧ Kb r h h1 ∧ rK h1 c z r b (rwr c z M p) := by
  have z100 := t.2.2.2.1
  have kz : Kb r h (pI (pI (pI h 289 r 0) 290 r 0) 291 r 0) := Kg_pI (Or.inr (Or.inl ⟨Or.inr (Or.inr rfl), rfl⟩)) (Kg_pI (Or.inr (Or.inl ⟨Or.inr (Or.inl rfl), rfl⟩)) (Kg_pI (Or.inr (Or.inl ⟨Or.inl rfl, rfl⟩)) (Kg_refl h)))
  have hsz := Kg_Sh kz hs
  have tz := TMx_b kz t
  have z38 : hI (pI (pI (pI h 289 r 0) 290 r 0) 291 r 0) 261 38 = ni p := (pn (by omega)).trans ((pn (by omega)).trans ((pn (by omega)).trans h38))
  have z289 : hI (pI (pI (pI h 289 r 0) 290 r 0) 291 r 0) 289 r = ni 0 := (pn (by omega)).trans ((pn (by omega)).trans pe)
  have z290 : hI (pI (pI (pI h 289 r 0) 290 r 0) 291 r 0) 290 r = ni 0 := (pn (by omega)).trans pe
  have z291 : hI (pI (pI (pI h 289 r 0) 290 r 0) 291 r 0) 291 r = ni 0 := pe
  have b0 := d_90 (x1 := ni r) hs
  rw [ixb _ hr (by omega), ixb _ hr (by omega), ixb _ hr (by omega), D85 hsz tz z38 (by omega)] at b0
  simp only [Option.bind_some, Option.toList_some, List.cons_append, List.nil_append] at b0
  rw [e_90_25 hsz] at b0
  -- from behind the kind
  have go : ∀ (k : Nat × Nat) (h2 : am_H) (o2 : Option am_V), kd c z p = .inr k → Kb r h h2 → hI h2 261 38 = ni k.2 → hI h2 289 r = ni k.1 → hI h2 290 r = ni 0 → hI h2 291 r = ni 0 → am_D 90 [vr (some 261), vi (ni r)] h = am_E 90 (95, [some (vr (some 261)), some (vi (ni r)), o2], [], h2) → ∃ h1 b, am_D 90 [vr (some 261), vi (ni r)] h = some (some (vi (bi b)), h1) ∧ Kb r h h1 ∧ rK h1 c z r b (rwr c z M p) := fun k h2 o2 ek k2 q38 q289 q290 q291 b => by
    have hs2 := Kg_Sh k2 hs
    have kb := kd_rb hp ek
    have t2 := TMx_b k2 t
    have h02 : hI h2 261 0 = ni M := by rw [k2.2.2.2.2.1 261 0 (by unfold wB; omega)]; exact h0
    obtain ⟨h3, d3, k3, r3⟩ := D89 (n := 0) (wh := fun _ => 0) hs2 t2 hM h02 q38 kb.2.2 hr (by omega) q290 (fun j hj => by omega)
    have hs3 := Kg_Sh k3 hs2
    have kk3 : Kb r h h3 := Kg_trans k2 (Kg_mono (fun a j z => by unfold wBn at z; unfold wB; omega) k3)
    rw [e_90_95 hs2, d3] at b
    simp only [Option.bind_some, Option.toList_some, List.cons_append, List.nil_append] at b
    rw [e_90_100 hs3] at b
    cases e3 : rmn c z k.2 M (fun _ => 0) 0 with
    | inl q =>
      rw [e3] at b r3
      rw [if_pos (show bi (isR (.inl q : Nat ⊕ (Nat × Nat))) = 0 from rfl)] at b
      rw [rwr_rl ek (rwl_l e3)]
      exact ⟨h3, false, b, kk3, Or.inl ⟨rfl, r3⟩⟩
    | inr y =>
      have b3 := rmn_rb kb.2.2 e3
      rw [e3] at b r3
      have r3' : hI h3 261 38 = ni y.2 ∧ hI h3 290 r = ni (0 + 1) ∧ ∀ j, j < 0 + 1 → hI h3 292 (8 * r + j) = ni (up1 (fun _ => 0) 0 y.1 j) := r3
      rw [if_neg (show ¬ bi (isR (.inr y : Nat ⊕ (Nat × Nat))) = 0 from show ¬ bi true = 0 by decide)] at b
      obtain ⟨h4, b4, d4, k4, r4⟩ := L90 (i := i) (c := c) (z := z) hM hr 7 1 y.2 (up1 (fun _ => 0) 0 y.1) (fun _ => 0) h3 o2 rfl (by omega) b3.2.2.2.1 hs3 (TMx_b kk3 t) (by rw [kk3.2.2.2.2.1 261 0 (by unfold wB; omega)]; exact h0) r3'.1 (fun j hj => by
        have e : j = 0 := by omega
        rw [e, up1_e]; exact b3.2.1) ⟨r3'.2.1, by rw [k3.2.2.2.2.1 291 r (by unfold wBn; omega)]; exact q291, r3'.2.2, fun j hj => by omega⟩
      have q289' : hI h4 289 r = ni k.1 := by
        rw [k4.2.2.2.2.1 289 r (by unfold wBm; omega), k3.2.2.2.2.1 289 r (by unfold wBn; omega)]; exact q289
      have el : rwl c z M 8 0 k.2 (fun _ => 0) (fun _ => 0) = rwk c z M 7 1 y.2 (up1 (fun _ => 0) 0 y.1) (fun _ => 0) := rwl_r e3
      refine ⟨h4, b4, b.trans d4, Kg_trans kk3 (Kg_mono (fun a j z => z.1) k4), ?_⟩
      cases e5 : rwk c z M 7 1 y.2 (up1 (fun _ => 0) 0 y.1) (fun _ => 0) with
      | inl q =>
        rw [e5] at r4
        rw [rwr_rl ek (el.trans e5)]
        exact r4
      | inr v =>
        rw [e5] at r4
        have r4' : b4 = true ∧ hI h4 261 38 = ni v.2.2.2.2 ∧ MRw h4 r v.1 v.2.1 v.2.2.1 v.2.2.2.1 := r4
        rw [rwr_rr ek (el.trans e5)]
        exact ⟨r4'.1, r4'.2.1, q289', r4'.2.2⟩
  cases nd : (dgt c z p).isSome
  · obtain ⟨h1, d1, k1, r1⟩ := D86c hsz tz (b := 14) (e := 19) hp z38 (by omega) (by omega)
    have d1' : am_D 86 [vr (some 261), vi 14, vi 19] (pI (pI (pI h 289 r 0) 290 r 0) 291 r 0) = some (some (vi (rI (wdx c z p 6 14 0))), h1) := d1
    have r1' : rM h1 (wdx c z p 6 14 0) := r1
    have hs1 := Kg_Sh k1 hsz
    have kk1 : Kb r h h1 := Kg_trans kz (Kb_m k1)
    rw [nd, if_pos (show bi false = 0 from rfl), d1'] at b0
    simp only [Option.bind_some, Option.toList_some, List.cons_append, List.nil_append] at b0
    rw [e_90_36 hs1] at b0
    cases e : wdx c z p 6 14 0 with
    | inl q =>
      rw [e] at b0 r1'
      have ew : wdc c z p 1 = .inl q := wdc_l e
      rw [if_pos (show rI (.inl q) = -1 from rfl)] at b0
      rw [rwr_l (kd_l nd ew)]
      exact ⟨h1, false, b0, kk1, Or.inl ⟨rfl, r1'⟩⟩
    | inr x =>
      have bw := wdx_b (c := c) hp 6 14 0 (by omega) (by omega)
      rw [e] at b0 r1' bw
      have bw' : 14 ≤ x.1 ∧ x.1 < 14 + 6 ∧ p < x.2 ∧ x.2 ≤ z := bw
      have ew : wdc c z p 1 = .inr (x.1 - 14, x.2) := wdc_r e
      have ek := kd_r nd ew
      have q1 : ∀ a j, 262 ≤ a → hI h1 a j = hI (pI (pI (pI h 289 r 0) 290 r 0) 291 r 0) a j := fun a j ha => k1.2.2.2.2.1 a j (by omega)
      have fin : ∀ κ, κ = x.1 - 14 + 1 → am_D 90 [vr (some 261), vi (ni r)] h = am_E 90 (94, [some (vr (some 261)), some (vi (ni r)), some (vi (rI (.inr x)))], [vi (ni κ), vi (ni r), vr (some 289)], h1) → ∃ h1 b, am_D 90 [vr (some 261), vi (ni r)] h = some (some (vi (bi b)), h1) ∧ Kb r h h1 ∧ rK h1 c z r b (rwr c z M p) := fun κ hκ b => by
        rw [e_90_94 hs1, ixb _ hr (by omega)] at b
        exact go (x.1 - 14 + 1, x.2) (pI h1 289 r (ni κ)) _ ek (Kg_pI (Or.inr (Or.inl ⟨Or.inl rfl, rfl⟩)) kk1) ((pn (by omega)).trans r1') (by rw [pe, hκ]) ((pn (by omega)).trans ((q1 290 r (by omega)).trans z290)) ((pn (by omega)).trans ((q1 291 r (by omega)).trans z291)) b
      rw [show rI (.inr x) = ni x.1 from rfl, if_neg (ni_n1 (by omega))] at b0
      by_cases a1 : x.1 = 16
      · rw [if_pos (show ni x.1 = 16 by rw [a1]; rfl)] at b0
        exact fin 3 (by omega) b0
      · rw [if_neg (show ¬ ni x.1 = 16 by rw [show (16 : Int32) = ni 16 from rfl, ni_eq (by omega) (by omega)]; exact a1)] at b0
        by_cases a2 : x.1 = 17
        · rw [if_pos (show ni x.1 = 17 by rw [a2]; rfl)] at b0
          exact fin 4 (by omega) b0
        · rw [if_neg (show ¬ ni x.1 = 17 by rw [show (17 : Int32) = ni 17 from rfl, ni_eq (by omega) (by omega)]; exact a2)] at b0
          by_cases a3 : x.1 = 18
          · rw [if_pos (show ni x.1 = 18 by rw [a3]; rfl)] at b0
            exact fin 5 (by omega) b0
          · rw [if_neg (show ¬ ni x.1 = 18 by rw [show (18 : Int32) = ni 18 from rfl, ni_eq (by omega) (by omega)]; exact a3)] at b0
            by_cases a4 : x.1 = 19
            · rw [if_pos (show ni x.1 = 19 by rw [a4]; rfl)] at b0
              exact fin 6 (by omega) b0
            · rw [if_neg (show ¬ ni x.1 = 19 by rw [show (19 : Int32) = ni 19 from rfl, ni_eq (by omega) (by omega)]; exact a4), show ni x.1 - 13 = ni (x.1 - 13) from ni_sub (b := 13) (by omega)] at b0
              exact fin (x.1 - 13) (by omega) b0
  · rw [nd, if_neg (show ¬ bi true = 0 by decide)] at b0
    exact go (0, p) _ _ (kd_0 nd) kz z38 z289 z290 z291 b0
end BMM
