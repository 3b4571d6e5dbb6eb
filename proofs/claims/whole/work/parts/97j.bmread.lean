/-! books: the model reads one -/
section BMB
variable {h : am_H} {i : Nat} {c : Nat → Int32} {z : Nat}
/-- the model's rows that are read -/
def MB (h : am_H) (n : Nat) (B : Nat → Nat → Nat) : Prop := ∀ k, k < n → hI h 289 k = ni (B 0 k) ∧ MRw h k (B 1 k) (B 2 k) (fun j => B 3 (8 * k + j)) (fun j => B 4 (8 * k + j))
def wV2 (a k : Nat) : Prop := (a = 261 ∧ (k = 38 ∨ k = 40 ∨ k = 41 ∨ k = 42)) ∨ (289 ≤ a ∧ a ≤ 293)
def Kv (h h1 : am_H) : Prop := Kg wV2 h h1
theorem Kv_b {r : Nat} {h h1 : am_H} (k : Kb r h h1) : Kv h h1 := Kg_mono (fun a j z => by unfold wB at z; unfold wV2; omega) k
theorem TMx_v {h h1 : am_H} (k : Kv h h1) (t : TMx h i c z) : TMx h1 i c z := TMx_fr k (by unfold wV2; omega) (fun j => by unfold wV2; omega) t
theorem MRw_fr {W : Nat → Nat → Prop} {h h1 : am_H} (k : Kg W h h1) {r n wd : Nat} {wh lk : Nat → Nat} (n8 : n ≤ 8) (w : ∀ a j, W a j → ¬ ((a = 290 ∨ a = 291) ∧ j = r) ∧ ¬ ((a = 292 ∨ a = 293) ∧ 8 * r ≤ j ∧ j < 8 * r + 8)) (R : MRw h r n wd wh lk) : MRw h1 r n wd wh lk := by
  have q : ∀ a j, ((a = 290 ∨ a = 291) ∧ j = r) ∨ ((a = 292 ∨ a = 293) ∧ 8 * r ≤ j ∧ j < 8 * r + 8) → hI h1 a j = hI h a j := fun a j y => k.2.2.2.2.1 a j (fun z => y.elim (w a j z).1 (w a j z).2)
  exact ⟨(q _ _ (Or.inl ⟨Or.inl rfl, rfl⟩)).trans R.1, (q _ _ (Or.inl ⟨Or.inr rfl, rfl⟩)).trans R.2.1, fun j hj => (q _ _ (Or.inr ⟨Or.inl rfl, by omega, by omega⟩)).trans (R.2.2.1 j hj), fun j hj => (q _ _ (Or.inr ⟨Or.inr rfl, by omega, by omega⟩)).trans (R.2.2.2 j hj)⟩
theorem MB_s {r M : Nat} {B : Nat → Nat → Nat} {h h1 : am_H} {y : Nat × Nat × Nat × (Nat → Nat) × (Nat → Nat) × Nat} (vb : Vbk M r B) (vy : Vrw M y.2.1 y.2.2.1 y.2.2.2.1 y.2.2.2.2.1) (k : Kb r h h1) (mb : MB h r B) (k9 : hI h1 289 r = ni y.1) (R : MRw h1 r y.2.1 y.2.2.1 y.2.2.2.1 y.2.2.2.2.1) : MB h1 (r + 1) (bup B r y) := fun j hj => by
  by_cases q : j = r
  · subst q
    rw [bup_0, bup_1, bup_2, if_pos rfl, if_pos rfl, if_pos rfl]
    have y8 := vy.2.1
    refine ⟨k9, R.1, R.2.1, fun i hi => ?_, fun i hi => ?_⟩
    · show hI h1 292 (8 * j + i) = ni (bup B j y 3 (8 * j + i))
      rw [bup_3, if_pos (by omega), show (8 * j + i) % 8 = i by omega]; exact R.2.2.1 i hi
    · show hI h1 293 (8 * j + i) = ni (bup B j y 4 (8 * j + i))
      rw [bup_4, if_pos (by omega), show (8 * j + i) % 8 = i by omega]; exact R.2.2.2 i hi
  · have g := mb j (by omega)
    have n8 := (vb j (by omega)).2.2.1
    have R' := MRw_fr k n8 (fun a j' z => by unfold wB at z; omega) g.2
    rw [bup_0, bup_1, bup_2, if_neg q, if_neg q, if_neg q]
    refine ⟨by rw [k.2.2.2.2.1 289 j (by unfold wB; omega)]; exact g.1, R'.1, R'.2.1, fun i hi => ?_, fun i hi => ?_⟩
    · show hI h1 292 (8 * j + i) = ni (bup B r y 3 (8 * j + i))
      rw [bup_3, if_neg (by omega)]; exact R'.2.2.1 i hi
    · show hI h1 293 (8 * j + i) = ni (bup B r y 4 (8 * j + i))
      rw [bup_4, if_neg (by omega)]; exact R'.2.2.2 i hi
def rB (h1 : am_H) : Nat ⊕ (Nat × (Nat → Nat → Nat)) → Prop
  | .inl q => hI h1 261 41 = ni q
  | .inr v => hI h1 261 42 = ni v.1 ∧ MB h1 v.1 v.2
theorem L91 {M : Nat} (hM : M ≤ 24) : ∀ m r p B {h : am_H}, m + r = 8 → p ≤ z → Sh h → TMx h i c z → hI h 261 0 = ni M → hI h 261 38 = ni p → hI h 261 42 = ni r → Vbk M r B → MB h r B → ∃ h1, am_E 91 (20, [some (vr (some 261))], [], h) = some (some (vi (bi (isR (bkk c z M m r p B)))), h1) ∧ Kv h h1 ∧ rB h1 (bkk c z M m r p B) := by
  intro m
  induction m with
  | zero =>
    intro r p B h hm hp hs t h0 h38 h42 vb mb
    have z100 := t.2.2.2.1
    have b0 := e_91_20 hs
    rw [t.2.2.1, h38] at b0
    unfold bkk
    by_cases y : p < z
    · have wr : am_E 91 (49, [some (vr (some 261))], [], h) = some (some (vi 0), pI h 261 41 (ni p)) := by
        rw [e_91_49 hs, h38, d_87 hs]
        simp only [Option.bind_some, Option.toList_some, List.cons_append, List.nil_append]
        rw [e_91_57 (show Sh (pI h 261 41 (ni p)) from hs), if_pos (show (0 : Int32) = 0 ∨ (0 : Int32) = 1 from Or.inl rfl)]
      rw [if_neg (show ¬ ni z ≤ ni p by rw [ni_le (by omega) (by omega)]; omega), D84 hs t h38 y] at b0
      simp only [Option.bind_some, Option.toList_some, List.cons_append, List.nil_append] at b0
      rw [e_91_35 hs, h42, if_pos (show ni r = 8 by rw [show r = 8 by omega]; rfl), wr] at b0
      rw [if_pos y, if_pos rfl]
      refine ⟨pI h 261 41 (ni p), ?_, Kg_pI (Or.inl ⟨rfl, Or.inr (Or.inr (Or.inl rfl))⟩) (Kg_refl h), pe⟩
      rw [b0]
      split <;> rfl
    · rw [if_pos (show ni z ≤ ni p by rw [ni_le (by omega) (by omega)]; omega)] at b0
      rw [if_neg y]
      exact ⟨h, b0, Kg_refl h, h42, mb⟩
  | succ m ih =>
    intro r p B h hm hp hs t h0 h38 h42 vb mb
    have z100 := t.2.2.2.1
    have wr : ∀ (h : am_H) (p : Nat), Sh h → hI h 261 38 = ni p → am_E 91 (49, [some (vr (some 261))], [], h) = some (some (vi 0), pI h 261 41 (ni p)) := fun h p hs h38 => by
      rw [e_91_49 hs, h38, d_87 hs]
      simp only [Option.bind_some, Option.toList_some, List.cons_append, List.nil_append]
      rw [e_91_57 (show Sh (pI h 261 41 (ni p)) from hs), if_pos (show (0 : Int32) = 0 ∨ (0 : Int32) = 1 from Or.inl rfl)]
    have b0 := e_91_20 hs
    rw [t.2.2.1, h38] at b0
    unfold bkk
    by_cases y : p < z
    · rw [if_neg (show ¬ ni z ≤ ni p by rw [ni_le (by omega) (by omega)]; omega), D84 hs t h38 y] at b0
      simp only [Option.bind_some, Option.toList_some, List.cons_append, List.nil_append] at b0
      rw [e_91_35 hs, h42] at b0
      rw [if_pos y, if_neg (show ¬ m + 1 = 0 by omega)]
      by_cases w : c p = ni 59
      · rw [if_pos (show c p = 59 from w), if_neg (show ¬ ni r = 8 by rw [show (8 : Int32) = ni 8 from rfl, ni_eq (by omega) (by omega)]; omega), h38, ni_add1, pn (by omega), h42] at b0
        rw [if_pos w]
        have km : Km h (pI h 261 38 (ni (p + 1))) := Km_38 (Kg_refl h) _
        have hsm := Kg_Sh km hs
        obtain ⟨h2, b, d2, k2, r2⟩ := D90 (r := r) hsm (TMx_m km t) hM (by omega) ((pn (by omega)).trans h0) pe (show p + 1 ≤ z by omega)
        have hs2 := Kg_Sh k2 hsm
        have kk2 : Kb r h h2 := Kg_trans (Kb_m km) k2
        have t2 := TMx_b kk2 t
        rw [d2] at b0
        simp only [Option.bind_some, Option.toList_some, List.cons_append, List.nil_append] at b0
        rw [e_91_76 hs2, show hI h2 261 42 = ni r from (kk2.2.2.2.2.1 261 42 (by unfold wB; omega)).trans h42, ni_add1] at b0
        have h3S : Sh (pI h2 261 42 (ni (r + 1))) := hs2
        have kv3 : Kv h (pI h2 261 42 (ni (r + 1))) := Kg_pI (Or.inl ⟨rfl, Or.inr (Or.inr (Or.inr rfl))⟩) (Kv_b kk2)
        cases e : rwr c z M (p + 1) with
        | inl q =>
          have lb := rwr_lb (show p + 1 ≤ z by omega) e
          rw [e] at r2
          rw [bkl_l e]
          rcases r2 with ⟨rfl, q41⟩ | ⟨rfl, q38, qz, q59⟩
          · rw [if_pos (show bi false = 0 from rfl)] at b0
            exact ⟨h2, b0, Kv_b kk2, q41⟩
          · have q38' : hI (pI h2 261 42 (ni (r + 1))) 261 38 = ni q := (pn (by omega)).trans q38
            rw [if_neg (show ¬ bi true = 0 by decide), e_91_20 h3S, (TMx_v kv3 t).2.2.1, q38', if_neg (show ¬ ni z ≤ ni q by rw [ni_le (by omega) (by omega)]; omega), D84 h3S (TMx_v kv3 t) q38' qz] at b0
            simp only [Option.bind_some, Option.toList_some, List.cons_append, List.nil_append] at b0
            rw [e_91_35 h3S, if_neg (show ¬ c q = 59 from q59), wr _ q h3S q38'] at b0
            exact ⟨_, b0, Kg_pI (Or.inl ⟨rfl, Or.inr (Or.inr (Or.inl rfl))⟩) kv3, pe⟩
        | inr v =>
          have vv := rwr_rb (show p + 1 ≤ z by omega) e
          rw [e] at r2
          have r2' : b = true ∧ hI h2 261 38 = ni v.2.2.2.2.2 ∧ hI h2 289 r = ni v.1 ∧ MRw h2 r v.2.1 v.2.2.1 v.2.2.2.1 v.2.2.2.2.1 := r2
          rw [r2'.1, if_neg (show ¬ bi true = 0 by decide)] at b0
          have mb2 := MB_s vb vv.2.1 kk2 mb r2'.2.2.1 r2'.2.2.2
          have mb3 : MB (pI h2 261 42 (ni (r + 1))) (r + 1) (bup B r v) := fun j hj => by
            have g := mb2 j hj
            exact ⟨(pn (by omega)).trans g.1, (pn (by omega)).trans g.2.1, (pn (by omega)).trans g.2.2.1, fun i hi => (pn (by omega)).trans (g.2.2.2.1 i hi), fun i hi => (pn (by omega)).trans (g.2.2.2.2 i hi)⟩
          obtain ⟨h4, d4, k4, r4⟩ := ih (r + 1) v.2.2.2.2.2 (bup B r v) (h := pI h2 261 42 (ni (r + 1))) (by omega) vv.2.2.2 h3S (TMx_v kv3 t) ((pn (by omega)).trans ((kk2.2.2.2.2.1 261 0 (by unfold wB; omega)).trans h0)) ((pn (by omega)).trans r2'.2.1) pe (Vbk_s vb vv.1 vv.2.1) mb3
          rw [bkl_r e]
          exact ⟨h4, b0.trans d4, Kg_trans kv3 k4, r4⟩
      · rw [if_neg (show ¬ c p = 59 from w), wr h p hs h38] at b0
        rw [if_neg w]
        exact ⟨_, b0, Kg_pI (Or.inl ⟨rfl, Or.inr (Or.inr (Or.inl rfl))⟩) (Kg_refl h), pe⟩
    · rw [if_pos (show ni z ≤ ni p by rw [ni_le (by omega) (by omega)]; omega)] at b0
      rw [if_neg y]
      exact ⟨h, b0, Kg_refl h, h42, mb⟩
theorem D91 (hs : Sh h) (t : TMx h i c z) {M : Nat} (hM : M ≤ 24) (h0 : hI h 261 0 = ni M) (h38 : hI h 261 38 = ni 0) {B : Nat → Nat → Nat} : ∃ h1, am_D 91 [vr (some 261)] h = some (some (vi (bi (isR (bkl c z M 8 0 0 B)))), h1) ∧ Kv h h1 ∧ rB h1 (bkl c z M 8 0 0 B) := by
  have z100 := t.2.2.2.1
  have k0 : Kv h (pI h 261 42 0) := Kg_pI (Or.inl ⟨rfl, Or.inr (Or.inr (Or.inr rfl))⟩) (Kg_refl h)
  have hs0 := Kg_Sh k0 hs
  obtain ⟨h2, b, d2, k2, r2⟩ := D90 (r := 0) hs0 (TMx_v k0 t) hM (by omega) ((pn (by omega)).trans h0) ((pn (by omega)).trans h38) (show 0 ≤ z by omega)
  have hs2 := Kg_Sh k2 hs0
  have kk2 : Kv h h2 := Kg_trans k0 (Kv_b k2)
  have b0 := d_91 hs
  rw [show (0 : Int32) = ni 0 from rfl] at b0
  have d2' : am_D 90 [vr (some 261), vi (ni 0)] (pI h 261 42 (ni 0)) = some (some (vi (bi b)), h2) := d2
  rw [d2'] at b0
  simp only [Option.bind_some, Option.toList_some, List.cons_append, List.nil_append] at b0
  rw [e_91_10 hs2] at b0
  have h3S : Sh (pI h2 261 42 1) := hs2
  have kv3 : Kv h (pI h2 261 42 1) := Kg_pI (Or.inl ⟨rfl, Or.inr (Or.inr (Or.inr rfl))⟩) kk2
  have vb0 : Vbk M 0 B := fun r hr => by omega
  cases e : rwr c z M 0 with
  | inl q =>
    have lb := rwr_lb (show 0 ≤ z by omega) e
    rw [e] at r2
    rw [bkl_l e]
    rcases r2 with ⟨rfl, q41⟩ | ⟨rfl, q38, qz, q59⟩
    · rw [if_pos (show bi false = 0 from rfl)] at b0
      exact ⟨h2, b0, kk2, q41⟩
    · have q38' : hI (pI h2 261 42 1) 261 38 = ni q := (pn (by omega)).trans q38
      rw [if_neg (show ¬ bi true = 0 by decide), e_91_20 h3S, (TMx_v kv3 t).2.2.1, q38', if_neg (show ¬ ni z ≤ ni q by rw [ni_le (by omega) (by omega)]; omega), D84 h3S (TMx_v kv3 t) q38' qz] at b0
      simp only [Option.bind_some, Option.toList_some, List.cons_append, List.nil_append] at b0
      rw [e_91_35 h3S, if_neg (show ¬ c q = 59 from q59), e_91_49 h3S, q38', d_87 h3S] at b0
      simp only [Option.bind_some, Option.toList_some, List.cons_append, List.nil_append] at b0
      rw [e_91_57 (show Sh (pI (pI h2 261 42 1) 261 41 (ni q)) from hs2), if_pos (show (0 : Int32) = 0 ∨ (0 : Int32) = 1 from Or.inl rfl)] at b0
      exact ⟨_, b0, Kg_pI (Or.inl ⟨rfl, Or.inr (Or.inr (Or.inl rfl))⟩) kv3, pe⟩
  | inr v =>
    have vv := rwr_rb (show 0 ≤ z by omega) e
    rw [e] at r2
    have r2' : b = true ∧ hI h2 261 38 = ni v.2.2.2.2.2 ∧ hI h2 289 0 = ni v.1 ∧ MRw h2 0 v.2.1 v.2.2.1 v.2.2.2.1 v.2.2.2.2.1 := r2
    rw [r2'.1, if_neg (show ¬ bi true = 0 by decide)] at b0
    have mb2 := MB_s vb0 vv.2.1 k2 (fun j hj => by omega) r2'.2.2.1 r2'.2.2.2
    have mb3 : MB (pI h2 261 42 1) 1 (bup B 0 v) := fun j hj => by
      have g := mb2 j hj
      exact ⟨(pn (by omega)).trans g.1, (pn (by omega)).trans g.2.1, (pn (by omega)).trans g.2.2.1, fun i hi => (pn (by omega)).trans (g.2.2.2.1 i hi), fun i hi => (pn (by omega)).trans (g.2.2.2.2 i hi)⟩
    obtain ⟨h4, d4, k4, r4⟩ := L91 (i := i) (c := c) (z := z) hM 7 1 v.2.2.2.2.2 (bup B 0 v) (h := pI h2 261 42 1) rfl vv.2.2.2 h3S (TMx_v kv3 t) ((pn (by omega)).trans ((kk2.2.2.2.2.1 261 0 (by unfold wV2; omega)).trans h0)) ((pn (by omega)).trans r2'.2.1) pe (Vbk_s vb0 vv.1 vv.2.1) mb3
    rw [bkl_r e]
    exact ⟨h4, b0.trans d4, Kg_trans kv3 k4, r4⟩
end BMB
