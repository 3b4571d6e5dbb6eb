/-! texts: rules are read -/
def or1 (c : Nat → Int32) (z p : Nat) : Nat ⊕ (Nat × Nat × Nat) := match wdx c z p 14 0 0 with
  | .inl q => .inl q
  | .inr x => match rn c z x.2 (t1 x.1 + 1) with
    | .inl q => .inl q
    | .inr y => .inr (x.1, y.1, y.2)
def up1 (tl : Nat → Nat) (w n : Nat) : Nat → Nat := fun j => if j = w then n else tl j
def rrl (c : Nat → Int32) (z : Nat) : Nat → Nat → (Nat → Nat) → Nat ⊕ (Nat → Nat)
  | 0, _, _ => .inl 0
  | m + 1, p, tl => match or1 c z p with
    | .inl q => .inl q
    | .inr x => if x.2.2 < z then (if c x.2.2 = ni 59 then rrl c z m (x.2.2 + 1) (up1 tl x.1 x.2.1) else .inl x.2.2) else .inr (up1 tl x.1 x.2.1)
def rrk (c : Nat → Int32) (z m p : Nat) (tl : Nat → Nat) : Nat ⊕ (Nat → Nat) := if p < z then (if c p = ni 59 then rrl c z m (p + 1) tl else .inl p) else .inr tl
theorem rrl_l {c : Nat → Int32} {z p m q : Nat} {tl : Nat → Nat} (e : or1 c z p = .inl q) : rrl c z (m + 1) p tl = .inl q := by
  show (match or1 c z p with
    | .inl q => .inl q
    | .inr x => rrk c z m x.2.2 (up1 tl x.1 x.2.1) : Nat ⊕ (Nat → Nat)) = _
  rw [e]
theorem rrl_r {c : Nat → Int32} {z p m : Nat} {x : Nat × Nat × Nat} {tl : Nat → Nat} (e : or1 c z p = .inr x) : rrl c z (m + 1) p tl = rrk c z m x.2.2 (up1 tl x.1 x.2.1) := by
  show (match or1 c z p with
    | .inl q => .inl q
    | .inr x => rrk c z m x.2.2 (up1 tl x.1 x.2.1) : Nat ⊕ (Nat → Nat)) = _
  rw [e]
theorem or1_l {c : Nat → Int32} {z p q : Nat} (e : wdx c z p 14 0 0 = .inl q) : or1 c z p = .inl q := by unfold or1; rw [e]
theorem or1_rl {c : Nat → Int32} {z p q : Nat} {x : Nat × Nat} (e : wdx c z p 14 0 0 = .inr x) (e2 : rn c z x.2 (t1 x.1 + 1) = .inl q) : or1 c z p = .inl q := by
  unfold or1
  rw [e]
  show (match rn c z x.2 (t1 x.1 + 1) with
    | .inl q => .inl q
    | .inr y => .inr (x.1, y.1, y.2) : Nat ⊕ (Nat × Nat × Nat)) = _
  rw [e2]
theorem or1_rr {c : Nat → Int32} {z p : Nat} {x y : Nat × Nat} (e : wdx c z p 14 0 0 = .inr x) (e2 : rn c z x.2 (t1 x.1 + 1) = .inr y) : or1 c z p = .inr (x.1, y.1, y.2) := by
  unfold or1
  rw [e]
  show (match rn c z x.2 (t1 x.1 + 1) with
    | .inl q => .inl q
    | .inr y => .inr (x.1, y.1, y.2) : Nat ⊕ (Nat × Nat × Nat)) = _
  rw [e2]
theorem or1_b {c : Nat → Int32} {z p : Nat} {x : Nat × Nat × Nat} (hp : p ≤ z) (h : or1 c z p = .inr x) : x.1 < 14 ∧ x.2.1 ≤ t1 x.1 ∧ p < x.2.2 ∧ x.2.2 ≤ z := by
  have bw := wdx_b (c := c) hp 14 0 0 (by omega) (by omega)
  cases e : wdx c z p 14 0 0 with
  | inl q => rw [or1_l e] at h; cases h
  | inr y =>
    rw [e] at bw
    have bw' : 0 ≤ y.1 ∧ y.1 < 0 + 14 ∧ p < y.2 ∧ y.2 ≤ z := bw
    have bn := rn_b (c := c) (L := t1 y.1 + 1) (show y.2 ≤ z by omega)
    cases e2 : rn c z y.2 (t1 y.1 + 1) with
    | inl q => rw [or1_rl e e2] at h; cases h
    | inr v =>
      rw [e2] at bn
      have bn' : v.1 < t1 y.1 + 1 ∧ v.1 ≤ 99 ∧ y.2 < v.2 ∧ v.2 ≤ z := bn
      rw [or1_rr e e2] at h
      cases h
      show y.1 < 14 ∧ v.1 ≤ t1 y.1 ∧ p < v.2 ∧ v.2 ≤ z
      omega
theorem rrl_b {c : Nat → Int32} {z : Nat} : ∀ m p tl tl', p ≤ z → (∀ j, j < 14 → tl j ≤ t1 j) → rrl c z m p tl = .inr tl' → ∀ j, j < 14 → tl' j ≤ t1 j
  | 0, _, _, _, _, _, h => by cases h
  | m + 1, p, tl, tl', hp, ht, h => by
    cases e : or1 c z p with
    | inl q => rw [rrl_l e] at h; cases h
    | inr x =>
      have b := or1_b hp e
      have ht' : ∀ j, j < 14 → up1 tl x.1 x.2.1 j ≤ t1 j := fun j hj => by
        unfold up1
        by_cases y : j = x.1
        · rw [if_pos y, y]; exact b.2.1
        · rw [if_neg y]; exact ht j hj
      rw [rrl_r e] at h
      unfold rrk at h
      by_cases y : x.2.2 < z
      · rw [if_pos y] at h
        by_cases w : c x.2.2 = ni 59
        · rw [if_pos w] at h
          exact rrl_b m (x.2.2 + 1) _ tl' (by omega) ht' h
        · rw [if_neg w] at h; cases h
      · rw [if_neg y] at h
        cases h
        exact ht'
section RUC
variable {i : Nat} {c : Nat → Int32} {z : Nat}
def Ku (h h1 : am_H) : Prop := Kg (fun a k => (a = 248 ∧ (k = 0 ∨ k = 3)) ∨ a = 252) h h1 ∧ hR h1 = hR h
theorem Ku_trans {h h1 h2 : am_H} (k1 : Ku h h1) (k2 : Ku h1 h2) : Ku h h2 := ⟨Kg_trans k1.1 k2.1, k2.2.trans k1.2⟩
theorem Ku_t {h h1 : am_H} (k : Kt h h1) : Ku h h1 := ⟨Kg_mono (fun _ _ z => Or.inl z) k.1, k.2⟩
theorem TX_u {h h1 : am_H} (k : Ku h h1) (t : TX h i c z) : TX h1 i c z := TX_fr k.1 k.2 (by omega) (fun a j _ _ => by omega) t
def rrT (h1 : am_H) : Nat ⊕ (Nat → Nat) → Prop
  | .inl q => hI h1 248 0 = ni q
  | .inr tl => hI h1 248 0 = -ni 1 ∧ ∀ j, j < 14 → hI h1 252 j = ni (tl j)
theorem wdc_l {p k q : Nat} (e : wdx c z p (snd' k - sbg k) (sbg k) 0 = .inl q) : wdc c z p k = .inl q := by unfold wdc; rw [e]
theorem wdc_r {p k : Nat} {x : Nat × Nat} (e : wdx c z p (snd' k - sbg k) (sbg k) 0 = .inr x) : wdc c z p k = .inr (x.1 - sbg k, x.2) := by unfold wdc; rw [e]
theorem ni_n1 {k : Nat} (h : k < 2147483648) : ¬ ni k = -1 := by
  rw [show (-1 : Int32) = -ni 1 from rfl, ng_eq h (by omega) (by omega)]; exact id
theorem L81 : ∀ m part p tl {h : am_H} (o3 o4 : Option am_V), part ≤ p → p ≤ z → z < p + m → Sh h → TX h i c z → hI h 248 3 = ni p → hI h 248 0 = -ni 1 → (∀ j, j < 14 → hI h 252 j = ni (tl j)) → (∀ j, j < 14 → hI h 1 j = ni (t1 j)) → ∃ h1, am_E 81 (13, [some (vr (some 248)), some (vr (some 252)), some (vi (ni part)), o3, o4], [], h) = some (none, h1) ∧ Ku h h1 ∧ rrT h1 (rrl c z m p tl) := by
  intro m
  induction m with
  | zero => intro part p tl h o3 o4 a1 a2 a3; omega
  | succ m ih =>
    intro part p tl h o3 o4 a1 a2 a3 hs t h3 h0 g g1
    have z100 := t.2.2.2.1
    have b0 := e_81_13 (x2 := ni part) (o3 := o3) (o4 := o4) hs
    obtain ⟨h1, d1, k1, r1⟩ := D77c hs t (k := 0) (by omega) h3 (by omega)
    have d1' : am_D 77 [vr (some 248), vr (some 2)] h = some (some (vi (rI (wdc c z p 0))), h1) := d1
    have hs1 := Kg_Sh k1.1 hs
    have t1' := TX_t k1 t
    have bw := wdx_b (c := c) a2 14 0 0 (by omega) (by omega)
    rw [t.2.2.1, if_neg (show ¬ ni z < ni part by rw [ni_lt (by omega) (by omega)]; omega), d1'] at b0
    simp only [Option.bind_some, Option.toList_some, List.cons_append, List.nil_append] at b0
    rw [e_81_27 hs1] at b0
    cases e : wdx c z p 14 0 0 with
    | inl q =>
      have ew : wdc c z p 0 = .inl q := wdc_l e
      rw [ew] at b0 r1
      rw [if_pos (show rI (.inl q) = -1 from rfl), e_81_46 hs1, if_pos rfl] at b0
      exact ⟨h1, b0, Ku_t k1, by rw [rrl_l (or1_l e)]; exact r1⟩
    | inr x =>
      have ew : wdc c z p 0 = .inr (x.1 - 0, x.2) := wdc_r e
      rw [e] at bw
      have bw' : 0 ≤ x.1 ∧ x.1 < 0 + 14 ∧ p < x.2 ∧ x.2 ≤ z := bw
      have x14 : x.1 < 14 := by omega
      rw [ew] at b0 r1
      have r1' : hI h1 248 3 = ni x.2 ∧ hI h1 248 0 = hI h 248 0 := r1
      have g11 : hI h1 1 x.1 = ni (t1 x.1) := by rw [k1.1.2.2.2.2.1 1 x.1 (by omega)]; exact g1 _ x14
      have t1b : t1 x.1 ≤ 99 := (show ∀ j, j < 14 → t1 j ≤ 99 by decide) _ x14
      obtain ⟨h2, d2, k2, r2⟩ := D79 (L := t1 x.1 + 1) (x1 := ni (t1 x.1)) hs1 t1' r1'.1 (by omega) (fun n hn => by
        rw [ni_le (by omega) (by omega)]; omega)
      have hs2 := Kg_Sh k2.1 hs1
      have kk2 : Kt h h2 := Kt_trans k1 k2
      have bn := rn_b (c := c) (L := t1 x.1 + 1) (show x.2 ≤ z by omega)
      rw [show rI (.inr (x.1 - 0, x.2)) = ni x.1 from rfl, if_neg (ni_n1 (by omega)), ixb _ x14 (by omega), g11, d2] at b0
      simp only [Option.bind_some, Option.toList_some, List.cons_append, List.nil_append] at b0
      rw [e_81_46 hs2] at b0
      cases e2 : rn c z x.2 (t1 x.1 + 1) with
      | inl q =>
        rw [e2] at b0 r2
        rw [if_pos (show rI (.inl q) = -1 from rfl)] at b0
        exact ⟨h2, b0, Ku_t kk2, by rw [rrl_l (or1_rl e e2)]; exact r2⟩
      | inr y =>
        rw [e2] at b0 r2 bn
        have bn' : y.1 < t1 x.1 + 1 ∧ y.1 ≤ 99 ∧ x.2 < y.2 ∧ y.2 ≤ z := bn
        have r2' : hI h2 248 3 = ni y.2 ∧ hI h2 248 0 = hI h1 248 0 := r2
        have ku3 : Ku h (pI h2 252 x.1 (ni y.1)) := ⟨Kg_pI (Or.inr rfl) (Ku_t kk2).1, kk2.2⟩
        have hs3 := Kg_Sh ku3.1 hs
        have t3 := TX_u ku3 t
        have p3 : hI (pI h2 252 x.1 (ni y.1)) 248 3 = ni y.2 := (pn (by omega)).trans r2'.1
        have p0 : hI (pI h2 252 x.1 (ni y.1)) 248 0 = -ni 1 := (pn (by omega)).trans (r2'.2.trans (r1'.2.trans h0))
        have p2 : hI (pI h2 252 x.1 (ni y.1)) 248 2 = ni z := t3.2.2.1
        have gt : ∀ j, j < 14 → hI (pI h2 252 x.1 (ni y.1)) 252 j = ni (up1 tl x.1 y.1 j) := fun j hj => by
          rw [hI_pI]
          unfold up1
          by_cases w : j = x.1
          · rw [if_pos ⟨rfl, w⟩, if_pos w]
          · rw [if_neg (fun q => w q.2), if_neg w, kk2.1.2.2.2.2.1 252 j (by omega)]; exact g j hj
        rw [show rI (.inr y) = ni y.1 from rfl, if_neg (ni_n1 (by omega)), ixb _ x14 (by omega), p2, p3] at b0
        rw [rrl_r (or1_rr e e2)]
        unfold rrk
        by_cases w : y.2 < z
        · rw [if_neg (show ¬ ni z ≤ ni y.2 by rw [ni_le (by omega) (by omega)]; omega), D80 hs3 t3 p3 w] at b0
          rw [if_pos (show (x.1, y.1, y.2).2.2 < z from w)]
          by_cases v : c y.2 = ni 59
          · have ku4 : Ku h (pI (pI h2 252 x.1 (ni y.1)) 248 3 (ni (y.2 + 1))) := ⟨Kg_pI (Or.inl ⟨rfl, Or.inr rfl⟩) ku3.1, ku3.2⟩
            have hs4 := Kg_Sh ku4.1 hs
            rw [if_pos v] at b0
            simp only [Option.bind_some, Option.toList_some, List.cons_append, List.nil_append] at b0
            rw [e_81_75 hs4, if_neg (show ¬ (1 : Int32) = 0 by decide), ni_add1] at b0
            rw [if_pos (show c (x.1, y.1, y.2).2.2 = ni 59 from v)]
            obtain ⟨h5, d5, k5, r5⟩ := ih (part + 1) (y.2 + 1) (up1 tl x.1 y.1) (h := pI (pI h2 252 x.1 (ni y.1)) 248 3 (ni (y.2 + 1))) (some (vi (ni x.1))) (some (vi (ni y.1))) (by omega) (by omega) (by omega) hs4 (TX_u ku4 t) pe ((pn (by omega)).trans p0) (fun j hj => (pn (by omega)).trans (gt j hj)) (fun j hj => by rw [ku4.1.2.2.2.2.1 1 j (by omega)]; exact g1 j hj)
            exact ⟨h5, b0.trans d5, Ku_trans ku4 k5, r5⟩
          · have ku4 : Ku h (pI (pI h2 252 x.1 (ni y.1)) 248 0 (ni y.2)) := ⟨Kg_pI (Or.inl ⟨rfl, Or.inl rfl⟩) ku3.1, ku3.2⟩
            have hs4 := Kg_Sh ku4.1 hs
            rw [if_neg v] at b0
            simp only [Option.bind_some, Option.toList_some, List.cons_append, List.nil_append] at b0
            rw [e_81_75 hs4, if_pos (show (0 : Int32) = 0 from rfl)] at b0
            rw [if_neg (show ¬ c (x.1, y.1, y.2).2.2 = ni 59 from v)]
            exact ⟨_, b0, ku4, pe⟩
        · rw [if_pos (show ni z ≤ ni y.2 by rw [ni_le (by omega) (by omega)]; omega)] at b0
          rw [if_neg (show ¬ (x.1, y.1, y.2).2.2 < z from w)]
          exact ⟨_, b0, ku3, p0, gt⟩
theorem D81 {h : am_H} (hs : Sh h) (t : TX h i c z) (h3 : hI h 248 3 = ni 0) (h0 : hI h 248 0 = -ni 1) (g0 : ∀ j, j < 14 → hI h 0 j = ni (t0 j)) (g1 : ∀ j, j < 14 → hI h 1 j = ni (t1 j)) : ∃ h1, am_D 81 [vr (some 248), vr (some 252)] h = some (none, h1) ∧ Ku h h1 ∧ rrT h1 (rrl c z (z + 1) 0 t0) := by
  have ku : Ku h (pIs h 252 (va_cpy (hI h 0) (hI h 252) (0 : Int32).toNatClampNeg (0 : Int32).toNatClampNeg (14 : Int32).toNatClampNeg)) := ⟨Kg_pIs (fun j => Or.inr rfl) (Kg_refl h), rfl⟩
  have q : ∀ a j, a ≠ 252 → hI (pIs h 252 (va_cpy (hI h 0) (hI h 252) (0 : Int32).toNatClampNeg (0 : Int32).toNatClampNeg (14 : Int32).toNatClampNeg)) a j = hI h a j := fun a j ne => by rw [hI_pIs, if_neg ne]
  obtain ⟨h1, d, k, r⟩ := L81 (z + 1) 0 0 t0 (h := pIs h 252 (va_cpy (hI h 0) (hI h 252) (0 : Int32).toNatClampNeg (0 : Int32).toNatClampNeg (14 : Int32).toNatClampNeg)) none none (by omega) (by omega) (by omega) (Kg_Sh ku.1 hs) (TX_u ku t) ((q _ _ (by omega)).trans h3) ((q _ _ (by omega)).trans h0) (fun j hj => by rw [hI_pIs, if_pos rfl, vac14 hj]; exact g0 j hj) (fun j hj => by rw [q _ _ (by omega)]; exact g1 j hj)
  refine ⟨h1, ?_, Ku_trans ku k, r⟩
  rw [d_81 hs, if_pos (by decide)]
  exact d
-- the model
def Kw (h h1 : am_H) : Prop := Kg (fun a k => (a = 261 ∧ (k = 38 ∨ k = 40 ∨ k = 41)) ∨ a = 288) h h1
theorem Kw_m {h h1 : am_H} (k : Km h h1) : Kw h h1 := Kg_mono (fun _ _ z => Or.inl z) k
theorem TMx_w {h h1 : am_H} (k : Kw h h1) (t : TMx h i c z) : TMx h1 i c z := TMx_fr k (by omega) (fun j => by omega) t
theorem D92 {h : am_H} (hs : Sh h) {w : Nat} (hw : w < 14) : am_D 92 [vr (some 261), vi (ni w)] h = some (some (vi (ni (t1 w))), h) := by
  rw [d_92 hs]
  by_cases a : w = 1
  · rw [if_pos (show ni w = 1 by rw [a]; rfl), a]; rfl
  · rw [if_neg (show ¬ ni w = 1 by rw [show (1 : Int32) = ni 1 from rfl, ni_eq (by omega) (by omega)]; exact a)]
    by_cases b : w < 2
    · rw [if_pos (show ni w < 2 by rw [show (2 : Int32) = ni 2 from rfl, ni_lt (by omega) (by omega)]; exact b), show w = 0 by omega]; rfl
    · rw [if_neg (show ¬ ni w < 2 by rw [show (2 : Int32) = ni 2 from rfl, ni_lt (by omega) (by omega)]; exact b)]
      by_cases d : 11 < w
      · rw [if_pos (show 11 < ni w by rw [show (11 : Int32) = ni 11 from rfl, ni_lt (by omega) (by omega)]; exact d), (show ∀ w, w < 14 → 11 < w → t1 w = 99 by decide) w hw d]; rfl
      · rw [if_neg (show ¬ 11 < ni w by rw [show (11 : Int32) = ni 11 from rfl, ni_lt (by omega) (by omega)]; exact d), (show ∀ w, w < 14 → ¬ w < 2 → ¬ 11 < w → t1 w = 9 by decide) w hw b d]; rfl
def rX (h h1 : am_H) : Nat ⊕ (Nat × Nat × Nat) → Prop
  | .inl q => hI h1 261 41 = ni q
  | .inr x => hI h1 261 38 = ni x.2.2 ∧ ∀ j, hI h1 288 j = if j = x.1 then ni x.2.1 else hI h 288 j
theorem D93 {h : am_H} (hs : Sh h) (t : TMx h i c z) {p : Nat} (h38 : hI h 261 38 = ni p) (hp : p ≤ z) : ∃ h1, am_D 93 [vr (some 261)] h = some (some (vi (bi (isR (or1 c z p)))), h1) ∧ Kw h h1 ∧ rX h h1 (or1 c z p) := by
  have z100 := t.2.2.2.1
  obtain ⟨h1, d1, k1, r1⟩ := D86c hs t (b := 0) (e := 13) hp h38 (by omega) (by omega)
  have d1' : am_D 86 [vr (some 261), vi 0, vi 13] h = some (some (vi (rI (wdx c z p 14 0 0))), h1) := d1
  have r1' : rM h1 (wdx c z p 14 0 0) := r1
  have hs1 := Kg_Sh k1 hs
  have b0 := d_93 hs
  have bw := wdx_b (c := c) hp 14 0 0 (by omega) (by omega)
  rw [d1'] at b0
  simp only [Option.bind_some, Option.toList_some, List.cons_append, List.nil_append] at b0
  rw [e_93_7 hs1] at b0
  cases e : wdx c z p 14 0 0 with
  | inl q =>
    rw [e] at b0 r1'
    rw [if_pos (show rI (.inl q) = -1 from rfl)] at b0
    exact ⟨h1, by rw [or1_l e]; exact b0, Kw_m k1, by rw [or1_l e]; exact r1'⟩
  | inr x =>
    rw [e] at b0 r1' bw
    have bw' : 0 ≤ x.1 ∧ x.1 < 0 + 14 ∧ p < x.2 ∧ x.2 ≤ z := bw
    have x14 : x.1 < 14 := by omega
    have t1b : t1 x.1 ≤ 99 := (show ∀ j, j < 14 → t1 j ≤ 99 by decide) _ x14
    obtain ⟨h2, d2, k2, r2⟩ := D88 (L := t1 x.1 + 1) (x1 := ni (t1 x.1)) hs1 (TMx_m k1 t) (p := x.2) r1' (by omega) (fun n hn => by
      rw [ni_le (by omega) (by omega)]; omega)
    have hs2 := Kg_Sh k2 hs1
    have kk2 : Km h h2 := Kg_trans k1 k2
    rw [show rI (.inr x) = ni x.1 from rfl, if_neg (ni_n1 (by omega)), D92 hs1 x14] at b0
    simp only [Option.bind_some, Option.toList_some, List.cons_append, List.nil_append] at b0
    rw [e_93_19 hs1, d2] at b0
    simp only [Option.bind_some, Option.toList_some, List.cons_append, List.nil_append] at b0
    rw [e_93_22 hs2] at b0
    cases e2 : rn c z x.2 (t1 x.1 + 1) with
    | inl q =>
      rw [e2] at b0 r2
      rw [if_pos (show bi (isR (.inl q : Nat ⊕ (Nat × Nat))) = 0 from rfl)] at b0
      exact ⟨h2, by rw [or1_rl e e2]; exact b0, Kw_m kk2, by rw [or1_rl e e2]; exact r2⟩
    | inr y =>
      rw [e2] at b0 r2
      have r2' : hI h2 261 38 = ni y.2 ∧ hI h2 261 40 = ni y.1 := r2
      rw [if_neg (show ¬ bi (isR (.inr y : Nat ⊕ (Nat × Nat))) = 0 from show ¬ bi true = 0 by decide), ixb _ x14 (by omega), r2'.2] at b0
      refine ⟨pI h2 288 x.1 (ni y.1), by rw [or1_rr e e2]; exact b0, Kg_pI (Or.inr rfl) (Kw_m kk2), ?_⟩
      rw [or1_rr e e2]
      refine ⟨(pn (by omega)).trans r2'.1, fun j => ?_⟩
      rw [hI_pI]
      by_cases w : j = x.1
      · rw [if_pos ⟨rfl, w⟩]; exact (if_pos w).symm
      · rw [if_neg (fun q => w q.2), kk2.2.2.2.2.1 288 j (by omega)]; exact (if_neg w).symm
def rrM (h1 : am_H) : Nat ⊕ (Nat → Nat) → Prop
  | .inl q => hI h1 261 41 = ni q
  | .inr tl => ∀ j, j < 14 → hI h1 288 j = ni (tl j)
theorem L94 : ∀ m p tl {h : am_H} (o1 : Option am_V), p ≤ z → z ≤ p + m → Sh h → TMx h i c z → hI h 261 38 = ni p → (∀ j, j < 14 → hI h 288 j = ni (tl j)) → ∃ h1, am_E 94 (35, [some (vr (some 261)), o1], [], h) = some (some (vi (bi (isR (rrk c z m p tl)))), h1) ∧ Kw h h1 ∧ rrM h1 (rrk c z m p tl) := by
  intro m
  induction m with
  | zero =>
    intro p tl h o1 a1 a2 hs t h38 g
    have z100 := t.2.2.2.1
    refine ⟨h, ?_, Kg_refl h, ?_⟩
    · rw [e_94_35 hs, t.2.2.1, h38, if_pos (show ni z ≤ ni p by rw [ni_le (by omega) (by omega)]; omega)]
      unfold rrk
      rw [if_neg (by omega)]; rfl
    · unfold rrk
      rw [if_neg (by omega)]; exact g
  | succ m ih =>
    intro p tl h o1 a1 a2 hs t h38 g
    have z100 := t.2.2.2.1
    have b0 := e_94_35 (o1 := o1) hs
    rw [t.2.2.1, h38] at b0
    unfold rrk
    by_cases y : p < z
    · rw [if_neg (show ¬ ni z ≤ ni p by rw [ni_le (by omega) (by omega)]; omega), D84 hs t h38 y] at b0
      simp only [Option.bind_some, Option.toList_some, List.cons_append, List.nil_append] at b0
      rw [e_94_50 hs, h38] at b0
      rw [if_pos y]
      by_cases w : c p = ni 59
      · rw [if_pos (show c p = 59 from w), ni_add1] at b0
        rw [if_pos w]
        have km : Km h (pI h 261 38 (ni (p + 1))) := Km_38 (Kg_refl h) _
        have hs1 := Kg_Sh km hs
        obtain ⟨h2, d2, k2, r2⟩ := D93 hs1 (TMx_m km t) (p := p + 1) pe (by omega)
        have kk2 : Kw h h2 := Kg_trans (Kw_m km) k2
        have hs2 := Kg_Sh kk2 hs
        rw [d2] at b0
        simp only [Option.bind_some, Option.toList_some, List.cons_append, List.nil_append] at b0
        rw [e_94_78 hs2] at b0
        cases e : or1 c z (p + 1) with
        | inl q =>
          rw [e] at b0 r2
          rw [if_pos (show bi (isR (.inl q : Nat ⊕ (Nat × Nat × Nat))) = 0 from rfl)] at b0
          exact ⟨h2, by rw [rrl_l e]; exact b0, kk2, by rw [rrl_l e]; exact r2⟩
        | inr x =>
          have b := or1_b (show p + 1 ≤ z by omega) e
          rw [e] at b0 r2
          have r2' : hI h2 261 38 = ni x.2.2 ∧ ∀ j, hI h2 288 j = if j = x.1 then ni x.2.1 else hI (pI h 261 38 (ni (p + 1))) 288 j := r2
          rw [if_neg (show ¬ bi (isR (.inr x : Nat ⊕ (Nat × Nat × Nat))) = 0 from show ¬ bi true = 0 by decide)] at b0
          obtain ⟨h3, d3, k3, r3⟩ := ih x.2.2 (up1 tl x.1 x.2.1) (h := h2) o1 (by omega) (by omega) hs2 (TMx_w kk2 t) r2'.1 (fun j hj => by
            rw [r2'.2 j]
            unfold up1
            by_cases v : j = x.1
            · rw [if_pos v, if_pos v]
            · rw [if_neg v, if_neg v, pn (by omega)]; exact g j hj)
          exact ⟨h3, by rw [rrl_r e]; exact b0.trans d3, Kg_trans kk2 k3, by rw [rrl_r e]; exact r3⟩
      · rw [if_neg (show ¬ c p = 59 from w), d_87 hs] at b0
        simp only [Option.bind_some, Option.toList_some, List.cons_append, List.nil_append] at b0
        rw [e_94_63 (show Sh (pI h 261 41 (ni p)) from hs), if_pos (show (0 : Int32) = 0 ∨ (0 : Int32) = 1 from Or.inl rfl)] at b0
        rw [if_neg w]
        exact ⟨_, b0, Kw_m (Km_41 (Kg_refl h) _), pe⟩
    · rw [if_pos (show ni z ≤ ni p by rw [ni_le (by omega) (by omega)]; omega)] at b0
      rw [if_neg y]
      exact ⟨h, b0, Kg_refl h, g⟩
theorem L94a : ∀ m j {h : am_H}, j + m = 14 → Sh h → (∀ k, k < 14 → hI h 272 k = ni (t0 k)) → (∀ k, k < j → hI h 288 k = ni (t0 k)) → ∃ h1, am_E 94 (2, [some (vr (some 261)), some (vi (ni j))], [], h) = (am_D 93 [vr (some 261)] h1).bind (fun q9 => am_E 94 (30, [some (vr (some 261)), some (vi (ni 14))], q9.1.toList ++ [], q9.2)) ∧ Kg (fun a _ => a = 288) h h1 ∧ ∀ k, k < 14 → hI h1 288 k = ni (t0 k) := by
  intro m
  induction m with
  | zero =>
    intro j h hj hs g0 g
    have e : j = 14 := by omega
    subst e
    exact ⟨h, by rw [e_94_2 hs, if_pos (show (14 : Int32) ≤ ni 14 by decide)], Kg_refl h, g⟩
  | succ m ih =>
    intro j h hj hs g0 g
    have kg : Kg (fun a _ => a = 288) h (pI h 288 j (ni (t0 j))) := Kg_pI rfl (Kg_refl h)
    obtain ⟨h1, d, k, g1⟩ := ih (j + 1) (h := pI h 288 j (ni (t0 j))) (by omega) (Kg_Sh kg hs) (fun k hk => (pn (by omega)).trans (g0 k hk)) (fun k hk => by
      rw [hI_pI]
      by_cases y : k = j
      · rw [if_pos ⟨rfl, y⟩, y]
      · rw [if_neg (fun z => y z.2)]; exact g k (by omega))
    refine ⟨h1, ?_, Kg_trans kg k, g1⟩
    rw [e_94_2 hs, if_neg (show ¬ (14 : Int32) ≤ ni j by rw [show (14 : Int32) = ni 14 from rfl, ni_le (by omega) (by omega)]; omega), ixb _ (show j < 14 by omega) (by omega), ixb _ (show j < 14 by omega) (by omega), g0 j (by omega), ni_add1]
    exact d
theorem D94 {h : am_H} (hs : Sh h) (t : TMx h i c z) (h38 : hI h 261 38 = ni 0) (g0 : ∀ k, k < 14 → hI h 272 k = ni (t0 k)) : ∃ h1, am_D 94 [vr (some 261)] h = some (some (vi (bi (isR (rrl c z (z + 1) 0 t0)))), h1) ∧ Kw h h1 ∧ rrM h1 (rrl c z (z + 1) 0 t0) := by
  obtain ⟨h1, d1, k1, g1⟩ := L94a 14 0 (h := h) rfl hs g0 (fun k hk => by omega)
  have kw1 : Kw h h1 := Kg_mono (fun _ _ z => Or.inr z) k1
  have hs1 := Kg_Sh kw1 hs
  obtain ⟨h2, d2, k2, r2⟩ := D93 hs1 (TMx_w kw1 t) (p := 0) (by rw [k1.2.2.2.2.1 261 38 (by omega)]; exact h38) (by omega)
  have kk2 : Kw h h2 := Kg_trans kw1 k2
  have hs2 := Kg_Sh kk2 hs
  have b0 := (d_94 hs).trans d1
  rw [d2] at b0
  simp only [Option.bind_some, Option.toList_some, List.cons_append, List.nil_append] at b0
  rw [e_94_30 hs2] at b0
  cases e : or1 c z 0 with
  | inl q =>
    rw [e] at b0 r2
    rw [if_pos (show bi (isR (.inl q : Nat ⊕ (Nat × Nat × Nat))) = 0 from rfl)] at b0
    exact ⟨h2, by rw [rrl_l e]; exact b0, kk2, by rw [rrl_l e]; exact r2⟩
  | inr x =>
    have b := or1_b (show 0 ≤ z by omega) e
    rw [e] at b0 r2
    have r2' : hI h2 261 38 = ni x.2.2 ∧ ∀ j, hI h2 288 j = if j = x.1 then ni x.2.1 else hI h1 288 j := r2
    rw [if_neg (show ¬ bi (isR (.inr x : Nat ⊕ (Nat × Nat × Nat))) = 0 from show ¬ bi true = 0 by decide)] at b0
    obtain ⟨h3, d3, k3, r3⟩ := L94 z x.2.2 (up1 t0 x.1 x.2.1) (h := h2) (some (vi (ni 14))) (by omega) (by omega) hs2 (TMx_w kk2 t) r2'.1 (fun j hj => by
      rw [r2'.2 j]
      unfold up1
      by_cases v : j = x.1
      · rw [if_pos v, if_pos v]
      · rw [if_neg v, if_neg v]; exact g1 j hj)
    exact ⟨h3, by rw [rrl_r e]; exact b0.trans d3, Kg_trans kk2 k3, by rw [rrl_r e]; exact r3⟩
end RUC
