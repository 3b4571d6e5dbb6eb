/-! books: many rows -/
section BKP
variable {c : Nat → Int32} {z : Nat}
/-- a row's kind -/
def kd (c : Nat → Int32) (z p : Nat) : Nat ⊕ (Nat × Nat) := if (dgt c z p).isSome = true then .inr (0, p) else (match wdc c z p 1 with
  | .inl q => .inl q
  | .inr x => .inr (x.1 + 1, x.2))
theorem kd_0 {p : Nat} (h : (dgt c z p).isSome = true) : kd c z p = .inr (0, p) := if_pos h
theorem kd_l {p q : Nat} (h : (dgt c z p).isSome = false) (e : wdc c z p 1 = .inl q) : kd c z p = .inl q := by unfold kd; rw [h, if_neg (by decide), e]
theorem kd_r {p : Nat} {x : Nat × Nat} (h : (dgt c z p).isSome = false) (e : wdc c z p 1 = .inr x) : kd c z p = .inr (x.1 + 1, x.2) := by unfold kd; rw [h, if_neg (by decide), e]
theorem kd_lb {p q : Nat} (hp : p ≤ z) (h : kd c z p = .inl q) : q ≤ z := by
  cases d : (dgt c z p).isSome
  · cases e : wdc c z p 1 with
    | inl q' => rw [kd_l d e] at h; cases h; exact wdc_lb (by omega) hp e
    | inr x => rw [kd_r d e] at h; cases h
  · rw [kd_0 d] at h; cases h
theorem kd_rb {p : Nat} {x : Nat × Nat} (hp : p ≤ z) (h : kd c z p = .inr x) : x.1 ≤ 6 ∧ p ≤ x.2 ∧ x.2 ≤ z := by
  cases d : (dgt c z p).isSome
  · cases e : wdc c z p 1 with
    | inl q' => rw [kd_l d e] at h; cases h
    | inr x' =>
      have b := wdc_rb (by omega) hp e
      have s : snd' 1 - sbg 1 = 6 := rfl
      rw [kd_r d e] at h
      cases h
      show x'.1 + 1 ≤ 6 ∧ p ≤ x'.2 ∧ x'.2 ≤ z
      omega
  · rw [kd_0 d] at h
    cases h
    exact ⟨Nat.zero_le _, Nat.le_refl _, hp⟩
/-- a row: its kind, the rest -/
abbrev RK : Type := Nat ⊕ (Nat × Nat × Nat × (Nat → Nat) × (Nat → Nat) × Nat)
def rwr (c : Nat → Int32) (z M p : Nat) : RK := match kd c z p with
  | .inl q => .inl q
  | .inr k => match rwl c z M 8 0 k.2 (fun _ => 0) (fun _ => 0) with
    | .inl q => .inl q
    | .inr y => .inr (k.1, y)
theorem rwr_l {M p q : Nat} (e : kd c z p = .inl q) : rwr c z M p = .inl q := by unfold rwr; rw [e]
theorem rwr_rl {M p q : Nat} {k : Nat × Nat} (e : kd c z p = .inr k) (e2 : rwl c z M 8 0 k.2 (fun _ => 0) (fun _ => 0) = .inl q) : rwr c z M p = .inl q := by
  unfold rwr
  rw [e]
  show (match rwl c z M 8 0 k.2 (fun _ => 0) (fun _ => 0) with
    | .inl q => .inl q
    | .inr y => .inr (k.1, y) : RK) = _
  rw [e2]
theorem rwr_rr {M p : Nat} {k : Nat × Nat} {y : Nat × Nat × (Nat → Nat) × (Nat → Nat) × Nat} (e : kd c z p = .inr k) (e2 : rwl c z M 8 0 k.2 (fun _ => 0) (fun _ => 0) = .inr y) : rwr c z M p = .inr (k.1, y) := by
  unfold rwr
  rw [e]
  show (match rwl c z M 8 0 k.2 (fun _ => 0) (fun _ => 0) with
    | .inl q => .inl q
    | .inr y => .inr (k.1, y) : RK) = _
  rw [e2]
theorem rwr_lb {M p q : Nat} (hp : p ≤ z) (h : rwr c z M p = .inl q) : q ≤ z := by
  cases e : kd c z p with
  | inl q' => rw [rwr_l e] at h; cases h; exact kd_lb hp e
  | inr k =>
    have b := kd_rb hp e
    cases e2 : rwl c z M 8 0 k.2 (fun _ => 0) (fun _ => 0) with
    | inl q' => rw [rwr_rl e e2] at h; cases h; exact rwl_lb 8 0 k.2 _ _ q b.2.2 e2
    | inr y => rw [rwr_rr e e2] at h; cases h
theorem rwr_rb {M p : Nat} {y : Nat × Nat × Nat × (Nat → Nat) × (Nat → Nat) × Nat} (hp : p ≤ z) (h : rwr c z M p = .inr y) : y.1 ≤ 6 ∧ Vrw M y.2.1 y.2.2.1 y.2.2.2.1 y.2.2.2.2.1 ∧ p < y.2.2.2.2.2 ∧ y.2.2.2.2.2 ≤ z := by
  cases e : kd c z p with
  | inl q' => rw [rwr_l e] at h; cases h
  | inr k =>
    have b := kd_rb hp e
    cases e2 : rwl c z M 8 0 k.2 (fun _ => 0) (fun _ => 0) with
    | inl q' => rw [rwr_rl e e2] at h; cases h
    | inr v =>
      have r := rwl_v 8 0 k.2 _ _ v rfl b.2.2 (fun i hi => by omega) (fun i j _ hj => by omega) (fun i hi => by omega) e2
      rw [rwr_rr e e2] at h
      cases h
      exact ⟨b.1, r.1, by show p < v.2.2.2.2; omega, r.2.2⟩
/-- one row more -/
def bup (B : Nat → Nat → Nat) (r : Nat) (y : Nat × Nat × Nat × (Nat → Nat) × (Nat → Nat) × Nat) : Nat → Nat → Nat := fun i k => if i = 0 then (if k = r then y.1 else B 0 k) else if i = 1 then (if k = r then y.2.1 else B 1 k) else if i = 2 then (if k = r then y.2.2.1 else B 2 k) else if i = 3 then (if k / 8 = r then y.2.2.2.1 (k % 8) else B 3 k) else (if k / 8 = r then y.2.2.2.2.1 (k % 8) else B 4 k)
theorem bup_0 {B : Nat → Nat → Nat} {r : Nat} {y : Nat × Nat × Nat × (Nat → Nat) × (Nat → Nat) × Nat} {k : Nat} : bup B r y 0 k = if k = r then y.1 else B 0 k := rfl
theorem bup_1 {B : Nat → Nat → Nat} {r : Nat} {y : Nat × Nat × Nat × (Nat → Nat) × (Nat → Nat) × Nat} {k : Nat} : bup B r y 1 k = if k = r then y.2.1 else B 1 k := rfl
theorem bup_2 {B : Nat → Nat → Nat} {r : Nat} {y : Nat × Nat × Nat × (Nat → Nat) × (Nat → Nat) × Nat} {k : Nat} : bup B r y 2 k = if k = r then y.2.2.1 else B 2 k := rfl
theorem bup_3 {B : Nat → Nat → Nat} {r : Nat} {y : Nat × Nat × Nat × (Nat → Nat) × (Nat → Nat) × Nat} {k : Nat} : bup B r y 3 k = if k / 8 = r then y.2.2.2.1 (k % 8) else B 3 k := rfl
theorem bup_4 {B : Nat → Nat → Nat} {r : Nat} {y : Nat × Nat × Nat × (Nat → Nat) × (Nat → Nat) × Nat} {k : Nat} : bup B r y 4 k = if k / 8 = r then y.2.2.2.2.1 (k % 8) else B 4 k := rfl
def bkl (c : Nat → Int32) (z M : Nat) : Nat → Nat → Nat → (Nat → Nat → Nat) → Nat ⊕ (Nat × (Nat → Nat → Nat))
  | 0, _, p, _ => .inl p
  | m + 1, r, p, B => match rwr c z M p with
    | .inl q => .inl q
    | .inr y => if y.2.2.2.2.2 < z then (if m = 0 then .inl y.2.2.2.2.2 else if c y.2.2.2.2.2 = ni 59 then bkl c z M m (r + 1) (y.2.2.2.2.2 + 1) (bup B r y) else .inl y.2.2.2.2.2) else .inr (r + 1, bup B r y)
/-- from behind a row on -/
def bkk (c : Nat → Int32) (z M m r p : Nat) (B : Nat → Nat → Nat) : Nat ⊕ (Nat × (Nat → Nat → Nat)) := if p < z then (if m = 0 then .inl p else if c p = ni 59 then bkl c z M m r (p + 1) B else .inl p) else .inr (r, B)
theorem bkl_l {M m r p q : Nat} {B : Nat → Nat → Nat} (e : rwr c z M p = .inl q) : bkl c z M (m + 1) r p B = .inl q := by
  show (match rwr c z M p with
    | .inl q => .inl q
    | .inr y => bkk c z M m (r + 1) y.2.2.2.2.2 (bup B r y) : Nat ⊕ (Nat × (Nat → Nat → Nat))) = _
  rw [e]
theorem bkl_r {M m r p : Nat} {B : Nat → Nat → Nat} {y : Nat × Nat × Nat × (Nat → Nat) × (Nat → Nat) × Nat} (e : rwr c z M p = .inr y) : bkl c z M (m + 1) r p B = bkk c z M m (r + 1) y.2.2.2.2.2 (bup B r y) := by
  show (match rwr c z M p with
    | .inl q => .inl q
    | .inr y => bkk c z M m (r + 1) y.2.2.2.2.2 (bup B r y) : Nat ⊕ (Nat × (Nat → Nat → Nat))) = _
  rw [e]
def Vbk (M n : Nat) (B : Nat → Nat → Nat) : Prop := ∀ r, r < n → B 0 r ≤ 6 ∧ Vrw M (B 1 r) (B 2 r) (fun i => B 3 (8 * r + i)) (fun i => B 4 (8 * r + i))
theorem Vrw_c {M n wd : Nat} {wh lk wh' lk' : Nat → Nat} (e : ∀ i, i < 8 → wh i = wh' i ∧ lk i = lk' i) (v : Vrw M n wd wh lk) : Vrw M n wd wh' lk' := by
  obtain ⟨v1, v2, v3, v4, v5, v6⟩ := v
  refine ⟨v1, v2, v3, fun i hi => ?_, fun i j h1 h2 => ?_, fun i hi => ?_⟩
  · rw [← (e i (by omega)).1]; exact v4 i hi
  · rw [← (e i (by omega)).1, ← (e j (by omega)).1]; exact v5 i j h1 h2
  · rw [← (e i (by omega)).2]; exact v6 i hi
theorem Vbk_s {M r : Nat} {B : Nat → Nat → Nat} {y : Nat × Nat × Nat × (Nat → Nat) × (Nat → Nat) × Nat} (v : Vbk M r B) (y6 : y.1 ≤ 6) (vy : Vrw M y.2.1 y.2.2.1 y.2.2.2.1 y.2.2.2.2.1) : Vbk M (r + 1) (bup B r y) := fun k hk => by
  by_cases q : k = r
  · rw [bup_0, bup_1, bup_2, if_pos q, if_pos q, if_pos q]
    refine ⟨y6, Vrw_c (fun i hi => ?_) vy⟩
    show _ = bup B r y 3 (8 * k + i) ∧ _ = bup B r y 4 (8 * k + i)
    rw [bup_3, bup_4, if_pos (by omega), if_pos (by omega), show (8 * k + i) % 8 = i by omega]
    exact ⟨rfl, rfl⟩
  · have b := v k (by omega)
    rw [bup_0, bup_1, bup_2, if_neg q, if_neg q, if_neg q]
    refine ⟨b.1, Vrw_c (fun i hi => ?_) b.2⟩
    show _ = bup B r y 3 (8 * k + i) ∧ _ = bup B r y 4 (8 * k + i)
    rw [bup_3, bup_4, if_neg (by omega), if_neg (by omega)]
    exact ⟨rfl, rfl⟩
theorem bkl_b {M : Nat} : ∀ m r p B, m + r = 8 → p ≤ z → Vbk M r B → (∀ q, bkl c z M m r p B = .inl q → q ≤ z) ∧ ∀ v, bkl c z M m r p B = .inr v → r < v.1 ∧ v.1 ≤ 8 ∧ Vbk M v.1 v.2
  | 0, r, p, B, hm, hp, vb => ⟨fun q h => by cases h; exact hp, fun v h => by cases h⟩
  | m + 1, r, p, B, hm, hp, vb => by
    cases e : rwr c z M p with
    | inl q' =>
      rw [bkl_l e]
      exact ⟨fun q h => by cases h; exact rwr_lb hp e, fun v h => by cases h⟩
    | inr y =>
      have b := rwr_rb hp e
      have vb' := Vbk_s vb b.1 b.2.1
      rw [bkl_r e]
      unfold bkk
      by_cases w : y.2.2.2.2.2 < z
      · rw [if_pos w]
        by_cases m0 : m = 0
        · rw [if_pos m0]
          exact ⟨fun q h => by cases h; omega, fun v h => by cases h⟩
        · rw [if_neg m0]
          by_cases u : c y.2.2.2.2.2 = ni 59
          · rw [if_pos u]
            have ih := bkl_b m (r + 1) (y.2.2.2.2.2 + 1) (bup B r y) (by omega) (by omega) vb'
            exact ⟨ih.1, fun v h => by have := ih.2 v h; exact ⟨by omega, this.2⟩⟩
          · rw [if_neg u]
            exact ⟨fun q h => by cases h; omega, fun v h => by cases h⟩
      · rw [if_neg w]
        exact ⟨fun q h => (by cases h), fun v h => by cases h; exact ⟨by show r < r + 1; omega, by show r + 1 ≤ 8; omega, vb'⟩⟩
end BKP
section BKC
variable {h : am_H} {i : Nat} {c : Nat → Int32} {z : Nat}
theorem D106 (hs : Sh h) (t : TX h i c z) {p : Nat} (hp : hI h 248 3 = ni p) (hp2 : p ≤ z) (nd : (dgt c z p).isSome = false) : ∃ h1, am_D 106 [vr (some 248)] h = some (some (vi (rI (kd c z p))), h1) ∧ Kt h h1 ∧ rT h h1 (kd c z p) := by
  have z100 := t.2.2.2.1
  obtain ⟨h1, d1, k1, r1⟩ := D77c hs t (k := 1) (by omega) hp (by omega)
  have d1' : am_D 77 [vr (some 248), vr (some 3)] h = some (some (vi (rI (wdc c z p 1))), h1) := d1
  have hs1 := Kg_Sh k1.1 hs
  have b0 := d_106 hs
  rw [d1'] at b0
  simp only [Option.bind_some, Option.toList_some, List.cons_append, List.nil_append] at b0
  rw [e_106_6 hs1] at b0
  cases e : wdc c z p 1 with
  | inl q =>
    rw [e] at b0 r1
    rw [if_pos (show rI (.inl q) = -1 from rfl)] at b0
    rw [kd_l nd e]
    exact ⟨h1, b0, k1, r1⟩
  | inr x =>
    have b := wdc_rb (by omega) hp2 e
    have s : snd' 1 - sbg 1 = 6 := rfl
    rw [e] at b0 r1
    rw [show rI (.inr x) = ni x.1 from rfl, if_neg (ni_n1 (by omega)), ni_add1] at b0
    rw [kd_r nd e]
    exact ⟨h1, b0, k1, r1⟩
def wR (a k : Nat) : Prop := (a = 248 ∧ (k = 0 ∨ k = 3)) ∨ a = 250 ∨ a = 251
theorem D119 (hs : Sh h) (t : TX h i c z) {p M r : Nat} (hM : M ≤ 24) (hp : hI h 248 3 = ni p) (hp2 : p ≤ z) : (∃ q, rwr c z M p = .inl q ∧ ∃ h1, am_D 119 [vr (some 248), vi (ni r), vi (ni M)] h = some (some (vr none), h1) ∧ Kr h h1 ∧ hI h1 248 0 = ni q) ∨ (∃ y, rwr c z M p = .inr y ∧ ∃ h1, am_D 119 [vr (some 248), vi (ni r), vi (ni M)] h = some (some (vr (some (hN h + 2))), h1) ∧ Sh h1 ∧ Ke wR nW h h1 ∧ hN h1 = hN h + 3 ∧ hSl h1 ≤ hSl h + 21 ∧ hI h1 248 3 = ni y.2.2.2.2.2 ∧ hI h1 248 0 = hI h 248 0 ∧ RwA h1 (hN h) r y.1 y.2.1 y.2.2.1 y.2.2.2.1 y.2.2.2.2.1) := by
  have N := hs.2.2.1.1
  have z100 := t.2.2.2.1
  have b0 := d_119 (x1 := ni r) (x2 := ni M) hs
  rw [hp, D78 hs t (p := p) (by omega)] at b0
  simp only [Option.bind_some, Option.toList_some, List.cons_append, List.nil_append] at b0
  rw [e_119_8 hs] at b0
  -- from behind the kind
  have go : ∀ (k : Nat × Nat) (h2 : am_H), kd c z p = .inr k → Kt h h2 → hI h2 248 3 = ni k.2 → hI h2 248 0 = hI h 248 0 → am_D 119 [vr (some 248), vi (ni r), vi (ni M)] h = am_E 119 (20, [some (vr (some 248)), some (vi (ni r)), some (vi (ni M)), none, none, none, none, none], [vi (ni k.1)], h2) → (∃ q, rwr c z M p = .inl q ∧ ∃ h1, am_D 119 [vr (some 248), vi (ni r), vi (ni M)] h = some (some (vr none), h1) ∧ Kr h h1 ∧ hI h1 248 0 = ni q) ∨ (∃ y, rwr c z M p = .inr y ∧ ∃ h1, am_D 119 [vr (some 248), vi (ni r), vi (ni M)] h = some (some (vr (some (hN h + 2))), h1) ∧ Sh h1 ∧ Ke wR nW h h1 ∧ hN h1 = hN h + 3 ∧ hSl h1 ≤ hSl h + 21 ∧ hI h1 248 3 = ni y.2.2.2.2.2 ∧ hI h1 248 0 = hI h 248 0 ∧ RwA h1 (hN h) r y.1 y.2.1 y.2.2.1 y.2.2.2.1 y.2.2.2.2.1) := fun k h2 ek k2 q3 q0 b => by
    have hs2 := Kg_Sh k2.1 hs
    have kb := kd_rb hp2 ek
    rw [e_119_20 hs2, if_neg (ni_n1 (by omega))] at b
    have l := L119 (κ := k.1) (r := r) hM 8 0 k.2 0 (fun _ => 0) (fun _ => 0) (h := h2) none rfl (by omega) (by omega) kb.2.2 hs2 (TX_t k2 t) q3 (fun j hj => by omega) (fun j hj => by omega)
    rw [show sb (fun k => anyb (fun j => (fun _ => 0) j == k) 0) 24 = 0 from (sb_0 (by omega)).mpr fun k _ => rfl] at l
    rcases l with ⟨q, f1, h4, f2, f3, f4⟩ | ⟨y, f1, h4, o2, o4, o5, o7, f2, f3, f4, f5, f6⟩
    · exact Or.inl ⟨q, rwr_rl ek f1, h4, b.trans f2, Kr_trans (Kr_t k2) f3, f4⟩
    · have rv := rwl_v 8 0 k.2 _ _ y rfl kb.2.2 (fun i hi => by omega) (fun i j _ hj => by omega) (fun i hi => by omega) f1
      have y8 := rv.1.2.1
      have yw := rv.1.2.2.1
      have kr := Kr_trans (Kr_t k2) f3
      have hs4 := Kg_Sh kr.1 hs
      obtain ⟨h5, d5, s5, k5, n5, l5, x5⟩ := D118 (r := r) (wd := y.2.1) hs4 kb.1 y8 f6
      have eN : hN h4 = hN h := kr.1.1
      have eS : hSl h4 = hSl h := kr.1.2.1
      refine Or.inr ⟨(k.1, y), rwr_rr ek f1, h5, ?_, s5, ?_, by rw [n5, eN], by rw [l5, eS]; omega, ?_, ?_, by rw [← eN]; exact x5⟩
      · refine (b.trans f2).trans ?_
        rw [e_119_134 hs4, if_neg (ni_n1 (by omega)), d5]
        simp only [Option.bind_some, Option.toList_some, List.cons_append, List.nil_append]
        rw [e_119_156 s5, eN]
      · exact Ke_trans (Ke_mono (fun a j z => z) (fun a j z => z) (Ke_g kr.1 kr.2)) (Ke_mono (fun a j z => z.elim) (fun a j z => z) k5)
      · rw [k5.2.2.2.1 248 3 (by omega) (fun z => z)]; exact f4
      · rw [k5.2.2.2.1 248 0 (by omega) (fun z => z), f5]; exact q0
  cases e : dgt c z p with
  | none =>
    have nd : (dgt c z p).isSome = false := by rw [e]; rfl
    obtain ⟨h1, d1, k1, r1⟩ := D106 hs t hp hp2 nd
    have hs1 := Kg_Sh k1.1 hs
    rw [e, if_pos (show oI none = -1 from rfl), d1] at b0
    simp only [Option.bind_some, Option.toList_some, List.cons_append, List.nil_append] at b0
    cases ek : kd c z p with
    | inl q =>
      rw [ek] at b0 r1
      rw [e_119_20 hs1, if_pos (show rI (.inl q) = -1 from rfl)] at b0
      exact Or.inl ⟨q, rwr_l ek, h1, b0, Kr_t k1, r1⟩
    | inr k =>
      rw [ek] at b0 r1
      have r1' : hI h1 248 3 = ni k.2 ∧ hI h1 248 0 = hI h 248 0 := r1
      exact go k h1 ek k1 r1'.1 r1'.2 b0
  | some d =>
    have g := dgt_t e
    rw [e, if_neg (show ¬ oI (some d) = -1 from ni_n1 (by omega))] at b0
    exact go (0, p) h (kd_0 (by rw [e]; rfl)) (Kt_refl h) hp rfl b0
def wZ (a _k : Nat) : Prop := a = 253
theorem L120 {M : Nat} (hM : M ≤ 24) {h0 : am_H} {v0 : Int32} : ∀ m r p B {h : am_H} (o4 : Option am_V), m + r = 8 → p ≤ z → Sh h → TX h i c z → hI h 248 3 = ni p → hI h 248 0 = -ni 1 → Ke wR wZ h0 h → 303 ≤ hN h0 → hN h = hN h0 + 3 * r → hSl h ≤ hSl h0 + 21 * r → (∀ k, k < r → hR h 253 k = some (hN h0 + 3 * k + 2) ∧ RwA h (hN h0 + 3 * k) k (B 0 k) (B 1 k) (B 2 k) (fun j => B 3 (8 * k + j)) (fun j => B 4 (8 * k + j))) → Vbk M r B → ∃ h1, Sh h1 ∧ Ke wR wZ h0 h1 ∧ hN h1 ≤ hN h0 + 24 ∧ hSl h1 ≤ hSl h0 + 168 ∧ ((∃ q, bkl c z M m r p B = .inl q ∧ am_E 120 (2, [some (vr (some 248)), some (vr (some 253)), some (vi (ni M)), some (vi (ni r)), o4], [], h) = some (some (vi 0), h1) ∧ hI h1 248 0 = ni q) ∨ ∃ v, bkl c z M m r p B = .inr v ∧ am_E 120 (2, [some (vr (some 248)), some (vr (some 253)), some (vi (ni M)), some (vi (ni r)), o4], [], h) = some (some (vi (ni v.1)), h1) ∧ hI h1 248 0 = -ni 1 ∧ hN h1 = hN h0 + 3 * v.1 ∧ ∀ k, k < v.1 → hR h1 253 k = some (hN h0 + 3 * k + 2) ∧ RwA h1 (hN h0 + 3 * k) k (v.2 0 k) (v.2 1 k) (v.2 2 k) (fun j => v.2 3 (8 * k + j)) (fun j => v.2 4 (8 * k + j))) := by
  intro m
  induction m with
  | zero =>
    intro r p B h o4 a1 a2 hs t h3 h0' k0 n0 nN nS g vb
    have e : r = 8 := by omega
    subst e
    have kk : Ke wR wZ h0 (pI h 248 0 (ni p)) := Ke_trans k0 (Ke_g (W := wR) (WR := wZ) (Kg_pI (Or.inl ⟨rfl, Or.inl rfl⟩) (Kg_refl h)) rfl)
    refine ⟨pI h 248 0 (ni p), hs, kk, by show hN h ≤ _; omega, by show hSl h ≤ _; omega, Or.inl ⟨p, rfl, ?_, pe⟩⟩
    rw [e_120_2 hs, if_pos (show (8 : Int32) ≤ ni 8 by decide), h3]
  | succ m ih =>
    intro r p B h o4 a1 a2 hs t h3 h0' k0 n0 nN nS g vb
    have z100 := t.2.2.2.1
    have r8 : r < 8 := by omega
    have b0 := e_120_2 (x2 := ni M) (x3 := ni r) (o4 := o4) hs
    rw [if_neg (show ¬ (8 : Int32) ≤ ni r by rw [show (8 : Int32) = ni 8 from rfl, ni_le (by omega) (by omega)]; omega)] at b0
    rcases D119 (r := r) hs t hM h3 a2 with ⟨q, f1, h1, f2, f3, f4⟩ | ⟨y, f1, h1, f2, s1, f3, f4, f5, f6, f7, f8⟩
    · have hs1 := Kg_Sh f3.1 hs
      rw [f2] at b0
      simp only [Option.bind_some, Option.toList_some, List.cons_append, List.nil_append] at b0
      rw [e_120_14 hs1] at b0
      have eN : hN h1 = hN h := f3.1.1
      have eS : hSl h1 = hSl h := f3.1.2.1
      exact ⟨h1, hs1, Ke_trans k0 (Ke_mono (fun a j z => z) (fun a j z => z.elim) (Ke_g (WR := nW) f3.1 f3.2)), by omega, by omega, Or.inl ⟨q, bkl_l f1, b0, f4⟩⟩
    · have b := rwr_rb a2 f1
      rw [f2] at b0
      simp only [Option.bind_some, Option.toList_some, List.cons_append, List.nil_append] at b0
      have mem : am_okr h1 (some (hN h + 2)) [0, 1, 2, 3, 6, 7, 9] = true := by
        show decide ((hK h1 (hN h + 2)).1 ∈ [0, 1, 2, 3, 6, 7, 9]) = true
        rw [f8.2.2.1]
        exact decide_eq_true (kt_in y.1 (by omega))
      rw [e_120_14_1 s1, if_pos mem, ixb _ r8 (by omega)] at b0
      have s2 : Sh (pR h1 253 r (some (hN h + 2))) := by
        refine Sh_pRr s1 ?_ (by omega) (by omega)
        have : ∀ j, j < 8 → shR 253 j = none := by decide +kernel
        exact this r r8
      have N := hs.2.2.1.1
      have lt253 : 253 < hN h := by omega
      have kh : Ke wR wZ h (pR h1 253 r (some (hN h + 2))) := by
        refine Ke_trans (Ke_mono (fun a j z => z) (fun a j z => z.elim) f3) ⟨Nat.le_refl _, fun a _ => rfl, fun a j _ n => ?_, fun a j _ _ => rfl, fun a j _ _ => rfl⟩
        rw [hR_pR, if_neg (fun w => n w.1)]
      have k2 : Ke wR wZ h0 (pR h1 253 r (some (hN h + 2))) := Ke_trans k0 kh
      have t2 : TX (pR h1 253 r (some (hN h + 2))) i c z := by
        obtain ⟨t1, t2, t3, t4, t5⟩ := t
        refine ⟨(kh.2.2.1 248 1 (by omega) (by unfold wZ; omega)).trans t1, t2, (kh.2.2.2.1 248 2 (by omega) (by unfold wR; omega)).trans t3, t4, fun k hk => ?_⟩
        rw [kh.2.2.2.2 (18 + i) k (by omega) (by unfold wR; omega)]; exact t5 k hk
      have p3 : hI (pR h1 253 r (some (hN h + 2))) 248 3 = ni y.2.2.2.2.2 := f6
      have p2 : hI (pR h1 253 r (some (hN h + 2))) 248 2 = ni z := t2.2.2.1
      have p0 : hI (pR h1 253 r (some (hN h + 2))) 248 0 = -ni 1 := f7.trans h0'
      have nN2 : hN (pR h1 253 r (some (hN h + 2))) = hN h0 + 3 * (r + 1) := by show hN h1 = _; omega
      have nS2 : hSl (pR h1 253 r (some (hN h + 2))) ≤ hSl h0 + 21 * (r + 1) := by show hSl h1 ≤ _; omega
      have g2 : ∀ k, k < r + 1 → hR (pR h1 253 r (some (hN h + 2))) 253 k = some (hN h0 + 3 * k + 2) ∧ RwA (pR h1 253 r (some (hN h + 2))) (hN h0 + 3 * k) k (bup B r y 0 k) (bup B r y 1 k) (bup B r y 2 k) (fun j => bup B r y 3 (8 * k + j)) (fun j => bup B r y 4 (8 * k + j)) := fun k hk => by
        by_cases q : k = r
        · subst q
          refine ⟨by rw [hR_pR, if_pos ⟨rfl, rfl⟩, nN], ?_⟩
          rw [bup_0, bup_1, bup_2, if_pos rfl, if_pos rfl, if_pos rfl, ← nN]
          obtain ⟨x1, x2, x3, x4, x5, x6, x7, x8, x9⟩ := f8
          refine ⟨x1, x2, x3, ?_, ?_, x6, x7, x8, fun j hj => ?_⟩
          · rw [hR_pR, if_neg (by omega)]; exact x4
          · rw [hR_pR, if_neg (by omega)]; exact x5
          · have y8 := b.2.1.2.1
            show hI h1 (hN h) j = ni (bup B k y 3 (8 * k + j)) ∧ hI h1 (hN h + 1) j = ni (bup B k y 4 (8 * k + j))
            rw [bup_3, bup_4, if_pos (by omega), if_pos (by omega), show (8 * k + j) % 8 = j by omega]
            exact x9 j hj
        · have g' := g k (by omega)
          refine ⟨?_, ?_⟩
          · rw [hR_pR, if_neg (fun w => q w.2), f3.2.2.1 253 k (by omega) (fun z => z)]; exact g'.1
          · have x := RwA_ke kh (fun a j z => by unfold wR at z; omega) (fun a j z => by unfold wZ at z; omega) (by omega) (by omega) g'.2
            rw [bup_0, bup_1, bup_2, if_neg q, if_neg q, if_neg q]
            obtain ⟨x1, x2, x3, x4, x5, x6, x7, x8, x9⟩ := x
            refine ⟨x1, x2, x3, x4, x5, x6, x7, x8, fun j hj => ?_⟩
            have := x9 j hj
            show hI _ (hN h0 + 3 * k) j = ni (bup B r y 3 (8 * k + j)) ∧ hI _ (hN h0 + 3 * k + 1) j = ni (bup B r y 4 (8 * k + j))
            have n8 : B 1 k ≤ 8 := (vb k (by omega)).2.2.1
            rw [bup_3, bup_4, if_neg (by omega), if_neg (by omega)]; exact this
      have er := bkl_r (m := m) (r := r) (B := B) f1
      rw [e_120_28 s2, p3, p2] at b0
      unfold bkk at er
      by_cases w : y.2.2.2.2.2 < z
      · rw [if_pos (show ni y.2.2.2.2.2 < ni z by rw [ni_lt (by omega) (by omega)]; exact w)] at b0
        rw [if_pos w] at er
        by_cases m0 : m = 0
        · rw [if_pos (show 7 ≤ ni r by rw [show (7 : Int32) = ni 7 from rfl, ni_le (by omega) (by omega)]; omega), e_120_58 s2, ni_add1] at b0
          rw [if_pos m0] at er
          obtain ⟨h4, a1', a2', a3', a4', a5'⟩ := ih (r + 1) y.2.2.2.2.2 (bup B r y) (h := pR h1 253 r (some (hN h + 2))) (some (vr (some (hN h + 2)))) (by omega) b.2.2.2 s2 t2 p3 p0 k2 n0 nN2 nS2 g2 (Vbk_s vb b.1 b.2.1)
          refine ⟨h4, a1', a2', a3', a4', ?_⟩
          rcases a5' with ⟨q, q1, q2, q3⟩ | ⟨v, q1, q2, q3⟩
          · subst m0
            cases q1
            exact Or.inl ⟨_, er, b0.trans q2, q3⟩
          · subst m0
            cases q1
        · rw [if_neg (show ¬ 7 ≤ ni r by rw [show (7 : Int32) = ni 7 from rfl, ni_le (by omega) (by omega)]; omega), D80 s2 t2 p3 w] at b0
          rw [if_neg m0] at er
          by_cases u : c y.2.2.2.2.2 = ni 59
          · rw [if_pos u] at b0 er
            simp only [Option.bind_some, Option.toList_some, List.cons_append, List.nil_append] at b0
            have s3 : Sh (pI (pR h1 253 r (some (hN h + 2))) 248 3 (ni (y.2.2.2.2.2 + 1))) := s2
            rw [e_120_53 s3, if_neg (show ¬ (1 : Int32) = 0 by decide), e_120_58 s3, ni_add1] at b0
            have kq : Kg wR (pR h1 253 r (some (hN h + 2))) (pI (pR h1 253 r (some (hN h + 2))) 248 3 (ni (y.2.2.2.2.2 + 1))) := Kg_pI (Or.inl ⟨rfl, Or.inr rfl⟩) (Kg_refl _)
            have kqe : Ke wR wZ (pR h1 253 r (some (hN h + 2))) (pI (pR h1 253 r (some (hN h + 2))) 248 3 (ni (y.2.2.2.2.2 + 1))) := Ke_g kq rfl
            obtain ⟨h4, a1', a2', a3', a4', a5'⟩ := ih (r + 1) (y.2.2.2.2.2 + 1) (bup B r y) (h := pI (pR h1 253 r (some (hN h + 2))) 248 3 (ni (y.2.2.2.2.2 + 1))) (some (vr (some (hN h + 2)))) (by omega) (by omega) s3 (TX_fr kq rfl (by unfold wR; omega) (fun a j _ _ => by unfold wR; omega) t2) pe ((pn (by omega)).trans p0) (Ke_trans k2 kqe) n0 nN2 nS2 (fun k hk => by
              have g' := g2 k hk
              exact ⟨g'.1, RwA_ke kqe (fun a j z => by unfold wR at z; omega) (fun a j z => by unfold wZ at z; omega) (by omega) (by rw [nN2]; omega) g'.2⟩) (Vbk_s vb b.1 b.2.1)
            refine ⟨h4, a1', a2', a3', a4', ?_⟩
            rcases a5' with ⟨q, q1, q2, q3⟩ | ⟨v, q1, q2, q3⟩
            · exact Or.inl ⟨q, er.trans q1, b0.trans q2, q3⟩
            · exact Or.inr ⟨v, er.trans q1, b0.trans q2, q3⟩
          · rw [if_neg u] at b0 er
            simp only [Option.bind_some, Option.toList_some, List.cons_append, List.nil_append] at b0
            have s3 : Sh (pI (pR h1 253 r (some (hN h + 2))) 248 0 (ni y.2.2.2.2.2)) := s2
            rw [e_120_53 s3, if_pos (show (0 : Int32) = 0 from rfl)] at b0
            have kqe : Ke wR wZ (pR h1 253 r (some (hN h + 2))) (pI (pR h1 253 r (some (hN h + 2))) 248 0 (ni y.2.2.2.2.2)) := Ke_g (Kg_pI (Or.inl ⟨rfl, Or.inl rfl⟩) (Kg_refl _)) rfl
            exact ⟨_, s3, Ke_trans k2 kqe, by show hN h1 ≤ _; omega, by show hSl h1 ≤ _; omega, Or.inl ⟨_, er, b0, pe⟩⟩
      · rw [if_neg (show ¬ ni y.2.2.2.2.2 < ni z by rw [ni_lt (by omega) (by omega)]; exact w), ni_add1] at b0
        rw [if_neg w] at er
        exact ⟨_, s2, k2, by show hN h1 ≤ _; omega, by show hSl h1 ≤ _; omega, Or.inr ⟨_, er, b0, p0, nN2, g2⟩⟩
end BKC
