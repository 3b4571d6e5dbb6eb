/-! books: a row of men -/
section RWP
variable {c : Nat → Int32} {z : Nat}
theorem rn_lb {p L q : Nat} (hp : p ≤ z) (h : rn c z p L = .inl q) : q ≤ z := by
  have b := rn_b (c := c) (L := L) hp
  rw [h] at b
  exact b.2
theorem rn_rb {p L : Nat} {y : Nat × Nat} (hp : p ≤ z) (h : rn c z p L = .inr y) : y.1 < L ∧ y.1 ≤ 99 ∧ p < y.2 ∧ y.2 ≤ z := by
  have b := rn_b (c := c) (L := L) hp
  rw [h] at b
  exact b
theorem wdc_lb {p k q : Nat} (hk : k < 5) (hp : p ≤ z) (h : wdc c z p k = .inl q) : q ≤ z := by
  have b := wdc_b (c := c) hk hp
  rw [h] at b
  exact b.2
theorem wdc_rb {p k : Nat} {x : Nat × Nat} (hk : k < 5) (hp : p ≤ z) (h : wdc c z p k = .inr x) : x.1 < snd' k - sbg k ∧ p < x.2 ∧ x.2 ≤ z := by
  have b := wdc_b (c := c) hk hp
  rw [h] at b
  exact b
/-- a man who isn't there yet -/
def rmn (c : Nat → Int32) (z p M : Nat) (wh : Nat → Nat) (n : Nat) : Nat ⊕ (Nat × Nat) := match rn c z p M with
  | .inl q => .inl q
  | .inr y => if anyb (fun j => wh j == y.1) n = true then .inl p else .inr y
theorem rmn_l {p M n q : Nat} {wh : Nat → Nat} (e : rn c z p M = .inl q) : rmn c z p M wh n = .inl q := by unfold rmn; rw [e]
theorem rmn_r {p M n : Nat} {y : Nat × Nat} {wh : Nat → Nat} (e : rn c z p M = .inr y) : rmn c z p M wh n = if anyb (fun j => wh j == y.1) n = true then .inl p else .inr y := by unfold rmn; rw [e]
theorem rmn_lb {p M n q : Nat} {wh : Nat → Nat} (hp : p ≤ z) (h : rmn c z p M wh n = .inl q) : q ≤ z := by
  cases e : rn c z p M with
  | inl q' => rw [rmn_l e] at h; cases h; exact rn_lb hp e
  | inr y =>
    rw [rmn_r e] at h
    split at h
    · cases h; exact hp
    · cases h
theorem rmn_rb {p M n : Nat} {y : Nat × Nat} {wh : Nat → Nat} (hp : p ≤ z) (h : rmn c z p M wh n = .inr y) : y.1 < M ∧ y.1 ≤ 99 ∧ p < y.2 ∧ y.2 ≤ z ∧ ∀ j, j < n → wh j ≠ y.1 := by
  cases e : rn c z p M with
  | inl q' => rw [rmn_l e] at h; cases h
  | inr y' =>
    have b := rn_rb hp e
    rw [rmn_r e] at h
    split at h
    · cases h
    · next u =>
      cases h
      refine ⟨b.1, b.2.1, b.2.2.1, b.2.2.2, fun j hj w => u ((anyb_iff n).mpr ⟨j, hj, beq_iff_eq.mpr w⟩)⟩
/-- what stands behind the n-th man: a link (0 to 2), a wording (3), the row's end (4) -/
def nx (c : Nat → Int32) (z p n : Nat) : Nat ⊕ (Nat × Nat) := if n = 1 then wdc c z p 2 else if z ≤ p ∨ c p = ni 59 then .inr (4, p) else if n < 8 then wdc c z p 3 else (match wdc c z p 4 with
  | .inl q => .inl q
  | .inr x => .inr (3, x.2))
theorem nx_1 {p : Nat} : nx c z p 1 = wdc c z p 2 := if_pos rfl
theorem nx_4 {p n : Nat} (hn : n ≠ 1) (h : z ≤ p ∨ c p = ni 59) : nx c z p n = .inr (4, p) := by unfold nx; rw [if_neg hn, if_pos h]
theorem nx_3 {p n : Nat} (hn : n ≠ 1) (h : ¬ (z ≤ p ∨ c p = ni 59)) (h8 : n < 8) : nx c z p n = wdc c z p 3 := by unfold nx; rw [if_neg hn, if_neg h, if_pos h8]
theorem nx_8l {p n q : Nat} (hn : n ≠ 1) (h : ¬ (z ≤ p ∨ c p = ni 59)) (h8 : ¬ n < 8) (e : wdc c z p 4 = .inl q) : nx c z p n = .inl q := by unfold nx; rw [if_neg hn, if_neg h, if_neg h8, e]
theorem nx_8r {p n : Nat} {x : Nat × Nat} (hn : n ≠ 1) (h : ¬ (z ≤ p ∨ c p = ni 59)) (h8 : ¬ n < 8) (e : wdc c z p 4 = .inr x) : nx c z p n = .inr (3, x.2) := by unfold nx; rw [if_neg hn, if_neg h, if_neg h8, e]
theorem nx_lb {p n q : Nat} (hp : p ≤ z) (h : nx c z p n = .inl q) : q ≤ z := by
  by_cases h1 : n = 1
  · rw [h1, nx_1] at h; exact wdc_lb (by omega) hp h
  · by_cases h2 : z ≤ p ∨ c p = ni 59
    · rw [nx_4 h1 h2] at h; cases h
    · by_cases h3 : n < 8
      · rw [nx_3 h1 h2 h3] at h; exact wdc_lb (by omega) hp h
      · cases e : wdc c z p 4 with
        | inl q' => rw [nx_8l h1 h2 h3 e] at h; cases h; exact wdc_lb (by omega) hp e
        | inr x => rw [nx_8r h1 h2 h3 e] at h; cases h
theorem nx_rb {p n : Nat} {x : Nat × Nat} (hp : p ≤ z) (h : nx c z p n = .inr x) : p ≤ x.2 ∧ x.2 ≤ z ∧ x.1 ≤ 4 ∧ (n = 1 → x.1 < 3) ∧ (8 ≤ n → 3 ≤ x.1) ∧ (x.1 = 4 → x.2 = p ∧ (z ≤ p ∨ c p = ni 59)) ∧ (x.1 < 4 → p < x.2) := by
  by_cases h1 : n = 1
  · rw [h1, nx_1] at h
    have b := wdc_rb (by omega) hp h
    have s : snd' 2 - sbg 2 = 3 := rfl
    omega
  · by_cases h2 : z ≤ p ∨ c p = ni 59
    · rw [nx_4 h1 h2] at h
      cases h
      exact ⟨Nat.le_refl _, hp, Nat.le_refl _, fun w => absurd w h1, fun _ => by show 3 ≤ 4; omega, fun _ => ⟨rfl, h2⟩, fun w => by have w' : 4 < 4 := w; omega⟩
    · by_cases h3 : n < 8
      · rw [nx_3 h1 h2 h3] at h
        have b := wdc_rb (by omega) hp h
        have s : snd' 3 - sbg 3 = 4 := rfl
        omega
      · cases e : wdc c z p 4 with
        | inl q' => rw [nx_8l h1 h2 h3 e] at h; cases h
        | inr x' =>
          rw [nx_8r h1 h2 h3 e] at h
          cases h
          have b := wdc_rb (by omega) hp e
          show p ≤ x'.2 ∧ x'.2 ≤ z ∧ 3 ≤ 4 ∧ (n = 1 → 3 < 3) ∧ (8 ≤ n → 3 ≤ 3) ∧ (3 = 4 → x'.2 = p ∧ (z ≤ p ∨ c p = ni 59)) ∧ (3 < 4 → p < x'.2)
          omega
/-- a row of men, its wording, its men, its links, what is behind it -/
abbrev RR : Type := Nat ⊕ (Nat × Nat × (Nat → Nat) × (Nat → Nat) × Nat)
def rwe (c : Nat → Int32) (z n : Nat) (wh lk : Nat → Nat) (x : Nat × Nat) : RR := if x.1 = 3 then (match dgt c z x.2 with
  | none => .inl x.2
  | some d => if d < 8 then .inr (n, d, wh, lk, x.2 + 1) else .inl x.2) else .inr (n, 0, wh, lk, x.2)
theorem rwe_4 {n : Nat} {wh lk : Nat → Nat} {x : Nat × Nat} (h : x.1 ≠ 3) : rwe c z n wh lk x = .inr (n, 0, wh, lk, x.2) := if_neg h
theorem rwe_n {n : Nat} {wh lk : Nat → Nat} {x : Nat × Nat} (h : x.1 = 3) (e : dgt c z x.2 = none) : rwe c z n wh lk x = .inl x.2 := by unfold rwe; rw [if_pos h, e]
theorem rwe_d {n d : Nat} {wh lk : Nat → Nat} {x : Nat × Nat} (h : x.1 = 3) (e : dgt c z x.2 = some d) : rwe c z n wh lk x = if d < 8 then .inr (n, d, wh, lk, x.2 + 1) else .inl x.2 := by unfold rwe; rw [if_pos h, e]
def rwl (c : Nat → Int32) (z M : Nat) : Nat → Nat → Nat → (Nat → Nat) → (Nat → Nat) → RR
  | 0, _, _, _, _ => .inl 0
  | m + 1, n, p, wh, lk => match rmn c z p M wh n with
    | .inl q => .inl q
    | .inr y => match nx c z y.2 (n + 1) with
      | .inl q => .inl q
      | .inr x => if x.1 < 3 then rwl c z M m (n + 1) x.2 (up1 wh n y.1) (up1 lk n x.1) else rwe c z (n + 1) (up1 wh n y.1) (up1 lk n x.1) x
/-- a row, from behind its n-th man on -/
def rwk (c : Nat → Int32) (z M m n p : Nat) (wh lk : Nat → Nat) : RR := match nx c z p n with
  | .inl q => .inl q
  | .inr x => if x.1 < 3 then rwl c z M m n x.2 wh (up1 lk (n - 1) x.1) else rwe c z n wh (up1 lk (n - 1) x.1) x
theorem rwl_l {M m n p q : Nat} {wh lk : Nat → Nat} (e : rmn c z p M wh n = .inl q) : rwl c z M (m + 1) n p wh lk = .inl q := by
  show (match rmn c z p M wh n with
    | .inl q => .inl q
    | .inr y => rwk c z M m (n + 1) y.2 (up1 wh n y.1) lk : RR) = _
  rw [e]
theorem rwl_r {M m n p : Nat} {y : Nat × Nat} {wh lk : Nat → Nat} (e : rmn c z p M wh n = .inr y) : rwl c z M (m + 1) n p wh lk = rwk c z M m (n + 1) y.2 (up1 wh n y.1) lk := by
  show (match rmn c z p M wh n with
    | .inl q => .inl q
    | .inr y => rwk c z M m (n + 1) y.2 (up1 wh n y.1) lk : RR) = _
  rw [e]
theorem rwk_l {M m n p q : Nat} {wh lk : Nat → Nat} (e : nx c z p n = .inl q) : rwk c z M m n p wh lk = .inl q := by unfold rwk; rw [e]
theorem rwk_r {M m n p : Nat} {x : Nat × Nat} {wh lk : Nat → Nat} (e : nx c z p n = .inr x) : rwk c z M m n p wh lk = if x.1 < 3 then rwl c z M m n x.2 wh (up1 lk (n - 1) x.1) else rwe c z n wh (up1 lk (n - 1) x.1) x := by unfold rwk; rw [e]
/-- a row as it may be -/
def Vrw (M n wd : Nat) (wh lk : Nat → Nat) : Prop := 2 ≤ n ∧ n ≤ 8 ∧ wd < 8 ∧ (∀ i, i < n → wh i < M) ∧ (∀ i j, i < j → j < n → wh i ≠ wh j) ∧ ∀ i, i + 1 < n → lk i < 3
theorem rwe_v {M n : Nat} {wh lk : Nat → Nat} {x : Nat × Nat} {v : Nat × Nat × (Nat → Nat) × (Nat → Nat) × Nat} (n2 : 2 ≤ n) (n8 : n ≤ 8) (w : ∀ i, i < n → wh i < M) (d : ∀ i j, i < j → j < n → wh i ≠ wh j) (l : ∀ i, i + 1 < n → lk i < 3) (hx : x.2 ≤ z) (h : rwe c z n wh lk x = .inr v) : Vrw M v.1 v.2.1 v.2.2.1 v.2.2.2.1 ∧ x.2 ≤ v.2.2.2.2 ∧ v.2.2.2.2 ≤ z := by
  by_cases y : x.1 = 3
  · cases e : dgt c z x.2 with
    | none => rw [rwe_n y e] at h; cases h
    | some k =>
      have g := dgt_t e
      rw [rwe_d y e] at h
      by_cases k8 : k < 8
      · rw [if_pos k8] at h
        cases h
        exact ⟨⟨n2, n8, k8, w, d, l⟩, by show x.2 ≤ x.2 + 1; omega, by show x.2 + 1 ≤ z; omega⟩
      · rw [if_neg k8] at h; cases h
  · rw [rwe_4 y] at h
    cases h
    exact ⟨⟨n2, n8, by show 0 < 8; omega, w, d, l⟩, Nat.le_refl _, hx⟩
theorem up1_e {f : Nat → Nat} {n v : Nat} : up1 f n v n = v := if_pos rfl
theorem up1_n {f : Nat → Nat} {n v i : Nat} (h : i ≠ n) : up1 f n v i = f i := if_neg h
theorem rwl_v {M : Nat} : ∀ m n p wh lk v, m + n = 8 → p ≤ z → (∀ i, i < n → wh i < M) → (∀ i j, i < j → j < n → wh i ≠ wh j) → (∀ i, i < n → lk i < 3) → rwl c z M m n p wh lk = .inr v → Vrw M v.1 v.2.1 v.2.2.1 v.2.2.2.1 ∧ p < v.2.2.2.2 ∧ v.2.2.2.2 ≤ z
  | 0, _, _, _, _, _, _, _, _, _, _, h => by cases h
  | m + 1, n, p, wh, lk, v, hm, hp, w, d, l, h => by
    cases e : rmn c z p M wh n with
    | inl q => rw [rwl_l e] at h; cases h
    | inr y =>
      have b := rmn_rb hp e
      rw [rwl_r e] at h
      cases e2 : nx c z y.2 (n + 1) with
      | inl q => rw [rwk_l e2] at h; cases h
      | inr x =>
        have b2 := nx_rb (show y.2 ≤ z by omega) e2
        rw [rwk_r e2] at h
        have w' : ∀ i, i < n + 1 → up1 wh n y.1 i < M := fun i hi => by
          by_cases q : i = n
          · rw [q, up1_e]; omega
          · rw [up1_n q]; exact w i (by omega)
        have d' : ∀ i j, i < j → j < n + 1 → up1 wh n y.1 i ≠ up1 wh n y.1 j := fun i j h1 h2 => by
          by_cases q : j = n
          · rw [q, up1_e, up1_n (by omega)]; exact b.2.2.2.2 i (by omega)
          · rw [up1_n q, up1_n (by omega)]; exact d i j h1 (by omega)
        by_cases q : x.1 < 3
        · rw [if_pos q] at h
          have r := rwl_v m (n + 1) x.2 (up1 wh n y.1) (up1 lk n x.1) v (by omega) (by omega) w' d' (fun i hi => by
            by_cases q' : i = n
            · rw [q', up1_e]; exact q
            · rw [up1_n q']; exact l i (by omega)) h
          exact ⟨r.1, by omega, r.2.2⟩
        · rw [if_neg q] at h
          have r := rwe_v (M := M) (show 2 ≤ n + 1 by omega) (by omega) w' d' (fun i hi => by
            show up1 lk n x.1 i < 3
            rw [up1_n (by omega)]; exact l i (by omega)) b2.2.1 h
          exact ⟨r.1, by omega, r.2.2⟩
theorem rwe_lb {n q : Nat} {wh lk : Nat → Nat} {x : Nat × Nat} (hx : x.2 ≤ z) (h : rwe c z n wh lk x = .inl q) : q ≤ z := by
  by_cases y : x.1 = 3
  · cases e : dgt c z x.2 with
    | none => rw [rwe_n y e] at h; cases h; exact hx
    | some k =>
      rw [rwe_d y e] at h
      by_cases k8 : k < 8
      · rw [if_pos k8] at h; cases h
      · rw [if_neg k8] at h; cases h; exact hx
  · rw [rwe_4 y] at h; cases h
theorem rwl_lb {M : Nat} : ∀ m n p wh lk q, p ≤ z → rwl c z M m n p wh lk = .inl q → q ≤ z
  | 0, _, _, _, _, _, _, h => by cases h; omega
  | m + 1, n, p, wh, lk, q, hp, h => by
    cases e : rmn c z p M wh n with
    | inl q' => rw [rwl_l e] at h; cases h; exact rmn_lb hp e
    | inr y =>
      have b := rmn_rb hp e
      rw [rwl_r e] at h
      cases e2 : nx c z y.2 (n + 1) with
      | inl q' => rw [rwk_l e2] at h; cases h; exact nx_lb (by omega) e2
      | inr x =>
        have b2 := nx_rb (show y.2 ≤ z by omega) e2
        rw [rwk_r e2] at h
        by_cases w : x.1 < 3
        · rw [if_pos w] at h; exact rwl_lb m (n + 1) x.2 _ _ q b2.2.1 h
        · rw [if_neg w] at h; exact rwe_lb b2.2.1 h
end RWP
section RWC
variable {h : am_H} {i : Nat} {c : Nat → Int32} {z : Nat}
theorem ni_M1 {M : Nat} (hM : M ≤ 24) {n : Nat} (hn : n ≤ 99) : ni n ≤ ni M - 1 ↔ n < M := by
  cases M with
  | zero => rw [show ni 0 - 1 = -ni 1 from rfl, ng_le' (by omega) (by omega) (by omega)]; exact ⟨fun z => z.elim, fun z => by omega⟩
  | succ M => rw [show ni (M + 1) - 1 = ni (M + 1 - 1) from ni_sub (b := 1) (by omega), ni_le (by omega) (by omega)]; omega
theorem D107 (hs : Sh h) (t : TX h i c z) {p M n : Nat} (hM : M ≤ 24) (hp : hI h 248 3 = ni p) (hp2 : p ≤ z) {wh : Nat → Nat} : ∃ h1, am_D 107 [vr (some 248), vi (ni M), vi (sb (fun k => anyb (fun j => wh j == k) n) 24)] h = some (some (vi (rI (rmn c z p M wh n))), h1) ∧ Kt h h1 ∧ rT h h1 (rmn c z p M wh n) := by
  have z100 := t.2.2.2.1
  obtain ⟨h1, d1, k1, r1⟩ := D79 hs t (L := M) (x1 := ni M - 1) hp (by omega) (fun n hn => ni_M1 hM hn)
  have hs1 := Kg_Sh k1.1 hs
  have b0 := d_107 (x1 := ni M) (x2 := sb (fun k => anyb (fun j => wh j == k) n) 24) hs
  rw [d1] at b0
  simp only [Option.bind_some, Option.toList_some, List.cons_append, List.nil_append] at b0
  rw [e_107_12 hs1] at b0
  cases e : rn c z p M with
  | inl q =>
    rw [e] at b0 r1
    rw [if_pos (show rI (.inl q) = -1 from rfl)] at b0
    rw [rmn_l e]
    exact ⟨h1, b0, k1, r1⟩
  | inr y =>
    have b := rn_rb hp2 e
    rw [e] at b0 r1
    rw [show rI (.inr y) = ni y.1 from rfl, if_neg (ni_n1 (by omega)), bt_up (by omega) (show y.1 < 32 by omega), decide_eq_true (show y.1 < 24 by omega), Bool.true_and] at b0
    rw [rmn_r e]
    cases u : anyb (fun j => wh j == y.1) n
    · rw [u, if_pos (show bi false = 0 from rfl)] at b0
      rw [if_neg (by decide)]
      exact ⟨h1, b0, k1, r1⟩
    · rw [u, if_neg (show ¬ bi true = 0 by decide), hp] at b0
      rw [if_pos rfl]
      exact ⟨_, b0, Kt_0 k1 _, pe⟩
theorem D108 (hs : Sh h) (t : TX h i c z) {p n : Nat} (hn : 1 ≤ n) (n8 : n ≤ 8) (hp : hI h 248 3 = ni p) (hp2 : p ≤ z) : ∃ h1, am_D 108 [vr (some 248), vi (ni n)] h = some (some (vi (rI (nx c z p n))), h1) ∧ Kt h h1 ∧ rT h h1 (nx c z p n) := by
  have t' := t
  obtain ⟨t1, t2, t3, z100, t5⟩ := t
  have b0 := d_108 (x1 := ni n) hs
  by_cases h1 : n = 1
  · subst h1
    obtain ⟨h1, d1, k1, r1⟩ := D77c hs t' (k := 2) (by omega) hp (by omega)
    have d1' : am_D 77 [vr (some 248), vr (some 4)] h = some (some (vi (rI (wdc c z p 2))), h1) := d1
    rw [if_pos (show ni 1 = 1 from rfl), d1'] at b0
    simp only [Option.bind_some, Option.toList_some, List.cons_append, List.nil_append] at b0
    rw [e_108_11 (Kg_Sh k1.1 hs)] at b0
    rw [nx_1]
    exact ⟨h1, b0, k1, r1⟩
  · rw [if_neg (show ¬ ni n = 1 by rw [show (1 : Int32) = ni 1 from rfl, ni_eq (by omega) (by omega)]; exact h1), t3, hp] at b0
    by_cases y : z ≤ p
    · rw [if_pos (show ni z ≤ ni p by rw [ni_le (by omega) (by omega)]; exact y)] at b0
      rw [nx_4 h1 (Or.inl y)]
      exact ⟨h, b0, Kt_refl h, hp, rfl⟩
    · rw [if_neg (show ¬ ni z ≤ ni p by rw [ni_le (by omega) (by omega)]; exact y), t1, Option.bind_some, fq_18 hs t2, if_pos (show ((101 : Nat), (100 : Nat)).1 = 101 from rfl), ixb _ (show p < 100 by omega) (by omega), t5 _ (by omega)] at b0
      by_cases w : c p = ni 59
      · rw [if_pos (show c p = 59 from w)] at b0
        rw [nx_4 h1 (Or.inr w)]
        exact ⟨h, b0, Kt_refl h, hp, rfl⟩
      · rw [if_neg (show ¬ c p = 59 from w)] at b0
        have no : ¬ (z ≤ p ∨ c p = ni 59) := fun q => q.elim y w
        by_cases h8 : n < 8
        · obtain ⟨h1', d1, k1, r1⟩ := D77c hs t' (k := 3) (by omega) hp (by omega)
          have d1' : am_D 77 [vr (some 248), vr (some 5)] h = some (some (vi (rI (wdc c z p 3))), h1') := d1
          rw [if_neg (show ¬ 8 ≤ ni n by rw [show (8 : Int32) = ni 8 from rfl, ni_le (by omega) (by omega)]; omega), d1'] at b0
          simp only [Option.bind_some, Option.toList_some, List.cons_append, List.nil_append] at b0
          rw [e_108_52 (Kg_Sh k1.1 hs)] at b0
          rw [nx_3 h1 no h8]
          exact ⟨h1', b0, k1, r1⟩
        · obtain ⟨h1', d1, k1, r1⟩ := D77c hs t' (k := 4) (by omega) hp (by omega)
          have d1' : am_D 77 [vr (some 248), vr (some 6)] h = some (some (vi (rI (wdc c z p 4))), h1') := d1
          rw [if_pos (show 8 ≤ ni n by rw [show (8 : Int32) = ni 8 from rfl, ni_le (by omega) (by omega)]; omega), d1'] at b0
          simp only [Option.bind_some, Option.toList_some, List.cons_append, List.nil_append] at b0
          rw [e_108_59 (Kg_Sh k1.1 hs)] at b0
          cases e : wdc c z p 4 with
          | inl q =>
            rw [e] at b0 r1
            rw [if_pos (show rI (.inl q) = -1 from rfl)] at b0
            rw [nx_8l h1 no h8 e]
            exact ⟨h1', b0, k1, r1⟩
          | inr x =>
            have b := wdc_rb (by omega) hp2 e
            have s : snd' 4 - sbg 4 = 1 := rfl
            rw [e] at b0 r1
            rw [show rI (.inr x) = ni x.1 from rfl, if_neg (ni_n1 (by omega))] at b0
            rw [nx_8r h1 no h8 e]
            exact ⟨h1', b0, k1, r1⟩
def rD (p : Nat) : Option Nat → Int32
  | none => -1
  | some d => if d < 8 then ni d else -1
theorem D109 (hs : Sh h) (t : TX h i c z) {p : Nat} (hp : hI h 248 3 = ni p) (hp2 : p ≤ z) : (∃ d h1, dgt c z p = some d ∧ d < 8 ∧ am_D 109 [vr (some 248)] h = some (some (vi (ni d)), h1) ∧ Kt h h1 ∧ hI h1 248 3 = ni (p + 1) ∧ hI h1 248 0 = hI h 248 0) ∨ ((∀ d, dgt c z p = some d → ¬ d < 8) ∧ ∃ h1, am_D 109 [vr (some 248)] h = some (some (vi (-1)), h1) ∧ Kt h h1 ∧ hI h1 248 0 = ni p) := by
  have z100 := t.2.2.2.1
  have b0 := d_109 hs
  rw [hp, D78 hs t (p := p) (by omega)] at b0
  simp only [Option.bind_some, Option.toList_some, List.cons_append, List.nil_append] at b0
  rw [e_109_8 hs] at b0
  have bad : ∀ o, am_E 109 (20, [some (vr (some 248)), o], [], h) = some (some (vi (-1)), pI h 248 0 (ni p)) := fun o => by rw [e_109_20 hs, hp]
  cases e : dgt c z p with
  | none =>
    rw [e, if_pos (show oI none = -1 from rfl), bad] at b0
    exact Or.inr ⟨fun d w => by (cases w), _, b0, Kt_0 (Kt_refl h) _, pe⟩
  | some d =>
    have g := dgt_t e
    rw [e, if_neg (show ¬ oI (some d) = -1 from ni_n1 (by omega))] at b0
    by_cases d8 : d < 8
    · rw [if_pos (show oI (some d) < 8 by show ni d < ni 8; rw [ni_lt (by omega) (by omega)]; exact d8), hp, ni_add1] at b0
      exact Or.inl ⟨d, _, rfl, d8, b0, Kt_3 (Kt_refl h) _, pe, pn (by omega)⟩
    · rw [if_neg (show ¬ oI (some d) < 8 by show ¬ ni d < ni 8; rw [ni_lt (by omega) (by omega)]; exact d8), bad] at b0
      exact Or.inr ⟨fun d' w => by (cases w; exact d8), _, b0, Kt_0 (Kt_refl h) _, pe⟩
def Kr (h h1 : am_H) : Prop := Kg (fun a k => (a = 248 ∧ (k = 0 ∨ k = 3)) ∨ a = 250 ∨ a = 251) h h1 ∧ hR h1 = hR h
theorem Kr_trans {h h1 h2 : am_H} (k1 : Kr h h1) (k2 : Kr h1 h2) : Kr h h2 := ⟨Kg_trans k1.1 k2.1, k2.2.trans k1.2⟩
theorem Kr_t {h h1 : am_H} (k : Kt h h1) : Kr h h1 := ⟨Kg_mono (fun _ _ z => Or.inl z) k.1, k.2⟩
theorem TX_r {h h1 : am_H} (k : Kr h h1) (t : TX h i c z) : TX h1 i c z := TX_fr k.1 k.2 (by omega) (fun a j _ _ => by omega) t
theorem L119e (hs : Sh h) (t : TX h i c z) {r κ n : Nat} {wh lk : Nat → Nat} {x : Nat × Nat} (x4 : x.1 ≤ 4) (hx : 3 ≤ x.1) (hx2 : x.2 ≤ z) (hp : hI h 248 3 = ni x.2) (g : ∀ j, j < n → hI h 250 j = ni (wh j) ∧ hI h 251 j = ni (lk j)) {o2 o4 o7 : Option am_V} : (∃ q, rwe c z n wh lk x = .inl q ∧ ∃ h1, am_E 119 (120, [some (vr (some 248)), some (vi (ni r)), o2, some (vi (ni κ)), o4, some (vi (ni x.1)), some (vi (ni n)), o7], [], h) = some (some (vr none), h1) ∧ Kr h h1 ∧ hI h1 248 0 = ni q) ∨ (∃ y, rwe c z n wh lk x = .inr y ∧ ∃ h1 o5 o7', am_E 119 (120, [some (vr (some 248)), some (vi (ni r)), o2, some (vi (ni κ)), o4, some (vi (ni x.1)), some (vi (ni n)), o7], [], h) = am_E 119 (134, [some (vr (some 248)), some (vi (ni r)), o2, some (vi (ni κ)), o4, o5, some (vi (ni y.1)), o7'], [vi (ni y.2.1)], h1) ∧ Kr h h1 ∧ hI h1 248 3 = ni y.2.2.2.2 ∧ hI h1 248 0 = hI h 248 0 ∧ ∀ j, j < y.1 → hI h1 250 j = ni (y.2.2.1 j) ∧ hI h1 251 j = ni (y.2.2.2.1 j)) := by
  have b0 := e_119_120 (x1 := ni r) (o2 := o2) (x3 := ni κ) (o4 := o4) (x5 := ni x.1) (x6 := ni n) (o7 := o7) hs
  by_cases x3 : x.1 = 3
  · rw [if_pos (show ni x.1 = 3 by rw [x3]; rfl)] at b0
    rcases D109 hs t hp hx2 with ⟨d, h1, e, d8, d1, k1, p1, p0⟩ | ⟨no, h1, d1, k1, p0⟩
    · have hs1 := Kg_Sh k1.1 hs
      rw [d1] at b0
      simp only [Option.bind_some, Option.toList_some, List.cons_append, List.nil_append] at b0
      rw [e_119_130 hs1] at b0
      refine Or.inr ⟨(n, d, wh, lk, x.2 + 1), by rw [rwe_d x3 e, if_pos d8], h1, _, _, b0, Kr_t k1, p1, p0, fun j hj => ?_⟩
      rw [k1.1.2.2.2.2.1 250 j (by omega), k1.1.2.2.2.2.1 251 j (by omega)]
      exact g j hj
    · have hs1 := Kg_Sh k1.1 hs
      rw [d1] at b0
      simp only [Option.bind_some, Option.toList_some, List.cons_append, List.nil_append] at b0
      rw [e_119_130 hs1, e_119_134 hs1, if_pos rfl] at b0
      refine Or.inl ⟨x.2, ?_, h1, b0, Kr_t k1, p0⟩
      cases e : dgt c z x.2 with
      | none => exact rwe_n x3 e
      | some d => rw [rwe_d x3 e, if_neg (no d e)]
  · rw [if_neg (show ¬ ni x.1 = 3 by rw [show (3 : Int32) = ni 3 from rfl, ni_eq (by omega) (by omega)]; exact x3)] at b0
    exact Or.inr ⟨(n, 0, wh, lk, x.2), rwe_4 x3, h, _, _, b0, ⟨Kg_refl h, rfl⟩, hp, rfl, g⟩
theorem L119 {M r κ : Nat} (hM : M ≤ 24) : ∀ m n p x wh lk {h : am_H} (o7 : Option am_V), m + n = 8 → 0 < m → x < 3 → p ≤ z → Sh h → TX h i c z → hI h 248 3 = ni p → (∀ j, j < n → wh j < M) → (∀ j, j < n → hI h 250 j = ni (wh j) ∧ hI h 251 j = ni (lk j)) → (∃ q, rwl c z M m n p wh lk = .inl q ∧ ∃ h1, am_E 119 (37, [some (vr (some 248)), some (vi (ni r)), some (vi (ni M)), some (vi (ni κ)), some (vi (sb (fun k => anyb (fun j => wh j == k) n) 24)), some (vi (ni x)), some (vi (ni n)), o7], [], h) = some (some (vr none), h1) ∧ Kr h h1 ∧ hI h1 248 0 = ni q) ∨ (∃ y, rwl c z M m n p wh lk = .inr y ∧ ∃ h1 o2 o4 o5 o7', am_E 119 (37, [some (vr (some 248)), some (vi (ni r)), some (vi (ni M)), some (vi (ni κ)), some (vi (sb (fun k => anyb (fun j => wh j == k) n) 24)), some (vi (ni x)), some (vi (ni n)), o7], [], h) = am_E 119 (134, [some (vr (some 248)), some (vi (ni r)), o2, some (vi (ni κ)), o4, o5, some (vi (ni y.1)), o7'], [vi (ni y.2.1)], h1) ∧ Kr h h1 ∧ hI h1 248 3 = ni y.2.2.2.2 ∧ hI h1 248 0 = hI h 248 0 ∧ ∀ j, j < y.1 → hI h1 250 j = ni (y.2.2.1 j) ∧ hI h1 251 j = ni (y.2.2.2.1 j)) := by
  intro m
  induction m with
  | zero => intro n p x wh lk h o7 a1 a2; omega
  | succ m ih =>
    intro n p x wh lk h o7 a1 a2 a3 a4 hs t h3 w g
    have z100 := t.2.2.2.1
    have b0 := e_119_37 (x1 := ni r) (x2 := ni M) (x3 := ni κ) (x4 := sb (fun k => anyb (fun j => wh j == k) n) 24) (x5 := ni x) (x6 := ni n) (o7 := o7) hs
    obtain ⟨h1, d1, k1, r1⟩ := D107 (n := n) (wh := wh) hs t hM h3 a4
    have hs1 := Kg_Sh k1.1 hs
    have t1' := TX_t k1 t
    rw [if_neg (show ¬ 8 ≤ ni n by rw [show (8 : Int32) = ni 8 from rfl, ni_le (by omega) (by omega)]; omega), if_neg (show ¬ 3 ≤ ni x by rw [show (3 : Int32) = ni 3 from rfl, ni_le (by omega) (by omega)]; omega), d1] at b0
    simp only [Option.bind_some, Option.toList_some, List.cons_append, List.nil_append] at b0
    rw [e_119_57 hs1] at b0
    cases e : rmn c z p M wh n with
    | inl q =>
      rw [e] at b0 r1
      rw [if_pos (show rI (.inl q) = -1 from rfl), e_119_77 hs1, if_pos rfl] at b0
      exact Or.inl ⟨q, rwl_l e, h1, b0, Kr_t k1, r1⟩
    | inr y =>
      have b := rmn_rb a4 e
      rw [e] at b0 r1
      have r1' : hI h1 248 3 = ni y.2 ∧ hI h1 248 0 = hI h 248 0 := r1
      obtain ⟨h2, d2, k2, r2⟩ := D108 hs1 t1' (show 1 ≤ n + 1 by omega) (by omega) r1'.1 (show y.2 ≤ z by omega)
      have hs2 := Kg_Sh k2.1 hs1
      have kk2 : Kt h h2 := Kt_trans k1 k2
      rw [show rI (.inr y) = ni y.1 from rfl, if_neg (ni_n1 (by omega)), ni_add1, d2] at b0
      simp only [Option.bind_some, Option.toList_some, List.cons_append, List.nil_append] at b0
      rw [e_119_77 hs2] at b0
      cases e2 : nx c z y.2 (n + 1) with
      | inl q =>
        rw [e2] at b0 r2
        rw [if_pos (show rI (.inl q) = -1 from rfl)] at b0
        exact Or.inl ⟨q, by rw [rwl_r e, rwk_l e2], h2, b0, Kr_t kk2, r2⟩
      | inr v =>
        have b2 := nx_rb (show y.2 ≤ z by omega) e2
        rw [e2] at b0 r2
        have r2' : hI h2 248 3 = ni v.2 ∧ hI h2 248 0 = hI h1 248 0 := r2
        have k3 : Kr h (pI (pI h2 250 n (ni y.1)) 251 n (ni v.1)) := ⟨Kg_pI (Or.inr (Or.inr rfl)) (Kg_pI (Or.inr (Or.inl rfl)) (Kr_t kk2).1), kk2.2⟩
        have hs3 := Kg_Sh k3.1 hs
        have t3 := TX_r k3 t
        have p3 : hI (pI (pI h2 250 n (ni y.1)) 251 n (ni v.1)) 248 3 = ni v.2 := (pn (by omega)).trans ((pn (by omega)).trans r2'.1)
        have p0 : hI (pI (pI h2 250 n (ni y.1)) 251 n (ni v.1)) 248 0 = hI h 248 0 := (pn (by omega)).trans ((pn (by omega)).trans (r2'.2.trans r1'.2))
        have g3 : ∀ j, j < n + 1 → hI (pI (pI h2 250 n (ni y.1)) 251 n (ni v.1)) 250 j = ni (up1 wh n y.1 j) ∧ hI (pI (pI h2 250 n (ni y.1)) 251 n (ni v.1)) 251 j = ni (up1 lk n v.1 j) := fun j hj => by
          by_cases q : j = n
          · rw [q, up1_e, up1_e]
            exact ⟨(pn (by omega)).trans pe, pe⟩
          · rw [up1_n q, up1_n q]
            have g' := g j (by omega)
            exact ⟨(pn (by omega)).trans ((pn (by omega)).trans ((kk2.1.2.2.2.2.1 250 j (by omega)).trans g'.1)), (pn (by omega)).trans ((pn (by omega)).trans ((kk2.1.2.2.2.2.1 251 j (by omega)).trans g'.2))⟩
        have us : sb (fun k => anyb (fun j => wh j == k) n) 24 ||| ((1 : Int32) <<< (ni y.1 &&& 31)) = sb (fun k => anyb (fun j => up1 wh n y.1 j == k) (n + 1)) 24 := (sb_or (by omega) (show y.1 < 24 by omega)).trans (sb_congr fun k _ => by
          rw [anyb_s, up1_e]
          congr 1
          have an : ∀ m', m' ≤ n → anyb (fun j => wh j == k) m' = anyb (fun j => up1 wh n y.1 j == k) m' := by
            intro m'
            induction m' with
            | zero => intro _; rfl
            | succ m' ihm =>
              intro hm'
              rw [anyb_s, anyb_s, ihm (by omega), up1_n (show m' ≠ n by omega)]
          exact an n (Nat.le_refl _))
        rw [show rI (.inr v) = ni v.1 from rfl, if_neg (ni_n1 (by omega)), ixb _ (show n < 8 by omega) (by omega), ixb _ (show n < 8 by omega) (by omega), us, ni_add1] at b0
        have er := (rwl_r (m := m) (lk := lk) e).trans (rwk_r (M := M) (m := m) (wh := up1 wh n y.1) (lk := lk) e2)
        rw [Nat.add_sub_cancel] at er
        by_cases q : v.1 < 3
        · rw [if_pos q] at er
          rcases ih (n + 1) v.2 v.1 (up1 wh n y.1) (up1 lk n v.1) (h := pI (pI h2 250 n (ni y.1)) 251 n (ni v.1)) (some (vi (ni y.1))) (by omega) (by omega) q b2.2.1 hs3 t3 p3 (fun j hj => by
            by_cases q' : j = n
            · rw [q', up1_e]; omega
            · rw [up1_n q']; exact w j (by omega)) g3 with ⟨q', f1, h4, f2, f3, f4⟩ | ⟨y', f1, h4, o2, o4, o5, o7', f2, f3, f4, f5, f6⟩
          · exact Or.inl ⟨q', er.trans f1, h4, b0.trans f2, Kr_trans k3 f3, f4⟩
          · exact Or.inr ⟨y', er.trans f1, h4, o2, o4, o5, o7', b0.trans f2, Kr_trans k3 f3, f4, f5.trans p0, f6⟩
        · rw [if_neg q] at er
          have b1 : am_E 119 (37, [some (vr (some 248)), some (vi (ni r)), some (vi (ni M)), some (vi (ni κ)), some (vi (sb (fun k => anyb (fun j => up1 wh n y.1 j == k) (n + 1)) 24)), some (vi (ni v.1)), some (vi (ni (n + 1))), some (vi (ni y.1))], [], pI (pI h2 250 n (ni y.1)) 251 n (ni v.1)) = am_E 119 (120, [some (vr (some 248)), some (vi (ni r)), some (vi (ni M)), some (vi (ni κ)), some (vi (sb (fun k => anyb (fun j => up1 wh n y.1 j == k) (n + 1)) 24)), some (vi (ni v.1)), some (vi (ni (n + 1))), some (vi (ni y.1))], [], pI (pI h2 250 n (ni y.1)) 251 n (ni v.1)) := by
            rw [e_119_37 hs3, if_pos (show 3 ≤ ni v.1 by rw [show (3 : Int32) = ni 3 from rfl, ni_le (by omega) (by omega)]; omega)]
            split <;> rfl
          rcases L119e (r := r) (κ := κ) (n := n + 1) (wh := up1 wh n y.1) (lk := up1 lk n v.1) hs3 t3 b2.2.2.1 (show 3 ≤ v.1 by omega) b2.2.1 p3 g3 (o2 := some (vi (ni M))) (o4 := some (vi (sb (fun k => anyb (fun j => up1 wh n y.1 j == k) (n + 1)) 24))) (o7 := some (vi (ni y.1))) with ⟨q', f1, h4, f2, f3, f4⟩ | ⟨y', f1, h4, o5, o7', f2, f3, f4, f5, f6⟩
          · exact Or.inl ⟨q', er.trans f1, h4, (b0.trans b1).trans f2, Kr_trans k3 f3, f4⟩
          · exact Or.inr ⟨y', er.trans f1, h4, _, _, o5, o7', (b0.trans b1).trans f2, Kr_trans k3 f3, f4, f5.trans p0, f6⟩
end RWC
