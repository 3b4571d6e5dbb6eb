/-! texts: numbers -/
def dgt (c : Nat → Int32) (z p : Nat) : Option Nat := if p < z then (if 48 ≤ (c p).toInt ∧ (c p).toInt ≤ 57 then some ((c p).toInt.toNat - 48) else none) else none
theorem dgt_t {c : Nat → Int32} {z p d : Nat} (h : dgt c z p = some d) : p < z ∧ d ≤ 9 ∧ c p = ni (48 + d) := by
  unfold dgt at h
  by_cases a : p < z
  · rw [if_pos a] at h
    by_cases b : 48 ≤ (c p).toInt ∧ (c p).toInt ≤ 57
    · rw [if_pos b] at h
      cases h
      obtain ⟨k, e1, e2, e3⟩ := ni_ex (x := c p) (by omega)
      refine ⟨a, by omega, ?_⟩
      rw [e3, ni_toInt e2]
      congr 1
      rw [← e1] at b
      omega
    · rw [if_neg b] at h; cases h
  · rw [if_neg a] at h; cases h
theorem dgt_n {c : Nat → Int32} {z p : Nat} (h : dgt c z p = none) (a : p < z) : (c p).toInt < 48 ∨ 57 < (c p).toInt := by
  unfold dgt at h
  rw [if_pos a] at h
  by_cases b : 48 ≤ (c p).toInt ∧ (c p).toInt ≤ 57
  · rw [if_pos b] at h; cases h
  · omega
/-- a number of one or two digits, and what is behind it -/
def rnn (c : Nat → Int32) (z p : Nat) : Option (Nat × Nat) := match dgt c z p with
  | none => none
  | some d => match dgt c z (p + 1) with
    | none => some (d, p + 1)
    | some e => some (d * 10 + e, p + 2)
theorem rnn_b {c : Nat → Int32} {z p n q : Nat} (h : rnn c z p = some (n, q)) : n ≤ 99 ∧ p < q ∧ q ≤ z := by
  unfold rnn at h
  cases e : dgt c z p with
  | none => rw [e] at h; cases h
  | some d =>
    have b := dgt_t e
    rw [e] at h
    cases e2 : dgt c z (p + 1) with
    | none => rw [e2] at h; cases h; omega
    | some d2 =>
      have b2 := dgt_t e2
      rw [e2] at h
      cases h; omega
/-- a number less than L, or where it is wrong -/
def rn (c : Nat → Int32) (z p L : Nat) : Nat ⊕ (Nat × Nat) := match rnn c z p with
  | none => .inl p
  | some x => if x.1 < L then .inr x else .inl p
theorem rn_b {c : Nat → Int32} {z p L : Nat} (hp : p ≤ z) : match rn c z p L with
    | .inl q => p ≤ q ∧ q ≤ z
    | .inr x => x.1 < L ∧ x.1 ≤ 99 ∧ p < x.2 ∧ x.2 ≤ z := by
  unfold rn
  cases e : rnn c z p with
  | none => exact ⟨Nat.le_refl _, hp⟩
  | some x =>
    have b := rnn_b (n := x.1) (q := x.2) e
    show match (if x.1 < L then Sum.inr x else Sum.inl p : Nat ⊕ (Nat × Nat)) with
      | .inl q => p ≤ q ∧ q ≤ z
      | .inr x => x.1 < L ∧ x.1 ≤ 99 ∧ p < x.2 ∧ x.2 ≤ z
    by_cases y : x.1 < L
    · rw [if_pos y]; exact ⟨y, b.1, b.2.1, b.2.2⟩
    · rw [if_neg y]; exact ⟨Nat.le_refl _, hp⟩
section NUC
variable {h : am_H} {i : Nat} {c : Nat → Int32} {z : Nat}
def Kt (h h1 : am_H) : Prop := Kg (fun a k => a = 248 ∧ (k = 0 ∨ k = 3)) h h1 ∧ hR h1 = hR h
theorem Kt_refl (h : am_H) : Kt h h := ⟨Kg_refl h, rfl⟩
theorem Kt_trans {h h1 h2 : am_H} (k1 : Kt h h1) (k2 : Kt h1 h2) : Kt h h2 := ⟨Kg_trans k1.1 k2.1, k2.2.trans k1.2⟩
theorem Kt_0 {h h1 : am_H} (k : Kt h h1) (v : Int32) : Kt h (pI h1 248 0 v) := ⟨Kg_pI ⟨rfl, Or.inl rfl⟩ k.1, k.2⟩
theorem Kt_3 {h h1 : am_H} (k : Kt h h1) (v : Int32) : Kt h (pI h1 248 3 v) := ⟨Kg_pI ⟨rfl, Or.inr rfl⟩ k.1, k.2⟩
theorem TX_fr {W : Nat → Nat → Prop} {h h1 : am_H} (k : Kg W h h1) (r : hR h1 = hR h) (w1 : ¬ W 248 2) (w2 : ∀ a j, 18 ≤ a → a < 26 → ¬ W a j) (t : TX h i c z) : TX h1 i c z := by
  obtain ⟨t1, t2, t3, t4, t5⟩ := t
  exact ⟨by rw [r]; exact t1, t2, by rw [k.2.2.2.2.1 _ _ w1]; exact t3, t4, fun j hj => by rw [k.2.2.2.2.2 _ _ (w2 _ _ (by omega) (by omega))]; exact t5 j hj⟩
theorem TX_t {h h1 : am_H} (k : Kt h h1) (t : TX h i c z) : TX h1 i c z := TX_fr k.1 k.2 (by omega) (fun a j _ _ => by omega) t
def rI : Nat ⊕ (Nat × Nat) → Int32
  | .inl _ => -ni 1
  | .inr x => ni x.1
def rT (h h1 : am_H) : Nat ⊕ (Nat × Nat) → Prop
  | .inl q => hI h1 248 0 = ni q
  | .inr x => hI h1 248 3 = ni x.2 ∧ hI h1 248 0 = hI h 248 0
def wdc (c : Nat → Int32) (z p k : Nat) : Nat ⊕ (Nat × Nat) := match wdx c z p (snd' k - sbg k) (sbg k) 0 with
  | .inl q => .inl q
  | .inr x => .inr (x.1 - sbg k, x.2)
theorem wdc_b {p k : Nat} (hk : k < 5) (hp : p ≤ z) : match wdc c z p k with
    | .inl q => p ≤ q ∧ q ≤ z
    | .inr x => x.1 < snd' k - sbg k ∧ p < x.2 ∧ x.2 ≤ z := by
  have s := s_len k hk
  have b := wdx_b (c := c) hp (snd' k - sbg k) (sbg k) 0 (by omega) (by omega)
  unfold wdc
  cases e : wdx c z p (snd' k - sbg k) (sbg k) 0 with
  | inl q => rw [e] at b; exact b
  | inr x =>
    rw [e] at b
    show x.1 - sbg k < snd' k - sbg k ∧ p < x.2 ∧ x.2 ≤ z
    have b' : sbg k ≤ x.1 ∧ x.1 < sbg k + (snd' k - sbg k) ∧ p < x.2 ∧ x.2 ≤ z := b
    omega
theorem D77c (hs : Sh h) (t : TX h i c z) {p k : Nat} (hk : k < 5) (hp : hI h 248 3 = ni p) (hp2 : p ≤ 200) : ∃ h1, am_D 77 [vr (some 248), vr (some (2 + k))] h = some (some (vi (rI (wdc c z p k))), h1) ∧ Kt h h1 ∧ rT h h1 (wdc c z p k) := by
  rw [D77 hs t hk hp hp2]
  unfold wdc
  cases wdx c z p (snd' k - sbg k) (sbg k) 0 with
  | inl q => exact ⟨_, rfl, Kt_0 (Kt_refl h) _, pe⟩
  | inr x => exact ⟨_, rfl, Kt_3 (Kt_refl h) _, pe, pn (by omega)⟩
theorem D78 (hs : Sh h) (t : TX h i c z) {p : Nat} (hp : p ≤ 1000) : am_D 78 [vr (some 248), vi (ni p)] h = some (some (vi (oI (dgt c z p))), h) := by
  obtain ⟨t1, t2, t3, t4, t5⟩ := t
  rw [d_78 hs, if_neg (show ¬ ni p < 0 by rw [show (0 : Int32) = ni 0 from rfl, ni_lt (by omega) (by omega)]; omega), t3]
  unfold dgt
  by_cases y : p < z
  · rw [if_pos (show ni p < ni z by rw [ni_lt (by omega) (by omega)]; exact y), if_pos y, t1, Option.bind_some, fq_18 hs t2, if_pos (show ((101 : Nat), (100 : Nat)).1 = 101 from rfl), ixb _ (show p < 100 by omega) (by omega), t5 _ y]
    by_cases a : (c p).toInt < 48
    · rw [if_pos (show c p < 48 by rw [ltt]; exact a), if_neg (by omega)]; rfl
    · rw [if_neg (show ¬ c p < 48 by rw [ltt]; exact a)]
      by_cases b : 57 < (c p).toInt
      · rw [if_pos (show 57 < c p by rw [ltt]; exact b), if_neg (by omega)]; rfl
      · rw [if_neg (show ¬ 57 < c p by rw [ltt]; exact b), if_pos (by omega)]
        obtain ⟨k, e1, e2, e3⟩ := ni_ex (x := c p) (by omega)
        have e4 : (c p).toInt.toNat = k := by omega
        rw [e4]
        show some (some (vi (c p - 48)), h) = some (some (vi (ni (k - 48))), h)
        rw [e3, show ni k - 48 = ni (k - 48) from ni_sub (b := 48) (by omega)]
  · rw [if_neg (show ¬ ni p < ni z by rw [ni_lt (by omega) (by omega)]; exact y), if_neg y]; rfl
theorem oI_n1 {o : Option Nat} (h : ∀ d, o = some d → d ≤ 1000) : (oI o = -1) = (o = none) := by
  cases o with
  | none => exact propext ⟨fun _ => rfl, fun _ => rfl⟩
  | some d =>
    have := h d rfl
    show (ni d = -ni 1) = _
    rw [ng_eq (by omega) (by omega) (by omega)]
    exact propext ⟨fun z => z.elim, fun z => by cases z⟩
theorem dgt_9 {p : Nat} : ∀ d, dgt c z p = some d → d ≤ 1000 := fun d e => by have := dgt_t e; omega
theorem D79 (hs : Sh h) (t : TX h i c z) {p L : Nat} (hp : hI h 248 3 = ni p) (hp2 : p ≤ 200) {x1 : Int32} (hL : ∀ n, n ≤ 99 → (ni n ≤ x1 ↔ n < L)) : ∃ h1, am_D 79 [vr (some 248), vi x1] h = some (some (vi (rI (rn c z p L))), h1) ∧ Kt h h1 ∧ rT h h1 (rn c z p L) := by
  have d1 := D78 hs t (p := p) (by omega)
  have b0 := d_79 (x1 := x1) hs
  rw [hp, d1] at b0
  simp only [Option.bind_some, Option.toList_some, List.cons_append, List.nil_append] at b0
  rw [e_79_13 hs] at b0
  unfold rn rnn
  cases e : dgt c z p with
  | none =>
    rw [e, if_pos (show oI none = -1 from rfl), hp] at b0
    exact ⟨_, b0, Kt_0 (Kt_refl h) _, pe⟩
  | some d =>
    have g := dgt_t e
    have nd : ¬ oI (some d) = -1 := fun w => by rw [oI_n1 (fun d' e' => by cases e'; omega)] at w; cases w
    have k1 : Kt h (pI h 248 3 (ni (p + 1))) := Kt_3 (Kt_refl h) _
    have hs1 : Sh (pI h 248 3 (ni (p + 1))) := hs
    have t1 := TX_t k1 t
    rw [e, if_neg nd, hp, ni_add1, pe, D78 hs1 t1 (p := p + 1) (by omega)] at b0
    simp only [Option.bind_some, Option.toList_some, List.cons_append, List.nil_append] at b0
    rw [e_79_47 hs1] at b0
    have fin : ∀ (n q : Nat) (h2 : am_H) (o : Option am_V), Kt h h2 → hI h2 248 3 = ni q → hI h2 248 0 = hI h 248 0 → n ≤ 99 → ∃ h1, am_E 79 (73, [some (vr (some 248)), some (vi x1), some (vi (ni p)), some (vi (ni n)), o], [], h2) = some (some (vi (rI (if n < L then .inr (n, q) else .inl p))), h1) ∧ Kt h h1 ∧ rT h h1 (if n < L then .inr (n, q) else .inl p) := fun n q h2 o k2 q3 q0 n9 => by
      rw [e_79_73 (Kg_Sh k2.1 hs)]
      by_cases y : n < L
      · rw [if_pos ((hL n n9).mpr y), if_pos y]
        exact ⟨h2, rfl, k2, q3, q0⟩
      · rw [if_neg (fun w => y ((hL n n9).mp w)), if_neg y]
        exact ⟨_, rfl, Kt_0 k2 _, pe⟩
    cases e2 : dgt c z (p + 1) with
    | none =>
      rw [e2, if_pos (show oI none = -1 from rfl)] at b0
      obtain ⟨h1, f1, f2, f3⟩ := fin d (p + 1) _ _ k1 pe (pn (by omega)) (by omega)
      exact ⟨h1, b0.trans f1, f2, f3⟩
    | some d2 =>
      have g2 := dgt_t e2
      have nd2 : ¬ oI (some d2) = -1 := fun w => by rw [oI_n1 (fun d' e' => by cases e'; omega)] at w; cases w
      have k2 : Kt h (pI (pI h 248 3 (ni (p + 1))) 248 3 (ni (p + 2))) := Kt_3 k1 _
      rw [e2, if_neg nd2, pe, ni_add1] at b0
      have e3 : oI (some d) * 10 + oI (some d2) = ni (d * 10 + d2) := by
        show ni d * ni 10 + ni d2 = _
        rw [ni_mul, ni_add]
      rw [e3] at b0
      obtain ⟨h1, f1, f2, f3⟩ := fin (d * 10 + d2) (p + 2) _ _ k2 pe ((pn (by omega)).trans (pn (by omega))) (by omega)
      exact ⟨h1, b0.trans f1, f2, f3⟩
theorem D80 (hs : Sh h) (t : TX h i c z) {p : Nat} (hp : hI h 248 3 = ni p) (y : p < z) : am_D 80 [vr (some 248)] h = if c p = ni 59 then some (some (vi 1), pI h 248 3 (ni (p + 1))) else some (some (vi 0), pI h 248 0 (ni p)) := by
  obtain ⟨t1, t2, t3, t4, t5⟩ := t
  rw [d_80 hs, hp, t1, Option.bind_some, fq_18 hs t2, if_pos (show ((101 : Nat), (100 : Nat)).1 = 101 from rfl), ixb _ (show p < 100 by omega) (by omega), t5 _ y, ni_add1]; rfl
end NUC
section NUM
variable {h : am_H} {i : Nat} {c : Nat → Int32} {z : Nat}
def Km (h h1 : am_H) : Prop := Kg (fun a k => a = 261 ∧ (k = 38 ∨ k = 40 ∨ k = 41)) h h1
theorem TMx_fr {W : Nat → Nat → Prop} {h h1 : am_H} (k : Kg W h h1) (w1 : ¬ W 261 37 ∧ ¬ W 261 39) (w2 : ∀ j, ¬ W 285 j ∧ ¬ W 287 j) (t : TMx h i c z) : TMx h1 i c z := by
  obtain ⟨t1, t2, t3, t4, t5, t6⟩ := t
  exact ⟨by rw [k.2.2.2.2.1 _ _ w1.1]; exact t1, t2, by rw [k.2.2.2.2.1 _ _ w1.2]; exact t3, t4, fun j hj => by rw [k.2.2.2.2.2 _ _ (w2 _).1]; exact t5 j hj, fun j hj => by rw [k.2.2.2.2.1 _ _ (w2 _).2]; exact t6 j hj⟩
theorem TMx_m {h h1 : am_H} (k : Km h h1) (t : TMx h i c z) : TMx h1 i c z := TMx_fr k (by omega) (fun j => by omega) t
theorem Km_38 {h h1 : am_H} (k : Km h h1) (v : Int32) : Km h (pI h1 261 38 v) := Kg_pI ⟨rfl, Or.inl rfl⟩ k
theorem Km_40 {h h1 : am_H} (k : Km h h1) (v : Int32) : Km h (pI h1 261 40 v) := Kg_pI ⟨rfl, Or.inr (Or.inl rfl)⟩ k
theorem Km_41 {h h1 : am_H} (k : Km h h1) (v : Int32) : Km h (pI h1 261 41 v) := Kg_pI ⟨rfl, Or.inr (Or.inr rfl)⟩ k
def rM (h1 : am_H) : Nat ⊕ (Nat × Nat) → Prop
  | .inl q => hI h1 261 41 = ni q
  | .inr x => hI h1 261 38 = ni x.2
theorem D86c (hs : Sh h) (t : TMx h i c z) {p b e : Nat} (hp : p ≤ z) (h38 : hI h 261 38 = ni p) (hb : b ≤ e) (he : e < 24) : ∃ h1, am_D 86 [vr (some 261), vi (ni b), vi (ni e)] h = some (some (vi (rI (wdx c z p (e + 1 - b) b 0))), h1) ∧ Km h h1 ∧ rM h1 (wdx c z p (e + 1 - b) b 0) := by
  rw [D86 hs t hp h38 hb he]
  cases wdx c z p (e + 1 - b) b 0 with
  | inl q => exact ⟨_, rfl, Km_41 (Kg_refl h) _, pe⟩
  | inr x => exact ⟨_, rfl, Km_38 (Kg_refl h) _, pe⟩
theorem D84 (hs : Sh h) (t : TMx h i c z) {p : Nat} (h38 : hI h 261 38 = ni p) (y : p < z) : am_D 84 [vr (some 261)] h = some (some (vi (c p)), h) := by
  obtain ⟨t1, t2, t3, t4, t5, t6⟩ := t
  rw [d_84 hs, t3, h38, if_neg (show ¬ ni z ≤ ni p by rw [ni_le (by omega) (by omega)]; omega), t1, ni_add, ixb _ (show 100 * i + p < 800 by omega) (by omega), t5 _ y]
theorem D85 (hs : Sh h) (t : TMx h i c z) {p : Nat} (h38 : hI h 261 38 = ni p) (hp : p ≤ 1000) : am_D 85 [vr (some 261)] h = some (some (vi (bi (dgt c z p).isSome)), h) := by
  have t' := t
  obtain ⟨t1, t2, t3, t4, t5, t6⟩ := t
  rw [d_85 hs, t3, h38]
  by_cases y : p < z
  · rw [if_neg (show ¬ ni z ≤ ni p by rw [ni_le (by omega) (by omega)]; omega), D84 hs t' h38 y]
    simp only [Option.bind_some, Option.toList_some, List.cons_append, List.nil_append]
    rw [e_85_15 hs]
    unfold dgt
    rw [if_pos y]
    by_cases a : (c p).toInt < 48
    · rw [if_pos (show c p < 48 by rw [ltt]; exact a), if_neg (by omega)]; rfl
    · rw [if_neg (show ¬ c p < 48 by rw [ltt]; exact a), D84 hs t' h38 y]
      simp only [Option.bind_some, Option.toList_some, List.cons_append, List.nil_append]
      rw [e_85_24 hs]
      by_cases b : 57 < (c p).toInt
      · rw [if_pos (show 57 < c p by rw [ltt]; exact b), if_neg (by omega)]; rfl
      · rw [if_neg (show ¬ 57 < c p by rw [ltt]; exact b), if_pos (by omega)]; rfl
  · rw [if_pos (show ni z ≤ ni p by rw [ni_le (by omega) (by omega)]; omega)]
    unfold dgt
    rw [if_neg y]; rfl
def rO (h1 : am_H) : Nat ⊕ (Nat × Nat) → Prop
  | .inl q => hI h1 261 41 = ni q
  | .inr x => hI h1 261 38 = ni x.2 ∧ hI h1 261 40 = ni x.1
def isR {α : Type} : Nat ⊕ α → Bool
  | .inl _ => false
  | .inr _ => true
theorem D88 (hs : Sh h) (t : TMx h i c z) {p L : Nat} (h38 : hI h 261 38 = ni p) (hp : p ≤ 200) {x1 : Int32} (hL : ∀ n, n ≤ 99 → (ni n ≤ x1 ↔ n < L)) : ∃ h1, am_D 88 [vr (some 261), vi x1] h = some (some (vi (bi (isR (rn c z p L)))), h1) ∧ Km h h1 ∧ rO h1 (rn c z p L) := by
  have b0 := d_88 (x1 := x1) hs
  rw [h38, D85 hs t h38 (by omega)] at b0
  simp only [Option.bind_some, Option.toList_some, List.cons_append, List.nil_append] at b0
  rw [e_88_9 hs] at b0
  unfold rn rnn
  cases e : dgt c z p with
  | none =>
    rw [e, if_pos (show bi (none : Option Nat).isSome = 0 from rfl), h38, d_87 hs] at b0
    simp only [Option.bind_some, Option.toList_some, List.cons_append, List.nil_append] at b0
    have hs1 : Sh (pI h 261 41 (ni p)) := hs
    rw [e_88_20 hs1, if_pos (show (0 : Int32) = 0 ∨ (0 : Int32) = 1 from Or.inl rfl)] at b0
    exact ⟨_, b0, Km_41 (Kg_refl h) _, pe⟩
  | some d =>
    have g := dgt_t e
    have k1 : Km h (pI (pI h 261 40 (ni d)) 261 38 (ni (p + 1))) := Km_38 (Km_40 (Kg_refl h) _) _
    have hs1 : Sh (pI (pI h 261 40 (ni d)) 261 38 (ni (p + 1))) := hs
    have t1 := TMx_m k1 t
    have p38 : hI (pI (pI h 261 40 (ni d)) 261 38 (ni (p + 1))) 261 38 = ni (p + 1) := pe
    have p40 : hI (pI (pI h 261 40 (ni d)) 261 38 (ni (p + 1))) 261 40 = ni d := (pn (by omega)).trans pe
    rw [e, if_neg (show ¬ bi (some d).isSome = 0 from show ¬ bi true = 0 by decide), D84 hs t h38 g.1] at b0
    simp only [Option.bind_some, Option.toList_some, List.cons_append, List.nil_append] at b0
    have e4 : ni (48 + d) - 48 = ni d := by rw [show ni (48 + d) - 48 = ni (48 + d - 48) from ni_sub (b := 48) (by omega), show 48 + d - 48 = d by omega]
    have e5 : hI (pI h 261 40 (ni d)) 261 38 = ni p := (pn (by omega)).trans h38
    rw [e_88_26 hs, g.2.2, e4, e5, ni_add1, D85 hs1 t1 p38 (by omega)] at b0
    simp only [Option.bind_some, Option.toList_some, List.cons_append, List.nil_append] at b0
    rw [e_88_46 hs1] at b0
    have fin : ∀ (n q : Nat) (h2 : am_H), Km h h2 → hI h2 261 38 = ni q → hI h2 261 40 = ni n → n ≤ 99 → ∃ h1, am_E 88 (78, [some (vr (some 261)), some (vi x1), some (vi (ni p))], [], h2) = some (some (vi (bi (isR (if n < L then .inr (n, q) else .inl p : Nat ⊕ (Nat × Nat))))), h1) ∧ Km h h1 ∧ rO h1 (if n < L then .inr (n, q) else .inl p) := fun n q h2 k2 q3 q0 n9 => by
      have hs2 := Kg_Sh k2 hs
      rw [e_88_78 hs2, q0]
      by_cases y : n < L
      · rw [if_pos ((hL n n9).mpr y), if_pos y]
        exact ⟨h2, rfl, k2, q3, q0⟩
      · rw [if_neg (fun w => y ((hL n n9).mp w)), if_neg y, d_87 hs2]
        simp only [Option.bind_some, Option.toList_some, List.cons_append, List.nil_append]
        rw [e_88_91 (show Sh (pI h2 261 41 (ni p)) from hs2), if_pos rfl]
        exact ⟨_, rfl, Km_41 k2 _, pe⟩
    cases e2 : dgt c z (p + 1) with
    | none =>
      rw [e2, if_pos (show bi (none : Option Nat).isSome = 0 from rfl)] at b0
      obtain ⟨h1, f1, f2, f3⟩ := fin d (p + 1) _ k1 p38 p40 (by omega)
      exact ⟨h1, b0.trans f1, f2, f3⟩
    | some d2 =>
      have g2 := dgt_t e2
      rw [e2, if_neg (show ¬ bi (some d2).isSome = 0 from show ¬ bi true = 0 by decide), p40, D84 hs1 t1 p38 g2.1] at b0
      simp only [Option.bind_some, Option.toList_some, List.cons_append, List.nil_append] at b0
      have e6 : (10 : Int32) * ni d + c (p + 1) - 48 = ni (d * 10 + d2) := by
        rw [g2.2.2, show (10 : Int32) * ni d + ni (48 + d2) = ni (10 * d + (48 + d2)) by rw [show (10 : Int32) = ni 10 from rfl, ni_mul, ni_add], show ni (10 * d + (48 + d2)) - 48 = ni (10 * d + (48 + d2) - 48) from ni_sub (b := 48) (by omega)]
        congr 1; omega
      have e7 : hI (pI (pI (pI h 261 40 (ni d)) 261 38 (ni (p + 1))) 261 40 (ni (d * 10 + d2))) 261 38 = ni (p + 1) := (pn (by omega)).trans p38
      rw [e_88_61 hs1, e6, e7, ni_add1] at b0
      obtain ⟨h1, f1, f2, f3⟩ := fin (d * 10 + d2) (p + 2) (pI (pI (pI (pI h 261 40 (ni d)) 261 38 (ni (p + 1))) 261 40 (ni (d * 10 + d2))) 261 38 (ni (p + 2))) (Km_38 (Km_40 k1 _) _) pe ((pn (by omega)).trans pe) (by omega)
      exact ⟨h1, b0.trans f1, f2, f3⟩
end NUM
