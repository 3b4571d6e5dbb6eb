/-! one call of both, out of its two halves -/
def Cok (h h1 : am_H) (s' : Sg) : Prop := Sh h1 ∧ CS h1 s' ∧ Mq h h1 ∧ hN h ≤ hN h1 ∧ hN h1 ≤ hN h + 24 ∧ hSl h1 ≤ hSl h + 1000 ∧ hK h1 15 = hK h 15 ∧ ∀ k, hI h1 15 k = hI h 15 k
def Mok (h h1 : am_H) (s' : Sg) : Prop := MS h1 s' ∧ Kg wm h h1
def Aft (h h2 : am_H) (s' : Sg) : Prop := Sh h2 ∧ Vs s' ∧ CS h2 s' ∧ MS h2 s' ∧ hN h ≤ hN h2 ∧ hN h2 ≤ hN h + 24 ∧ hSl h2 ≤ hSl h + 1000 ∧ hK h2 15 = hK h 15 ∧ ∀ k, hI h2 15 k = hI h 15 k
def Alike (yx ym : Nat) (as : List am_V) : Prop := ∀ (h : am_H) (s : Sg), Sh h → Vs s → CS h s → MS h s → ∃ (v : Int32) (h1 h2 : am_H) (s' : Sg), am_D yx (vr (some 16) :: as) h = some (some (vi v), h1) ∧ am_D ym (vr (some 261) :: as) h1 = some (some (vi v), h2) ∧ (Sh h1 ∧ hK h1 15 = hK h 15 ∧ ∀ k, hI h1 15 k = hI h 15 k) ∧ Aft h h2 s'
def AlikeL (yx ym : Nat) (as : List am_V) : Prop := ∀ (h : am_H) (s : Sg), Sh h → Vs s → CS h s → MS h s → ∃ (v : Int64) (h1 h2 : am_H) (s' : Sg), am_D yx (vr (some 16) :: as) h = some (some (vl v), h1) ∧ am_D ym (vr (some 261) :: as) h1 = some (some (vl v), h2) ∧ (Sh h1 ∧ hK h1 15 = hK h 15 ∧ ∀ k, hI h1 15 k = hI h 15 k) ∧ Aft h h2 s'
/-- the class's half of an answer, the model's half -/
def HC (y : Nat) (as : List am_V) (s : Sg) (v : am_V) (s' : Sg) : Prop := ∀ h, Sh h → CS h s → ∃ h1, am_D y (vr (some 16) :: as) h = some (some v, h1) ∧ Cok h h1 s'
def HM (y : Nat) (as : List am_V) (s : Sg) (v : am_V) (s' : Sg) : Prop := ∀ h, Sh h → MS h s → ∃ h1, am_D y (vr (some 261) :: as) h = some (some v, h1) ∧ Mok h h1 s'
theorem glue9 {yx ym : Nat} {as : List am_V} {h : am_H} {s : Sg} {v : am_V} {s' : Sg} (hs : Sh h) (hV : Vs s) (hC : CS h s) (hM : MS h s) (hV' : Vs s') (a : HC yx as s v s') (b : HM ym as s v s') : ∃ (h1 h2 : am_H), am_D yx (vr (some 16) :: as) h = some (some v, h1) ∧ am_D ym (vr (some 261) :: as) h1 = some (some v, h2) ∧ (Sh h1 ∧ hK h1 15 = hK h 15 ∧ ∀ k, hI h1 15 k = hI h 15 k) ∧ Aft h h2 s' := by
  obtain ⟨h1, d1, c1, c2, c3, c4, c5, c6, c7, c8⟩ := a h hs hC
  obtain ⟨h2, d2, m1, m2⟩ := b h1 c1 (MS_fr hV c3 hM)
  have hs2 : Sh h2 := Kg_Sh m2 c1
  have e15 : hK h2 15 = hK h1 15 := by rw [m2.2.2.1]
  refine ⟨h1, h2, d1, d2, ⟨c1, c7, c8⟩, hs2, hV', CS_fr (fun _ _ z => Or.inr z) m2 hV' c2, m1, ?_, ?_, ?_, e15.trans c7, fun k => ?_⟩
  · rw [m2.1]; exact c4
  · rw [m2.1]; exact c5
  · rw [m2.2.1]; exact c6
  · rw [m2.2.2.2.2.1 15 k (by unfold wm; omega)]; exact c8 k
theorem glue {yx ym : Nat} {as : List am_V} (H : ∀ s, Vs s → ∃ (v : Int32) (s' : Sg), Vs s' ∧ HC yx as s (vi v) s' ∧ HM ym as s (vi v) s') : Alike yx ym as := by
  intro h s hs hV hC hM
  obtain ⟨v, s', hV', a, b⟩ := H s hV
  obtain ⟨h1, h2, q⟩ := glue9 hs hV hC hM hV' a b
  exact ⟨v, h1, h2, s', q⟩
theorem glueL {yx ym : Nat} {as : List am_V} (H : ∀ s, Vs s → ∃ (v : Int64) (s' : Sg), Vs s' ∧ HC yx as s (vl v) s' ∧ HM ym as s (vl v) s') : AlikeL yx ym as := by
  intro h s hs hV hC hM
  obtain ⟨v, s', hV', a, b⟩ := H s hV
  obtain ⟨h1, h2, q⟩ := glue9 hs hV hC hM hV' a b
  exact ⟨v, h1, h2, s', q⟩
theorem sc_Mq : ∀ a k, sc a k → a < 261 ∨ 302 < a ∨ sc a k := fun _ _ z => Or.inr (Or.inr z)
/-- a question: only scratch has moved -/
theorem Cok_q {h h1 : am_H} {s : Sg} (hV : Vs s) (hs : Sh h) (hC : CS h s) (k : Kg sc h h1) : Cok h h1 s :=
  ⟨Kg_Sh k hs, CS_fr (fun _ _ z => Or.inl z) k hV hC, Kg_Mq sc_Mq k, by rw [k.1]; exact Nat.le_refl _, by rw [k.1]; exact Nat.le_add_right _ _, by rw [k.2.1]; exact Nat.le_add_right _ _, by rw [k.2.2.1], fun j => k.2.2.2.2.1 15 j (by unfold sc; omega)⟩
theorem Cok_refl {h : am_H} {s : Sg} (hs : Sh h) (hC : CS h s) : Cok h h s := ⟨hs, hC, fun _ _ _ _ _ => ⟨rfl, rfl⟩, Nat.le_refl _, Nat.le_add_right _ _, Nat.le_add_right _ _, rfl, fun _ => rfl⟩
theorem Cok_after {h h1 h2 : am_H} {s : Sg} (k : Kg sc h h1) (c : Cok h1 h2 s) : Cok h h2 s := by
  obtain ⟨c1, c2, c3, c4, c5, c6, c7, c8⟩ := c
  refine ⟨c1, c2, fun a j l1 l2 l3 => ?_, by rw [← k.1]; exact c4, by rw [← k.1]; exact c5, by rw [← k.2.1]; exact c6, by rw [c7, k.2.2.1], fun j => by rw [c8, k.2.2.2.2.1 15 j (by unfold sc; omega)]⟩
  have := c3 a j l1 l2 l3
  rw [this.1, this.2, k.2.2.2.2.1 a j l3, k.2.2.2.2.2 a j l3]
  exact ⟨rfl, rfl⟩
theorem Mok_refl {h : am_H} {s : Sg} (hM : MS h s) : Mok h h s := ⟨hM, Kg_refl h⟩
/-- what the model's questions write -/
def scm (a k : Nat) : Prop := (286 ≤ a ∧ a ≤ 300 ∧ a ≠ 287) ∨ (a = 261 ∧ 37 ≤ k ∧ k ≤ 51)
theorem Mok_q {h h1 : am_H} {s : Sg} (hV : Vs s) (hM : MS h s) (k : Kg scm h h1) : Mok h h1 s :=
  ⟨MS_fr hV (Kg_Mq (fun a j z => Or.inr (Or.inr (by unfold scm at z; unfold sc; omega))) k) hM, Kg_mono (fun a j z => by unfold scm at z; unfold wm; omega) k⟩
-- refusals
theorem Vs_rf {s : Sg} {k : Nat} (h : Vs s) : Vs (sRf s k) := h
theorem Cok_pI {h : am_H} {s s' : Sg} {a j : Nat} {v : Int32} (ha : a < 261) (h15 : a ≠ 15) (hs : Sh h) (hC : CS (pI h a j v) s') : Cok h (pI h a j v) s' :=
  ⟨hs, hC, fun b i l1 l2 _ => ⟨by rw [hI_pI, if_neg (fun z => by omega)], rfl⟩, Nat.le_refl _, Nat.le_add_right _ _, Nat.le_add_right _ _, rfl, fun k => by rw [hI_pI, if_neg (fun z => by omega)]⟩
theorem Cref {h : am_H} {s : Sg} {k : Nat} (hV : Vs s) (hs : Sh h) (hC : CS h s) (hk : k < 8) : Cok h (pI h 260 k (hI h 260 k + 1)) (sRf s k) := by
  obtain ⟨v1, v2, v3, v4, v5⟩ := hV
  refine Cok_pI (s := s) (by omega) (by omega) hs ?_
  obtain ⟨a1, a2, a3, a4, a5, a6, ⟨a7, a8⟩, a9, a10⟩ := hC
  refine ⟨a1, fun j hj => ?_, a3, a4, CW_fr (W := fun a _ => a = 260) (Or.inl rfl) (fun a _ z => by omega) (Kg_pI rfl (Kg_refl h)) v1 a5, fun i hi => ?_, ⟨a7, a8⟩, a9, fun z => ?_⟩
  · show (if 260 = 260 ∧ j = k then hI h 260 k + 1 else hI h 260 j) = if j = k then sF s j + 1 else sF s j
    by_cases e : j = k
    · rw [if_pos ⟨rfl, e⟩, if_pos e, ← e, a2 j hj]
    · rw [if_neg (fun z => e z.2), if_neg e, a2 j hj]
  · exact a6 i hi
  · rcases v4 with v4 | v4
    · have z' : sD s 23 0 = 1 := z
      rw [v4] at z'; cases z'
    · exact CW_fr (W := fun a _ => a = 260) (Or.inr rfl) (fun a _ z => by omega) (Kg_pI rfl (Kg_refl h)) v4.2.1 (a10 z)
theorem Mref {h : am_H} {s : Sg} {k : Nat} (hM : MS h s) (hk : k < 8) : Mok h (pI h 262 k (hI h 262 k + 1)) (sRf s k) := by
  refine ⟨?_, Kg_pI (by unfold wm; omega) (Kg_refl h)⟩
  obtain ⟨a1, a6, a7, a8, a9, a10, a11, a13⟩ := hM
  refine ⟨a1, fun j hj => ?_, a7, a8, ?_, a10, a11, a13⟩
  · show (if 262 = 262 ∧ j = k then hI h 262 k + 1 else hI h 262 j) = if j = k then sF s j + 1 else sF s j
    by_cases e : j = k
    · rw [if_pos ⟨rfl, e⟩, if_pos e, ← e, a6 j hj]
    · rw [if_neg (fun z => e z.2), if_neg e, a6 j hj]
  · have e : nP (pI h 262 k (hI h 262 k + 1)) = nP h := by
      funext i j
      show (if mc i = 262 ∧ j = k then _ else hI h (mc i) j) = hI h (mc i) j
      rw [if_neg (fun z => by have := z.1; unfold mc at this; split at this <;> omega)]
    rw [e]
    exact a9
