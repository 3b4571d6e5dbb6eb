/-! THE STATE AS BOTH OBJECTS HOLD IT: a pure state (planes of naturals, the shelves' elements, counts of refusals, the last fault), what the class's cells say of it, what the model's cells say of it -/
abbrev Sg : Type := (Nat → Nat → Nat) × (Nat → Int64) × (Nat → Int32) × Int32
/-- planes: 0 born 1 died 2 home 3 mark 4 late 5 trips; 6 to 7 from 8 till (3 m + j); 9 told (14 r + j); 10 rows of a saying; 11 kind 12 size 13 wording (8 s + r); 14 who 15 link (8 (8 s + r) + i); 16 clashes; 17 held 18 sort 19 length 20, 21 shown; 22 men, rules, sayings, force and one; 23 kept: whether, men, rules, sayings, force and one; 24 how many bodies; 25 which; 32 and on: kept planes -/
def sD (s : Sg) : Nat → Nat → Nat := s.1
def sE (s : Sg) : Nat → Int64 := s.2.1
def sF (s : Sg) : Nat → Int32 := s.2.2.1
def sX (s : Sg) : Int32 := s.2.2.2
def sKp (s : Sg) : Nat → Nat → Nat := fun i k => sD s (32 + i) k
def sM (s : Sg) : Nat := sD s 22 0
def sR (s : Sg) : Nat := sD s 22 1
def sS (s : Sg) : Nat := sD s 22 2
def up9 (D : Nat → Nat → Nat) (i k v : Nat) : Nat → Nat → Nat := fun a b => if a = i ∧ b = k then v else D a b
def sUp (s : Sg) (i k v : Nat) : Sg := (up9 (sD s) i k v, sE s, sF s, sX s)
/-- one refusal more -/
def sRf (s : Sg) (k : Nat) : Sg := (sD s, sE s, fun j => if j = k then sF s j + 1 else sF s j, sX s)
-- what is always so
def Vm (D : Nat → Nat → Nat) (m : Nat) : Prop := D 0 m ≤ D 1 m ∧ D 1 m ≤ 400 ∧ D 2 m < 8 ∧ D 3 m ≤ 5 ∧ D 5 m ≤ 3 ∧ (D 3 m = 3 → D 4 m ≤ 400) ∧ ∀ j, j < D 5 m → D 6 (3 * m + j) < 8 ∧ D 7 (3 * m + j) ≤ D 8 (3 * m + j) ∧ D 8 (3 * m + j) ≤ 400
def Vr (D : Nat → Nat → Nat) (r : Nat) : Prop := (∀ j, j < 14 → D 9 (14 * r + j) ≤ 99) ∧ D 9 (14 * r + 1) ≤ 2 ∧ ∀ j, 2 ≤ j → j < 12 → D 9 (14 * r + j) ≤ 9
def Vq (D : Nat → Nat → Nat) (M q : Nat) : Prop := D 11 q ≤ 6 ∧ 2 ≤ D 12 q ∧ D 12 q ≤ 8 ∧ D 13 q < 8 ∧ (∀ i, i < D 12 q → D 14 (8 * q + i) < M) ∧ (∀ i j, i < j → j < D 12 q → D 14 (8 * q + i) ≠ D 14 (8 * q + j)) ∧ ∀ i, i + 1 < D 12 q → D 15 (8 * q + i) < 3
def Vw (D : Nat → Nat → Nat) (M nR nS : Nat) : Prop := M ≤ 24 ∧ nR ≤ 6 ∧ nS ≤ 8 ∧ (∀ m, m < M → Vm D m) ∧ (∀ r, r < nR → Vr D r) ∧ ∀ s, s < nS → (1 ≤ D 10 s ∧ D 10 s ≤ 8 ∧ ∀ r, r < D 10 s → Vq D M (8 * s + r)) ∧ D 16 s < 2 ^ nS ∧ ∀ t, t < nS → (D 16 s).testBit t = (D 16 t).testBit s ∧ (D 16 s).testBit s = false
def Vs (s : Sg) : Prop := Vw (sD s) (sM s) (sR s) (sS s) ∧ sD s 22 3 ≤ sR s ∧
  (∀ i, i < 8 → sD s 17 i = 0 ∨ (sD s 17 i = 1 ∧ sD s 18 i ≤ 3 ∧ sD s 19 i ≤ 100) ∨ (sD s 17 i = 2 ∧ sD s 20 i < sS s ∧ sD s 21 i < sD s 10 (sD s 20 i))) ∧
  (sD s 23 0 = 0 ∨ (sD s 23 0 = 1 ∧ Vw (sKp s) (sD s 23 1) (sD s 23 2) (sD s 23 3) ∧ sD s 23 4 ≤ sD s 23 2 ∧ sD s 23 3 ≤ sS s ∧ ∀ t, t < sD s 23 3 → sKp s 10 t = sD s 10 t)) ∧ sD s 24 0 ≤ 100
/-- -1, or which rules -/
def fI (F : Nat) : Int32 := if F = 0 then -ni 1 else ni (F - 1)
def mc (i : Nat) : Nat := if i ≤ 8 then 263 + i else 264 + i
def ko (i : Nat) : Nat := [0, 24, 48, 72, 96, 120, 144, 216, 288, 360, 444, 452, 516, 580, 644, 1156, 1668].getD i 0
-- the model's side
def MP (P : Nat → Nat → Int32) (D : Nat → Nat → Nat) (M nR nS : Nat) : Prop :=
  (∀ m, m < M → P 0 m = ni (D 0 m) ∧ P 1 m = ni (D 1 m) ∧ P 2 m = ni (D 2 m) ∧ P 3 m = ni (D 3 m) ∧ P 5 m = ni (D 5 m) ∧ (D 3 m = 3 → P 4 m = ni (D 4 m)) ∧ ∀ j, j < D 5 m → P 6 (3 * m + j) = ni (D 6 (3 * m + j)) ∧ P 7 (3 * m + j) = ni (D 7 (3 * m + j)) ∧ P 8 (3 * m + j) = ni (D 8 (3 * m + j))) ∧
  (∀ r, r < nR → ∀ j, j < 14 → P 9 (14 * r + j) = ni (D 9 (14 * r + j))) ∧
  ∀ s, s < nS → P 10 s = ni (D 10 s) ∧ P 16 s = ni (D 16 s) ∧ ∀ r, r < D 10 s → P 11 (8 * s + r) = ni (D 11 (8 * s + r)) ∧ P 12 (8 * s + r) = ni (D 12 (8 * s + r)) ∧ P 13 (8 * s + r) = ni (D 13 (8 * s + r)) ∧ (∀ i, i < D 12 (8 * s + r) → P 14 (8 * (8 * s + r) + i) = ni (D 14 (8 * (8 * s + r) + i))) ∧ ∀ i, i + 1 < D 12 (8 * s + r) → P 15 (8 * (8 * s + r) + i) = ni (D 15 (8 * (8 * s + r) + i))
def t0 (j : Nat) : Nat := [10, 2, 3, 9, 5, 2, 0, 6, 1, 2, 3, 2, 3, 1].getD j 0
def t1 (j : Nat) : Nat := [99, 2, 9, 9, 9, 9, 9, 9, 9, 9, 9, 9, 99, 99].getD j 0
/-- the model's words, one behind another, each ending in 0 -/
def wt : List Nat := ("age \x00near \x00unknown \x00sure \x00forgets \x00late \x00lies \x00hides \x00from \x00heard \x00gap \x00raise \x00bar \x00more \x00whole \x00gap \x00hidden \x00hung \x00raised \x00made \x00 told \x00 from \x00 heard \x00 word \x00".toList).map Char.toNat
def nP (h : am_H) : Nat → Nat → Int32 := fun i k => hI h (mc i) k
def kP (h : am_H) : Nat → Nat → Int32 := fun i k => hI h 302 (ko i + k)
def MS (h : am_H) (s : Sg) : Prop :=
  (hI h 261 0 = ni (sM s) ∧ hI h 261 1 = ni (sR s) ∧ hI h 261 2 = ni (sS s) ∧ hI h 261 3 = fI (sD s 22 3) ∧ hI h 261 4 = sX s) ∧ (∀ k, k < 8 → hI h 262 k = sF s k) ∧ (∀ j, j < 14 → hI h 272 j = ni (t0 j)) ∧ (∀ k, k < wt.length → hI h 287 k = ni (wt.getD k 0)) ∧
  MP (nP h) (sD s) (sM s) (sR s) (sS s) ∧
  (∀ i, i < 8 → hI h 281 i = ni (sD s 17 i) ∧ (sD s 17 i = 1 → hI h 282 i = ni (sD s 18 i) ∧ hI h 283 i = ni (sD s 19 i) ∧ ∀ k, k < sD s 19 i → hL h 285 (100 * i + k) = sE s (100 * i + k)) ∧ (sD s 17 i = 2 → hI h 284 i = ni (8 * sD s 20 i + sD s 21 i))) ∧
  (hI h 261 54 = ni (sD s 24 0) ∧ ∀ i, i < sD s 24 0 → i < 20 → hI h 301 i = ni (sD s 25 i)) ∧
  (hI h 261 55 = (if sD s 23 0 = 0 then -ni 1 else ni (sD s 23 3)) ∧ (sD s 23 0 = 1 → hI h 261 56 = ni (sD s 23 1) ∧ hI h 261 57 = ni (sD s 23 2) ∧ hI h 261 58 = fI (sD s 23 4) ∧ MP (kP h) (sKp s) (sD s 23 1) (sD s 23 2) (sD s 23 3)))
-- the class's side
/-- a man -/
def CM (h : am_H) (c : Nat) (D : Nat → Nat → Nat) (m : Nat) : Prop := hI h c 0 = ni (D 0 m) ∧ hI h c 1 = ni (D 1 m) ∧ hI h c 2 = ni (D 2 m) ∧ hI h c 3 = ni (D 3 m) ∧ hI h c 5 = ni (D 5 m) ∧ (D 3 m = 3 → hI h c 4 = ni (D 4 m)) ∧ ∀ j, j < D 5 m → hI h (c + 1) j = ni (D 6 (3 * m + j)) ∧ hI h (c + 2) j = ni (D 7 (3 * m + j)) ∧ hI h (c + 3) j = ni (D 8 (3 * m + j))
/-- a kind's class -/
def kt (k : Nat) : Nat := [7, 9, 0, 1, 2, 6, 3].getD k 7
/-- a row of a saying, at cell a: men at w, links at l -/
def CQ (h : am_H) (D : Nat → Nat → Nat) (q r a w l : Nat) : Prop := Rw h a w l (D 12 q) ∧ 303 ≤ a ∧ 303 ≤ w ∧ 303 ≤ l ∧ a < hN h ∧ w < hN h ∧ l < hN h ∧ (hK h a).1 = kt (D 11 q) ∧ hI h a 0 = ni r ∧ hI h a 1 = ni (D 12 q) ∧ hI h a 2 = ni (D 13 q) ∧ (∀ i, i < D 12 q → hI h w i = ni (D 14 (8 * q + i))) ∧ ∀ i, i + 1 < D 12 q → hI h l i = ni (D 15 (8 * q + i))
/-- a world: d is 0 for what is now, 110 for what is kept -/
def CW (h : am_H) (d : Nat) (D : Nat → Nat → Nat) (M nR nS F : Nat) : Prop :=
  (hI h (28 + d) 1 = ni M ∧ hI h (28 + d) 3 = ni nR ∧ hI h (28 + d) 7 = ni nS ∧ hI h (28 + d) 4 = fI F) ∧ (∀ m, m < M → CM h (42 + d + 4 * m) D m) ∧ (∀ r, r < nR → ∀ j, j < 14 → hI h (31 + d + r) j = ni (D 9 (14 * r + j))) ∧
  ∀ s, s < nS → hI h (38 + d) s = ni (D 10 s) ∧ hI h (39 + d) s = ni (D 16 s) ∧ ∀ r, r < D 10 s → ∃ a w l, hR h (37 + d) (8 * s + r) = some a ∧ CQ h D (8 * s + r) r a w l
def CS (h : am_H) (s : Sg) : Prop :=
  hI h 16 7 = sX s ∧ (∀ k, k < 8 → hI h 260 k = sF s k) ∧ (∀ j, j < 14 → hI h 0 j = ni (t0 j)) ∧ (∀ j, j < 14 → hI h 1 j = ni (t1 j)) ∧
  CW h 0 (sD s) (sM s) (sR s) (sS s) (sD s 22 3) ∧
  (∀ i, i < 8 → (sD s 17 i = 0 → hI h 27 i = -ni 1) ∧ (sD s 17 i = 1 → hI h 27 i = ni (100 + sD s 18 i) ∧ hI h 26 i = ni (sD s 19 i) ∧ ∀ k, k < sD s 19 i → hL h (18 + i) k = sE s (100 * i + k)) ∧ (sD s 17 i = 2 → hI h 27 i = ni (10 * sD s 20 i + sD s 21 i))) ∧
  (hI h 259 0 = ni (sD s 24 0) ∧ ∀ i, i < sD s 24 0 → i < 20 → hI h 259 (i + 1) = ni (sD s 25 i)) ∧
  (hI h 16 5 = ni (sD s 23 0) ∧ (sD s 23 0 = 1 → CW h 110 (sKp s) (sD s 23 1) (sD s 23 2) (sD s 23 3) (sD s 23 4)))
-- how a call leaves the rest
/-- scratch: what no later call reads before it writes it -/
def sc (a k : Nat) : Prop := (40 ≤ a ∧ a ≤ 41) ∨ (150 ≤ a ∧ a ≤ 151) ∨ (248 ≤ a ∧ a ≤ 258) ∨ (286 ≤ a ∧ a ≤ 300 ∧ a ≠ 287) ∨ (a = 261 ∧ 37 ≤ k ∧ k ≤ 51)
/-- only cells in W have moved (besides the letters that are read and the rows just read) -/
def Kg (W : Nat → Nat → Prop) (h h' : am_H) : Prop := hN h' = hN h ∧ hSl h' = hSl h ∧ hK h' = hK h ∧ (∀ a k, ¬ (a = 248 ∧ k = 1) → a ≠ 253 → hR h' a k = hR h a k) ∧ (∀ a k, ¬ W a k → hI h' a k = hI h a k) ∧ ∀ a k, ¬ W a k → hL h' a k = hL h a k
def Kq : am_H → am_H → Prop := Kg sc
/-- the model's cells -/
def wm (a _k : Nat) : Prop := 261 ≤ a ∧ a ≤ 302
theorem Kg_refl {W : Nat → Nat → Prop} (h : am_H) : Kg W h h := ⟨rfl, rfl, rfl, fun _ _ _ _ => rfl, fun _ _ _ => rfl, fun _ _ _ => rfl⟩
theorem Kg_trans {W : Nat → Nat → Prop} {h h1 h2 : am_H} (k1 : Kg W h h1) (k2 : Kg W h1 h2) : Kg W h h2 := ⟨k2.1.trans k1.1, k2.2.1.trans k1.2.1, k2.2.2.1.trans k1.2.2.1, fun a k e1 e2 => (k2.2.2.2.1 a k e1 e2).trans (k1.2.2.2.1 a k e1 e2), fun a k e => (k2.2.2.2.2.1 a k e).trans (k1.2.2.2.2.1 a k e), fun a k e => (k2.2.2.2.2.2 a k e).trans (k1.2.2.2.2.2 a k e)⟩
theorem Kg_mono {W V : Nat → Nat → Prop} (hw : ∀ a k, W a k → V a k) {h h1 : am_H} (k : Kg W h h1) : Kg V h h1 := ⟨k.1, k.2.1, k.2.2.1, k.2.2.2.1, fun a j hn => k.2.2.2.2.1 a j (fun z => hn (hw a j z)), fun a j hn => k.2.2.2.2.2 a j (fun z => hn (hw a j z))⟩
theorem Kg_pI {W : Nat → Nat → Prop} {h h1 : am_H} {a j : Nat} {v : Int32} (hs : W a j) (k : Kg W h h1) : Kg W h (pI h1 a j v) := ⟨k.1, k.2.1, k.2.2.1, k.2.2.2.1, fun b i hn => by
  rw [hI_pI, if_neg (fun z => hn (by rw [z.1, z.2]; exact hs))]; exact k.2.2.2.2.1 b i hn, k.2.2.2.2.2⟩
theorem Kg_pL {W : Nat → Nat → Prop} {h h1 : am_H} {a j : Nat} {v : Int64} (hs : W a j) (k : Kg W h h1) : Kg W h (pL h1 a j v) := ⟨k.1, k.2.1, k.2.2.1, k.2.2.2.1, k.2.2.2.2.1, fun b i hn => by
  rw [hL_pL, if_neg (fun z => hn (by rw [z.1, z.2]; exact hs))]; exact k.2.2.2.2.2 b i hn⟩
theorem Kg_pIs {W : Nat → Nat → Prop} {h h1 : am_H} {a : Nat} {g : Nat → Int32} (hs : ∀ j, W a j) (k : Kg W h h1) : Kg W h (pIs h1 a g) := ⟨k.1, k.2.1, k.2.2.1, k.2.2.2.1, fun b i hn => by
  rw [hI_pIs, if_neg (fun z => hn (by rw [z]; exact hs i))]; exact k.2.2.2.2.1 b i hn, k.2.2.2.2.2⟩
theorem Kg_Sh {W : Nat → Nat → Prop} {h h1 : am_H} (k : Kg W h h1) (hs : Sh h) : Sh h1 := by
  obtain ⟨k1, k2, k3, k4, k5, k6⟩ := k
  refine ⟨fun a h1 h2 => by rw [k3]; exact hs.1 a h1 h2, fun a j r e => ?_, by rw [k1, k3]; exact hs.2.2.1, fun j hj => ?_⟩
  · rw [k4 a j (fun z => by rw [z.1, z.2] at e; cases e) (fun z => by subst z; cases e)]
    exact hs.2.1 a j r e
  · have okn : ∀ x, am_okr h1 x [0, 1, 2, 3, 6, 7, 9] = am_okr h x [0, 1, 2, 3, 6, 7, 9] := fun x => by unfold am_okr; rw [k3]
    rw [okn, okn, k4 37 j (by omega) (by omega), k4 147 j (by omega) (by omega)]
    exact hs.2.2.2 j hj
/-- the model's cells are as they were, but for scratch -/
def Mq (h h' : am_H) : Prop := ∀ a k, 261 ≤ a → a ≤ 302 → ¬ sc a k → hI h' a k = hI h a k ∧ hL h' a k = hL h a k
theorem Kg_Mq {W : Nat → Nat → Prop} (hw : ∀ a k, W a k → a < 261 ∨ 302 < a ∨ sc a k) {h h1 : am_H} (k : Kg W h h1) : Mq h h1 := fun a j l1 l2 ns =>
  have nw : ¬ W a j := fun z => by
    rcases hw a j z with y | y | y
    · omega
    · omega
    · exact ns y
  ⟨k.2.2.2.2.1 a j nw, k.2.2.2.2.2 a j nw⟩
theorem MP_congr {P Q : Nat → Nat → Int32} {D : Nat → Nat → Nat} {M nR nS : Nat} (hV : Vw D M nR nS) (e : ∀ i k, i ≤ 16 → (i ≤ 5 → k < 24) → (i ≤ 8 → k < 72) → (i = 9 → k < 84) → (10 ≤ i → i ≠ 14 → i ≠ 15 → i ≠ 10 → i ≠ 16 → k < 64) → (i = 10 ∨ i = 16 → k < 8) → k < 512 → P i k = Q i k) (h : MP Q D M nR nS) : MP P D M nR nS := by
  obtain ⟨v1, v2, v3, v4, v5, v6⟩ := hV
  obtain ⟨a1, a2, a3⟩ := h
  refine ⟨fun m hm => ?_, fun r hr j hj => ?_, fun s hs => ?_⟩
  · obtain ⟨b1, b2, b3, b4, b5, b6, b7⟩ := a1 m hm
    obtain ⟨w1, w2, w3, w4, w5, w6, w7⟩ := v4 m hm
    refine ⟨?_, ?_, ?_, ?_, ?_, fun z => ?_, fun j hj => ⟨?_, ?_, ?_⟩⟩
    · rw [e 0 m (by omega) (by omega) (by omega) (by omega) (by omega) (by omega) (by omega)]; exact b1
    · rw [e 1 m (by omega) (by omega) (by omega) (by omega) (by omega) (by omega) (by omega)]; exact b2
    · rw [e 2 m (by omega) (by omega) (by omega) (by omega) (by omega) (by omega) (by omega)]; exact b3
    · rw [e 3 m (by omega) (by omega) (by omega) (by omega) (by omega) (by omega) (by omega)]; exact b4
    · rw [e 5 m (by omega) (by omega) (by omega) (by omega) (by omega) (by omega) (by omega)]; exact b5
    · rw [e 4 m (by omega) (by omega) (by omega) (by omega) (by omega) (by omega) (by omega)]; exact b6 z
    · rw [e 6 _ (by omega) (by omega) (by omega) (by omega) (by omega) (by omega) (by omega)]; exact (b7 j hj).1
    · rw [e 7 _ (by omega) (by omega) (by omega) (by omega) (by omega) (by omega) (by omega)]; exact (b7 j hj).2.1
    · rw [e 8 _ (by omega) (by omega) (by omega) (by omega) (by omega) (by omega) (by omega)]; exact (b7 j hj).2.2
  · rw [e 9 _ (by omega) (by omega) (by omega) (by omega) (by omega) (by omega) (by omega)]; exact a2 r hr j hj
  · obtain ⟨b1, b2, b3⟩ := a3 s hs
    obtain ⟨⟨w1, w2, w3⟩, -⟩ := v6 s hs
    refine ⟨?_, ?_, fun r hr => ?_⟩
    · rw [e 10 _ (by omega) (by omega) (by omega) (by omega) (by omega) (by omega) (by omega)]; exact b1
    · rw [e 16 _ (by omega) (by omega) (by omega) (by omega) (by omega) (by omega) (by omega)]; exact b2
    · obtain ⟨c1, c2, c3, c4, c5⟩ := b3 r hr
      obtain ⟨x1, x2, x3, x4, x5, x6, x7⟩ := w3 r hr
      refine ⟨?_, ?_, ?_, fun i hi => ?_, fun i hi => ?_⟩
      · rw [e 11 _ (by omega) (by omega) (by omega) (by omega) (by omega) (by omega) (by omega)]; exact c1
      · rw [e 12 _ (by omega) (by omega) (by omega) (by omega) (by omega) (by omega) (by omega)]; exact c2
      · rw [e 13 _ (by omega) (by omega) (by omega) (by omega) (by omega) (by omega) (by omega)]; exact c3
      · rw [e 14 _ (by omega) (by omega) (by omega) (by omega) (by omega) (by omega) (by omega)]; exact c4 i hi
      · rw [e 15 _ (by omega) (by omega) (by omega) (by omega) (by omega) (by omega) (by omega)]; exact c5 i hi
theorem mc_ok {i : Nat} (h : i ≤ 16) : 263 ≤ mc i ∧ mc i ≤ 280 ∧ mc i ≠ 272 := by unfold mc; split <;> omega
theorem MS_fr {h h' : am_H} {s : Sg} (hV : Vs s) (e : Mq h h') (c : MS h s) : MS h' s := by
  obtain ⟨v1, v2, v3, v4, v5⟩ := hV
  obtain ⟨⟨a1, a2, a3, a4, a5⟩, a6, a7, a8, a9, a10, ⟨a11, a12⟩, a13, a14⟩ := c
  have q : ∀ a k, 261 ≤ a → a ≤ 302 → ¬ sc a k → hI h' a k = hI h a k := fun a k l1 l2 l3 => (e a k l1 l2 l3).1
  refine ⟨⟨?_, ?_, ?_, ?_, ?_⟩, fun k hk => ?_, fun j hj => ?_, fun k hk => ?_, ?_, fun i hi => ?_, ⟨?_, fun i h1 h2 => ?_⟩, ?_, fun z => ?_⟩
  · rw [q 261 0 (by omega) (by omega) (by unfold sc; omega)]; exact a1
  · rw [q 261 1 (by omega) (by omega) (by unfold sc; omega)]; exact a2
  · rw [q 261 2 (by omega) (by omega) (by unfold sc; omega)]; exact a3
  · rw [q 261 3 (by omega) (by omega) (by unfold sc; omega)]; exact a4
  · rw [q 261 4 (by omega) (by omega) (by unfold sc; omega)]; exact a5
  · rw [q 262 k (by omega) (by omega) (by unfold sc; omega)]; exact a6 k hk
  · rw [q 272 j (by omega) (by omega) (by unfold sc; omega)]; exact a7 j hj
  · rw [q 287 k (by omega) (by omega) (by unfold sc; omega)]; exact a8 k hk
  · refine MP_congr v1 (fun i k h0 _ _ _ _ _ _ => ?_) a9
    have := mc_ok h0
    exact q _ _ (by omega) (by omega) (by unfold sc; omega)
  · obtain ⟨b1, b2, b3⟩ := a10 i hi
    refine ⟨?_, fun z => ⟨?_, ?_, fun k hk => ?_⟩, fun z => ?_⟩
    · rw [q 281 i (by omega) (by omega) (by unfold sc; omega)]; exact b1
    · rw [q 282 i (by omega) (by omega) (by unfold sc; omega)]; exact (b2 z).1
    · rw [q 283 i (by omega) (by omega) (by unfold sc; omega)]; exact (b2 z).2.1
    · rw [(e 285 _ (by omega) (by omega) (by unfold sc; omega)).2]; exact (b2 z).2.2 k hk
    · rw [q 284 i (by omega) (by omega) (by unfold sc; omega)]; exact b3 z
  · rw [q 261 54 (by omega) (by omega) (by unfold sc; omega)]; exact a11
  · rw [q 301 i (by omega) (by omega) (by unfold sc; omega)]; exact a12 i h1 h2
  · rw [q 261 55 (by omega) (by omega) (by unfold sc; omega)]; exact a13
  · obtain ⟨b1, b2, b3, b4⟩ := a14 z
    refine ⟨?_, ?_, ?_, ?_⟩
    · rw [q 261 56 (by omega) (by omega) (by unfold sc; omega)]; exact b1
    · rw [q 261 57 (by omega) (by omega) (by unfold sc; omega)]; exact b2
    · rw [q 261 58 (by omega) (by omega) (by unfold sc; omega)]; exact b3
    · rcases v4 with v4 | v4
      · rw [v4] at z; cases z
      · exact MP_congr v4.2.1 (fun i k _ _ _ _ _ _ _ => q 302 _ (by omega) (by omega) (by unfold sc; omega)) b4
/-- where the class's side looks, nothing has moved -/
theorem CW_fr {W : Nat → Nat → Prop} {d : Nat} (hd : d = 0 ∨ d = 110) (hw : ∀ a k, W a k → (a < 28 + d ∨ 138 + d ≤ a ∨ a = 40 + d ∨ a = 41 + d) ∧ a < 303) {h h' : am_H} (e : Kg W h h') {D : Nat → Nat → Nat} {M nR nS F : Nat} (hV : Vw D M nR nS) (c : CW h d D M nR nS F) : CW h' d D M nR nS F := by
  obtain ⟨v1, v2, v3, v4, v5, v6⟩ := hV
  obtain ⟨⟨a1, a2, a3, a4⟩, a5, a6, a7⟩ := c
  have q : ∀ a k, ((28 + d ≤ a ∧ a < 138 + d ∧ a ≠ 40 + d ∧ a ≠ 41 + d) ∨ 303 ≤ a) → hI h' a k = hI h a k := fun a k n => e.2.2.2.2.1 a k (fun z => by have := hw a k z; omega)
  refine ⟨⟨?_, ?_, ?_, ?_⟩, fun m hm => ?_, fun r hr j hj => ?_, fun s hs => ?_⟩
  · rw [q _ _ (by omega)]; exact a1
  · rw [q _ _ (by omega)]; exact a2
  · rw [q _ _ (by omega)]; exact a3
  · rw [q _ _ (by omega)]; exact a4
  · obtain ⟨b1, b2, b3, b4, b5, b6, b7⟩ := a5 m hm
    refine ⟨?_, ?_, ?_, ?_, ?_, fun z => ?_, fun j hj => ⟨?_, ?_, ?_⟩⟩
    · rw [q _ _ (by omega)]; exact b1
    · rw [q _ _ (by omega)]; exact b2
    · rw [q _ _ (by omega)]; exact b3
    · rw [q _ _ (by omega)]; exact b4
    · rw [q _ _ (by omega)]; exact b5
    · rw [q _ _ (by omega)]; exact b6 z
    · rw [q _ _ (by omega)]; exact (b7 j hj).1
    · rw [q _ _ (by omega)]; exact (b7 j hj).2.1
    · rw [q _ _ (by omega)]; exact (b7 j hj).2.2
  · rw [q _ _ (by omega)]; exact a6 r hr j hj
  · obtain ⟨b1, b2, b3⟩ := a7 s hs
    refine ⟨?_, ?_, fun r hr => ?_⟩
    · rw [q _ _ (by omega)]; exact b1
    · rw [q _ _ (by omega)]; exact b2
    · obtain ⟨a, w, l, c1, c2, c3, c4, c5, c6, c7, c8, c9, c10, c11, c12, c13, c14⟩ := b3 r hr
      have qr : ∀ a k, a ≠ 248 → a ≠ 253 → hR h' a k = hR h a k := fun a k n1 n2 => e.2.2.2.1 a k (fun z => n1 z.1) n2
      refine ⟨a, w, l, ?_, ?_, c3, c4, c5, by rw [e.1]; exact c6, by rw [e.1]; exact c7, by rw [e.1]; exact c8, by rw [e.2.2.1]; exact c9, ?_, ?_, ?_, fun i hi => ?_, fun i hi => ?_⟩
      · rw [qr _ _ (by omega) (by omega)]; exact c1
      · unfold Rw at c2 ⊢
        rw [e.2.2.1, qr _ _ (by omega) (by omega), qr _ _ (by omega) (by omega)]; exact c2
      · rw [q _ _ (by omega)]; exact c10
      · rw [q _ _ (by omega)]; exact c11
      · rw [q _ _ (by omega)]; exact c12
      · rw [q _ _ (by omega)]; exact c13 i hi
      · rw [q _ _ (by omega)]; exact c14 i hi
theorem CS_fr {W : Nat → Nat → Prop} (hw : ∀ a k, W a k → sc a k ∨ (261 ≤ a ∧ a ≤ 302)) {h h' : am_H} (e : Kg W h h') {s : Sg} (hV : Vs s) (c : CS h s) : CS h' s := by
  obtain ⟨v1, v2, v3, v4, v5⟩ := hV
  obtain ⟨a1, a2, a3, a4, a5, a6, ⟨a7, a8⟩, a9, a10⟩ := c
  have q : ∀ a k, ¬ sc a k → ¬ (261 ≤ a ∧ a ≤ 302) → hI h' a k = hI h a k := fun a k n1 n2 => e.2.2.2.2.1 a k (fun z => (hw a k z).elim n1 n2)
  refine ⟨?_, fun k hk => ?_, fun j hj => ?_, fun j hj => ?_, CW_fr (Or.inl rfl) (fun a k z => by have := hw a k z; unfold sc at this; omega) e v1 a5, fun i hi => ?_, ⟨?_, fun i h1 h2 => ?_⟩, ?_, fun z => ?_⟩
  · rw [q _ _ (by unfold sc; omega) (by omega)]; exact a1
  · rw [q _ _ (by unfold sc; omega) (by omega)]; exact a2 k hk
  · rw [q _ _ (by unfold sc; omega) (by omega)]; exact a3 j hj
  · rw [q _ _ (by unfold sc; omega) (by omega)]; exact a4 j hj
  · obtain ⟨b1, b2, b3⟩ := a6 i hi
    refine ⟨fun z => ?_, fun z => ⟨?_, ?_, fun k hk => ?_⟩, fun z => ?_⟩
    · rw [q _ _ (by unfold sc; omega) (by omega)]; exact b1 z
    · rw [q _ _ (by unfold sc; omega) (by omega)]; exact (b2 z).1
    · rw [q _ _ (by unfold sc; omega) (by omega)]; exact (b2 z).2.1
    · rw [e.2.2.2.2.2 _ _ (fun z => (hw _ _ z).elim (by unfold sc; omega) (by omega))]; exact (b2 z).2.2 k hk
    · rw [q _ _ (by unfold sc; omega) (by omega)]; exact b3 z
  · rw [q _ _ (by unfold sc; omega) (by omega)]; exact a7
  · rw [q _ _ (by unfold sc; omega) (by omega)]; exact a8 i h1 h2
  · rw [q _ _ (by unfold sc; omega) (by omega)]; exact a9
  · rcases v4 with v4 | v4
    · rw [v4] at z; cases z
    · exact CW_fr (Or.inr rfl) (fun a k z => by have := hw a k z; unfold sc at this; omega) e v4.2.1 (a10 z)
theorem Vw_eq {D D' : Nat → Nat → Nat} {M nR nS : Nat} (e : ∀ i, i ≤ 16 → D' i = D i) (h : Vw D M nR nS) : Vw D' M nR nS := by
  have e0 := e 0 (by omega); have e1 := e 1 (by omega); have e2 := e 2 (by omega); have e3 := e 3 (by omega); have e4 := e 4 (by omega); have e5 := e 5 (by omega); have e6 := e 6 (by omega); have e7 := e 7 (by omega); have e8 := e 8 (by omega); have e9 := e 9 (by omega); have e10 := e 10 (by omega); have e11 := e 11 (by omega); have e12 := e 12 (by omega); have e13 := e 13 (by omega); have e14 := e 14 (by omega); have e15 := e 15 (by omega); have e16 := e 16 (by omega)
  unfold Vw Vm Vr Vq at h ⊢
  simp only [e0, e1, e2, e3, e4, e5, e6, e7, e8, e9, e10, e11, e12, e13, e14, e15, e16]
  exact h
theorem MP_eq {P : Nat → Nat → Int32} {D D' : Nat → Nat → Nat} {M nR nS : Nat} (e : ∀ i, i ≤ 16 → D' i = D i) (h : MP P D M nR nS) : MP P D' M nR nS := by
  have e0 := e 0 (by omega); have e1 := e 1 (by omega); have e2 := e 2 (by omega); have e3 := e 3 (by omega); have e4 := e 4 (by omega); have e5 := e 5 (by omega); have e6 := e 6 (by omega); have e7 := e 7 (by omega); have e8 := e 8 (by omega); have e9 := e 9 (by omega); have e10 := e 10 (by omega); have e11 := e 11 (by omega); have e12 := e 12 (by omega); have e13 := e 13 (by omega); have e14 := e 14 (by omega); have e15 := e 15 (by omega); have e16 := e 16 (by omega)
  unfold MP at h ⊢
  simp only [e0, e1, e2, e3, e4, e5, e6, e7, e8, e9, e10, e11, e12, e13, e14, e15, e16]
  exact h
theorem CW_eq {h : am_H} {d : Nat} {D D' : Nat → Nat → Nat} {M nR nS F : Nat} (e : ∀ i, i ≤ 16 → D' i = D i) (c : CW h d D M nR nS F) : CW h d D' M nR nS F := by
  have e0 := e 0 (by omega); have e1 := e 1 (by omega); have e2 := e 2 (by omega); have e3 := e 3 (by omega); have e4 := e 4 (by omega); have e5 := e 5 (by omega); have e6 := e 6 (by omega); have e7 := e 7 (by omega); have e8 := e 8 (by omega); have e9 := e 9 (by omega); have e10 := e 10 (by omega); have e11 := e 11 (by omega); have e12 := e 12 (by omega); have e13 := e 13 (by omega); have e14 := e 14 (by omega); have e15 := e 15 (by omega); have e16 := e 16 (by omega)
  unfold CW CM CQ at c ⊢
  simp only [e0, e1, e2, e3, e4, e5, e6, e7, e8, e9, e10, e11, e12, e13, e14, e15, e16]
  exact c
/-- what the shelves' cells say -/
def CH (h : am_H) (s : Sg) : Prop := ∀ i, i < 8 → (sD s 17 i = 0 → hI h 27 i = -ni 1) ∧ (sD s 17 i = 1 → hI h 27 i = ni (100 + sD s 18 i) ∧ hI h 26 i = ni (sD s 19 i) ∧ ∀ k, k < sD s 19 i → hL h (18 + i) k = sE s (100 * i + k)) ∧ (sD s 17 i = 2 → hI h 27 i = ni (10 * sD s 20 i + sD s 21 i))
def MH (h : am_H) (s : Sg) : Prop := ∀ i, i < 8 → hI h 281 i = ni (sD s 17 i) ∧ (sD s 17 i = 1 → hI h 282 i = ni (sD s 18 i) ∧ hI h 283 i = ni (sD s 19 i) ∧ ∀ k, k < sD s 19 i → hL h 285 (100 * i + k) = sE s (100 * i + k)) ∧ (sD s 17 i = 2 → hI h 284 i = ni (8 * sD s 20 i + sD s 21 i))
/-- only the shelves differ -/
def Es (s s' : Sg) : Prop := (∀ i, ¬ (17 ≤ i ∧ i ≤ 21) → sD s' i = sD s i) ∧ sF s' = sF s ∧ sX s' = sX s
theorem CS_shelf {h h' : am_H} {s s' : Sg} (hV : Vs s) (k : Kg (fun a _ => 18 ≤ a ∧ a ≤ 27) h h') (e : Es s s') (c : CS h s) (sh : CH h' s') : CS h' s' := by
  obtain ⟨v1, v2, v3, v4, v5⟩ := hV
  obtain ⟨a1, a2, a3, a4, a5, a6, ⟨a7, a8⟩, a9, a10⟩ := c
  obtain ⟨e1, e2, e3⟩ := e
  have q : ∀ a k, ¬ (18 ≤ a ∧ a ≤ 27) → hI h' a k = hI h a k := fun a j n => k.2.2.2.2.1 a j n
  have e22 := e1 22 (by omega)
  have e23 := e1 23 (by omega)
  have ek : sKp s' = sKp s := by funext i j; show sD s' (32 + i) j = sD s (32 + i) j; rw [e1 _ (by omega)]
  refine ⟨?_, fun j hj => ?_, fun j hj => ?_, fun j hj => ?_, ?_, sh, ⟨?_, fun i h1 h2 => ?_⟩, ?_, fun z => ?_⟩
  · rw [q _ _ (by omega), e3]; exact a1
  · rw [q _ _ (by omega), e2]; exact a2 j hj
  · rw [q _ _ (by omega)]; exact a3 j hj
  · rw [q _ _ (by omega)]; exact a4 j hj
  · have : CW h' 0 (sD s) (sM s) (sR s) (sS s) (sD s 22 3) := CW_fr (Or.inl rfl) (fun a k z => by omega) k v1 a5
    unfold sM sR sS at this ⊢
    rw [e22]
    exact CW_eq (fun i hi => e1 i (by omega)) this
  · rw [q _ _ (by omega), e1 24 (by omega)]; exact a7
  · rw [q _ _ (by omega), e1 25 (by omega)]; exact a8 i (by rw [← e1 24 (by omega)]; exact h1) h2
  · rw [q _ _ (by omega), e23]; exact a9
  · rw [e23] at z ⊢
    rw [ek]
    rcases v4 with v4 | v4
    · rw [v4] at z; cases z
    · exact CW_fr (Or.inr rfl) (fun a k z => by omega) k v4.2.1 (a10 z)
theorem MS_shelf {h h' : am_H} {s s' : Sg} (hV : Vs s) (k : Kg (fun a _ => 281 ≤ a ∧ a ≤ 286) h h') (e : Es s s') (c : MS h s) (sh : MH h' s') : MS h' s' := by
  obtain ⟨v1, v2, v3, v4, v5⟩ := hV
  obtain ⟨⟨a1, a2, a3, a4, a5⟩, a6, a7, a8, a9, a10, ⟨a11, a12⟩, a13, a14⟩ := c
  obtain ⟨e1, e2, e3⟩ := e
  have q : ∀ a k, ¬ (281 ≤ a ∧ a ≤ 286) → hI h' a k = hI h a k := fun a j n => k.2.2.2.2.1 a j n
  have e22 := e1 22 (by omega)
  have e23 := e1 23 (by omega)
  have ek : sKp s' = sKp s := by funext i j; show sD s' (32 + i) j = sD s (32 + i) j; rw [e1 _ (by omega)]
  have eM : sM s' = sM s := by unfold sM; rw [e22]
  have eR : sR s' = sR s := by unfold sR; rw [e22]
  have eS : sS s' = sS s := by unfold sS; rw [e22]
  refine ⟨⟨?_, ?_, ?_, ?_, ?_⟩, fun j hj => ?_, fun j hj => ?_, fun j hj => ?_, ?_, sh, ⟨?_, fun i h1 h2 => ?_⟩, ?_, fun z => ?_⟩
  · rw [q _ _ (by omega), eM]; exact a1
  · rw [q _ _ (by omega), eR]; exact a2
  · rw [q _ _ (by omega), eS]; exact a3
  · rw [q _ _ (by omega), e22]; exact a4
  · rw [q _ _ (by omega), e3]; exact a5
  · rw [q _ _ (by omega), e2]; exact a6 j hj
  · rw [q _ _ (by omega)]; exact a7 j hj
  · rw [q _ _ (by omega)]; exact a8 j hj
  · rw [eM, eR, eS]
    refine MP_eq (fun i hi => e1 i (by omega)) (MP_congr v1 (fun i k h0 _ _ _ _ _ _ => ?_) a9)
    have := mc_ok h0
    exact q _ _ (by omega)
  · rw [q _ _ (by omega), e1 24 (by omega)]; exact a11
  · rw [q _ _ (by omega), e1 25 (by omega)]; exact a12 i (by rw [← e1 24 (by omega)]; exact h1) h2
  · rw [q _ _ (by omega), e23]; exact a13
  · rw [e23] at z ⊢
    rw [ek]
    obtain ⟨b1, b2, b3, b4⟩ := a14 z
    rcases v4 with v4 | v4
    · rw [v4] at z; cases z
    · refine ⟨by rw [q _ _ (by omega)]; exact b1, by rw [q _ _ (by omega)]; exact b2, by rw [q _ _ (by omega)]; exact b3, ?_⟩
      exact MP_congr v4.2.1 (fun i k _ _ _ _ _ _ _ => q 302 _ (by omega)) b4
