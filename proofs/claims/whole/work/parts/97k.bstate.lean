/-! what a book changes -/
section SBK
variable {s : Sg} {n : Nat} {B : Nat → Nat → Nat}
/-- one saying more -/
def sBk (s : Sg) (n : Nat) (B : Nat → Nat → Nat) : Sg := (fun i k =>
  if i = 10 then (if k = sS s then n else sD s 10 k)
  else if i = 11 then (if k / 8 = sS s then B 0 (k % 8) else sD s 11 k)
  else if i = 12 then (if k / 8 = sS s then B 1 (k % 8) else sD s 12 k)
  else if i = 13 then (if k / 8 = sS s then B 2 (k % 8) else sD s 13 k)
  else if i = 14 then (if k / 64 = sS s then B 3 (k % 64) else sD s 14 k)
  else if i = 15 then (if k / 64 = sS s then B 4 (k % 64) else sD s 15 k)
  else if i = 16 then (if k = sS s then 0 else sD s 16 k)
  else if i = 22 then (if k = 2 then sS s + 1 else sD s 22 k)
  else sD s i k, sE s, sF s, -ni 1)
theorem sBk_pl {i : Nat} (h : i < 10 ∨ 16 < i) (h2 : i ≠ 22) : sD (sBk s n B) i = sD s i := by
  funext k
  show (if i = 10 then _ else if i = 11 then _ else if i = 12 then _ else if i = 13 then _ else if i = 14 then _ else if i = 15 then _ else if i = 16 then _ else if i = 22 then _ else sD s i k) = sD s i k
  rw [if_neg (by omega), if_neg (by omega), if_neg (by omega), if_neg (by omega), if_neg (by omega), if_neg (by omega), if_neg (by omega), if_neg h2]
theorem sBk_10 {k : Nat} : sD (sBk s n B) 10 k = if k = sS s then n else sD s 10 k := rfl
theorem sBk_11 {k : Nat} : sD (sBk s n B) 11 k = if k / 8 = sS s then B 0 (k % 8) else sD s 11 k := rfl
theorem sBk_12 {k : Nat} : sD (sBk s n B) 12 k = if k / 8 = sS s then B 1 (k % 8) else sD s 12 k := rfl
theorem sBk_13 {k : Nat} : sD (sBk s n B) 13 k = if k / 8 = sS s then B 2 (k % 8) else sD s 13 k := rfl
theorem sBk_14 {k : Nat} : sD (sBk s n B) 14 k = if k / 64 = sS s then B 3 (k % 64) else sD s 14 k := rfl
theorem sBk_15 {k : Nat} : sD (sBk s n B) 15 k = if k / 64 = sS s then B 4 (k % 64) else sD s 15 k := rfl
theorem sBk_16 {k : Nat} : sD (sBk s n B) 16 k = if k = sS s then 0 else sD s 16 k := rfl
theorem sBk_22 {k : Nat} : sD (sBk s n B) 22 k = if k = 2 then sS s + 1 else sD s 22 k := rfl
theorem sBk_S : sS (sBk s n B) = sS s + 1 := rfl
theorem sBk_M : sM (sBk s n B) = sM s := rfl
theorem sBk_R : sR (sBk s n B) = sR s := rfl
theorem sBk_F : sD (sBk s n B) 22 3 = sD s 22 3 := rfl
theorem sBk_K : sKp (sBk s n B) = sKp s := by funext i k; show sD (sBk s n B) (32 + i) k = sD s (32 + i) k; rw [sBk_pl (by omega) (by omega)]
/-- an old row -/
theorem sBk_o {t r : Nat} (ht : t < sS s) (hr : r < 8) : sD (sBk s n B) 11 (8 * t + r) = sD s 11 (8 * t + r) ∧ sD (sBk s n B) 12 (8 * t + r) = sD s 12 (8 * t + r) ∧ sD (sBk s n B) 13 (8 * t + r) = sD s 13 (8 * t + r) ∧ (∀ i, i < 8 → sD (sBk s n B) 14 (8 * (8 * t + r) + i) = sD s 14 (8 * (8 * t + r) + i)) ∧ ∀ i, i < 8 → sD (sBk s n B) 15 (8 * (8 * t + r) + i) = sD s 15 (8 * (8 * t + r) + i) := by
  refine ⟨?_, ?_, ?_, fun i hi => ?_, fun i hi => ?_⟩
  · rw [sBk_11, if_neg (by omega)]
  · rw [sBk_12, if_neg (by omega)]
  · rw [sBk_13, if_neg (by omega)]
  · rw [sBk_14, if_neg (by omega)]
  · rw [sBk_15, if_neg (by omega)]
/-- a new row -/
theorem sBk_n {r : Nat} (hr : r < 8) : sD (sBk s n B) 11 (8 * sS s + r) = B 0 r ∧ sD (sBk s n B) 12 (8 * sS s + r) = B 1 r ∧ sD (sBk s n B) 13 (8 * sS s + r) = B 2 r ∧ (∀ i, i < 8 → sD (sBk s n B) 14 (8 * (8 * sS s + r) + i) = B 3 (8 * r + i)) ∧ ∀ i, i < 8 → sD (sBk s n B) 15 (8 * (8 * sS s + r) + i) = B 4 (8 * r + i) := by
  refine ⟨?_, ?_, ?_, fun i hi => ?_, fun i hi => ?_⟩
  · rw [sBk_11, if_pos (by omega), show (8 * sS s + r) % 8 = r by omega]
  · rw [sBk_12, if_pos (by omega), show (8 * sS s + r) % 8 = r by omega]
  · rw [sBk_13, if_pos (by omega), show (8 * sS s + r) % 8 = r by omega]
  · rw [sBk_14, if_pos (by omega), show (8 * (8 * sS s + r) + i) % 64 = 8 * r + i by omega]
  · rw [sBk_15, if_pos (by omega), show (8 * (8 * sS s + r) + i) % 64 = 8 * r + i by omega]
theorem sBk_V (V : Vs s) (hS : sS s < 8) (n1 : 1 ≤ n) (n8 : n ≤ 8) (vb : Vbk (sM s) n B) : Vs (sBk s n B) := by
  have V' := V
  obtain ⟨⟨v1, v2, v3, v4, v5, v6⟩, w2, w3, w4, w5⟩ := V
  refine ⟨⟨v1, v2, by rw [sBk_S]; omega, fun m hm => ?_, fun r hr => ?_, fun t ht => ?_⟩, w2, fun i hi => ?_, ?_, ?_⟩
  · have := v4 m hm
    unfold Vm at this ⊢
    rw [sBk_pl (i := 0) (by omega) (by omega), sBk_pl (i := 1) (by omega) (by omega), sBk_pl (i := 2) (by omega) (by omega), sBk_pl (i := 3) (by omega) (by omega), sBk_pl (i := 4) (by omega) (by omega), sBk_pl (i := 5) (by omega) (by omega), sBk_pl (i := 6) (by omega) (by omega), sBk_pl (i := 7) (by omega) (by omega), sBk_pl (i := 8) (by omega) (by omega)]
    exact this
  · have := v5 r hr
    unfold Vr at this ⊢
    rw [sBk_pl (i := 9) (by omega) (by omega)]
    exact this
  · rw [sBk_S] at ht ⊢
    by_cases q : t = sS s
    · refine ⟨⟨?_, ?_, fun r hr => ?_⟩, ?_, fun t' ht' => ?_⟩
      · rw [sBk_10, if_pos q]; exact n1
      · rw [sBk_10, if_pos q]; exact n8
      · rw [sBk_10, if_pos q] at hr
        have b := vb r hr
        obtain ⟨b1, c1, c2, c3, c4, c5, c6⟩ := b
        obtain ⟨e1, e2, e3, e4, e5⟩ := sBk_n (s := s) (n := n) (B := B) (show r < 8 by omega)
        rw [q]
        refine ⟨by rw [e1]; exact b1, by rw [e2]; exact c1, by rw [e2]; exact c2, by rw [e3]; exact c3, fun i hi => ?_, fun i j h1 h2 => ?_, fun i hi => ?_⟩
        · rw [e2] at hi; rw [e4 i (by omega)]; exact c4 i hi
        · rw [e2] at h2; rw [e4 i (by omega), e4 j (by omega)]; exact c5 i j h1 h2
        · rw [e2] at hi; rw [e5 i (by omega)]; exact c6 i hi
      · rw [sBk_16, if_pos q]; exact Nat.pow_pos (by omega)
      · rw [sBk_16, if_pos q, Nat.zero_testBit]
        refine ⟨?_, Nat.zero_testBit _⟩
        rw [sBk_16]
        by_cases q' : t' = sS s
        · rw [if_pos q', Nat.zero_testBit]
        · rw [if_neg q', q]
          exact (Nat.testBit_lt_two_pow (v6 t' (by omega)).2.1).symm
    · have tS : t < sS s := by omega
      obtain ⟨⟨u1, u2, u3⟩, u4, u5⟩ := v6 t tS
      refine ⟨⟨?_, ?_, fun r hr => ?_⟩, ?_, fun t' ht' => ?_⟩
      · rw [sBk_10, if_neg q]; exact u1
      · rw [sBk_10, if_neg q]; exact u2
      · rw [sBk_10, if_neg q] at hr
        obtain ⟨b1, c1, c2, c3, c4, c5, c6⟩ := u3 r hr
        obtain ⟨e1, e2, e3, e4, e5⟩ := sBk_o (s := s) (n := n) (B := B) tS (show r < 8 by omega)
        refine ⟨by rw [e1]; exact b1, by rw [e2]; exact c1, by rw [e2]; exact c2, by rw [e3]; exact c3, fun i hi => ?_, fun i j h1 h2 => ?_, fun i hi => ?_⟩
        · rw [e2] at hi; rw [e4 i (by omega)]; exact c4 i hi
        · rw [e2] at h2; rw [e4 i (by omega), e4 j (by omega)]; exact c5 i j h1 h2
        · rw [e2] at hi; rw [e5 i (by omega)]; exact c6 i hi
      · rw [sBk_16, if_neg q]
        exact Nat.lt_of_lt_of_le u4 (Nat.pow_le_pow_right (by omega) (by omega))
      · rw [sBk_16, if_neg q, sBk_16]
        by_cases q' : t' = sS s
        · rw [if_pos q', Nat.zero_testBit, q']
          exact ⟨Nat.testBit_lt_two_pow u4, (u5 t tS).2⟩
        · rw [if_neg q']
          exact u5 t' (by omega)
  · rw [sBk_S, sBk_pl (i := 17) (by omega) (by omega), sBk_pl (i := 18) (by omega) (by omega), sBk_pl (i := 19) (by omega) (by omega), sBk_pl (i := 20) (by omega) (by omega), sBk_pl (i := 21) (by omega) (by omega)]
    rcases w3 i hi with y | y | ⟨y1, y2, y3⟩
    · exact Or.inl y
    · exact Or.inr (Or.inl y)
    · exact Or.inr (Or.inr ⟨y1, by omega, by rw [sBk_10, if_neg (by omega)]; exact y3⟩)
  · rw [sBk_K, sBk_S, sBk_pl (i := 23) (by omega) (by omega)]
    rcases w4 with y | ⟨y1, y2, y3, y4, y5⟩
    · exact Or.inl y
    · exact Or.inr ⟨y1, y2, y3, by omega, fun t ht => by rw [sBk_10, if_neg (by omega)]; exact y5 t ht⟩
  · rw [sBk_pl (i := 24) (by omega) (by omega)]; exact w5
variable {h h' : am_H}
def wQ (S a k : Nat) : Prop := wR a k ∨ a = 248 ∨ (a = 16 ∧ k = 7) ∨ (a = 28 ∧ k = 7) ∨ (a = 38 ∧ k = S) ∨ (a = 39 ∧ k = S) ∨ (a = 260 ∧ 6 ≤ k)
def wQR (S a k : Nat) : Prop := a = 253 ∨ (a = 248 ∧ k = 1) ∨ (a = 37 ∧ 8 * S ≤ k)
theorem CQ_ke {W WR : Nat → Nat → Prop} {D : Nat → Nat → Nat} {q r a w l : Nat} (hw : ∀ a k, W a k → a < 303) (hwr : ∀ a k, WR a k → a < 303) (e : Ke W WR h h') (c : CQ h D q r a w l) : CQ h' D q r a w l := by
  obtain ⟨⟨d1, d2, d3, d4, d5⟩, c3, c4, c5, c6, c7, c8, c9, c10, c11, c12, c13, c14⟩ := c
  have nw : ∀ a j, 303 ≤ a → ¬ W a j := fun a j ha z => by have := hw a j z; omega
  have nwr : ∀ a j, 303 ≤ a → ¬ WR a j := fun a j ha z => by have := hwr a j z; omega
  have N := e.1
  refine ⟨⟨by rw [e.2.1 _ c6]; exact d1, (e.2.2.1 _ _ c6 (nwr _ _ c3)).trans d2, (e.2.1 _ c7).trans d3, (e.2.2.1 _ _ c6 (nwr _ _ c3)).trans d4, (e.2.1 _ c8).trans d5⟩, c3, c4, c5, by omega, by omega, by omega, by rw [e.2.1 _ c6]; exact c9, (e.2.2.2.1 _ _ c6 (nw _ _ c3)).trans c10, (e.2.2.2.1 _ _ c6 (nw _ _ c3)).trans c11, (e.2.2.2.1 _ _ c6 (nw _ _ c3)).trans c12, fun i hi => (e.2.2.2.1 _ _ c7 (nw _ _ c4)).trans (c13 i hi), fun i hi => (e.2.2.2.1 _ _ c8 (nw _ _ c5)).trans (c14 i hi)⟩
/-- the kept world -/
theorem CW_ke {S : Nat} {D : Nat → Nat → Nat} {M nR nS F : Nat} (N : 303 ≤ hN h) (e : Ke (wQ S) (wQR S) h h') (hV : Vw D M nR nS) (c : CW h 110 D M nR nS F) : CW h' 110 D M nR nS F := by
  obtain ⟨v1, v2, v3, -⟩ := hV
  obtain ⟨⟨a1, a2, a3, a4⟩, a5, a6, a7⟩ := c
  have q : ∀ a k, 138 ≤ a → a < 248 → hI h' a k = hI h a k := fun a k h1 h2 => e.2.2.2.1 a k (by omega) (by unfold wQ wR; omega)
  refine ⟨⟨(q _ _ (by omega) (by omega)).trans a1, (q _ _ (by omega) (by omega)).trans a2, (q _ _ (by omega) (by omega)).trans a3, (q _ _ (by omega) (by omega)).trans a4⟩, fun m hm => ?_, fun r hr j hj => (q _ _ (by omega) (by omega)).trans (a6 r hr j hj), fun s hs => ?_⟩
  · obtain ⟨b1, b2, b3, b4, b5, b6, b7⟩ := a5 m hm
    refine ⟨(q _ _ (by omega) (by omega)).trans b1, (q _ _ (by omega) (by omega)).trans b2, (q _ _ (by omega) (by omega)).trans b3, (q _ _ (by omega) (by omega)).trans b4, (q _ _ (by omega) (by omega)).trans b5, fun z => (q _ _ (by omega) (by omega)).trans (b6 z), fun j hj => ⟨(q _ _ (by omega) (by omega)).trans (b7 j hj).1, (q _ _ (by omega) (by omega)).trans (b7 j hj).2.1, (q _ _ (by omega) (by omega)).trans (b7 j hj).2.2⟩⟩
  · obtain ⟨b1, b2, b3⟩ := a7 s hs
    refine ⟨(q _ _ (by omega) (by omega)).trans b1, (q _ _ (by omega) (by omega)).trans b2, fun r hr => ?_⟩
    obtain ⟨a, w, l, c1, c2⟩ := b3 r hr
    exact ⟨a, w, l, (e.2.2.1 _ _ (by omega) (by unfold wQR; omega)).trans c1, CQ_ke (fun a k z => by unfold wQ wR at z; omega) (fun a k z => by unfold wQR at z; omega) e c2⟩
/-- what a book leaves as it was in the class -/
theorem CSq {S : Nat} (V : Vs s) (hs : Sh h) (c : CS h s) (k : Ke (wQ S) (wQR S) h h') : (∀ j, j < 14 → hI h' 0 j = ni (t0 j)) ∧ (∀ j, j < 14 → hI h' 1 j = ni (t1 j)) ∧ (hI h' 28 1 = ni (sM s) ∧ hI h' 28 3 = ni (sR s) ∧ hI h' 28 4 = fI (sD s 22 3)) ∧ (∀ m, m < sM s → CM h' (42 + 0 + 4 * m) (sD s) m) ∧ (∀ r, r < sR s → ∀ j, j < 14 → hI h' (31 + 0 + r) j = ni (sD s 9 (14 * r + j))) ∧ (∀ i, i < 8 → (sD s 17 i = 0 → hI h' 27 i = -ni 1) ∧ (sD s 17 i = 1 → hI h' 27 i = ni (100 + sD s 18 i) ∧ hI h' 26 i = ni (sD s 19 i) ∧ ∀ k, k < sD s 19 i → hL h' (18 + i) k = sE s (100 * i + k)) ∧ (sD s 17 i = 2 → hI h' 27 i = ni (10 * sD s 20 i + sD s 21 i))) ∧ (hI h' 259 0 = ni (sD s 24 0) ∧ ∀ i, i < sD s 24 0 → i < 20 → hI h' 259 (i + 1) = ni (sD s 25 i)) ∧ (hI h' 16 5 = ni (sD s 23 0) ∧ (sD s 23 0 = 1 → CW h' 110 (sKp s) (sD s 23 1) (sD s 23 2) (sD s 23 3) (sD s 23 4))) := by
  have N := hs.2.2.1.1
  have vM' := vM V
  have vR' := vR V
  obtain ⟨a1, a2, a3, a4, ⟨⟨b1, b2, b3, b4⟩, b5, b6, b7⟩, a6, ⟨a7, a8⟩, a9, a10⟩ := c
  have q : ∀ a j, a < 303 → ¬ wQ S a j → hI h' a j = hI h a j := fun a j ha n => k.2.2.2.1 a j (by omega) n
  refine ⟨fun j hj => ?_, fun j hj => ?_, ⟨?_, ?_, ?_⟩, fun m hm => ?_, fun r hr j hj => ?_, fun i hi => ?_, ⟨?_, fun i i1 i2 => ?_⟩, ?_, fun z => ?_⟩
  · rw [q _ _ (by omega) (by unfold wQ wR; omega)]; exact a3 j hj
  · rw [q _ _ (by omega) (by unfold wQ wR; omega)]; exact a4 j hj
  · rw [q _ _ (by omega) (by unfold wQ wR; omega)]; exact b1
  · rw [q _ _ (by omega) (by unfold wQ wR; omega)]; exact b2
  · rw [q _ _ (by omega) (by unfold wQ wR; omega)]; exact b4
  · obtain ⟨c1, c2, c3, c4, c5, c6, c7⟩ := b5 m hm
    refine ⟨by rw [q _ _ (by omega) (by unfold wQ wR; omega)]; exact c1, by rw [q _ _ (by omega) (by unfold wQ wR; omega)]; exact c2, by rw [q _ _ (by omega) (by unfold wQ wR; omega)]; exact c3, by rw [q _ _ (by omega) (by unfold wQ wR; omega)]; exact c4, by rw [q _ _ (by omega) (by unfold wQ wR; omega)]; exact c5, fun y => by rw [q _ _ (by omega) (by unfold wQ wR; omega)]; exact c6 y, fun j hj => ?_⟩
    rw [q _ _ (by omega) (by unfold wQ wR; omega), q _ _ (by omega) (by unfold wQ wR; omega), q _ _ (by omega) (by unfold wQ wR; omega)]
    exact c7 j hj
  · rw [q _ _ (by omega) (by unfold wQ wR; omega)]; exact b6 r hr j hj
  · obtain ⟨e1, e2, e3⟩ := a6 i hi
    refine ⟨fun z => ?_, fun z => ⟨?_, ?_, fun j hj => ?_⟩, fun z => ?_⟩
    · rw [q _ _ (by omega) (by unfold wQ wR; omega)]; exact e1 z
    · rw [q _ _ (by omega) (by unfold wQ wR; omega)]; exact (e2 z).1
    · rw [q _ _ (by omega) (by unfold wQ wR; omega)]; exact (e2 z).2.1
    · rw [k.2.2.2.2 _ _ (by omega) (by unfold wQ wR; omega)]; exact (e2 z).2.2 j hj
    · rw [q _ _ (by omega) (by unfold wQ wR; omega)]; exact e3 z
  · rw [q _ _ (by omega) (by unfold wQ wR; omega)]; exact a7
  · rw [q _ _ (by omega) (by unfold wQ wR; omega)]; exact a8 i i1 i2
  · rw [q _ _ (by omega) (by unfold wQ wR; omega)]; exact a9
  · rcases V.2.2.2.1 with v4 | v4
    · rw [v4] at z; cases z
    · exact CW_ke N k v4.2.1 (a10 z)
/-- the rest of Cok -/
theorem Cok_ke {S : Nat} {s' : Sg} (hs : Sh h) (hs' : Sh h') (c' : CS h' s') (k : Ke (wQ S) (wQR S) h h') (n : hN h' ≤ hN h + 24) (l : hSl h' ≤ hSl h + 1000) : Cok h h' s' := by
  have N := hs.2.2.1.1
  refine ⟨hs', c', fun a j l1 l2 l3 => ⟨k.2.2.2.1 a j (by omega) (by unfold wQ wR; omega), k.2.2.2.2 a j (by omega) (by unfold wQ wR; omega)⟩, k.1, n, l, k.2.1 15 (by omega), fun j => k.2.2.2.1 15 j (by omega) (by unfold wQ wR; omega)⟩
/-- a fault, or no room -/
theorem CSf {S e : Nat} {v : Int32} (V : Vs s) (hs : Sh h) (c : CS h s) (k : Ke (wQ S) (wQR S) h h') (n7 : ∀ j, hI h' 28 7 = hI h 28 7 ∧ hI h' 38 j = hI h 38 j ∧ hI h' 39 j = hI h 39 j ∧ hR h' 37 j = hR h 37 j) (g1 : hI h' 16 7 = v) (g2 : ∀ j, j < 8 → hI h' 260 j = if j = e then hI h 260 j + 1 else hI h 260 j) : CS h' (sRf (sSx s v) e) := by
  obtain ⟨q1, q2, q3, q4, q5, q6, q7, q8⟩ := CSq V hs c k
  obtain ⟨a1, a2, a3, a4, ⟨⟨b1, b2, b3, b4⟩, b5, b6, b7⟩, a6, ⟨a7, a8⟩, a9, a10⟩ := c
  refine ⟨g1, fun j hj => ?_, q1, q2, ⟨⟨q3.1, q3.2.1, (n7 0).1.trans b3, q3.2.2⟩, q4, q5, fun t ht => ?_⟩, q6, q7, q8⟩
  · rw [g2 j hj]
    show (if j = e then hI h 260 j + 1 else hI h 260 j) = if j = e then sF s j + 1 else sF s j
    rw [a2 j hj]
  · obtain ⟨d1, d2, d3⟩ := b7 t ht
    refine ⟨(n7 t).2.1.trans d1, (n7 t).2.2.1.trans d2, fun r hr => ?_⟩
    obtain ⟨a, w, l, c1, c2⟩ := d3 r hr
    exact ⟨a, w, l, (n7 _).2.2.2.trans c1, CQ_ke (fun a k z => by unfold wQ wR at z; omega) (fun a k z => by unfold wQR at z; omega) k c2⟩
theorem CSb (V : Vs s) (hS : sS s < 8) (n8 : n ≤ 8) (hs : Sh h) (c : CS h s) (vb : Vbk (sM s) n B) (k : Ke (wQ (sS s)) (wQR (sS s)) h h') (g1 : hI h' 16 7 = -ni 1) (g2 : ∀ j, j < 8 → hI h' 260 j = hI h 260 j) (g3 : hI h' 28 7 = ni (sS s + 1)) (g4 : hI h' 38 (sS s) = ni n) (g5 : hI h' 39 (sS s) = ni 0) (gN : hN h' = hN h + 3 * n) (g6 : ∀ r, r < n → hR h' 37 (8 * sS s + r) = some (hN h + 3 * r + 2) ∧ RwA h' (hN h + 3 * r) r (B 0 r) (B 1 r) (B 2 r) (fun j => B 3 (8 * r + j)) (fun j => B 4 (8 * r + j))) : CS h' (sBk s n B) := by
  have N := hs.2.2.1.1
  obtain ⟨q1, q2, q3, q4, q5, q6, q7, q8⟩ := CSq V hs c k
  obtain ⟨a1, a2, a3, a4, ⟨⟨b1, b2, b3, b4⟩, b5, b6, b7⟩, a6, ⟨a7, a8⟩, a9, a10⟩ := c
  have q : ∀ a j, a < 303 → ¬ wQ (sS s) a j → hI h' a j = hI h a j := fun a j ha n => k.2.2.2.1 a j (by omega) n
  refine ⟨g1, fun j hj => (g2 j hj).trans (a2 j hj), q1, q2, ⟨⟨q3.1, q3.2.1, g3, q3.2.2⟩, fun m hm => ?_, fun r hr j hj => ?_, fun t ht => ?_⟩, ?_, ?_, ?_⟩
  · have := q4 m hm
    unfold CM at this ⊢
    rw [sBk_pl (i := 0) (by omega) (by omega), sBk_pl (i := 1) (by omega) (by omega), sBk_pl (i := 2) (by omega) (by omega), sBk_pl (i := 3) (by omega) (by omega), sBk_pl (i := 4) (by omega) (by omega), sBk_pl (i := 5) (by omega) (by omega), sBk_pl (i := 6) (by omega) (by omega), sBk_pl (i := 7) (by omega) (by omega), sBk_pl (i := 8) (by omega) (by omega)]
    exact this
  · rw [sBk_pl (i := 9) (by omega) (by omega)]; exact q5 r hr j hj
  · rw [sBk_S] at ht
    by_cases y : t = sS s
    · rw [sBk_10, sBk_16, if_pos y, if_pos y, y]
      refine ⟨g4, g5, fun r hr => ?_⟩
      obtain ⟨e1, x1, x2, x3, x4, x5, x6, x7, x8, x9⟩ := g6 r hr
      obtain ⟨f1, f2, f3, f4, f5⟩ := sBk_n (s := s) (n := n) (B := B) (show r < 8 by omega)
      have vr' := vb r hr
      have r8 : B 1 r ≤ 8 := vr'.2.2.1
      refine ⟨hN h + 3 * r + 2, hN h + 3 * r, hN h + 3 * r + 1, e1, ?_⟩
      show CQ h' (sD (sBk s n B)) (8 * sS s + r) r (hN h + 3 * r + 2) (hN h + 3 * r) (hN h + 3 * r + 1)
      unfold CQ
      rw [f1, f2, f3]
      refine ⟨⟨by rw [x3]; exact kt_in _ (by have := vr'.1; omega), x4, x1, x5, x2⟩, by omega, by omega, by omega, by omega, by omega, by omega, by rw [x3], x6, x7, x8, fun i hi => ?_, fun i hi => ?_⟩
      · rw [f4 i (by omega)]; exact (x9 i hi).1
      · rw [f5 i (by omega)]; exact (x9 i (by omega)).2
    · have tS : t < sS s := by omega
      rw [sBk_10, sBk_16, if_neg y, if_neg y]
      obtain ⟨d1, d2, d3⟩ := b7 t tS
      refine ⟨(q 38 t (by omega) (by unfold wQ wR; omega)).trans d1, (q 39 t (by omega) (by unfold wQ wR; omega)).trans d2, fun r hr => ?_⟩
      have r8 := vN V tS
      obtain ⟨a, w, l, c1, c2⟩ := d3 r hr
      refine ⟨a, w, l, (k.2.2.1 37 (8 * t + r) (by omega) (by unfold wQR; omega)).trans c1, ?_⟩
      have c3 := CQ_ke (fun a k z => by unfold wQ wR at z; omega) (fun a k z => by unfold wQR at z; omega) k c2
      obtain ⟨f1, f2, f3, f4, f5⟩ := sBk_o (s := s) (n := n) (B := B) tS (show r < 8 by omega)
      have z8 : sD s 12 (8 * t + r) ≤ 8 := (vq V tS hr).2.2.1
      unfold CQ at c3 ⊢
      rw [f1, f2, f3]
      obtain ⟨p1, p2, p3, p4, p5, p6, p7, p8, p9, p10, p11, p12, p13⟩ := c3
      refine ⟨p1, p2, p3, p4, p5, p6, p7, p8, p9, p10, p11, fun i hi => ?_, fun i hi => ?_⟩
      · rw [f4 i (by omega)]; exact p12 i hi
      · rw [f5 i (by omega)]; exact p13 i hi
  · rw [sBk_pl (i := 17) (by omega) (by omega), sBk_pl (i := 18) (by omega) (by omega), sBk_pl (i := 19) (by omega) (by omega), sBk_pl (i := 20) (by omega) (by omega), sBk_pl (i := 21) (by omega) (by omega)]
    exact q6
  · rw [sBk_pl (i := 24) (by omega) (by omega), sBk_pl (i := 25) (by omega) (by omega)]
    exact q7
  · rw [sBk_K, sBk_pl (i := 23) (by omega) (by omega)]
    exact q8
end SBK
section SBM
variable {s : Sg} {n : Nat} {B : Nat → Nat → Nat} {h h' : am_H}
def wS (S a k : Nat) : Prop := scm a k ∨ (a = 261 ∧ k = 4) ∨ (a = 261 ∧ k = 2) ∨ (a = 274 ∧ k = S) ∨ ((a = 275 ∨ a = 276 ∨ a = 277) ∧ 8 * S ≤ k ∧ k < 8 * S + 8) ∨ ((a = 278 ∨ a = 279) ∧ 64 * S ≤ k ∧ k < 64 * S + 64) ∨ (a = 280 ∧ k = S)
theorem MSb2 (V : Vs s) (hS : sS s < 8) (n8 : n ≤ 8) (vb : Vbk (sM s) n B) (c : MS h s) (k : Kg (wS (sS s)) h h') (g1 : hI h' 261 4 = -ni 1) (g2 : hI h' 261 2 = ni (sS s + 1)) (g3 : hI h' 274 (sS s) = ni n) (g4 : hI h' 280 (sS s) = ni 0) (g5 : ∀ r, r < n → hI h' 275 (8 * sS s + r) = ni (B 0 r) ∧ hI h' 276 (8 * sS s + r) = ni (B 1 r) ∧ hI h' 277 (8 * sS s + r) = ni (B 2 r) ∧ (∀ i, i < B 1 r → hI h' 278 (8 * (8 * sS s + r) + i) = ni (B 3 (8 * r + i))) ∧ ∀ i, i + 1 < B 1 r → hI h' 279 (8 * (8 * sS s + r) + i) = ni (B 4 (8 * r + i))) : Mok h h' (sBk s n B) := by
  obtain ⟨⟨a1, a2, a3, a4, a5⟩, a6, a7, a8, a9, a10, ⟨a11, a12⟩, a13, a14⟩ := c
  have q : ∀ a j, ¬ wS (sS s) a j → hI h' a j = hI h a j := fun a j n => k.2.2.2.2.1 a j n
  have q9 : ∀ i j, i ≤ 9 → nP h' i j = nP h i j := fun i j h0 => by
    have m9 : 263 ≤ mc i ∧ mc i ≤ 273 := by unfold mc; split <;> omega
    exact q _ _ (by unfold wS scm; omega)
  refine ⟨⟨⟨?_, ?_, g2, ?_, g1⟩, fun j hj => ?_, fun j hj => ?_, fun j hj => ?_, ?_, fun i hi => ?_, ⟨?_, fun i i1 i2 => ?_⟩, ?_, fun z => ?_⟩, Kg_mono (fun a j z => by unfold wS scm at z; unfold wm; omega) k⟩
  · rw [sBk_M, q _ _ (by unfold wS scm; omega)]; exact a1
  · rw [sBk_R, q _ _ (by unfold wS scm; omega)]; exact a2
  · rw [sBk_F, q _ _ (by unfold wS scm; omega)]; exact a4
  · rw [q _ _ (by unfold wS scm; omega)]; exact a6 j hj
  · rw [q _ _ (by unfold wS scm; omega)]; exact a7 j hj
  · rw [q _ _ (by unfold wS scm; omega)]; exact a8 j hj
  · obtain ⟨m1, m2, m3⟩ := a9
    refine ⟨fun m hm => ?_, fun r hr j hj => ?_, fun t ht => ?_⟩
    · have := m1 m hm
      rw [sBk_pl (i := 0) (by omega) (by omega), sBk_pl (i := 1) (by omega) (by omega), sBk_pl (i := 2) (by omega) (by omega), sBk_pl (i := 3) (by omega) (by omega), sBk_pl (i := 4) (by omega) (by omega), sBk_pl (i := 5) (by omega) (by omega), sBk_pl (i := 6) (by omega) (by omega), sBk_pl (i := 7) (by omega) (by omega), sBk_pl (i := 8) (by omega) (by omega), q9 0 _ (by omega), q9 1 _ (by omega), q9 2 _ (by omega), q9 3 _ (by omega), q9 4 _ (by omega), q9 5 _ (by omega)]
      refine ⟨this.1, this.2.1, this.2.2.1, this.2.2.2.1, this.2.2.2.2.1, this.2.2.2.2.2.1, fun j hj => ?_⟩
      rw [q9 6 _ (by omega), q9 7 _ (by omega), q9 8 _ (by omega)]
      exact this.2.2.2.2.2.2 j hj
    · rw [sBk_pl (i := 9) (by omega) (by omega), q9 9 _ (by omega)]; exact m2 r hr j hj
    · rw [sBk_S] at ht
      by_cases y : t = sS s
      · rw [sBk_10, sBk_16, if_pos y, if_pos y, y]
        refine ⟨g3, g4, fun r hr => ?_⟩
        obtain ⟨e1, e2, e3, e4, e5⟩ := g5 r hr
        obtain ⟨f1, f2, f3, f4, f5⟩ := sBk_n (s := s) (n := n) (B := B) (show r < 8 by omega)
        have r8 : B 1 r ≤ 8 := (vb r hr).2.2.1
        rw [f1, f2, f3]
        refine ⟨e1, e2, e3, fun i hi => ?_, fun i hi => ?_⟩
        · rw [f4 i (by omega)]; exact e4 i hi
        · rw [f5 i (by omega)]; exact e5 i hi
      · have tS : t < sS s := by omega
        rw [sBk_10, sBk_16, if_neg y, if_neg y]
        obtain ⟨d1, d2, d3⟩ := m3 t tS
        refine ⟨(q 274 t (by unfold wS scm; omega)).trans d1, (q 280 t (by unfold wS scm; omega)).trans d2, fun r hr => ?_⟩
        have r8 := vN V tS
        have z8 : sD s 12 (8 * t + r) ≤ 8 := (vq V tS hr).2.2.1
        obtain ⟨p1, p2, p3, p4, p5⟩ := d3 r hr
        obtain ⟨f1, f2, f3, f4, f5⟩ := sBk_o (s := s) (n := n) (B := B) tS (show r < 8 by omega)
        rw [f1, f2, f3]
        refine ⟨(q 275 _ (by unfold wS scm; omega)).trans p1, (q 276 _ (by unfold wS scm; omega)).trans p2, (q 277 _ (by unfold wS scm; omega)).trans p3, fun i hi => ?_, fun i hi => ?_⟩
        · rw [f4 i (by omega)]; exact (q 278 _ (by unfold wS scm; omega)).trans (p4 i hi)
        · rw [f5 i (by omega)]; exact (q 279 _ (by unfold wS scm; omega)).trans (p5 i hi)
  · rw [sBk_pl (i := 17) (by omega) (by omega), sBk_pl (i := 18) (by omega) (by omega), sBk_pl (i := 19) (by omega) (by omega), sBk_pl (i := 20) (by omega) (by omega), sBk_pl (i := 21) (by omega) (by omega), q _ _ (by unfold wS scm; omega), q _ _ (by unfold wS scm; omega), q _ _ (by unfold wS scm; omega), q _ _ (by unfold wS scm; omega)]
    obtain ⟨e1, e2, e3⟩ := a10 i hi
    refine ⟨e1, fun z => ⟨(e2 z).1, (e2 z).2.1, fun j hj => ?_⟩, e3⟩
    rw [k.2.2.2.2.2 _ _ (by unfold wS scm; omega)]; exact (e2 z).2.2 j hj
  · rw [sBk_pl (by omega) (by omega), q _ _ (by unfold wS scm; omega)]; exact a11
  · rw [sBk_pl (by omega) (by omega)] at i1
    rw [sBk_pl (by omega) (by omega), q _ _ (by unfold wS scm; omega)]; exact a12 i i1 i2
  · rw [sBk_pl (by omega) (by omega), q _ _ (by unfold wS scm; omega)]; exact a13
  · rw [sBk_pl (i := 23) (by omega) (by omega)] at z ⊢
    obtain ⟨b1, b2, b3, b4⟩ := a14 z
    rw [sBk_K, q _ _ (by unfold wS scm; omega), q _ _ (by unfold wS scm; omega), q _ _ (by unfold wS scm; omega)]
    have ek : kP h' = kP h := by
      funext i j
      exact q 302 _ (by unfold wS scm; omega)
    rw [ek]
    exact ⟨b1, b2, b3, b4⟩
end SBM
