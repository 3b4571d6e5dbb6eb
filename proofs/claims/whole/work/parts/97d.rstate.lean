/-! what rules change -/
theorem or1_lb {c : Nat → Int32} {z p q : Nat} (hp : p ≤ z) (h : or1 c z p = .inl q) : q ≤ z := by
  have bw := wdx_b (c := c) hp 14 0 0 (by omega) (by omega)
  cases e : wdx c z p 14 0 0 with
  | inl q' =>
    rw [or1_l e] at h
    cases h
    rw [e] at bw
    exact bw.2
  | inr y =>
    rw [e] at bw
    have bw' : 0 ≤ y.1 ∧ y.1 < 0 + 14 ∧ p < y.2 ∧ y.2 ≤ z := bw
    have bn := rn_b (c := c) (L := t1 y.1 + 1) (show y.2 ≤ z by omega)
    cases e2 : rn c z y.2 (t1 y.1 + 1) with
    | inl q' =>
      rw [or1_rl e e2] at h
      cases h
      rw [e2] at bn
      exact bn.2
    | inr v => rw [or1_rr e e2] at h; cases h
theorem rrl_lb {c : Nat → Int32} {z : Nat} : ∀ m p tl q, p ≤ z → rrl c z m p tl = .inl q → q ≤ z
  | 0, _, _, _, _, h => by cases h; omega
  | m + 1, p, tl, q, hp, h => by
    cases e : or1 c z p with
    | inl q' =>
      rw [rrl_l e] at h
      cases h
      exact or1_lb hp e
    | inr x =>
      have b := or1_b hp e
      rw [rrl_r e] at h
      unfold rrk at h
      by_cases y : x.2.2 < z
      · rw [if_pos y] at h
        by_cases w : c x.2.2 = ni 59
        · rw [if_pos w] at h
          exact rrl_lb m (x.2.2 + 1) _ q (by omega) h
        · rw [if_neg w] at h; cases h; omega
      · rw [if_neg y] at h; cases h
/-- the last fault is another -/
def sSx (s : Sg) (v : Int32) : Sg := (sD s, sE s, sF s, v)
theorem sSx_V {s : Sg} (V : Vs s) (v : Int32) : Vs (sSx s v) := V
section FLT
variable {h h' : am_H} {s : Sg}
def wX (e : Nat) (a k : Nat) : Prop := sc a k ∨ (a = 16 ∧ k = 7) ∨ (a = 260 ∧ k = e)
theorem CSx {e : Nat} {v : Int32} (V : Vs s) (c : CS h s) (k : Kg (wX e) h h') (g1 : hI h' 16 7 = v) (g2 : hI h' 260 e = hI h 260 e + 1) : CS h' (sRf (sSx s v) e) := by
  obtain ⟨v1, v2, v3, v4, v5⟩ := V
  obtain ⟨a1, a2, a3, a4, a5, a6, ⟨a7, a8⟩, a9, a10⟩ := c
  have q : ∀ a j, ¬ wX e a j → hI h' a j = hI h a j := fun a j n => k.2.2.2.2.1 a j n
  refine ⟨g1, fun j hj => ?_, fun j hj => ?_, fun j hj => ?_, CW_fr (Or.inl rfl) (fun a j z => by unfold wX sc at z; omega) k v1 a5, fun i hi => ?_, ⟨?_, fun i h1 h2 => ?_⟩, ?_, fun z => ?_⟩
  · show hI h' 260 j = if j = e then sF s j + 1 else sF s j
    by_cases y : j = e
    · rw [if_pos y, y, g2, ← y, a2 j hj]
    · rw [if_neg y, q _ _ (by unfold wX sc; omega)]; exact a2 j hj
  · rw [q _ _ (by unfold wX sc; omega)]; exact a3 j hj
  · rw [q _ _ (by unfold wX sc; omega)]; exact a4 j hj
  · obtain ⟨b1, b2, b3⟩ := a6 i hi
    refine ⟨fun z => ?_, fun z => ⟨?_, ?_, fun j hj => ?_⟩, fun z => ?_⟩
    · rw [q _ _ (by unfold wX sc; omega)]; exact b1 z
    · rw [q _ _ (by unfold wX sc; omega)]; exact (b2 z).1
    · rw [q _ _ (by unfold wX sc; omega)]; exact (b2 z).2.1
    · rw [k.2.2.2.2.2 _ _ (by unfold wX sc; omega)]; exact (b2 z).2.2 j hj
    · rw [q _ _ (by unfold wX sc; omega)]; exact b3 z
  · rw [q _ _ (by unfold wX sc; omega)]; exact a7
  · rw [q _ _ (by unfold wX sc; omega)]; exact a8 i h1 h2
  · rw [q _ _ (by unfold wX sc; omega)]; exact a9
  · rcases v4 with v4 | v4
    · have z' : sD s 23 0 = 1 := z
      rw [v4] at z'; cases z'
    · exact CW_fr (Or.inr rfl) (fun a j z => by unfold wX sc at z; omega) k v4.2.1 (a10 z)
theorem Cokx {e : Nat} {v : Int32} (V : Vs s) (hs : Sh h) (c : CS h s) (k : Kg (wX e) h h') (g1 : hI h' 16 7 = v) (g2 : hI h' 260 e = hI h 260 e + 1) : Cok h h' (sRf (sSx s v) e) :=
  ⟨Kg_Sh k hs, CSx V c k g1 g2, Kg_Mq (fun a j z => z.elim (fun w => Or.inr (Or.inr w)) (fun w => Or.inl (by omega))) k, by rw [k.1]; exact Nat.le_refl _, by rw [k.1]; exact Nat.le_add_right _ _, by rw [k.2.1]; exact Nat.le_add_right _ _, by rw [k.2.2.1], fun j => k.2.2.2.2.1 15 j (by unfold wX sc; omega)⟩
def wY (e : Nat) (a k : Nat) : Prop := scm a k ∨ (a = 261 ∧ k = 4) ∨ (a = 262 ∧ k = e)
theorem Mokx {e : Nat} {v : Int32} (V : Vs s) (c : MS h s) (k : Kg (wY e) h h') (g1 : hI h' 261 4 = v) (g2 : hI h' 262 e = hI h 262 e + 1) : Mok h h' (sRf (sSx s v) e) := by
  obtain ⟨v1, v2, v3, v4, v5⟩ := V
  obtain ⟨⟨a1, a2, a3, a4, a5⟩, a6, a7, a8, a9, a10, ⟨a11, a12⟩, a13, a14⟩ := c
  have q : ∀ a j, ¬ wY e a j → hI h' a j = hI h a j := fun a j n => k.2.2.2.2.1 a j n
  refine ⟨⟨⟨?_, ?_, ?_, ?_, g1⟩, fun j hj => ?_, fun j hj => ?_, fun j hj => ?_, ?_, fun i hi => ?_, ⟨?_, fun i h1 h2 => ?_⟩, ?_, fun z => ?_⟩, Kg_mono (fun a j z => by unfold wY scm at z; unfold wm; omega) k⟩
  · rw [q _ _ (by unfold wY scm; omega)]; exact a1
  · rw [q _ _ (by unfold wY scm; omega)]; exact a2
  · rw [q _ _ (by unfold wY scm; omega)]; exact a3
  · rw [q _ _ (by unfold wY scm; omega)]; exact a4
  · show hI h' 262 j = if j = e then sF s j + 1 else sF s j
    by_cases y : j = e
    · rw [if_pos y, y, g2, ← y, a6 j hj]
    · rw [if_neg y, q _ _ (by unfold wY scm; omega)]; exact a6 j hj
  · rw [q _ _ (by unfold wY scm; omega)]; exact a7 j hj
  · rw [q _ _ (by unfold wY scm; omega)]; exact a8 j hj
  · refine MP_congr v1 (fun i j h0 _ _ _ _ _ _ => ?_) a9
    have := mc_ok h0
    exact q _ _ (by unfold wY scm; omega)
  · obtain ⟨b1, b2, b3⟩ := a10 i hi
    refine ⟨?_, fun z => ⟨?_, ?_, fun j hj => ?_⟩, fun z => ?_⟩
    · rw [q _ _ (by unfold wY scm; omega)]; exact b1
    · rw [q _ _ (by unfold wY scm; omega)]; exact (b2 z).1
    · rw [q _ _ (by unfold wY scm; omega)]; exact (b2 z).2.1
    · rw [k.2.2.2.2.2 _ _ (by unfold wY scm; omega)]; exact (b2 z).2.2 j hj
    · rw [q _ _ (by unfold wY scm; omega)]; exact b3 z
  · rw [q _ _ (by unfold wY scm; omega)]; exact a11
  · rw [q _ _ (by unfold wY scm; omega)]; exact a12 i h1 h2
  · rw [q _ _ (by unfold wY scm; omega)]; exact a13
  · obtain ⟨b1, b2, b3, b4⟩ := a14 z
    refine ⟨?_, ?_, ?_, ?_⟩
    · rw [q _ _ (by unfold wY scm; omega)]; exact b1
    · rw [q _ _ (by unfold wY scm; omega)]; exact b2
    · rw [q _ _ (by unfold wY scm; omega)]; exact b3
    · rcases v4 with v4 | v4
      · have z' : sD s 23 0 = 1 := z
        rw [v4] at z'; cases z'
      · exact MP_congr v4.2.1 (fun i j _ _ _ _ _ _ _ => q 302 _ (by unfold wY scm; omega)) b4
/-- a class's text is opened -/
def lts (s : Sg) (k : Nat) : Nat → Int32 := fun j => (sE s (100 * k + j)).toInt32
theorem D70 {k z : Nat} (hs : Sh h) (hk : k < 8) (c : Nat → Int32) (hz : z ≤ 100) (g : ∀ j, j < z → (hL h (18 + k) j).toInt32 = c j) : ∃ h1, am_D 70 [vr (some 248), vr (some (18 + k)), vi (ni z)] h = some (none, h1) ∧ Kg (fun a _ => a = 248) h h1 ∧ TX h1 k c z ∧ hI h1 248 3 = ni 0 ∧ hI h1 248 0 = -ni 1 := by
  have k0 : Kg (fun a _ => a = 248) h (pR h 248 1 (some (18 + k))) := ⟨rfl, rfl, rfl, fun a j n1 n2 => by rw [hR_pR, if_neg n1], fun _ _ _ => rfl, fun _ _ _ => rfl⟩
  have hs0 := Kg_Sh k0 hs
  refine ⟨pI (pI (pI (pR h 248 1 (some (18 + k))) 248 2 (if Int32.ofNat 100 < ni z then Int32.ofNat 100 else ni z)) 248 3 0) 248 0 (-1), ?_, Kg_pI rfl (Kg_pI rfl (Kg_pI rfl k0)), ⟨?_, hk, ?_, hz, g⟩, ?_, ?_⟩
  · rw [d_70 hs hk]
    exact e_70_5 hs0 hk
  · show hR (pR h 248 1 (some (18 + k))) 248 1 = _
    rw [hR_pR, if_pos ⟨rfl, rfl⟩]
  · refine (pn (by omega)).trans ((pn (by omega)).trans (pe.trans ?_))
    rw [show Int32.ofNat 100 = ni 100 from rfl, if_neg (show ¬ ni 100 < ni z by rw [ni_lt (by omega) (by omega)]; omega)]
  · exact (pn (by omega)).trans pe
  · exact pe
end FLT
section SRU
variable {s : Sg} {tl : Nat → Nat}
def sRu (s : Sg) (tl : Nat → Nat) : Sg := (fun i k => if i = 9 ∧ 14 * sR s ≤ k ∧ k < 14 * sR s + 14 then tl (k - 14 * sR s) else if i = 22 ∧ k = 1 then sR s + 1 else sD s i k, sE s, sF s, -ni 1)
theorem sRu_pl {i : Nat} (h1 : i ≠ 9) (h2 : i ≠ 22) : sD (sRu s tl) i = sD s i := by
  funext k
  show (if i = 9 ∧ 14 * sR s ≤ k ∧ k < 14 * sR s + 14 then tl (k - 14 * sR s) else if i = 22 ∧ k = 1 then sR s + 1 else sD s i k) = sD s i k
  rw [if_neg (fun z => h1 z.1), if_neg (fun z => h2 z.1)]
theorem sRu_k {k : Nat} (h : k ≠ 1) : sD (sRu s tl) 22 k = sD s 22 k := by
  show (if 22 = 9 ∧ 14 * sR s ≤ k ∧ k < 14 * sR s + 14 then tl (k - 14 * sR s) else if 22 = 22 ∧ k = 1 then sR s + 1 else sD s 22 k) = sD s 22 k
  rw [if_neg (by omega), if_neg (fun z => h z.2)]
theorem sRu_R : sR (sRu s tl) = sR s + 1 := by
  show (if 22 = 9 ∧ 14 * sR s ≤ 1 ∧ 1 < 14 * sR s + 14 then tl (1 - 14 * sR s) else if 22 = 22 ∧ 1 = 1 then sR s + 1 else sD s 22 1) = sR s + 1
  rw [if_neg (by omega), if_pos ⟨rfl, rfl⟩]
theorem sRu_M : sM (sRu s tl) = sM s := sRu_k (by omega)
theorem sRu_S : sS (sRu s tl) = sS s := sRu_k (by omega)
theorem sRu_F : sD (sRu s tl) 22 3 = sD s 22 3 := sRu_k (by omega)
theorem sRu_o {r j : Nat} (hr : r < sR s) (hj : j < 14) : sD (sRu s tl) 9 (14 * r + j) = sD s 9 (14 * r + j) := by
  show (if 9 = 9 ∧ 14 * sR s ≤ 14 * r + j ∧ 14 * r + j < 14 * sR s + 14 then tl (14 * r + j - 14 * sR s) else if 9 = 22 ∧ 14 * r + j = 1 then sR s + 1 else sD s 9 (14 * r + j)) = _
  rw [if_neg (by omega), if_neg (by omega)]
theorem sRu_n {j : Nat} (hj : j < 14) : sD (sRu s tl) 9 (14 * sR s + j) = tl j := by
  show (if 9 = 9 ∧ 14 * sR s ≤ 14 * sR s + j ∧ 14 * sR s + j < 14 * sR s + 14 then tl (14 * sR s + j - 14 * sR s) else if 9 = 22 ∧ 14 * sR s + j = 1 then sR s + 1 else sD s 9 (14 * sR s + j)) = _
  rw [if_pos ⟨rfl, by omega, by omega⟩, Nat.add_sub_cancel_left]
theorem sRu_K : sKp (sRu s tl) = sKp s := by funext i k; show sD (sRu s tl) (32 + i) k = sD s (32 + i) k; rw [sRu_pl (by omega) (by omega)]
theorem sRu_V (V : Vs s) (hR : sR s < 6) (ht : ∀ j, j < 14 → tl j ≤ t1 j) : Vs (sRu s tl) := by
  obtain ⟨⟨v1, v2, v3, v4, v5, v6⟩, w2, w3, w4, w5⟩ := V
  have t99 : ∀ j, j < 14 → t1 j ≤ 99 := by decide
  have t9 : ∀ j, j < 12 → 2 ≤ j → t1 j = 9 := by decide
  refine ⟨⟨?_, ?_, ?_, fun m hm => ?_, fun r hr => ?_, fun t ht' => ?_⟩, ?_, fun i hi => ?_, ?_, ?_⟩
  · rw [sRu_M]; exact v1
  · rw [sRu_R]; omega
  · rw [sRu_S]; exact v3
  · rw [sRu_M] at hm
    have := v4 m hm
    unfold Vm at this ⊢
    rw [sRu_pl (i := 0) (by omega) (by omega), sRu_pl (i := 1) (by omega) (by omega), sRu_pl (i := 2) (by omega) (by omega), sRu_pl (i := 3) (by omega) (by omega), sRu_pl (i := 4) (by omega) (by omega), sRu_pl (i := 5) (by omega) (by omega), sRu_pl (i := 6) (by omega) (by omega), sRu_pl (i := 7) (by omega) (by omega), sRu_pl (i := 8) (by omega) (by omega)]
    exact this
  · rw [sRu_R] at hr
    by_cases y : r = sR s
    · subst y
      refine ⟨fun j hj => ?_, ?_, fun j h2 hj => ?_⟩
      · rw [sRu_n hj]
        have := ht j hj
        have := t99 j hj
        omega
      · rw [sRu_n (by omega)]; exact ht 1 (by omega)
      · rw [sRu_n (by omega)]
        have := ht j (by omega)
        rw [t9 j hj h2] at this
        exact this
    · obtain ⟨b1, b2, b3⟩ := v5 r (by omega)
      refine ⟨fun j hj => ?_, ?_, fun j h2 hj => ?_⟩
      · rw [sRu_o (by omega) hj]; exact b1 j hj
      · rw [sRu_o (by omega) (by omega)]; exact b2
      · rw [sRu_o (by omega) (by omega)]; exact b3 j h2 hj
  · rw [sRu_S] at ht' ⊢
    rw [sRu_M]
    have := v6 t ht'
    unfold Vq at this ⊢
    rw [sRu_pl (i := 10) (by omega) (by omega), sRu_pl (i := 11) (by omega) (by omega), sRu_pl (i := 12) (by omega) (by omega), sRu_pl (i := 13) (by omega) (by omega), sRu_pl (i := 14) (by omega) (by omega), sRu_pl (i := 15) (by omega) (by omega), sRu_pl (i := 16) (by omega) (by omega)]
    exact this
  · rw [sRu_F, sRu_R]; omega
  · rw [sRu_S, sRu_pl (i := 17) (by omega) (by omega), sRu_pl (i := 18) (by omega) (by omega), sRu_pl (i := 19) (by omega) (by omega), sRu_pl (i := 20) (by omega) (by omega), sRu_pl (i := 21) (by omega) (by omega), sRu_pl (i := 10) (by omega) (by omega)]; exact w3 i hi
  · rw [sRu_K, sRu_S, sRu_pl (i := 23) (by omega) (by omega), sRu_pl (i := 10) (by omega) (by omega)]; exact w4
  · rw [sRu_pl (i := 24) (by omega) (by omega)]; exact w5
variable {h h' : am_H}
def wU (R : Nat) (a k : Nat) : Prop := sc a k ∨ (a = 16 ∧ k = 7) ∨ (a = 28 ∧ k = 3) ∨ a = 31 + R
theorem sRu_C (V : Vs s) (hR : sR s < 6) (hs : Sh h) (c : CS h s) (k : Kg (wU (sR s)) h h') (g1 : hI h' 16 7 = -ni 1) (g2 : hI h' 28 3 = ni (sR s + 1)) (g3 : ∀ j, j < 14 → hI h' (31 + sR s) j = ni (tl j)) : Cok h h' (sRu s tl) := by
  obtain ⟨a1, a2, a3, a4, ⟨⟨b1, b2, b3, b4⟩, b5, b6, b7⟩, a6, ⟨a7, a8⟩, a9, a10⟩ := c
  have vM' := vM V
  have q : ∀ a j, ¬ wU (sR s) a j → hI h' a j = hI h a j := fun a j n => k.2.2.2.2.1 a j n
  refine ⟨Kg_Sh k hs, ⟨g1, fun i hi => ?_, fun i hi => ?_, fun i hi => ?_, ⟨⟨?_, ?_, ?_, ?_⟩, fun n hn => ?_, fun r hr i hi => ?_, fun t ht => ?_⟩, fun i hi => ?_, ⟨?_, fun i i1 i2 => ?_⟩, ?_, fun z => ?_⟩, Kg_Mq (fun a j z => z.elim (fun w => Or.inr (Or.inr w)) (fun w => Or.inl (by omega))) k, by rw [k.1]; exact Nat.le_refl _, by rw [k.1]; exact Nat.le_add_right _ _, by rw [k.2.1]; exact Nat.le_add_right _ _, by rw [k.2.2.1], fun j => q 15 j (by unfold wU sc; omega)⟩
  · rw [q _ _ (by unfold wU sc; omega)]; exact a2 i hi
  · rw [q _ _ (by unfold wU sc; omega)]; exact a3 i hi
  · rw [q _ _ (by unfold wU sc; omega)]; exact a4 i hi
  · rw [sRu_M, q _ _ (by unfold wU sc; omega)]; exact b1
  · rw [sRu_R]; exact g2
  · rw [sRu_S, q _ _ (by unfold wU sc; omega)]; exact b3
  · rw [sRu_F, q _ _ (by unfold wU sc; omega)]; exact b4
  · rw [sRu_M] at hn
    obtain ⟨c1, c2, c3, c4, c5, c6, c7⟩ := b5 n hn
    unfold CM
    rw [sRu_pl (i := 0) (by omega) (by omega), sRu_pl (i := 1) (by omega) (by omega), sRu_pl (i := 2) (by omega) (by omega), sRu_pl (i := 3) (by omega) (by omega), sRu_pl (i := 4) (by omega) (by omega), sRu_pl (i := 5) (by omega) (by omega), sRu_pl (i := 6) (by omega) (by omega), sRu_pl (i := 7) (by omega) (by omega), sRu_pl (i := 8) (by omega) (by omega)]
    refine ⟨by rw [q _ _ (by unfold wU sc; omega)]; exact c1, by rw [q _ _ (by unfold wU sc; omega)]; exact c2, by rw [q _ _ (by unfold wU sc; omega)]; exact c3, by rw [q _ _ (by unfold wU sc; omega)]; exact c4, by rw [q _ _ (by unfold wU sc; omega)]; exact c5, fun y => by rw [q _ _ (by unfold wU sc; omega)]; exact c6 y, fun j hj => ?_⟩
    rw [q _ _ (by unfold wU sc; omega), q _ _ (by unfold wU sc; omega), q _ _ (by unfold wU sc; omega)]
    exact c7 j hj
  · rw [sRu_R] at hr
    by_cases y : r = sR s
    · subst y
      rw [sRu_n hi]; exact g3 i hi
    · rw [sRu_o (by omega) hi, q _ _ (by unfold wU sc; omega)]; exact b6 r (by omega) i hi
  · rw [sRu_S] at ht
    rw [sRu_pl (i := 10) (by omega) (by omega), sRu_pl (i := 16) (by omega) (by omega), q _ _ (by unfold wU sc; omega), q _ _ (by unfold wU sc; omega)]
    obtain ⟨d1, d2, d3⟩ := b7 t ht
    refine ⟨d1, d2, fun r hr => ?_⟩
    obtain ⟨a, w, l, c1, c2⟩ := d3 r hr
    refine ⟨a, w, l, by rw [k.2.2.2.1 _ _ (by omega) (by omega)]; exact c1, ?_⟩
    have c3 := CQ_fr (fun a j z => by unfold wU sc at z; omega) k c2
    unfold CQ at c3 ⊢
    rw [sRu_pl (i := 11) (by omega) (by omega), sRu_pl (i := 12) (by omega) (by omega), sRu_pl (i := 13) (by omega) (by omega), sRu_pl (i := 14) (by omega) (by omega), sRu_pl (i := 15) (by omega) (by omega)]
    exact c3
  · rw [sRu_pl (i := 17) (by omega) (by omega), sRu_pl (i := 18) (by omega) (by omega), sRu_pl (i := 19) (by omega) (by omega), sRu_pl (i := 20) (by omega) (by omega), sRu_pl (i := 21) (by omega) (by omega), q _ _ (by unfold wU sc; omega), q _ _ (by unfold wU sc; omega)]
    obtain ⟨e1, e2, e3⟩ := a6 i hi
    refine ⟨e1, fun z => ⟨(e2 z).1, (e2 z).2.1, fun j hj => ?_⟩, e3⟩
    rw [k.2.2.2.2.2 _ _ (by unfold wU sc; omega)]; exact (e2 z).2.2 j hj
  · rw [sRu_pl (by omega) (by omega), q _ _ (by unfold wU sc; omega)]; exact a7
  · rw [sRu_pl (by omega) (by omega)] at i1
    rw [sRu_pl (by omega) (by omega), q _ _ (by unfold wU sc; omega)]; exact a8 i i1 i2
  · rw [sRu_pl (by omega) (by omega), q _ _ (by unfold wU sc; omega)]; exact a9
  · rw [sRu_pl (i := 23) (by omega) (by omega)] at z ⊢
    rw [sRu_K]
    rcases V.2.2.2.1 with v4 | v4
    · rw [v4] at z; cases z
    · exact CW_fr (Or.inr rfl) (fun a j z => by unfold wU sc at z; omega) k v4.2.1 (a10 z)
def wV (R : Nat) (a k : Nat) : Prop := scm a k ∨ (a = 261 ∧ k = 4) ∨ (a = 261 ∧ k = 1) ∨ (a = 273 ∧ 14 * R ≤ k)
theorem sRu_Mk (V : Vs s) (hR : sR s < 6) (c : MS h s) (k : Kg (wV (sR s)) h h') (g1 : hI h' 261 4 = -ni 1) (g2 : hI h' 261 1 = ni (sR s + 1)) (g3 : ∀ j, j < 14 → hI h' 273 (14 * sR s + j) = ni (tl j)) : Mok h h' (sRu s tl) := by
  obtain ⟨⟨a1, a2, a3, a4, a5⟩, a6, a7, a8, a9, a10, ⟨a11, a12⟩, a13, a14⟩ := c
  have q : ∀ a j, ¬ wV (sR s) a j → hI h' a j = hI h a j := fun a j n => k.2.2.2.2.1 a j n
  have q9 : ∀ i j, i ≤ 16 → i ≠ 9 → nP h' i j = nP h i j := fun i j h0 n => by
    have := mc_ok h0
    have m9 : mc i ≠ 273 := by unfold mc; split <;> omega
    exact q _ _ (by unfold wV scm; omega)
  refine ⟨⟨⟨?_, g2, ?_, ?_, g1⟩, fun j hj => ?_, fun j hj => ?_, fun j hj => ?_, ?_, fun i hi => ?_, ⟨?_, fun i i1 i2 => ?_⟩, ?_, fun z => ?_⟩, Kg_mono (fun a j z => by unfold wV scm at z; unfold wm; omega) k⟩
  · rw [sRu_M, q _ _ (by unfold wV scm; omega)]; exact a1
  · rw [sRu_S, q _ _ (by unfold wV scm; omega)]; exact a3
  · rw [sRu_F, q _ _ (by unfold wV scm; omega)]; exact a4
  · rw [q _ _ (by unfold wV scm; omega)]; exact a6 j hj
  · rw [q _ _ (by unfold wV scm; omega)]; exact a7 j hj
  · rw [q _ _ (by unfold wV scm; omega)]; exact a8 j hj
  · obtain ⟨m1, m2, m3⟩ := a9
    refine ⟨fun m hm => ?_, fun r hr j hj => ?_, fun t ht => ?_⟩
    · rw [sRu_M] at hm
      have := m1 m hm
      rw [sRu_pl (i := 0) (by omega) (by omega), sRu_pl (i := 1) (by omega) (by omega), sRu_pl (i := 2) (by omega) (by omega), sRu_pl (i := 3) (by omega) (by omega), sRu_pl (i := 4) (by omega) (by omega), sRu_pl (i := 5) (by omega) (by omega), sRu_pl (i := 6) (by omega) (by omega), sRu_pl (i := 7) (by omega) (by omega), sRu_pl (i := 8) (by omega) (by omega), q9 0 _ (by omega) (by omega), q9 1 _ (by omega) (by omega), q9 2 _ (by omega) (by omega), q9 3 _ (by omega) (by omega), q9 4 _ (by omega) (by omega), q9 5 _ (by omega) (by omega)]
      refine ⟨this.1, this.2.1, this.2.2.1, this.2.2.2.1, this.2.2.2.2.1, this.2.2.2.2.2.1, fun j hj => ?_⟩
      rw [q9 6 _ (by omega) (by omega), q9 7 _ (by omega) (by omega), q9 8 _ (by omega) (by omega)]
      exact this.2.2.2.2.2.2 j hj
    · rw [sRu_R] at hr
      by_cases y : r = sR s
      · subst y
        rw [sRu_n hj]; exact g3 j hj
      · rw [sRu_o (by omega) hj]
        have e : nP h' 9 (14 * r + j) = nP h 9 (14 * r + j) := q 273 _ (by unfold wV scm; omega)
        rw [e]; exact m2 r (by omega) j hj
    · rw [sRu_S] at ht
      have := m3 t ht
      rw [sRu_pl (i := 10) (by omega) (by omega), sRu_pl (i := 11) (by omega) (by omega), sRu_pl (i := 12) (by omega) (by omega), sRu_pl (i := 13) (by omega) (by omega), sRu_pl (i := 14) (by omega) (by omega), sRu_pl (i := 15) (by omega) (by omega), sRu_pl (i := 16) (by omega) (by omega), q9 10 _ (by omega) (by omega), q9 16 _ (by omega) (by omega)]
      refine ⟨this.1, this.2.1, fun r hr => ?_⟩
      rw [q9 11 _ (by omega) (by omega), q9 12 _ (by omega) (by omega), q9 13 _ (by omega) (by omega)]
      have f := this.2.2 r hr
      refine ⟨f.1, f.2.1, f.2.2.1, fun i hi => ?_, fun i hi => ?_⟩
      · rw [q9 14 _ (by omega) (by omega)]; exact f.2.2.2.1 i hi
      · rw [q9 15 _ (by omega) (by omega)]; exact f.2.2.2.2 i hi
  · rw [sRu_pl (i := 17) (by omega) (by omega), sRu_pl (i := 18) (by omega) (by omega), sRu_pl (i := 19) (by omega) (by omega), sRu_pl (i := 20) (by omega) (by omega), sRu_pl (i := 21) (by omega) (by omega), q _ _ (by unfold wV scm; omega), q _ _ (by unfold wV scm; omega), q _ _ (by unfold wV scm; omega), q _ _ (by unfold wV scm; omega)]
    obtain ⟨e1, e2, e3⟩ := a10 i hi
    refine ⟨e1, fun z => ⟨(e2 z).1, (e2 z).2.1, fun j hj => ?_⟩, e3⟩
    rw [k.2.2.2.2.2 _ _ (by unfold wV scm; omega)]; exact (e2 z).2.2 j hj
  · rw [sRu_pl (by omega) (by omega), q _ _ (by unfold wV scm; omega)]; exact a11
  · rw [sRu_pl (by omega) (by omega)] at i1
    rw [sRu_pl (by omega) (by omega), q _ _ (by unfold wV scm; omega)]; exact a12 i i1 i2
  · rw [sRu_pl (by omega) (by omega), q _ _ (by unfold wV scm; omega)]; exact a13
  · rw [sRu_pl (i := 23) (by omega) (by omega)] at z ⊢
    obtain ⟨b1, b2, b3, b4⟩ := a14 z
    rw [sRu_K, q _ _ (by unfold wV scm; omega), q _ _ (by unfold wV scm; omega), q _ _ (by unfold wV scm; omega)]
    have ek : kP h' = kP h := by
      funext i j
      exact q 302 _ (by unfold wV scm; omega)
    rw [ek]
    exact ⟨b1, b2, b3, b4⟩
end SRU
