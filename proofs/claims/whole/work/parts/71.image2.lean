/-! image, restore: both sides -/
theorem CW_tr {h h' : am_H} {d e : Nat} {D : Nat → Nat → Nat} {M nR nS F : Nat} (V : Vw D M nR nS) (z1 : ∀ j, j = 1 ∨ j = 3 ∨ j = 4 ∨ j = 7 → hI h' (28 + d) j = hI h (28 + e) j) (z2 : ∀ m, m < 24 → Mcp d e h h' m) (z3 : ∀ r, r < 6 → Rcp d e h h' r) (z4 : ∀ t, t < 8 → Wcp d e h h' t) (z5 : ∀ k, k < 64 → hR h' (37 + d) k = hR h (37 + e) k) (z6 : ∀ a k, 303 ≤ a → hI h' a k = hI h a k ∧ hR h' a k = hR h a k) (z7 : hK h' = hK h) (z8 : hN h' = hN h) (c : CW h e D M nR nS F) : CW h' d D M nR nS F := by
  obtain ⟨v1, v2, v3, v4, v5, v6⟩ := V
  obtain ⟨⟨b1, b2, b3, b4⟩, b5, b6, b7⟩ := c
  refine ⟨⟨?_, ?_, ?_, ?_⟩, fun m hm => ?_, fun r hr j hj => ?_, fun t ht => ?_⟩
  · rw [z1 1 (by omega)]; exact b1
  · rw [z1 3 (by omega)]; exact b2
  · rw [z1 7 (by omega)]; exact b3
  · rw [z1 4 (by omega)]; exact b4
  · obtain ⟨c1, c2, c3, c4, c5, c6, c7⟩ := b5 m hm
    obtain ⟨y1, y2⟩ := z2 m (by omega)
    have t3 : D 5 m ≤ 3 := (v4 m hm).2.2.2.2.1
    refine ⟨(y1 0 (by omega)).trans c1, (y1 1 (by omega)).trans c2, (y1 2 (by omega)).trans c3, (y1 3 (by omega)).trans c4, (y1 5 (by omega)).trans c5, fun y => (y1 4 (by omega)).trans (c6 y), fun j hj => ?_⟩
    obtain ⟨x1, x2, x3⟩ := y2 j (by omega)
    obtain ⟨w1, w2, w3⟩ := c7 j hj
    exact ⟨x1.trans w1, x2.trans w2, x3.trans w3⟩
  · exact (z3 r (by omega) j hj).trans (b6 r hr j hj)
  · obtain ⟨c1, c2, c3⟩ := b7 t ht
    have n8 : D 10 t ≤ 8 := (v6 t ht).1.2.1
    refine ⟨(z4 t (by omega)).1.trans c1, (z4 t (by omega)).2.trans c2, fun r hr => ?_⟩
    obtain ⟨a, w, l, q1, q⟩ := c3 r hr
    refine ⟨a, w, l, (z5 (8 * t + r) (by omega)).trans q1, ?_⟩
    obtain ⟨⟨r1, r2, r3, r4, r5⟩, p1, p2, p3, p4, p5, p6, p7, p8, p9, p10, p11, p12⟩ := q
    exact ⟨⟨by rw [z7]; exact r1, by rw [(z6 a 3 p1).2]; exact r2, by rw [z7]; exact r3, by rw [(z6 a 4 p1).2]; exact r4, by rw [z7]; exact r5⟩, p1, p2, p3, by rw [z8]; exact p4, by rw [z8]; exact p5, by rw [z8]; exact p6, by rw [z7]; exact p7, by rw [(z6 a 0 p1).1]; exact p8, by rw [(z6 a 1 p1).1]; exact p9, by rw [(z6 a 2 p1).1]; exact p10, fun i hi => by rw [(z6 w i p2).1]; exact p11 i hi, fun i hi => by rw [(z6 l i p3).1]; exact p12 i hi⟩
section BCS
variable {h h' : am_H} {d e : Nat}
theorem BC_Sh (hd : (d = 0 ∧ e = 110) ∨ (d = 110 ∧ e = 0)) (b : BC d e h h') (hs : Sh h) : Sh h' := by
  obtain ⟨b1, b2, b3, b4, b5, b6, b7, b8, b9, b10, b11⟩ := b
  have okn : ∀ x, am_okr h' x [0, 1, 2, 3, 6, 7, 9] = am_okr h x [0, 1, 2, 3, 6, 7, 9] := fun x => by unfold am_okr; rw [b3]
  refine ⟨fun a h1 h2 => by rw [b3]; exact hs.1 a h1 h2, fun a j r z => ?_, by rw [b1, b3]; exact hs.2.2.1, fun k hk => ?_⟩
  · rw [b4 a j (fun y => by rcases hd with ⟨rfl, rfl⟩ | ⟨rfl, rfl⟩ <;> (rw [y.1] at z; cases z)) (fun y => by rw [y.1, y.2] at z; cases z) (fun y => by subst y; cases z)]
    exact hs.2.1 a j r z
  · have ok := hs.2.2.2 k hk
    have b5' := b5 k hk
    rw [okn, okn]
    rcases hd with ⟨rfl, rfl⟩ | ⟨rfl, rfl⟩
    · rw [show hR h' 37 k = hR h 147 k from b5', b4 147 k (by omega) (by omega) (by omega)]
      exact ⟨ok.2, ok.2⟩
    · rw [show hR h' 147 k = hR h 37 k from b5', b4 37 k (by omega) (by omega) (by omega)]
      exact ⟨ok.1, ok.1⟩
theorem BC_cp (hd : (d = 0 ∧ e = 110) ∨ (d = 110 ∧ e = 0)) (b : BC d e h h') {D : Nat → Nat → Nat} {M nR nS F : Nat} (V : Vw D M nR nS) (c : CW h e D M nR nS F) : CW h' d D M nR nS F := by
  obtain ⟨b1, b2, b3, b4, b5, b6, b7, ⟨b8, b81, b82, b83⟩, b9, b10, b11⟩ := b
  refine CW_tr V (fun j hj => ?_) b9 b10 b11 b5 (fun a k z => ⟨b6 a k (by omega), b4 a k (by omega) (by omega) (by omega)⟩) b3 b1 c
  rcases hj with rfl | rfl | rfl | rfl
  · exact b8
  · exact b81
  · exact b82
  · exact b83
theorem BC_fr (hd : (d = 0 ∧ e = 110) ∨ (d = 110 ∧ e = 0)) (b : BC d e h h') {D : Nat → Nat → Nat} {M nR nS F : Nat} (V : Vw D M nR nS) (c : CW h e D M nR nS F) : CW h' e D M nR nS F := by
  obtain ⟨b1, b2, b3, b4, b5, b6, b7, b8, b9, b10, b11⟩ := b
  exact CW_tr V (fun j hj => b6 _ _ (by omega)) (fun m hm => ⟨fun k hk => b6 _ _ (by omega), fun k hk => ⟨b6 _ _ (by omega), b6 _ _ (by omega), b6 _ _ (by omega)⟩⟩) (fun r hr j hj => b6 _ _ (by omega)) (fun t ht => ⟨b6 _ _ (by omega), b6 _ _ (by omega)⟩) (fun k hk => b4 _ _ (by omega) (by omega) (by omega)) (fun a k z => ⟨b6 a k (by omega), b4 a k (by omega) (by omega) (by omega)⟩) b3 b1 c
end BCS
-- image
def sIm (s : Sg) : Sg := (fun i k => if 32 ≤ i then sD s (i - 32) k else if i = 23 then [1, sM s, sR s, sS s, sD s 22 3].getD k 0 else sD s i k, sE s, sF s, sX s)
theorem sIm_pl {s : Sg} {i : Nat} (h1 : i < 32) (h2 : i ≠ 23) : sD (sIm s) i = sD s i := by
  funext k
  show (if 32 ≤ i then sD s (i - 32) k else if i = 23 then [1, sM s, sR s, sS s, sD s 22 3].getD k 0 else sD s i k) = _
  rw [if_neg (by omega), if_neg h2]
theorem sIm_K {s : Sg} : sKp (sIm s) = sD s := by
  funext i k
  show (if 32 ≤ 32 + i then sD s (32 + i - 32) k else if 32 + i = 23 then [1, sM s, sR s, sS s, sD s 22 3].getD k 0 else sD s (32 + i) k) = _
  rw [if_pos (by omega), Nat.add_sub_cancel_left]
theorem sIm_M {s : Sg} : sM (sIm s) = sM s := by unfold sM; rw [sIm_pl (by omega) (by omega)]
theorem sIm_R {s : Sg} : sR (sIm s) = sR s := by unfold sR; rw [sIm_pl (by omega) (by omega)]
theorem sIm_S {s : Sg} : sS (sIm s) = sS s := by unfold sS; rw [sIm_pl (by omega) (by omega)]
theorem sIm_0 {s : Sg} : sD (sIm s) 23 0 = 1 := rfl
theorem sIm_1 {s : Sg} : sD (sIm s) 23 1 = sM s := rfl
theorem sIm_2 {s : Sg} : sD (sIm s) 23 2 = sR s := rfl
theorem sIm_3 {s : Sg} : sD (sIm s) 23 3 = sS s := rfl
theorem sIm_4 {s : Sg} : sD (sIm s) 23 4 = sD s 22 3 := rfl
theorem sIm_V {s : Sg} (V : Vs s) : Vs (sIm s) := by
  obtain ⟨v1, v2, v3, v4, v5⟩ := V
  refine ⟨?_, ?_, fun i hi => ?_, Or.inr ⟨rfl, ?_, ?_, ?_, fun t ht => ?_⟩, ?_⟩
  · rw [sIm_M, sIm_R, sIm_S]; exact Vw_eq (fun i hi => sIm_pl (by omega) (by omega)) v1
  · rw [sIm_R, sIm_pl (i := 22) (by omega) (by omega)]; exact v2
  · rw [sIm_S, sIm_pl (i := 17) (by omega) (by omega), sIm_pl (i := 18) (by omega) (by omega), sIm_pl (i := 19) (by omega) (by omega), sIm_pl (i := 20) (by omega) (by omega), sIm_pl (i := 21) (by omega) (by omega), sIm_pl (i := 10) (by omega) (by omega)]; exact v3 i hi
  · rw [sIm_K, sIm_1, sIm_2, sIm_3]; exact v1
  · rw [sIm_4, sIm_2]; exact v2
  · rw [sIm_3, sIm_S]; exact Nat.le_refl _
  · rw [sIm_K, sIm_pl (i := 10) (by omega) (by omega)]
  · rw [sIm_pl (i := 24) (by omega) (by omega)]; exact v5
theorem sIm_C {h h1 : am_H} {s : Sg} (V : Vs s) (hs : Sh h) (c : CS h s) (b : BC 110 0 h h1) : Cok h (pI h1 16 5 1) (sIm s) := by
  have hs1 : Sh h1 := BC_Sh (Or.inr ⟨rfl, rfl⟩) b hs
  have v1 := V.1
  have vR' := vR V
  obtain ⟨a1, a2, a3, a4, a5, a6, ⟨a7, a8⟩, a9, a10⟩ := c
  have w0 := BC_fr (Or.inr ⟨rfl, rfl⟩) b v1 a5
  have w1 := BC_cp (Or.inr ⟨rfl, rfl⟩) b v1 a5
  have kg : Kg (fun a _ => a = 16) h1 (pI h1 16 5 1) := Kg_pI rfl (Kg_refl h1)
  have q : ∀ a k, ¬ (138 ≤ a ∧ a < 248) → ¬ (a = 16 ∧ k = 5) → hI (pI h1 16 5 1) a k = hI h a k := fun a k n1 n2 => by
    rw [hI_pI, if_neg n2]; exact b.2.2.2.2.2.1 a k (by omega)
  have ql : ∀ a k, ¬ (138 ≤ a ∧ a < 248) → hL (pI h1 16 5 1) a k = hL h a k := fun a k n1 => b.2.2.2.2.2.2.1 a k (by omega)
  refine ⟨hs1, ?_, fun a k z1 z2 z3 => ⟨q a k (by omega) (by omega), ql a k (by omega)⟩, ?_, ?_, ?_, ?_, fun k => q 15 k (by omega) (by omega)⟩
  · refine ⟨?_, fun j hj => ?_, fun j hj => ?_, fun j hj => ?_, ?_, fun i hi => ?_, ⟨?_, fun i h1' h2' => ?_⟩, pe, fun _ => ?_⟩
    · rw [q _ _ (by omega) (by omega)]; exact a1
    · rw [q _ _ (by omega) (by omega)]; exact a2 j hj
    · rw [q _ _ (by omega) (by omega)]; exact a3 j hj
    · rw [q _ _ (by omega) (by omega)]; exact a4 j hj
    · rw [sIm_M, sIm_R, sIm_S, sIm_pl (i := 22) (by omega) (by omega)]
      exact CW_eq (fun i hi => sIm_pl (by omega) (by omega)) (CW_fr (Or.inl rfl) (fun a k z => by omega) kg v1 w0)
    · rw [sIm_pl (i := 17) (by omega) (by omega), sIm_pl (i := 18) (by omega) (by omega), sIm_pl (i := 19) (by omega) (by omega), sIm_pl (i := 20) (by omega) (by omega), sIm_pl (i := 21) (by omega) (by omega), q _ _ (by omega) (by omega), q _ _ (by omega) (by omega)]
      obtain ⟨b1, b2, b3⟩ := a6 i hi
      exact ⟨b1, fun z => ⟨(b2 z).1, (b2 z).2.1, fun y hy => by rw [ql _ _ (by omega)]; exact (b2 z).2.2 y hy⟩, b3⟩
    · rw [sIm_pl (i := 24) (by omega) (by omega), q _ _ (by omega) (by omega)]; exact a7
    · rw [sIm_pl (i := 24) (by omega) (by omega)] at h1'
      rw [sIm_pl (i := 25) (by omega) (by omega), q _ _ (by omega) (by omega)]; exact a8 i h1' h2'
    · rw [sIm_K, sIm_1, sIm_2, sIm_3, sIm_4]
      exact CW_fr (Or.inr rfl) (fun a k z => by omega) kg v1 w1
  · show hN h ≤ hN h1
    rw [b.1]; exact Nat.le_refl _
  · show hN h1 ≤ hN h + 24
    rw [b.1]; exact Nat.le_add_right _ _
  · show hSl h1 ≤ hSl h + 1000
    rw [b.2.1]; exact Nat.le_add_right _ _
  · show hK h1 15 = hK h 15
    rw [b.2.2.1]
theorem szk_K {h : am_H} {P : Nat → Nat → Int32} {D : Nat → Nat → Nat} {M nR nS : Nat} (V : Vw D M nR nS) {Q : Nat → Nat → Int32} (e : ∀ i k, i ≤ 16 → k < szk i → P i k = Q i k) (c : MP Q D M nR nS) : MP P D M nR nS := MP_congr V (fun i k h0 h1 h2 h3 h4 h5 h6 => e i k h0 (szk_k h0 h1 h2 h3 h4 h5 h6)) c
theorem sIm_Mk {h h1 : am_H} {s : Sg} (V : Vs s) (c : MS h s) (e : Kg (fun a k => a = 302 ∨ (a = 261 ∧ 55 ≤ k ∧ k ≤ 58)) h h1) (e5 : hI h1 261 55 = ni (sS s)) (e6 : hI h1 261 56 = ni (sM s)) (e7 : hI h1 261 57 = ni (sR s)) (e8 : hI h1 261 58 = fI (sD s 22 3)) (g : ∀ i, i < 17 → ∀ k, k < szk i → hI h1 302 (ko i + k) = hI h (mc i) k) : Mok h h1 (sIm s) := by
  refine ⟨?_, Kg_mono (fun a k z => by unfold wm; omega) e⟩
  have v1 := V.1
  obtain ⟨⟨a1, a2, a3, a4, a5⟩, a6, a7, a8, a9, a10, ⟨a11, a12⟩, a13, a14⟩ := c
  have q : ∀ a k, ¬ (a = 302 ∨ (a = 261 ∧ 55 ≤ k ∧ k ≤ 58)) → hI h1 a k = hI h a k := fun a k n => e.2.2.2.2.1 a k n
  refine ⟨⟨?_, ?_, ?_, ?_, ?_⟩, fun j hj => ?_, fun j hj => ?_, fun j hj => ?_, ?_, fun i hi => ?_, ⟨?_, fun i h1' h2' => ?_⟩, e5, fun _ => ⟨e6, e7, e8, ?_⟩⟩
  · rw [sIm_M, q _ _ (by omega)]; exact a1
  · rw [sIm_R, q _ _ (by omega)]; exact a2
  · rw [sIm_S, q _ _ (by omega)]; exact a3
  · rw [sIm_pl (i := 22) (by omega) (by omega), q _ _ (by omega)]; exact a4
  · rw [q _ _ (by omega)]; exact a5
  · rw [q _ _ (by omega)]; exact a6 j hj
  · rw [q _ _ (by omega)]; exact a7 j hj
  · rw [q _ _ (by omega)]; exact a8 j hj
  · rw [sIm_M, sIm_R, sIm_S]
    refine MP_eq (fun i hi => sIm_pl (by omega) (by omega)) (MP_congr v1 (fun i k h0 _ _ _ _ _ _ => ?_) a9)
    have := mc_ok h0
    exact q _ _ (by omega)
  · rw [sIm_pl (i := 17) (by omega) (by omega), sIm_pl (i := 18) (by omega) (by omega), sIm_pl (i := 19) (by omega) (by omega), sIm_pl (i := 20) (by omega) (by omega), sIm_pl (i := 21) (by omega) (by omega), q _ _ (by omega), q _ _ (by omega), q _ _ (by omega), q _ _ (by omega)]
    obtain ⟨b1, b2, b3⟩ := a10 i hi
    exact ⟨b1, fun z => ⟨(b2 z).1, (b2 z).2.1, fun y hy => by rw [e.2.2.2.2.2 _ _ (by omega)]; exact (b2 z).2.2 y hy⟩, b3⟩
  · rw [sIm_pl (i := 24) (by omega) (by omega), q _ _ (by omega)]; exact a11
  · rw [sIm_pl (i := 24) (by omega) (by omega)] at h1'
    rw [sIm_pl (i := 25) (by omega) (by omega), q _ _ (by omega)]; exact a12 i h1' h2'
  · rw [sIm_K]
    exact szk_K (h := h) v1 (fun i k h0 hk => g i (by omega) k hk) a9
theorem C268 {s : Sg} (V : Vs s) : HC 268 [] s (vi (ni (sS s))) (sIm s) := fun h hs c => by
  obtain ⟨h1, d, b⟩ := D267_1 hs
  have hs1 : Sh h1 := BC_Sh (Or.inr ⟨rfl, rfl⟩) b hs
  refine ⟨pI h1 16 5 1, ?_, sIm_C V hs c b⟩
  have e : hI (pI h1 16 5 1) 28 7 = ni (sS s) := by
    rw [hI_pI, if_neg (by omega), b.2.2.2.2.2.1 28 7 (by omega)]; exact cS c
  rw [d_268 hs, d]
  simp only [Option.bind_some, Option.toList_none, List.nil_append]
  rw [e_268_11 hs1, e]
def im4 (h : am_H) (S M R : Nat) (F : Int32) : am_H := pI (pI (pI (pI h 261 55 (ni S)) 261 56 (ni M)) 261 57 (ni R)) 261 58 F
theorem im4_n {h : am_H} {S M R : Nat} {F : Int32} {a k : Nat} (z : ¬ (a = 261 ∧ 55 ≤ k ∧ k ≤ 58)) : hI (im4 h S M R F) a k = hI h a k := by
  unfold im4
  rw [hI_pI, if_neg (by omega), hI_pI, if_neg (by omega), hI_pI, if_neg (by omega), hI_pI, if_neg (by omega)]
theorem im4_5 {h : am_H} {S M R : Nat} {F : Int32} : hI (im4 h S M R F) 261 55 = ni S := by
  unfold im4
  rw [hI_pI, if_neg (by omega), hI_pI, if_neg (by omega), hI_pI, if_neg (by omega), hI_pI, if_pos ⟨rfl, rfl⟩]
theorem im4_6 {h : am_H} {S M R : Nat} {F : Int32} : hI (im4 h S M R F) 261 56 = ni M := by
  unfold im4
  rw [hI_pI, if_neg (by omega), hI_pI, if_neg (by omega), hI_pI, if_pos ⟨rfl, rfl⟩]
theorem im4_7 {h : am_H} {S M R : Nat} {F : Int32} : hI (im4 h S M R F) 261 57 = ni R := by
  unfold im4
  rw [hI_pI, if_neg (by omega), hI_pI, if_pos ⟨rfl, rfl⟩]
theorem im4_8 {h : am_H} {S M R : Nat} {F : Int32} : hI (im4 h S M R F) 261 58 = F := by
  unfold im4
  rw [hI_pI, if_pos ⟨rfl, rfl⟩]
theorem im4_K {h : am_H} {S M R : Nat} {F : Int32} : Kg (fun a k => a = 302 ∨ (a = 261 ∧ 55 ≤ k ∧ k ≤ 58)) h (im4 h S M R F) := Kg_pI (by omega) (Kg_pI (by omega) (Kg_pI (by omega) (Kg_pI (by omega) (Kg_refl h))))
theorem im4_e {h : am_H} {s : Sg} (hs : Sh h) (c : MS h s) : am_D 271 [vr (some 261)] h = (am_D 270 [vr (some 261), vi 0] (im4 h (sS s) (sM s) (sR s) (fI (sD s 22 3)))).bind fun q9 => am_E 271 (37, [some (vr (some 261))], q9.1.toList ++ [], q9.2) := by
  have e0 : hI h 261 2 = ni (sS s) := mS c
  have e1 : hI (pI h 261 55 (ni (sS s))) 261 0 = ni (sM s) := by rw [hI_pI, if_neg (by omega)]; exact mM c
  have e2 : hI (pI (pI h 261 55 (ni (sS s))) 261 56 (ni (sM s))) 261 1 = ni (sR s) := by rw [hI_pI, if_neg (by omega), hI_pI, if_neg (by omega)]; exact mR c
  have e3 : hI (pI (pI (pI h 261 55 (ni (sS s))) 261 56 (ni (sM s))) 261 57 (ni (sR s))) 261 3 = fI (sD s 22 3) := by rw [hI_pI, if_neg (by omega), hI_pI, if_neg (by omega), hI_pI, if_neg (by omega)]; exact mF c
  rw [d_271 hs, e0, e1, e2, e3]
  rfl
theorem M271 {s : Sg} (V : Vs s) : HM 271 [] s (vi (ni (sS s))) (sIm s) := fun h hs c => by
  have hs0 : Sh (im4 h (sS s) (sM s) (sR s) (fI (sD s 22 3))) := Kg_Sh im4_K hs
  obtain ⟨h1, d, kk⟩ := D270a hs0
  have hs1 := Kg_Sh kk.1 hs0
  have kg : Kg (fun a k => a = 302 ∨ (a = 261 ∧ 55 ≤ k ∧ k ≤ 58)) h h1 := Kg_trans im4_K (Kg_mono (fun a k z => Or.inl z) kk.1)
  have q : ∀ a j, a ≠ 302 → hI h1 a j = hI (im4 h (sS s) (sM s) (sR s) (fI (sD s 22 3))) a j := fun a j n => kk.1.2.2.2.2.1 a j n
  refine ⟨h1, ?_, sIm_Mk V c kg ?_ ?_ ?_ ?_ fun i hi j hj => ?_⟩
  · rw [im4_e hs c, d]
    simp only [Option.bind_some, Option.toList_none, List.nil_append]
    rw [e_271_37 hs1, q _ _ (by omega), im4_n (by omega), mS c]
  · rw [q _ _ (by omega)]; exact im4_5
  · rw [q _ _ (by omega)]; exact im4_6
  · rw [q _ _ (by omega)]; exact im4_7
  · rw [q _ _ (by omega)]; exact im4_8
  · have m1 := mc_in i (by omega)
    rw [kk.2 i hi j hj, im4_n (by omega)]
theorem A44 : Alike 268 271 [] := glue fun s V => ⟨ni (sS s), sIm s, sIm_V V, C268 V, M271 V⟩
