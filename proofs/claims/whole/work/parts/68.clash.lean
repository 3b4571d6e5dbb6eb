/-! clash, like -/
theorem bt_ni (x : Nat) {k : Nat} (hk : k < 32) : bt (ni x) k = x.testBit k := by
  show (BitVec.ofNat 32 x).getLsbD k = _
  rw [BitVec.getLsbD_ofNat, decide_eq_true hk, Bool.true_and]
theorem xor_ni (x : Nat) {k : Nat} (hk : k < 32) : ni x ^^^ (ni 1 <<< (ni k &&& ni 31)) = ni (x ^^^ 2 ^ k) := bt_ext fun j hj => by
  rw [bt_xor, bt_ni x hj, bt_one k hk j hj, bt_ni _ hj, Nat.testBit_xor, Nat.testBit_two_pow]
  congr 1
  exact decide_eq_decide.mpr ⟨fun z => z.symm, fun z => z.symm⟩
def sCl (s : Sg) (a b : Nat) : Sg := (fun i k => if i = 16 ∧ k = a then sD s 16 a ^^^ 2 ^ b else if i = 16 ∧ k = b then sD s 16 b ^^^ 2 ^ a else sD s i k, sE s, sF s, sX s)
section CLA
variable {s : Sg} {a b : Nat}
theorem sCl_pl {i : Nat} (hi : i ≠ 16) : sD (sCl s a b) i = sD s i := by
  funext k
  show (if i = 16 ∧ k = a then sD s 16 a ^^^ 2 ^ b else if i = 16 ∧ k = b then sD s 16 b ^^^ 2 ^ a else sD s i k) = _
  rw [if_neg (fun z => hi z.1), if_neg (fun z => hi z.1)]
theorem sCl_a : sD (sCl s a b) 16 a = sD s 16 a ^^^ 2 ^ b := if_pos ⟨rfl, rfl⟩
theorem sCl_b (h : a ≠ b) : sD (sCl s a b) 16 b = sD s 16 b ^^^ 2 ^ a := by
  show (if 16 = 16 ∧ b = a then sD s 16 a ^^^ 2 ^ b else if 16 = 16 ∧ b = b then sD s 16 b ^^^ 2 ^ a else sD s 16 b) = _
  rw [if_neg (fun z => h z.2.symm), if_pos ⟨rfl, rfl⟩]
theorem sCl_n {k : Nat} (h1 : k ≠ a) (h2 : k ≠ b) : sD (sCl s a b) 16 k = sD s 16 k := by
  show (if 16 = 16 ∧ k = a then sD s 16 a ^^^ 2 ^ b else if 16 = 16 ∧ k = b then sD s 16 b ^^^ 2 ^ a else sD s 16 k) = _
  rw [if_neg (fun z => h1 z.2), if_neg (fun z => h2 z.2)]
theorem sCl_M : sM (sCl s a b) = sM s := by unfold sM; rw [sCl_pl (by omega)]
theorem sCl_R : sR (sCl s a b) = sR s := by unfold sR; rw [sCl_pl (by omega)]
theorem sCl_S : sS (sCl s a b) = sS s := by unfold sS; rw [sCl_pl (by omega)]
theorem sCl_K : sKp (sCl s a b) = sKp s := by funext i k; show sD (sCl s a b) (32 + i) k = sD s (32 + i) k; rw [sCl_pl (by omega)]
theorem sCl_tb (h : a ≠ b) (x y : Nat) : (sD (sCl s a b) 16 x).testBit y = Bool.xor ((sD s 16 x).testBit y) (decide ((x = a ∧ y = b) ∨ (x = b ∧ y = a))) := by
  by_cases z : x = a
  · subst z
    rw [sCl_a, Nat.testBit_xor, Nat.testBit_two_pow]
    congr 1
    exact decide_eq_decide.mpr (by omega)
  · by_cases w : x = b
    · subst w
      rw [sCl_b h, Nat.testBit_xor, Nat.testBit_two_pow]
      congr 1
      exact decide_eq_decide.mpr (by omega)
    · rw [sCl_n z w, decide_eq_false (by omega), Bool.xor_false]
theorem sCl_V (V : Vs s) (h : a ≠ b) (ha : a < sS s) (hb : b < sS s) : Vs (sCl s a b) := by
  obtain ⟨⟨x1, x2, x3, x4, x5, x6⟩, v2, v3, v4, v5⟩ := V
  refine ⟨?_, ?_, fun i hi => ?_, ?_, ?_⟩
  · rw [sCl_M, sCl_R, sCl_S]
    refine ⟨x1, x2, x3, fun m hm => ?_, fun r hr => ?_, fun t ht => ⟨?_, ?_, fun u hu => ?_⟩⟩
    · unfold Vm
      rw [sCl_pl (i := 0) (by omega), sCl_pl (i := 1) (by omega), sCl_pl (i := 2) (by omega), sCl_pl (i := 3) (by omega), sCl_pl (i := 4) (by omega), sCl_pl (i := 5) (by omega), sCl_pl (i := 6) (by omega), sCl_pl (i := 7) (by omega), sCl_pl (i := 8) (by omega)]; exact x4 m hm
    · unfold Vr; rw [sCl_pl (i := 9) (by omega)]; exact x5 r hr
    · unfold Vq
      rw [sCl_pl (i := 10) (by omega), sCl_pl (i := 11) (by omega), sCl_pl (i := 12) (by omega), sCl_pl (i := 13) (by omega), sCl_pl (i := 14) (by omega), sCl_pl (i := 15) (by omega)]; exact (x6 t ht).1
    · have y := (x6 t ht).2.1
      by_cases z : t = a
      · subst z; rw [sCl_a]; exact Nat.xor_lt_two_pow y (Nat.pow_lt_pow_right (by omega) hb)
      · by_cases w : t = b
        · subst w; rw [sCl_b h]; exact Nat.xor_lt_two_pow y (Nat.pow_lt_pow_right (by omega) ha)
        · rw [sCl_n z w]; exact y
    · rw [sCl_tb h, sCl_tb h, sCl_tb h, ((x6 t ht).2.2 u hu).1, ((x6 t ht).2.2 t ht).2]
      refine ⟨?_, ?_⟩
      · congr 1
        exact decide_eq_decide.mpr (by omega)
      · rw [decide_eq_false (by omega)]; rfl
  · rw [sCl_R, sCl_pl (i := 22) (by omega)]; exact v2
  · rw [sCl_S, sCl_pl (i := 17) (by omega), sCl_pl (i := 18) (by omega), sCl_pl (i := 19) (by omega), sCl_pl (i := 20) (by omega), sCl_pl (i := 21) (by omega), sCl_pl (i := 10) (by omega)]; exact v3 i hi
  · rw [sCl_K, sCl_S, sCl_pl (i := 23) (by omega), sCl_pl (i := 10) (by omega)]; exact v4
  · rw [sCl_pl (i := 24) (by omega)]; exact v5
theorem sCl_C {h h' : am_H} (V : Vs s) (hab : a ≠ b) (hs : Sh h) (c : CS h s) (e : Kg (fun c _ => c = 39) h h') (hk : ∀ t, t < sS s → hI h' 39 t = ni (sD (sCl s a b) 16 t)) : Cok h h' (sCl s a b) := by
  refine ⟨Kg_Sh e hs, ?_, Kg_Mq (fun a k z => by omega) e, by rw [e.1]; exact Nat.le_refl _, by rw [e.1]; exact Nat.le_add_right _ _, by rw [e.2.1]; exact Nat.le_add_right _ _, by rw [e.2.2.1], fun j => e.2.2.2.2.1 15 j (by omega)⟩
  obtain ⟨a1, a2, a3, a4, ⟨⟨b1, b2, b3, b4⟩, b5, b6, b7⟩, a6, ⟨a7, a8⟩, a9, a10⟩ := c
  have vR' := vR V
  have vM' := vM V
  have q : ∀ a j, a ≠ 39 → hI h' a j = hI h a j := fun a j n => e.2.2.2.2.1 a j n
  refine ⟨?_, fun i hi => ?_, fun i hi => ?_, fun i hi => ?_, ⟨⟨?_, ?_, ?_, ?_⟩, fun n hn => ?_, fun r hr i hi => ?_, fun t ht => ?_⟩, fun i hi => ?_, ⟨?_, fun i i1 i2 => ?_⟩, ?_, fun z => ?_⟩
  · rw [q _ _ (by omega)]; exact a1
  · rw [q _ _ (by omega)]; exact a2 i hi
  · rw [q _ _ (by omega)]; exact a3 i hi
  · rw [q _ _ (by omega)]; exact a4 i hi
  · rw [sCl_M, q _ _ (by omega)]; exact b1
  · rw [sCl_R, q _ _ (by omega)]; exact b2
  · rw [sCl_S, q _ _ (by omega)]; exact b3
  · rw [sCl_pl (i := 22) (by omega), q _ _ (by omega)]; exact b4
  · rw [sCl_M] at hn
    obtain ⟨c1, c2, c3, c4, c5, c6, c7⟩ := b5 n hn
    unfold CM
    rw [sCl_pl (i := 0) (by omega), sCl_pl (i := 1) (by omega), sCl_pl (i := 2) (by omega), sCl_pl (i := 3) (by omega), sCl_pl (i := 4) (by omega), sCl_pl (i := 5) (by omega), sCl_pl (i := 6) (by omega), sCl_pl (i := 7) (by omega), sCl_pl (i := 8) (by omega)]
    refine ⟨by rw [q _ _ (by omega)]; exact c1, by rw [q _ _ (by omega)]; exact c2, by rw [q _ _ (by omega)]; exact c3, by rw [q _ _ (by omega)]; exact c4, by rw [q _ _ (by omega)]; exact c5, fun y => by rw [q _ _ (by omega)]; exact c6 y, fun j hj => ?_⟩
    rw [q _ _ (by omega), q _ _ (by omega), q _ _ (by omega)]
    exact c7 j hj
  · rw [sCl_R] at hr
    rw [sCl_pl (by omega), q _ _ (by omega)]; exact b6 r hr i hi
  · rw [sCl_S] at ht
    rw [sCl_pl (i := 10) (by omega), q (38 + 0) _ (by omega)]
    obtain ⟨d1, d2, d3⟩ := b7 t ht
    refine ⟨d1, hk t ht, fun r hr => ?_⟩
    obtain ⟨a', w, l, c1, c2⟩ := d3 r hr
    refine ⟨a', w, l, ?_, ?_⟩
    · rw [e.2.2.2.1 _ _ (by omega) (by omega)]; exact c1
    have c3 := CQ_fr (fun a k z => by omega) e c2
    unfold CQ at c3 ⊢
    rw [sCl_pl (i := 11) (by omega), sCl_pl (i := 12) (by omega), sCl_pl (i := 13) (by omega), sCl_pl (i := 14) (by omega), sCl_pl (i := 15) (by omega)]
    exact c3
  · rw [sCl_pl (i := 17) (by omega), sCl_pl (i := 18) (by omega), sCl_pl (i := 19) (by omega), sCl_pl (i := 20) (by omega), sCl_pl (i := 21) (by omega), q _ _ (by omega), q _ _ (by omega)]
    obtain ⟨b1, b2, b3⟩ := a6 i hi
    exact ⟨b1, fun z => ⟨(b2 z).1, (b2 z).2.1, fun y hy => by rw [e.2.2.2.2.2 _ _ (by omega)]; exact (b2 z).2.2 y hy⟩, b3⟩
  · rw [sCl_pl (i := 24) (by omega), q _ _ (by omega)]; exact a7
  · rw [sCl_pl (i := 24) (by omega)] at i1
    rw [sCl_pl (i := 25) (by omega), q _ _ (by omega)]; exact a8 i i1 i2
  · rw [sCl_pl (i := 23) (by omega), q _ _ (by omega)]; exact a9
  · rw [sCl_pl (i := 23) (by omega)] at z ⊢
    rw [sCl_K]
    rcases V.2.2.2.1 with v4 | v4
    · rw [v4] at z; cases z
    · exact CW_fr (Or.inr rfl) (fun a k z => by omega) e v4.2.1 (a10 z)
theorem sCl_Mk {h h' : am_H} (V : Vs s) (c : MS h s) (e : Kg (fun c _ => c = 280) h h') (hk : ∀ t, t < sS s → hI h' 280 t = ni (sD (sCl s a b) 16 t)) : Mok h h' (sCl s a b) := by
  refine ⟨?_, Kg_mono (fun a k z => by unfold wm; omega) e⟩
  obtain ⟨⟨a1, a2, a3, a4, a5⟩, a6, a7, a8, ⟨b1, b2, b3⟩, a10, ⟨a11, a12⟩, a13, a14⟩ := c
  have q : ∀ a k, a ≠ 280 → hI h' a k = hI h a k := fun a k n => e.2.2.2.2.1 a k n
  refine ⟨⟨?_, ?_, ?_, ?_, ?_⟩, fun j hj => ?_, fun j hj => ?_, fun j hj => ?_, ⟨fun n hn => ?_, fun r hr i hi => ?_, fun t ht => ?_⟩, fun i hi => ?_, ⟨?_, fun i h1 h2 => ?_⟩, ?_, fun z => ?_⟩
  · rw [sCl_M, q _ _ (by omega)]; exact a1
  · rw [sCl_R, q _ _ (by omega)]; exact a2
  · rw [sCl_S, q _ _ (by omega)]; exact a3
  · rw [sCl_pl (i := 22) (by omega), q _ _ (by omega)]; exact a4
  · rw [q _ _ (by omega)]; exact a5
  · rw [q _ _ (by omega)]; exact a6 j hj
  · rw [q _ _ (by omega)]; exact a7 j hj
  · rw [q _ _ (by omega)]; exact a8 j hj
  · rw [sCl_M] at hn
    show hI h' 263 n = _ ∧ hI h' 264 n = _ ∧ hI h' 265 n = _ ∧ hI h' 266 n = _ ∧ hI h' 268 n = _ ∧ (_ → hI h' 267 n = _) ∧ ∀ j, _ → hI h' 269 (3 * n + j) = _ ∧ hI h' 270 (3 * n + j) = _ ∧ hI h' 271 (3 * n + j) = _
    rw [sCl_pl (i := 0) (by omega), sCl_pl (i := 1) (by omega), sCl_pl (i := 2) (by omega), sCl_pl (i := 3) (by omega), sCl_pl (i := 4) (by omega), sCl_pl (i := 5) (by omega), sCl_pl (i := 6) (by omega), sCl_pl (i := 7) (by omega), sCl_pl (i := 8) (by omega)]
    obtain ⟨c1, c2, c3, c4, c5, c6, c7⟩ := b1 n hn
    refine ⟨by rw [q _ _ (by omega)]; exact c1, by rw [q _ _ (by omega)]; exact c2, by rw [q _ _ (by omega)]; exact c3, by rw [q _ _ (by omega)]; exact c4, by rw [q _ _ (by omega)]; exact c5, fun y => by rw [q _ _ (by omega)]; exact c6 y, fun j hj => ?_⟩
    rw [q _ _ (by omega), q _ _ (by omega), q _ _ (by omega)]
    exact c7 j hj
  · rw [sCl_R] at hr
    show hI h' 273 (14 * r + i) = _
    rw [sCl_pl (by omega), q _ _ (by omega)]; exact b2 r hr i hi
  · rw [sCl_S] at ht
    obtain ⟨d1, d2, d3⟩ := b3 t ht
    show hI h' 274 t = _ ∧ hI h' 280 t = _ ∧ ∀ r, _ → hI h' 275 _ = _ ∧ hI h' 276 _ = _ ∧ hI h' 277 _ = _ ∧ (∀ i, _ → hI h' 278 _ = _) ∧ ∀ i, _ → hI h' 279 _ = _
    rw [sCl_pl (i := 10) (by omega), q 274 _ (by omega)]
    rw [sCl_pl (i := 11) (by omega), sCl_pl (i := 12) (by omega), sCl_pl (i := 13) (by omega), sCl_pl (i := 14) (by omega), sCl_pl (i := 15) (by omega)]
    refine ⟨d1, hk t ht, fun r hr => ?_⟩
    obtain ⟨c1, c2, c3, c4, c5⟩ := d3 r hr
    refine ⟨by rw [q _ _ (by omega)]; exact c1, by rw [q _ _ (by omega)]; exact c2, by rw [q _ _ (by omega)]; exact c3, fun i hi => by rw [q _ _ (by omega)]; exact c4 i hi, fun i hi => by rw [q _ _ (by omega)]; exact c5 i hi⟩
  · rw [sCl_pl (i := 17) (by omega), sCl_pl (i := 18) (by omega), sCl_pl (i := 19) (by omega), sCl_pl (i := 20) (by omega), sCl_pl (i := 21) (by omega), q _ _ (by omega), q _ _ (by omega), q _ _ (by omega), q _ _ (by omega)]
    obtain ⟨b1, b2, b3⟩ := a10 i hi
    exact ⟨b1, fun z => ⟨(b2 z).1, (b2 z).2.1, fun y hy => by rw [e.2.2.2.2.2 _ _ (by omega)]; exact (b2 z).2.2 y hy⟩, b3⟩
  · rw [sCl_pl (i := 24) (by omega), q _ _ (by omega)]; exact a11
  · rw [sCl_pl (i := 24) (by omega)] at h1
    rw [sCl_pl (i := 25) (by omega), q _ _ (by omega)]; exact a12 i h1 h2
  · rw [sCl_pl (i := 23) (by omega), q _ _ (by omega)]; exact a13
  · rw [sCl_pl (i := 23) (by omega)] at z ⊢
    obtain ⟨b1, b2, b3, b4⟩ := a14 z
    rw [sCl_K]
    refine ⟨by rw [q _ _ (by omega)]; exact b1, by rw [q _ _ (by omega)]; exact b2, by rw [q _ _ (by omega)]; exact b3, ?_⟩
    rcases V.2.2.2.1 with v4 | v4
    · rw [v4] at z; cases z
    · exact MP_congr v4.2.1 (fun i k _ _ _ _ _ _ _ => q 302 _ (by omega)) b4
end CLA
theorem A36b : ∀ (a1 a2 : Int32) (zb : Bool), Alike 224 225 [vi a1, vi a2, vi (bi zb)] := fun a1 a2 zb => glue fun s V => by
  have vS' := vS V
  by_cases g : (∃ a, a < sS s ∧ a1 = ni a) ∧ ∃ b, b < sS s ∧ a2 = ni b
  · obtain ⟨⟨a, ha, rfl⟩, b, hb', rfl⟩ := g
    by_cases e : a = b
    · refine refg V 6 (by omega) (fun h hs c => ?_) (fun h hs c => ?_)
      · rw [d_224 hs, D23t hs V c ha]; simp (disch := first | assumption | omega | (simp only [Sh_pI, Sh_pL, Sh_pIs, Sh_pLs]; assumption)) only [↓ixb, Option.bind_some, Option.bind_none, Option.toList_some, Option.toList_none, List.cons_append, List.nil_append, ni_lit, ni_of, ni_add, ni_mul, ni_sub, ni_div, ni_lt, ni_le, ni_eq, ng_lt, ng_le, ng_lt', ng_le', ng_eq, ng_eq', ng_ng, Int32.neg_neg, ix_ni, if_pos, if_neg, reduceIte, e_224_8, D23t hs V c hb', e_224_19, D7, e_224_39]
      · rw [d_225 hs, D26t hs V c ha]; simp (disch := first | assumption | omega | (simp only [Sh_pI, Sh_pL, Sh_pIs, Sh_pLs]; assumption)) only [↓ixb, Option.bind_some, Option.bind_none, Option.toList_some, Option.toList_none, List.cons_append, List.nil_append, ni_lit, ni_of, ni_add, ni_mul, ni_sub, ni_div, ni_lt, ni_le, ni_eq, ng_lt, ng_le, ng_lt', ng_le', ng_eq, ng_eq', ng_ng, Int32.neg_neg, ix_ni, if_pos, if_neg, reduceIte, e_225_5, D26t hs V c hb', e_225_13, D10, e_225_33]
    · have bs : ((ni (sD s 16 a) >>> (ni b &&& ni 31)) &&& ni 1) = bi ((sD s 16 a).testBit b) := by
        rw [bt_shr _ (by omega), bt_ni _ (by omega)]
      have C0 : ∀ h, Sh h → CS h s → am_D 224 [vr (some 16), vi (ni a), vi (ni b), vi (bi zb)] h = am_E 224 (49, [some (vr (some 16)), some (vi (ni a)), some (vi (ni b)), some (vi (bi zb))], [vi (bi ((sD s 16 a).testBit b))], h) := fun h hs c => by
        have d222 : am_D 222 [vr (some 28), vi (ni a), vi (ni b)] h = some (some (vi (bi ((sD s 16 a).testBit b))), h) := by
          rw [d_222 hs, ixb _ (show a < 8 by omega) (by omega), cCl c ha]
          cases x : (sD s 16 a).testBit b
          · rw [x] at bs
            exact if_pos (show (ni (sD s 16 a) >>> (ni b &&& ni 31) &&& ni 1) = ni 0 by rw [bs]; rfl)
          · rw [x] at bs
            exact if_neg (show ¬ (ni (sD s 16 a) >>> (ni b &&& ni 31) &&& ni 1) = ni 0 by rw [bs]; decide)
        rw [d_224 hs, D23t hs V c ha]; simp (disch := first | assumption | omega | (simp only [Sh_pI, Sh_pL, Sh_pIs, Sh_pLs]; assumption)) only [↓ixb, Option.bind_some, Option.bind_none, Option.toList_some, Option.toList_none, List.cons_append, List.nil_append, ni_lit, ni_of, ni_add, ni_mul, ni_sub, ni_div, ni_lt, ni_le, ni_eq, ng_lt, ng_le, ng_lt', ng_le', ng_eq, ng_eq', ng_ng, Int32.neg_neg, ix_ni, if_pos, if_neg, reduceIte, e_224_8, D23t hs V c hb', e_224_19, d222]
      have M0 : ∀ h, Sh h → MS h s → am_D 225 [vr (some 261), vi (ni a), vi (ni b), vi (bi zb)] h = am_E 225 (53, [some (vr (some 261)), some (vi (ni a)), some (vi (ni b)), some (vi (bi zb)), none], [vi (bi ((sD s 16 a).testBit b))], h) := fun h hs c => by
        rw [d_225 hs, D26t hs V c ha]
        simp only [Option.bind_some, Option.toList_some, List.cons_append, List.nil_append]
        rw [e_225_5 hs, if_neg (show ¬ ni 1 = 0 by decide), D26t hs V c hb']
        simp only [Option.bind_some, Option.toList_some, List.cons_append, List.nil_append]
        rw [e_225_13 hs, if_neg (show ¬ ni 1 = 0 by decide), if_neg (show ¬ ni a = ni b by rw [ni_eq (by omega) (by omega)]; exact e), ixb _ (show a < 8 by omega) (by omega), mCl c ha]
        cases x : (sD s 16 a).testBit b
        · rw [x] at bs
          exact if_neg (show ¬ (ni (sD s 16 a) >>> (ni b &&& ni 31) &&& ni 1) = ni 1 by rw [bs]; decide)
        · rw [x] at bs
          exact if_pos (show (ni (sD s 16 a) >>> (ni b &&& ni 31) &&& ni 1) = ni 1 by rw [bs]; rfl)
      by_cases z : (sD s 16 a).testBit b = zb
      · refine ⟨ni 0, s, V, HC_0 fun h hs c => ?_, HM_0 fun h hs c => ?_⟩
        · rw [C0 h hs c, e_224_49 hs, if_pos (by rw [z])]; rfl
        · rw [M0 h hs c, e_225_53 hs, if_pos (by rw [z])]; rfl
      · have z' : ¬ bi ((sD s 16 a).testBit b) = bi zb := by
          intro y
          apply z
          cases x : (sD s 16 a).testBit b <;> cases w : zb <;> rw [x, w] at y <;> first | rfl | exact absurd y (by decide)
        have hk : ∀ t, t < sS s → (if t = b then ni (sD s 16 b ^^^ 2 ^ a) else if t = a then ni (sD s 16 a ^^^ 2 ^ b) else ni (sD s 16 t)) = ni (sD (sCl s a b) 16 t) := by
          intro t ht
          by_cases x : t = b
          · rw [if_pos x, x, sCl_b e]
          · rw [if_neg x]
            by_cases y : t = a
            · rw [if_pos y, y, sCl_a]
            · rw [if_neg y, sCl_n y x]
        refine ⟨ni 1, sCl s a b, sCl_V V e ha hb', fun h hs c => ⟨pI (pI h 39 a (ni (sD s 16 a ^^^ 2 ^ b))) 39 b (ni (sD s 16 b ^^^ 2 ^ a)), ?_, sCl_C V e hs c (Kg_pI rfl (Kg_pI rfl (Kg_refl h))) (fun t ht => ?_)⟩, fun h hs c => ⟨pI (pI h 280 a (ni (sD s 16 a ^^^ 2 ^ b))) 280 b (ni (sD s 16 b ^^^ 2 ^ a)), ?_, sCl_Mk V c (Kg_pI rfl (Kg_pI rfl (Kg_refl h))) (fun t ht => ?_)⟩⟩
        · have d223 : am_D 223 [vr (some 28), vi (ni a), vi (ni b)] h = some (none, pI (pI h 39 a (ni (sD s 16 a ^^^ 2 ^ b))) 39 b (ni (sD s 16 b ^^^ 2 ^ a))) := by
            rw [d_223 hs, ixb _ (show a < 8 by omega) (by omega), ixb _ (show a < 8 by omega) (by omega), ixb _ (show b < 8 by omega) (by omega), ixb _ (show b < 8 by omega) (by omega), cCl c ha]
            rw [show (ni (sD s 16 a) ^^^ (1 : Int32) <<< (ni b &&& 31)) = ni (sD s 16 a ^^^ 2 ^ b) from xor_ni _ (by omega), pn (by omega), cCl c hb']
            rw [show (ni (sD s 16 b) ^^^ (1 : Int32) <<< (ni a &&& 31)) = ni (sD s 16 b ^^^ 2 ^ a) from xor_ni _ (by omega)]
          rw [C0 h hs c, e_224_49 hs, if_neg z', d223]
          simp only [Option.bind_some, Option.toList_none, List.nil_append]
          exact e_224_64 (h := pI (pI h 39 a (ni (sD s 16 a ^^^ 2 ^ b))) 39 b (ni (sD s 16 b ^^^ 2 ^ a))) hs
        · rw [← hk t ht, hI_pI, hI_pI, cCl c ht]
          by_cases x : t = b
          · rw [if_pos ⟨rfl, x⟩, if_pos x]
          · rw [if_neg (fun y => x y.2), if_neg x]
            by_cases y : t = a
            · rw [if_pos ⟨rfl, y⟩, if_pos y]
            · rw [if_neg (fun w => y w.2), if_neg y]
        · rw [M0 h hs c, e_225_53 hs, if_neg z', ixb _ (show a < 8 by omega) (by omega), ixb _ (show a < 8 by omega) (by omega), ixb _ (show b < 8 by omega) (by omega), ixb _ (show b < 8 by omega) (by omega), mCl c ha]
          rw [show (ni (sD s 16 a) ^^^ (1 : Int32) <<< (ni b &&& 31)) = ni (sD s 16 a ^^^ 2 ^ b) from xor_ni _ (by omega), pn (by omega), mCl c hb']
          rw [show (ni (sD s 16 b) ^^^ (1 : Int32) <<< (ni a &&& 31)) = ni (sD s 16 b ^^^ 2 ^ a) from xor_ni _ (by omega)]
          rfl
        · rw [← hk t ht, hI_pI, hI_pI, mCl c ht]
          by_cases x : t = b
          · rw [if_pos ⟨rfl, x⟩, if_pos x]
          · rw [if_neg (fun y => x y.2), if_neg x]
            by_cases y : t = a
            · rw [if_pos ⟨rfl, y⟩, if_pos y]
            · rw [if_neg (fun w => y w.2), if_neg y]
  · refine refg V 1 (by omega) (fun h hs c => ?_) (fun h hs c => ?_)
    · rcases rg a1 (sS s) with ⟨a, ha, rfl⟩ | hx
      · rcases rg a2 (sS s) with ⟨b, hb, rfl⟩ | hy
        · exact absurd ⟨⟨a, ha, rfl⟩, b, hb, rfl⟩ g
        · rw [d_224 hs, D23t hs V c ha]; simp (disch := first | assumption | omega | (simp only [Sh_pI, Sh_pL, Sh_pIs, Sh_pLs]; assumption)) only [↓ixb, Option.bind_some, Option.bind_none, Option.toList_some, Option.toList_none, List.cons_append, List.nil_append, ni_lit, ni_of, ni_add, ni_mul, ni_sub, ni_div, ni_lt, ni_le, ni_eq, ng_lt, ng_le, ng_lt', ng_le', ng_eq, ng_eq', ng_ng, Int32.neg_neg, ix_ni, if_pos, if_neg, reduceIte, e_224_8, D23f hs V c hy, e_224_19, e_224_22, D7, e_224_27]
      · rw [d_224 hs, D23f hs V c hx]; simp (disch := first | assumption | omega | (simp only [Sh_pI, Sh_pL, Sh_pIs, Sh_pLs]; assumption)) only [↓ixb, Option.bind_some, Option.bind_none, Option.toList_some, Option.toList_none, List.cons_append, List.nil_append, ni_lit, ni_of, ni_add, ni_mul, ni_sub, ni_div, ni_lt, ni_le, ni_eq, ng_lt, ng_le, ng_lt', ng_le', ng_eq, ng_eq', ng_ng, Int32.neg_neg, ix_ni, if_pos, if_neg, reduceIte, e_224_8, e_224_22, D7, e_224_27]
    · rcases rg a1 (sS s) with ⟨a, ha, rfl⟩ | hx
      · rcases rg a2 (sS s) with ⟨b, hb, rfl⟩ | hy
        · exact absurd ⟨⟨a, ha, rfl⟩, b, hb, rfl⟩ g
        · rw [d_225 hs, D26t hs V c ha]; simp (disch := first | assumption | omega | (simp only [Sh_pI, Sh_pL, Sh_pIs, Sh_pLs]; assumption)) only [↓ixb, Option.bind_some, Option.bind_none, Option.toList_some, Option.toList_none, List.cons_append, List.nil_append, ni_lit, ni_of, ni_add, ni_mul, ni_sub, ni_div, ni_lt, ni_le, ni_eq, ng_lt, ng_le, ng_lt', ng_le', ng_eq, ng_eq', ng_ng, Int32.neg_neg, ix_ni, if_pos, if_neg, reduceIte, e_225_5, D26f hs V c hy, e_225_13, e_225_16, D10, e_225_21]
      · rw [d_225 hs, D26f hs V c hx]; simp (disch := first | assumption | omega | (simp only [Sh_pI, Sh_pL, Sh_pIs, Sh_pLs]; assumption)) only [↓ixb, Option.bind_some, Option.bind_none, Option.toList_some, Option.toList_none, List.cons_append, List.nil_append, ni_lit, ni_of, ni_add, ni_mul, ni_sub, ni_div, ni_lt, ni_le, ni_eq, ng_lt, ng_le, ng_lt', ng_le', ng_eq, ng_eq', ng_ng, Int32.neg_neg, ix_ni, if_pos, if_neg, reduceIte, e_225_5, e_225_16, D10, e_225_21]
theorem A36 : ∀ a b z : Int32, z = 0 ∨ z = 1 → Alike 224 225 [vi a, vi b, vi z] := fun a b z hz => by
  rcases hz with rfl | rfl
  · exact A36b a b false
  · exact A36b a b true
