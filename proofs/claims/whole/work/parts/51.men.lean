/-! men: what changes of one man -/
-- what may be told of a man
def okL (x y : Int32) : Bool := decide (0 ≤ x.toInt ∧ x.toInt ≤ y.toInt ∧ y.toInt ≤ 400)
def okP (x : Int32) : Bool := decide (0 ≤ x.toInt ∧ x.toInt < 8)
def okM (v y : Int32) : Bool := decide (0 ≤ v.toInt ∧ v.toInt ≤ 5 ∧ (v.toInt = 3 → 0 ≤ y.toInt ∧ y.toInt ≤ 400))
section OKS
variable {h : am_H} {s : Sg} {x y : Int32}
theorem D37 (hs : Sh h) : am_D 37 [vi x, vi y] h = some (some (vi (bi (okL x y))), h) := by
  rw [d_37 hs]
  simp (disch := first | assumption | omega | (simp only [Sh_pI, Sh_pL, Sh_pIs, Sh_pLs]; assumption)) only [ni_lit, ni_of, ltt, lett, eqt, ni_toInt, ng_toInt]
  rcases Bool.eq_false_or_eq_true (okL x y) with c | c <;> rw [c] <;> unfold okL at c <;> simp only [decide_eq_true_eq, decide_eq_false_iff_not] at c <;> repeat' split
  all_goals first | rfl | (exfalso; omega)
theorem D38 (hs : Sh h) : am_D 38 [vi x] h = some (some (vi (bi (okP x))), h) := by
  rw [d_38 hs]
  simp (disch := first | assumption | omega | (simp only [Sh_pI, Sh_pL, Sh_pIs, Sh_pLs]; assumption)) only [ni_lit, ni_of, ltt, lett, eqt, ni_toInt, ng_toInt]
  rcases Bool.eq_false_or_eq_true (okP x) with c | c <;> rw [c] <;> unfold okP at c <;> simp only [decide_eq_true_eq, decide_eq_false_iff_not] at c <;> repeat' split
  all_goals first | rfl | (exfalso; omega)
theorem D39 (hs : Sh h) : am_D 39 [vi x, vi y] h = some (some (vi (bi (okM x y))), h) := by
  rw [d_39 hs]
  simp (disch := first | assumption | omega | (simp only [Sh_pI, Sh_pL, Sh_pIs, Sh_pLs]; assumption)) only [ni_lit, ni_of, ltt, lett, eqt, ni_toInt, ng_toInt]
  rcases Bool.eq_false_or_eq_true (okM x y) with c | c <;> rw [c] <;> unfold okM at c <;> simp only [decide_eq_true_eq, decide_eq_false_iff_not] at c <;> repeat' split
  all_goals first | rfl | (exfalso; omega)
theorem D42 (hs : Sh h) : am_D 42 [vr (some 261), vi x] h = some (some (vi (bi (decide (0 ≤ x.toInt ∧ x.toInt ≤ 400)))), h) := by
  rw [d_42 hs]
  simp (disch := first | assumption | omega | (simp only [Sh_pI, Sh_pL, Sh_pIs, Sh_pLs]; assumption)) only [ni_lit, ni_of, ltt, lett, eqt, ni_toInt, ng_toInt]
  rcases Bool.eq_false_or_eq_true (decide (0 ≤ x.toInt ∧ x.toInt ≤ 400)) with c | c <;> rw [c] <;> simp only [decide_eq_true_eq, decide_eq_false_iff_not] at c <;> repeat' split
  all_goals first | rfl | (exfalso; omega)
theorem D43 (hs : Sh h) : am_D 43 [vr (some 261), vi x, vi y] h = some (some (vi (bi (okL x y))), h) := by
  rw [d_43 hs, D42 hs]
  simp (disch := first | assumption | omega | (simp only [Sh_pI, Sh_pL, Sh_pIs, Sh_pLs]; assumption)) only [↓ixb, Option.bind_some, Option.toList_some, Option.toList_none, List.cons_append, List.nil_append, e_43_5, D42 hs, e_43_13, ni_lit, bi0, dF, ltt]
  rcases Bool.eq_false_or_eq_true (okL x y) with c | c <;> rw [c] <;> unfold okL at c <;> simp only [decide_eq_true_eq, decide_eq_false_iff_not] at c <;> repeat' split
  all_goals first | rfl | (exfalso; omega)
theorem D44 (hs : Sh h) : am_D 44 [vr (some 261), vi x] h = some (some (vi (bi (okP x))), h) := by
  rw [d_44 hs]
  simp (disch := first | assumption | omega | (simp only [Sh_pI, Sh_pL, Sh_pIs, Sh_pLs]; assumption)) only [ni_lit, ni_of, ltt, lett, eqt, ni_toInt, ng_toInt]
  rcases Bool.eq_false_or_eq_true (okP x) with c | c <;> rw [c] <;> unfold okP at c <;> simp only [decide_eq_true_eq, decide_eq_false_iff_not] at c <;> repeat' split
  all_goals first | rfl | (exfalso; omega)
theorem D45 (hs : Sh h) : am_D 45 [vr (some 261), vi x, vi y] h = some (some (vi (bi (okM x y))), h) := by
  rw [d_45 hs, D42 hs]
  simp (disch := first | assumption | omega | (simp only [Sh_pI, Sh_pL, Sh_pIs, Sh_pLs]; assumption)) only [↓ixb, Option.bind_some, Option.toList_some, Option.toList_none, List.cons_append, List.nil_append, e_45_19, ni_lit, bi0, dF, ltt, lett, eqt x, ni_toInt]
  rcases Bool.eq_false_or_eq_true (okM x y) with c | c <;> rw [c] <;> unfold okM at c <;> simp only [decide_eq_true_eq, decide_eq_false_iff_not] at c <;> repeat' split
  all_goals first | rfl | (exfalso; omega)
theorem okL_ex (c : okL x y = true) : ∃ a b, x = ni a ∧ y = ni b ∧ a ≤ b ∧ b ≤ 400 := by
  unfold okL at c
  have c := of_decide_eq_true c
  obtain ⟨a, a1, a2, rfl⟩ := ni_ex c.1
  obtain ⟨b, b1, b2, rfl⟩ := ni_ex (show 0 ≤ y.toInt by omega)
  exact ⟨a, b, rfl, rfl, by omega, by omega⟩
theorem okP_ex (c : okP x = true) : ∃ a, x = ni a ∧ a < 8 := by
  unfold okP at c
  have c := of_decide_eq_true c
  obtain ⟨a, a1, a2, rfl⟩ := ni_ex c.1
  exact ⟨a, rfl, by omega⟩
theorem okM_ex (c : okM x y = true) : ∃ a, x = ni a ∧ a ≤ 5 ∧ (a = 3 → ∃ b, y = ni b ∧ b ≤ 400) := by
  unfold okM at c
  have c := of_decide_eq_true c
  obtain ⟨a, a1, a2, rfl⟩ := ni_ex c.1
  refine ⟨a, rfl, by omega, fun e => ?_⟩
  obtain ⟨b, b1, b2, rfl⟩ := ni_ex (show 0 ≤ y.toInt by omega)
  exact ⟨b, rfl, by omega⟩
end OKS
/-- man m anew: f his planes 0 to 5, g those of his journeys; how many men there are then -/
def smn (s : Sg) (m M' : Nat) (f : Nat → Nat) (g : Nat → Nat → Nat) : Sg := (fun i k => if i ≤ 5 ∧ k = m then f i else if 6 ≤ i ∧ i ≤ 8 ∧ 3 * m ≤ k ∧ k < 3 * m + 3 then g i (k - 3 * m) else if i = 22 ∧ k = 0 then M' else sD s i k, sE s, sF s, sX s)
def okf (f : Nat → Nat) (g : Nat → Nat → Nat) : Prop := f 0 ≤ f 1 ∧ f 1 ≤ 400 ∧ f 2 < 8 ∧ f 3 ≤ 5 ∧ f 5 ≤ 3 ∧ (f 3 = 3 → f 4 ≤ 400) ∧ ∀ j, j < f 5 → g 6 j < 8 ∧ g 7 j ≤ g 8 j ∧ g 8 j ≤ 400
section SMN
variable {s : Sg} {m M' : Nat} {f : Nat → Nat} {g : Nat → Nat → Nat}
theorem sm_at {i : Nat} (hi : i ≤ 5) : sD (smn s m M' f g) i m = f i := if_pos ⟨hi, rfl⟩
theorem sm_ne {i k : Nat} (hi : i ≤ 5) (hk : k ≠ m) : sD (smn s m M' f g) i k = sD s i k := by
  show (if i ≤ 5 ∧ k = m then f i else if 6 ≤ i ∧ i ≤ 8 ∧ 3 * m ≤ k ∧ k < 3 * m + 3 then g i (k - 3 * m) else if i = 22 ∧ k = 0 then M' else sD s i k) = _
  rw [if_neg (by omega), if_neg (by omega), if_neg (by omega)]
theorem sm_jt {i j : Nat} (h1 : 6 ≤ i) (h2 : i ≤ 8) (hj : j < 3) : sD (smn s m M' f g) i (3 * m + j) = g i j := by
  show (if i ≤ 5 ∧ 3 * m + j = m then f i else if 6 ≤ i ∧ i ≤ 8 ∧ 3 * m ≤ 3 * m + j ∧ 3 * m + j < 3 * m + 3 then g i (3 * m + j - 3 * m) else if i = 22 ∧ 3 * m + j = 0 then M' else sD s i (3 * m + j)) = _
  rw [if_neg (by omega), if_pos (by omega), Nat.add_sub_cancel_left]
theorem sm_jn {i j n : Nat} (h1 : 6 ≤ i) (h2 : i ≤ 8) (hj : j < 3) (hn : n ≠ m) : sD (smn s m M' f g) i (3 * n + j) = sD s i (3 * n + j) := by
  show (if i ≤ 5 ∧ 3 * n + j = m then f i else if 6 ≤ i ∧ i ≤ 8 ∧ 3 * m ≤ 3 * n + j ∧ 3 * n + j < 3 * m + 3 then g i (3 * n + j - 3 * m) else if i = 22 ∧ 3 * n + j = 0 then M' else sD s i (3 * n + j)) = _
  rw [if_neg (by omega), if_neg (by omega), if_neg (by omega)]
theorem sm_hi {i k : Nat} (h1 : 9 ≤ i) (h2 : ¬ (i = 22 ∧ k = 0)) : sD (smn s m M' f g) i k = sD s i k := by
  show (if i ≤ 5 ∧ k = m then f i else if 6 ≤ i ∧ i ≤ 8 ∧ 3 * m ≤ k ∧ k < 3 * m + 3 then g i (k - 3 * m) else if i = 22 ∧ k = 0 then M' else sD s i k) = _
  rw [if_neg (by omega), if_neg (by omega), if_neg h2]
theorem sm_pl {i : Nat} (h1 : 9 ≤ i) (h2 : i ≠ 22) : sD (smn s m M' f g) i = sD s i := by
  funext k; exact sm_hi h1 (fun z => h2 z.1)
theorem sm_M : sM (smn s m M' f g) = M' := by
  show (if 22 ≤ 5 ∧ 0 = m then f 22 else if 6 ≤ 22 ∧ 22 ≤ 8 ∧ 3 * m ≤ 0 ∧ 0 < 3 * m + 3 then g 22 (0 - 3 * m) else if 22 = 22 ∧ 0 = 0 then M' else sD s 22 0) = _
  rw [if_neg (by omega), if_neg (by omega), if_pos ⟨rfl, rfl⟩]
theorem sm_R : sR (smn s m M' f g) = sR s := sm_hi (by omega) (by omega)
theorem sm_S : sS (smn s m M' f g) = sS s := sm_hi (by omega) (by omega)
theorem sm_K : sKp (smn s m M' f g) = sKp s := by funext i j; exact sm_hi (by omega) (by omega)
/-- which man, how many then -/
def okm (s : Sg) (m M' : Nat) : Prop := m < M' ∧ M' ≤ 24 ∧ (M' = sM s ∨ (M' = sM s + 1 ∧ m = sM s))
theorem Vw_mono {D : Nat → Nat → Nat} {M N nR nS : Nat} (hN : M ≤ N) (hN4 : N ≤ 24) (hm : ∀ m, m < N → Vm D m) (h : Vw D M nR nS) : Vw D N nR nS := by
  obtain ⟨v1, v2, v3, v4, v5, v6⟩ := h
  refine ⟨hN4, v2, v3, hm, v5, fun t ht => ⟨⟨(v6 t ht).1.1, (v6 t ht).1.2.1, fun r hr => ?_⟩, (v6 t ht).2⟩⟩
  obtain ⟨q1, q2, q3, q4, q5, q6, q7⟩ := (v6 t ht).1.2.2 r hr
  exact ⟨q1, q2, q3, q4, fun i hi => Nat.lt_of_lt_of_le (q5 i hi) hN, q6, q7⟩
theorem smn_Vs (V : Vs s) (k : okm s m M') (o : okf f g) : Vs (smn s m M' f g) := by
  obtain ⟨v1, v2, v3, v4, v5⟩ := V
  have w4 := v1.2.2.2.1
  have hVm : ∀ n, n < M' → Vm (sD (smn s m M' f g)) n := by
    intro n hn
    obtain ⟨k1, k2, k3⟩ := k
    by_cases e : n = m
    · subst e
      obtain ⟨o1, o2, o3, o4, o5, o6, o7⟩ := o
      unfold Vm
      rw [sm_at (by omega), sm_at (by omega), sm_at (by omega), sm_at (by omega), sm_at (by omega), sm_at (by omega)]
      refine ⟨o1, o2, o3, o4, o5, o6, fun j hj => ?_⟩
      rw [sm_jt (by omega) (by omega) (by omega), sm_jt (by omega) (by omega) (by omega), sm_jt (by omega) (by omega) (by omega)]
      exact o7 j hj
    · obtain ⟨o1, o2, o3, o4, o5, o6, o7⟩ := w4 n (by omega)
      unfold Vm
      rw [sm_ne (by omega) e, sm_ne (by omega) e, sm_ne (by omega) e, sm_ne (by omega) e, sm_ne (by omega) e, sm_ne (by omega) e]
      refine ⟨o1, o2, o3, o4, o5, o6, fun j hj => ?_⟩
      rw [sm_jn (by omega) (by omega) (by omega) e, sm_jn (by omega) (by omega) (by omega) e, sm_jn (by omega) (by omega) (by omega) e]
      exact o7 j hj
  refine ⟨?_, ?_, fun i hi => ?_, ?_, ?_⟩
  · rw [sm_M, sm_R, sm_S]
    have w : Vw (sD (smn s m M' f g)) (sM s) (sR s) (sS s) := by
      obtain ⟨x1, x2, x3, x4, x5, x6⟩ := v1
      refine ⟨x1, x2, x3, fun n hn => hVm n (by have := k.2.2; omega), fun r hr => ?_, fun t ht => ?_⟩
      · unfold Vr; rw [sm_pl (by omega) (by omega)]; exact x5 r hr
      · unfold Vq; rw [sm_pl (i := 10) (by omega) (by omega), sm_pl (i := 11) (by omega) (by omega), sm_pl (i := 12) (by omega) (by omega), sm_pl (i := 13) (by omega) (by omega), sm_pl (i := 14) (by omega) (by omega), sm_pl (i := 15) (by omega) (by omega), sm_pl (i := 16) (by omega) (by omega)]; exact x6 t ht
    exact Vw_mono (by have := k.2.2; omega) k.2.1 hVm w
  · rw [sm_R, sm_hi (by omega) (by omega)]; exact v2
  · rw [sm_S, sm_pl (i := 17) (by omega) (by omega), sm_pl (i := 18) (by omega) (by omega), sm_pl (i := 19) (by omega) (by omega), sm_pl (i := 20) (by omega) (by omega), sm_pl (i := 21) (by omega) (by omega), sm_pl (i := 10) (by omega) (by omega)]; exact v3 i hi
  · rw [sm_K, sm_S, sm_pl (i := 23) (by omega) (by omega), sm_pl (i := 10) (by omega) (by omega)]; exact v4
  · rw [sm_pl (i := 24) (by omega) (by omega)]; exact v5
theorem smn_C {h h' : am_H} (V : Vs s) (k : okm s m M') (o5 : f 5 ≤ 3) (hs : Sh h) (c : CS h s) (e : Kg (fun a j => (42 + 4 * m ≤ a ∧ a ≤ 45 + 4 * m) ∨ (a = 28 ∧ j = 1)) h h') (hM : hI h' 28 1 = ni M')
    (h0 : hI h' (42 + 4 * m) 0 = ni (f 0)) (h1 : hI h' (42 + 4 * m) 1 = ni (f 1)) (h2 : hI h' (42 + 4 * m) 2 = ni (f 2)) (h3 : hI h' (42 + 4 * m) 3 = ni (f 3)) (h5 : hI h' (42 + 4 * m) 5 = ni (f 5)) (h4 : f 3 = 3 → hI h' (42 + 4 * m) 4 = ni (f 4))
    (hj : ∀ j, j < f 5 → hI h' (43 + 4 * m) j = ni (g 6 j) ∧ hI h' (44 + 4 * m) j = ni (g 7 j) ∧ hI h' (45 + 4 * m) j = ni (g 8 j)) : Cok h h' (smn s m M' f g) := by
  obtain ⟨k1, k2, k3⟩ := k
  have q : ∀ a j, ¬ ((42 + 4 * m ≤ a ∧ a ≤ 45 + 4 * m) ∨ (a = 28 ∧ j = 1)) → hI h' a j = hI h a j := fun a j n => e.2.2.2.2.1 a j n
  refine ⟨Kg_Sh e hs, ?_, Kg_Mq (fun a j z => by omega) e, by rw [e.1]; exact Nat.le_refl _, by rw [e.1]; exact Nat.le_add_right _ _, by rw [e.2.1]; exact Nat.le_add_right _ _, by rw [e.2.2.1], fun j => q 15 j (by omega)⟩
  have v1 := V.1
  obtain ⟨a1, a2, a3, a4, ⟨⟨b1, b2, b3, b4⟩, b5, b6, b7⟩, a6, ⟨a7, a8⟩, a9, a10⟩ := c
  have sN := (V.1).2.2.1
  refine ⟨?_, fun i hi => ?_, fun i hi => ?_, fun i hi => ?_, ⟨⟨?_, ?_, ?_, ?_⟩, fun n hn => ?_, fun r hr i hi => ?_, fun t ht => ?_⟩, fun i hi => ?_, ⟨?_, fun i i1 i2 => ?_⟩, ?_, fun z => ?_⟩
  · rw [q _ _ (by omega)]; exact a1
  · rw [q _ _ (by omega)]; exact a2 i hi
  · rw [q _ _ (by omega)]; exact a3 i hi
  · rw [q _ _ (by omega)]; exact a4 i hi
  · rw [sm_M]; exact hM
  · rw [sm_R, q _ _ (by omega)]; exact b2
  · rw [sm_S, q _ _ (by omega)]; exact b3
  · rw [sm_hi (by omega) (by omega), q _ _ (by omega)]; exact b4
  · rw [sm_M] at hn
    by_cases z : n = m
    · subst z
      unfold CM
      rw [sm_at (by omega), sm_at (by omega), sm_at (by omega), sm_at (by omega), sm_at (by omega), sm_at (by omega)]
      refine ⟨h0, h1, h2, h3, h5, h4, fun j hj' => ?_⟩
      rw [sm_jt (by omega) (by omega) (by omega), sm_jt (by omega) (by omega) (by omega), sm_jt (by omega) (by omega) (by omega)]
      have y := hj j hj'
      rw [show 42 + 0 + 4 * n + 1 = 43 + 4 * n by omega, show 42 + 0 + 4 * n + 2 = 44 + 4 * n by omega, show 42 + 0 + 4 * n + 3 = 45 + 4 * n by omega]
      exact y
    · obtain ⟨c1, c2, c3, c4, c5, c6, c7⟩ := b5 n (by omega)
      have w5 : sD s 5 n ≤ 3 := (v1.2.2.2.1 n (by omega)).2.2.2.2.1
      unfold CM
      rw [sm_ne (by omega) z, sm_ne (by omega) z, sm_ne (by omega) z, sm_ne (by omega) z, sm_ne (by omega) z, sm_ne (by omega) z]
      refine ⟨by rw [q _ _ (by omega)]; exact c1, by rw [q _ _ (by omega)]; exact c2, by rw [q _ _ (by omega)]; exact c3, by rw [q _ _ (by omega)]; exact c4, by rw [q _ _ (by omega)]; exact c5, fun y => by rw [q _ _ (by omega)]; exact c6 y, fun j hj' => ?_⟩
      rw [sm_jn (by omega) (by omega) (by omega) z, sm_jn (by omega) (by omega) (by omega) z, sm_jn (by omega) (by omega) (by omega) z, q _ _ (by omega), q _ _ (by omega), q _ _ (by omega)]
      exact c7 j hj'
  · rw [sm_R] at hr
    have := v1.2.1
    rw [sm_pl (by omega) (by omega), q _ _ (by omega)]; exact b6 r hr i hi
  · rw [sm_S] at ht
    rw [sm_pl (i := 10) (by omega) (by omega), sm_pl (i := 16) (by omega) (by omega), q _ _ (by omega), q _ _ (by omega)]
    obtain ⟨d1, d2, d3⟩ := b7 t ht
    refine ⟨d1, d2, fun r hr => ?_⟩
    obtain ⟨a, w, l, c1, c2, c3, c4, c5, c6, c7, c8, c9, c10, c11, c12, c13, c14⟩ := d3 r hr
    unfold CQ
    rw [sm_pl (i := 11) (by omega) (by omega), sm_pl (i := 12) (by omega) (by omega), sm_pl (i := 13) (by omega) (by omega), sm_pl (i := 14) (by omega) (by omega), sm_pl (i := 15) (by omega) (by omega)]
    have qr : ∀ a k, a ≠ 248 → a ≠ 253 → hR h' a k = hR h a k := fun a k n1 n2 => e.2.2.2.1 a k (fun z => n1 z.1) n2
    refine ⟨a, w, l, ?_, ?_, c3, c4, c5, by rw [e.1]; exact c6, by rw [e.1]; exact c7, by rw [e.1]; exact c8, by rw [e.2.2.1]; exact c9, ?_, ?_, ?_, fun i hi => ?_, fun i hi => ?_⟩
    · rw [qr _ _ (by omega) (by omega)]; exact c1
    · unfold Rw at c2 ⊢
      rw [e.2.2.1, qr _ _ (by omega) (by omega), qr _ _ (by omega) (by omega)]; exact c2
    · rw [q _ _ (by omega)]; exact c10
    · rw [q _ _ (by omega)]; exact c11
    · rw [q _ _ (by omega)]; exact c12
    · rw [q _ _ (by omega)]; exact c13 i hi
    · rw [q _ _ (by omega)]; exact c14 i hi
  · rw [sm_pl (i := 17) (by omega) (by omega), sm_pl (i := 18) (by omega) (by omega), sm_pl (i := 19) (by omega) (by omega), sm_pl (i := 20) (by omega) (by omega), sm_pl (i := 21) (by omega) (by omega), q _ _ (by omega), q _ _ (by omega)]
    obtain ⟨c1, c2, c3⟩ := a6 i hi
    exact ⟨c1, fun z => ⟨(c2 z).1, (c2 z).2.1, fun y hy => by rw [e.2.2.2.2.2 _ _ (by omega)]; exact (c2 z).2.2 y hy⟩, c3⟩
  · rw [sm_pl (by omega) (by omega), q _ _ (by omega)]; exact a7
  · rw [sm_pl (by omega) (by omega)] at i1
    rw [sm_pl (by omega) (by omega), q _ _ (by omega)]; exact a8 i i1 i2
  · rw [sm_pl (by omega) (by omega), q _ _ (by omega)]; exact a9
  · rw [sm_pl (i := 23) (by omega) (by omega)] at z ⊢
    rw [sm_K]
    rcases V.2.2.2.1 with v4 | v4
    · rw [v4] at z; cases z
    · exact CW_fr (Or.inr rfl) (fun a k z => by omega) e v4.2.1 (a10 z)
theorem smn_M {h h' : am_H} (V : Vs s) (k : okm s m M') (o5 : f 5 ≤ 3) (c : MS h s) (e : Kg (fun a j => (263 ≤ a ∧ a ≤ 268 ∧ j = m) ∨ (269 ≤ a ∧ a ≤ 271 ∧ 3 * m ≤ j ∧ j < 3 * m + 3) ∨ (a = 261 ∧ j = 0)) h h') (hM : hI h' 261 0 = ni M')
    (h0 : hI h' 263 m = ni (f 0)) (h1 : hI h' 264 m = ni (f 1)) (h2 : hI h' 265 m = ni (f 2)) (h3 : hI h' 266 m = ni (f 3)) (h5 : hI h' 268 m = ni (f 5)) (h4 : f 3 = 3 → hI h' 267 m = ni (f 4))
    (hj : ∀ j, j < f 5 → hI h' 269 (3 * m + j) = ni (g 6 j) ∧ hI h' 270 (3 * m + j) = ni (g 7 j) ∧ hI h' 271 (3 * m + j) = ni (g 8 j)) : Mok h h' (smn s m M' f g) := by
  obtain ⟨k1, k2, k3⟩ := k
  have q : ∀ a j, ¬ ((263 ≤ a ∧ a ≤ 268 ∧ j = m) ∨ (269 ≤ a ∧ a ≤ 271 ∧ 3 * m ≤ j ∧ j < 3 * m + 3) ∨ (a = 261 ∧ j = 0)) → hI h' a j = hI h a j := fun a j n => e.2.2.2.2.1 a j n
  refine ⟨?_, Kg_mono (fun a j z => by unfold wm; omega) e⟩
  have v1 := V.1
  obtain ⟨⟨a1, a2, a3, a4, a5⟩, a6, a7, a8, ⟨b1, b2, b3⟩, a10, ⟨a11, a12⟩, a13, a14⟩ := c
  refine ⟨⟨?_, ?_, ?_, ?_, ?_⟩, fun i hi => ?_, fun i hi => ?_, fun i hi => ?_, ⟨fun n hn => ?_, fun r hr i hi => ?_, fun t ht => ?_⟩, fun i hi => ?_, ⟨?_, fun i i1 i2 => ?_⟩, ?_, fun z => ?_⟩
  · rw [sm_M]; exact hM
  · rw [sm_R, q _ _ (by omega)]; exact a2
  · rw [sm_S, q _ _ (by omega)]; exact a3
  · rw [sm_hi (by omega) (by omega), q _ _ (by omega)]; exact a4
  · rw [q _ _ (by omega)]; exact a5
  · rw [q _ _ (by omega)]; exact a6 i hi
  · rw [q _ _ (by omega)]; exact a7 i hi
  · rw [q _ _ (by omega)]; exact a8 i hi
  · rw [sm_M] at hn
    show hI h' 263 n = _ ∧ hI h' 264 n = _ ∧ hI h' 265 n = _ ∧ hI h' 266 n = _ ∧ hI h' 268 n = _ ∧ (_ → hI h' 267 n = _) ∧ ∀ j, _ → hI h' 269 (3 * n + j) = _ ∧ hI h' 270 (3 * n + j) = _ ∧ hI h' 271 (3 * n + j) = _
    by_cases z : n = m
    · subst z
      rw [sm_at (by omega), sm_at (by omega), sm_at (by omega), sm_at (by omega), sm_at (by omega), sm_at (by omega)]
      refine ⟨h0, h1, h2, h3, h5, h4, fun j hj' => ?_⟩
      rw [sm_jt (by omega) (by omega) (by omega), sm_jt (by omega) (by omega) (by omega), sm_jt (by omega) (by omega) (by omega)]
      exact hj j hj'
    · obtain ⟨c1, c2, c3, c4, c5, c6, c7⟩ := b1 n (by omega)
      have w5 : sD s 5 n ≤ 3 := (v1.2.2.2.1 n (by omega)).2.2.2.2.1
      rw [sm_ne (by omega) z, sm_ne (by omega) z, sm_ne (by omega) z, sm_ne (by omega) z, sm_ne (by omega) z, sm_ne (by omega) z]
      refine ⟨by rw [q _ _ (by omega)]; exact c1, by rw [q _ _ (by omega)]; exact c2, by rw [q _ _ (by omega)]; exact c3, by rw [q _ _ (by omega)]; exact c4, by rw [q _ _ (by omega)]; exact c5, fun y => by rw [q _ _ (by omega)]; exact c6 y, fun j hj' => ?_⟩
      rw [sm_jn (by omega) (by omega) (by omega) z, sm_jn (by omega) (by omega) (by omega) z, sm_jn (by omega) (by omega) (by omega) z, q _ _ (by omega), q _ _ (by omega), q _ _ (by omega)]
      exact c7 j hj'
  · rw [sm_R] at hr
    show hI h' 273 (14 * r + i) = _
    rw [sm_pl (by omega) (by omega), q _ _ (by omega)]; exact b2 r hr i hi
  · rw [sm_S] at ht
    obtain ⟨d1, d2, d3⟩ := b3 t ht
    show hI h' 274 t = _ ∧ hI h' 280 t = _ ∧ ∀ r, _ → hI h' 275 _ = _ ∧ hI h' 276 _ = _ ∧ hI h' 277 _ = _ ∧ (∀ i, _ → hI h' 278 _ = _) ∧ ∀ i, _ → hI h' 279 _ = _
    rw [sm_pl (i := 10) (by omega) (by omega), sm_pl (i := 16) (by omega) (by omega), q _ _ (by omega), q _ _ (by omega)]
    rw [sm_pl (i := 11) (by omega) (by omega), sm_pl (i := 12) (by omega) (by omega), sm_pl (i := 13) (by omega) (by omega), sm_pl (i := 14) (by omega) (by omega), sm_pl (i := 15) (by omega) (by omega)]
    refine ⟨d1, d2, fun r hr => ?_⟩
    obtain ⟨c1, c2, c3, c4, c5⟩ := d3 r hr
    refine ⟨by rw [q _ _ (by omega)]; exact c1, by rw [q _ _ (by omega)]; exact c2, by rw [q _ _ (by omega)]; exact c3, fun i hi => by rw [q _ _ (by omega)]; exact c4 i hi, fun i hi => by rw [q _ _ (by omega)]; exact c5 i hi⟩
  · rw [sm_pl (i := 17) (by omega) (by omega), sm_pl (i := 18) (by omega) (by omega), sm_pl (i := 19) (by omega) (by omega), sm_pl (i := 20) (by omega) (by omega), sm_pl (i := 21) (by omega) (by omega), q _ _ (by omega), q _ _ (by omega), q _ _ (by omega), q _ _ (by omega)]
    obtain ⟨c1, c2, c3⟩ := a10 i hi
    exact ⟨c1, fun z => ⟨(c2 z).1, (c2 z).2.1, fun y hy => by rw [e.2.2.2.2.2 _ _ (by omega)]; exact (c2 z).2.2 y hy⟩, c3⟩
  · rw [sm_pl (by omega) (by omega), q _ _ (by omega)]; exact a11
  · rw [sm_pl (by omega) (by omega)] at i1
    rw [sm_pl (by omega) (by omega), q _ _ (by omega)]; exact a12 i i1 i2
  · rw [sm_pl (by omega) (by omega), q _ _ (by omega)]; exact a13
  · rw [sm_pl (i := 23) (by omega) (by omega)] at z ⊢
    obtain ⟨b1, b2, b3, b4⟩ := a14 z
    rw [sm_K]
    refine ⟨by rw [q _ _ (by omega)]; exact b1, by rw [q _ _ (by omega)]; exact b2, by rw [q _ _ (by omega)]; exact b3, ?_⟩
    rcases V.2.2.2.1 with v4 | v4
    · rw [v4] at z; cases z
    · exact MP_congr v4.2.1 (fun i k _ _ _ _ _ _ _ => q 302 _ (by omega)) b4
end SMN
