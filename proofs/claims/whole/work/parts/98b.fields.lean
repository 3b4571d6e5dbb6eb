/-! the objects are made: a field at a time -/
def j0 : Nat → Nat → Int32 := fun _ _ => 0
def jc (a k : Nat) (v : Int32) (J : Nat → Nat → Int32) : Nat → Nat → Int32 := fun b j => if b = a ∧ j = k then v else J b j
def jt (a m : Nat) (f : Nat → Int32) (J : Nat → Nat → Int32) : Nat → Nat → Int32 := fun b j => if b = a ∧ j < m then f j else J b j
theorem jt_0 {a : Nat} {f : Nat → Int32} {J : Nat → Nat → Int32} : jt a 0 f J = J := by
  funext b j
  unfold jt
  exact if_neg (fun z => Nat.not_lt_zero _ z.2)
theorem jt_s {a j : Nat} {f : Nat → Int32} {J : Nat → Nat → Int32} {v : Int32} (e : f j = v) : (fun b i => if b = a ∧ i = j then v else jt a j f J b i) = jt a (j + 1) f J := by
  funext b i
  unfold jt
  by_cases c : b = a ∧ i = j
  · rw [if_pos c, if_pos ⟨c.1, by omega⟩, c.2, e]
  · rw [if_neg c]
    by_cases d : b = a ∧ i < j
    · rw [if_pos d, if_pos ⟨d.1, by omega⟩]
    · rw [if_neg d, if_neg (fun z => by
        have : i ≠ j := fun w => c ⟨z.1, w⟩
        exact d ⟨z.1, by omega⟩)]
section STQ
variable {y pc : Nat} {L : am_L} {st : List am_V} {h : am_H}
theorem q_ci {z a : Nat} (hP : am_P y pc = some (i_ci z 0)) (hc : am_cats st ≤ 8) (hz : 1 ≤ (am_fm z).2.2.1) : am_E y (pc, L, vr (some a) :: st, h) = (am_D z [vr (some a)] h).bind fun x => am_E y (pc + 3, L, x.1.toList ++ st, x.2) := x_call hP (if_pos hc) hz
theorem q_gR {cs : List Nat} {k a : Nat} (hk : (hK h a).1 ∈ cs) (hP : am_P y pc = some (i_gR cs k)) : am_E y (pc, L, vr (some a) :: st, h) = am_E y (pc + 3, L, vr (hR h a k) :: st, h) := E_s hP (if_pos hk)
theorem q_ild1 {x : Option am_V} {v : Int32} (hP : am_P y pc = some (i_ild 1 1)) : am_E y (pc, [x, some (vi v)], st, h) = am_E y (pc + 1, [x, some (vi v)], vi v :: st, h) := E_s hP rfl
theorem q_ist1 {x : Option Nat} {o : Option am_V} {v : Int32} (hP : am_P y pc = some (i_ist 1 1)) : am_E y (pc, [some (vr x), o], vi v :: st, h) = am_E y (pc + 1, [some (vr x), some (vi v)], st, h) := E_s hP rfl
theorem q_inc1 {x : Option Nat} {j : Nat} (hP : am_P y pc = some (i_inc 1 1)) : am_E y (pc, [some (vr x), some (vi (ni j))], st, h) = am_E y (pc + 3, [some (vr x), some (vi (ni (j + 1)))], st, h) := by
  refine E_s hP ?_
  rw [← ni_add]
  rfl
theorem q_goto {t : Nat} (hP : am_P y pc = some (i_goto t)) : am_E y (pc, L, st, h) = am_E y (t, L, st, h) := E_s hP rfl
theorem q_ge {t m n : Nat} (hm : m < 2147483648) (hn : n < 2147483648) (hP : am_P y pc = some (i_icmp_ge t)) : am_E y (pc, L, vi (ni m) :: vi (ni n) :: st, h) = if m ≤ n then am_E y (t, L, st, h) else am_E y (pc + 3, L, st, h) := by
  have := x_if (c := ni m ≤ ni n) (t, L, st, h) (pc + 3, L, st, h) hP (h := h) (L := L) (st := vi (ni m) :: vi (ni n) :: st) rfl rfl rfl
  rw [this]
  by_cases e : m ≤ n
  · rw [if_pos e, if_pos (by rw [ni_le hm hn]; exact e)]
  · rw [if_neg e, if_neg (by rw [ni_le hm hn]; exact e)]
theorem q_aast {t n j a : Nat} {cs : List Nat} {r : Option Nat} (hk : hK h a = (t, n)) (hr : am_okr h r cs = true) (hj : j < n) (hj2 : j < 2147483648) (hP : am_P y pc = some (i_aast t cs)) : am_E y (pc, L, vr r :: vi (ni j) :: vr (some a) :: st, h) = am_E y (pc + 1, L, st, pR h a j r) := by
  refine E_s hP ?_
  rw [v_aast hk, if_pos hr, ix_ni hj hj2]
  rfl
theorem q_vret (hP : am_P y pc = some i_vret) : am_E y (pc, L, [], h) = some (none, h) := E_r hP rfl
end STQ
section STF
variable {h0 h : am_H} {N S : Nat} {O : List (Nat × Nat)} {J : Nat → Nat → Int32}
theorem Gp_R0 {a k : Nat} {v : Nat} (g : Gp h0 N S O J h) (n37 : a ≠ 37) (n147 : a ≠ 147) (hv : shR a k = none) : Gp h0 N S O J (pR h a k (some v)) := by
  obtain ⟨g1, g2, g3, g4, g5, g6, g7, g8⟩ := g
  refine ⟨g1, g2, g3, g4, g5, fun b k' r h1 h2 h3 h4 h5 => ?_, g7, fun b k' h1 h2 => ?_⟩
  · rw [hR_pR, if_neg (fun z => by rw [z.1, z.2, hv] at h4; cases h4)]
    exact g6 b k' r h1 h2 h3 h4 h5
  · rw [hR_pR, if_neg (fun z => h1.elim (fun w => n37 (z.1.symm.trans w)) (fun w => n147 (z.1.symm.trans w)))]
    exact g8 b k' h1 h2
theorem Gp_K {a : Nat} {kd : Nat × Nat} (g : Gp h0 N S O J h) (a16 : 16 ≤ a) (aN : a < N) (ka : shK a = kd) (k2 : kd.1 < 200) : hK h a = kd := (g.2.2.2.1 a a16 aN (by rw [ka]; exact k2)).trans ka
/-- a field that holds new letters, which later ones may take the place of -/
theorem stF0 {y pc cl a k n t kk : Nat} {L : am_L} {cs : List Nat} (h1 : am_P y pc = some (i_ald 0 1)) (h2 : am_P y (pc + 1) = some (i_ic (ni n) cl)) (h3 : am_P y (pc + 1 + cl) = some (i_na t)) (h4 : am_P y (pc + 1 + cl + 2) = some (i_pR cs k)) (g : Gp h0 N S O J h) (hN16 : 16 ≤ N) (hn : n ≤ 10000) (aN : a < N) (a16 : 16 ≤ a) (n37 : a ≠ 37) (n147 : a ≠ 147) (ka : shK a = (kk, 0)) (kc : kk ∈ cs) (k2 : kk < 200) (kN : (shK N).1 < 200 → (t, n) = shK N) (oN : ∀ k, k < 64 → shR N k = none) (jN : ∀ k, J N k = 0) (hv : shR a k = none) : ∃ h', am_E y (pc, some (vr (some a)) :: L, [], h) = am_E y (pc + 1 + cl + 2 + 3, some (vr (some a)) :: L, [], h') ∧ Gp h0 (N + 1) (S + n) O J h' := by
  have g' := Gp_al (kd := (t, n)) (sl := n) hN16 g kN oN jN
  have ka' : hK (al h (t, n) n) a = (kk, 0) := Gp_K g' a16 (by omega) ka k2
  refine ⟨pR (al h (t, n) n) a k (some N), ?_, Gp_R0 g' n37 n147 hv⟩
  rw [q_ald h1, q_ic h2, q_na hn h3, g.1, q_pR (by rw [ka']; exact kc) h4]
/-- a field that holds a new row of references, none of which is ever of the shape -/
theorem stA {y pc cl a k0 k n t kk : Nat} {L : am_L} {cs : List Nat} (h1 : am_P y pc = some (i_ald 0 1)) (h2 : am_P y (pc + 1) = some (i_ic (ni n) cl)) (h3 : am_P y (pc + 1 + cl) = some (i_ana t)) (h4 : am_P y (pc + 1 + cl + 3) = some (i_pR cs k)) (g : Gp h0 N S ((a, k0) :: O) J h) (hN16 : 16 ≤ N) (hn : n ≤ 10000) (aN : a < N) (a16 : 16 ≤ a) (n37 : a ≠ 37) (n147 : a ≠ 147) (ka : shK a = (kk, 0)) (kc : kk ∈ cs) (k2 : kk < 200) (kN : (shK N).1 < 200 → (t, n) = shK N) (oN : ∀ k, k < 64 → shR N k = none) (jN : ∀ k, J N k = 0) (hv : shR a k = some N) (gap : ∀ k', k' < 64 → k0 ≤ k' → k' < k → shR a k' = none) : ∃ h', am_E y (pc, some (vr (some a)) :: L, [], h) = am_E y (pc + 1 + cl + 3 + 3, some (vr (some a)) :: L, [], h') ∧ Gp h0 (N + 1) (S + n) ((a, k + 1) :: O) J h' := by
  have g' := Gp_al (kd := (t, n)) (sl := n) hN16 g kN oN jN
  have ka' : hK (al h (t, n) n) a = (kk, 0) := Gp_K g' a16 (by omega) ka k2
  refine ⟨pR (al h (t, n) n) a k (some N), ?_, Gp_R g' n37 n147 a16 hv gap⟩
  rw [q_ald h1, q_ic h2, q_ana hn h3, g.1, q_pR (by rw [ka']; exact kc) h4]
/-- a field that holds a new row of references, still to be filled -/
theorem stO {y pc cl a k0 k n t kk : Nat} {L : am_L} {cs : List Nat} (h1 : am_P y pc = some (i_ald 0 1)) (h2 : am_P y (pc + 1) = some (i_ic (ni n) cl)) (h3 : am_P y (pc + 1 + cl) = some (i_ana t)) (h4 : am_P y (pc + 1 + cl + 3) = some (i_pR cs k)) (g : Gp h0 N S ((a, k0) :: O) J h) (hN16 : 16 ≤ N) (hn : n ≤ 10000) (aN : a < N) (a16 : 16 ≤ a) (n37 : a ≠ 37) (n147 : a ≠ 147) (ka : shK a = (kk, 0)) (kc : kk ∈ cs) (k2 : kk < 200) (kN : (shK N).1 < 200 → (t, n) = shK N) (jN : ∀ k, J N k = 0) (hv : shR a k = some N) (gap : ∀ k', k' < 64 → k0 ≤ k' → k' < k → shR a k' = none) : ∃ h', am_E y (pc, some (vr (some a)) :: L, [], h) = am_E y (pc + 1 + cl + 3 + 3, some (vr (some a)) :: L, [], h') ∧ Gp h0 (N + 1) (S + n) ((a, k + 1) :: (N, 0) :: O) J h' := by
  have g' := Gp_swap (Gp_alo (kd := (t, n)) (sl := n) hN16 g kN jN)
  have ka' : hK (al h (t, n) n) a = (kk, 0) := Gp_K g' a16 (by omega) ka k2
  refine ⟨pR (al h (t, n) n) a k (some N), ?_, Gp_R g' n37 n147 a16 hv gap⟩
  rw [q_ald h1, q_ic h2, q_ana hn h3, g.1, q_pR (by rw [ka']; exact kc) h4]
/-- a field that holds new rows of rows -/
theorem stM {y pc c1 c2 a k0 k n m t ti kk : Nat} {L : am_L} {cs : List Nat} (h1 : am_P y pc = some (i_ald 0 1)) (h2 : am_P y (pc + 1) = some (i_ic (ni n) c1)) (h3 : am_P y (pc + 1 + c1) = some (i_ic (ni m) c2)) (h4 : am_P y (pc + 1 + c1 + c2) = some (i_mul t ti)) (h5 : am_P y (pc + 1 + c1 + c2 + 4) = some (i_pR cs k)) (g : Gp h0 N S ((a, k0) :: O) J h) (hN16 : 16 ≤ N) (hn : n ≤ 10000) (hm : m ≤ 10000) (aN : a < N) (a16 : 16 ≤ a) (n37 : a ≠ 37) (n147 : a ≠ 147) (ka : shK a = (kk, 0)) (kc : kk ∈ cs) (k2 : kk < 200) (kN : shK N = (t, n)) (kI : ∀ j, j < n → shK (N + 1 + j) = (ti, m)) (r1 : ∀ k, k < 64 → shR N k = if k < n then some (N + 1 + k) else none) (r2 : ∀ j, j < n → ∀ k, k < 64 → shR (N + 1 + j) k = none) (jN : ∀ j k, j ≤ n → J (N + j) k = 0) (b37 : ∀ b, b = 37 ∨ b = 147 → b < N ∨ N + n < b) (hv : shR a k = some N) (gap : ∀ k', k' < 64 → k0 ≤ k' → k' < k → shR a k' = none) : ∃ h', am_E y (pc, some (vr (some a)) :: L, [], h) = am_E y (pc + 1 + c1 + c2 + 4 + 3, some (vr (some a)) :: L, [], h') ∧ Gp h0 (N + 1 + n) (S + n + n * m) ((a, k + 1) :: O) J h' := by
  have g' := Gp_mul hN16 g kN kI r1 r2 jN b37
  have ka' : hK (am_mul h t ti n m) a = (kk, 0) := Gp_K g' a16 (by omega) ka k2
  refine ⟨pR (am_mul h t ti n m) a k (some N), ?_, Gp_R g' n37 n147 a16 hv gap⟩
  rw [q_ald h1, q_ic h2, q_ic h3, q_mul hn hm h4, g.1, q_pR (by rw [ka']; exact kc) h5]
/-- a field that is 0 -/
theorem stI0 {y pc cl a k kk : Nat} {v : Int32} {L : am_L} {cs : List Nat} (h1 : am_P y pc = some (i_ald 0 1)) (h2 : am_P y (pc + 1) = some (i_ic v cl)) (h3 : am_P y (pc + 1 + cl) = some (i_pI cs k)) (g : Gp h0 N S O J h) (aN : a < N) (a16 : 16 ≤ a) (ka : shK a = (kk, 0)) (kc : kk ∈ cs) (k2 : kk < 200) (jv : J a k = v) : ∃ h', am_E y (pc, some (vr (some a)) :: L, [], h) = am_E y (pc + 1 + cl + 3, some (vr (some a)) :: L, [], h') ∧ Gp h0 N S O J h' := by
  obtain ⟨h', e, -, g'⟩ := stI (L := L) h1 h2 h3 g aN a16 ka kc k2
  exact ⟨h', e, g' jv⟩
theorem stIv {y pc cl a k kk : Nat} {v : Int32} {L : am_L} {cs : List Nat} (h1 : am_P y pc = some (i_ald 0 1)) (h2 : am_P y (pc + 1) = some (i_ic v cl)) (h3 : am_P y (pc + 1 + cl) = some (i_pI cs k)) (g : Gp h0 N S O J h) (aN : a < N) (a16 : 16 ≤ a) (ka : shK a = (kk, 0)) (kc : kk ∈ cs) (k2 : kk < 200) : ∃ h', am_E y (pc, some (vr (some a)) :: L, [], h) = am_E y (pc + 1 + cl + 3, some (vr (some a)) :: L, [], h') ∧ Gp h0 N S O (jc a k v J) h' := by
  obtain ⟨h', e, g', -⟩ := stI (L := L) h1 h2 h3 g aN a16 ka kc k2
  exact ⟨h', e, g'⟩
theorem stZ0 {y pc cl a k kk : Nat} {v : Int32} {L : am_L} {cs : List Nat} (h1 : am_P y pc = some (i_ald 0 1)) (h2 : am_P y (pc + 1) = some (i_ic v cl)) (h3 : am_P y (pc + 1 + cl) = some (i_pZ cs k)) (hz : v = 0 ∨ v = 1) (g : Gp h0 N S O J h) (aN : a < N) (a16 : 16 ≤ a) (ka : shK a = (kk, 0)) (kc : kk ∈ cs) (k2 : kk < 200) (jv : J a k = v) : ∃ h', am_E y (pc, some (vr (some a)) :: L, [], h) = am_E y (pc + 1 + cl + 3, some (vr (some a)) :: L, [], h') ∧ Gp h0 N S O J h' := by
  have ka' : hK h a = (kk, 0) := Gp_K g a16 aN ka k2
  refine ⟨pI h a k v, ?_, Gp_I0 g a16 jv⟩
  rw [q_ald h1, q_ic h2, q_pZ (by rw [ka']; exact kc) hz h3]
/-- a field that holds a new object -/
theorem stN {y pc a k0 k n t kk z N' S' : Nat} {J' : Nat → Nat → Int32} {L : am_L} {cs : List Nat} (h1 : am_P y pc = some (i_ald 0 1)) (h2 : am_P y (pc + 1) = some (i_new t n)) (h3 : am_P y (pc + 1 + 3) = some i_dup) (h4 : am_P y (pc + 1 + 3 + 1) = some (i_ci z 0)) (h5 : am_P y (pc + 1 + 3 + 1 + 3) = some (i_pR cs k)) (hz : 1 ≤ (am_fm z).2.2.1) (g : Gp h0 N S ((a, k0) :: O) J h) (hN16 : 16 ≤ N) (kN : (shK N).1 < 200 → (t, 0) = shK N) (jN : ∀ k, J N k = 0) (hD : ∀ h, Gp h0 (N + 1) (S + n) ((N, 0) :: (a, k0) :: O) J h → ∃ h', am_D z [vr (some N)] h = some (none, h') ∧ Gp h0 N' S' ((a, k0) :: O) J' h') (aN : a < N') (a16 : 16 ≤ a) (n37 : a ≠ 37) (n147 : a ≠ 147) (ka : shK a = (kk, 0)) (kc : kk ∈ cs) (k2 : kk < 200) (hv : shR a k = some N) (gap : ∀ k', k' < 64 → k0 ≤ k' → k' < k → shR a k' = none) : ∃ h', am_E y (pc, some (vr (some a)) :: L, [], h) = am_E y (pc + 1 + 3 + 1 + 3 + 3, some (vr (some a)) :: L, [], h') ∧ Gp h0 N' S' ((a, k + 1) :: O) J' h' := by
  obtain ⟨h', e', g'⟩ := hD _ (Gp_alo (kd := (t, 0)) (sl := n) hN16 g kN jN)
  have ka' : hK h' a = (kk, 0) := Gp_K g' a16 aN ka k2
  refine ⟨pR h' a k (some N), ?_, Gp_R g' n37 n147 a16 hv gap⟩
  rw [q_ald h1, q_new h2, q_dup h3, q_ci h4 (Nat.le_of_ble_eq_true rfl) hz, g.1, e', Option.bind_some, Option.toList_none, List.nil_append, q_pR (by rw [ka']; exact kc) h5]
/-- one of a row's numbers -/
theorem stW {y pc c1 c2 a n j : Nat} {v : Int32} {f : Nat → Int32} {L : am_L} {st : List am_V} (h1 : am_P y pc = some i_dup) (h2 : am_P y (pc + 1) = some (i_ic (ni j) c1)) (h3 : am_P y (pc + 1 + c1) = some (i_ic v c2)) (h4 : am_P y (pc + 1 + c1 + c2) = some i_iast) (g : Gp h0 N S O (jt a j f J) h) (a16 : 16 ≤ a) (aN : a < N) (ka : shK a = (100, n)) (hj : j < n) (hj2 : j < 2147483648) (fv : f j = v) : ∃ h', am_E y (pc, L, vr (some a) :: st, h) = am_E y (pc + 1 + c1 + c2 + 1, L, vr (some a) :: st, h') ∧ Gp h0 N S O (jt a (j + 1) f J) h' := by
  have ka' : hK h a = (100, n) := Gp_K g a16 aN ka (show 100 < 200 by decide)
  have g' := Gp_I (k := j) (v := v) g a16
  rw [jt_s fv] at g'
  refine ⟨pI h a j v, ?_, g'⟩
  rw [q_dup h1, q_ic h2, q_ic h3, q_iast ka' a16 hj hj2 h4]
/-- what the shape says of a man at a -/
def Sm (a : Nat) : Prop := shK a = (4, 0) ∧ (shK (a + 1) = (100, 3) ∧ shK (a + 2) = (100, 3) ∧ shK (a + 3) = (100, 3)) ∧ (shR a 6 = some (a + 1) ∧ shR a 7 = some (a + 2) ∧ shR a 8 = some (a + 3)) ∧ (∀ k, k < 64 → k < 6 ∨ 9 ≤ k → shR a k = none) ∧ (∀ k, k < 64 → shR (a + 1) k = none) ∧ (∀ k, k < 64 → shR (a + 2) k = none) ∧ (∀ k, k < 64 → shR (a + 3) k = none) ∧ 16 ≤ a ∧ a ≠ 37 ∧ a ≠ 147
theorem Sm_0 : ∀ j, j < 24 → Sm (42 + 4 * j) := by
  have e1 : ∀ j, j < 24 → shK (42 + 4 * j) = (4, 0) := by decide +kernel
  have e2 : ∀ j, j < 24 → shK (42 + 4 * j + 1) = (100, 3) ∧ shK (42 + 4 * j + 2) = (100, 3) ∧ shK (42 + 4 * j + 3) = (100, 3) := by decide +kernel
  have e3 : ∀ j, j < 24 → shR (42 + 4 * j) 6 = some (42 + 4 * j + 1) ∧ shR (42 + 4 * j) 7 = some (42 + 4 * j + 2) ∧ shR (42 + 4 * j) 8 = some (42 + 4 * j + 3) := by decide +kernel
  have e4 : ∀ j, j < 24 → ∀ k, k < 64 → k < 6 ∨ 9 ≤ k → shR (42 + 4 * j) k = none := by decide +kernel
  have e5 : ∀ j, j < 24 → ∀ k, k < 64 → shR (42 + 4 * j + 1) k = none := by decide +kernel
  have e6 : ∀ j, j < 24 → ∀ k, k < 64 → shR (42 + 4 * j + 2) k = none := by decide +kernel
  have e7 : ∀ j, j < 24 → ∀ k, k < 64 → shR (42 + 4 * j + 3) k = none := by decide +kernel
  exact fun j hj => ⟨e1 j hj, e2 j hj, e3 j hj, e4 j hj, e5 j hj, e6 j hj, e7 j hj, by omega, by omega, by omega⟩
theorem Sm_1 : ∀ j, j < 24 → Sm (152 + 4 * j) := by
  have e1 : ∀ j, j < 24 → shK (152 + 4 * j) = (4, 0) := by decide +kernel
  have e2 : ∀ j, j < 24 → shK (152 + 4 * j + 1) = (100, 3) ∧ shK (152 + 4 * j + 2) = (100, 3) ∧ shK (152 + 4 * j + 3) = (100, 3) := by decide +kernel
  have e3 : ∀ j, j < 24 → shR (152 + 4 * j) 6 = some (152 + 4 * j + 1) ∧ shR (152 + 4 * j) 7 = some (152 + 4 * j + 2) ∧ shR (152 + 4 * j) 8 = some (152 + 4 * j + 3) := by decide +kernel
  have e4 : ∀ j, j < 24 → ∀ k, k < 64 → k < 6 ∨ 9 ≤ k → shR (152 + 4 * j) k = none := by decide +kernel
  have e5 : ∀ j, j < 24 → ∀ k, k < 64 → shR (152 + 4 * j + 1) k = none := by decide +kernel
  have e6 : ∀ j, j < 24 → ∀ k, k < 64 → shR (152 + 4 * j + 2) k = none := by decide +kernel
  have e7 : ∀ j, j < 24 → ∀ k, k < 64 → shR (152 + 4 * j + 3) k = none := by decide +kernel
  exact fun j hj => ⟨e1 j hj, e2 j hj, e3 j hj, e4 j hj, e5 j hj, e6 j hj, e7 j hj, by omega, by omega, by omega⟩
theorem D0a {a : Nat} (sm : Sm a) (g : Gp h0 (a + 1) S ((a, 0) :: O) J h) (jz : ∀ b k, a ≤ b → b < a + 4 → J b k = 0) : ∃ h', am_D 0 [vr (some a)] h = some (none, h') ∧ Gp h0 (a + 4) (S + 9) O J h' := by
  obtain ⟨k0, ⟨k1, k2, k3⟩, ⟨r1, r2, r3⟩, rn, o1, o2, o3, a16, a37, a147⟩ := sm
  have E0 : am_D 0 [vr (some a)] h = am_E 0 (4, [some (vr (some a))], [], h) := (q_ald (L := []) (y := 0) (pc := 0) rfl).trans (q_oin rfl)
  obtain ⟨h1, e1, g1⟩ := stI0 (L := []) (y := 0) (pc := 4) (cl := 1) (v := 0) (k := 0) (cs := [4]) rfl rfl rfl g (by omega) a16 k0 (by decide) (by decide) (jz _ _ (by omega) (by omega))
  obtain ⟨h2, e2, g2⟩ := stI0 (L := []) (y := 0) (pc := 9) (cl := 1) (v := 0) (k := 1) (cs := [4]) rfl rfl rfl g1 (by omega) a16 k0 (by decide) (by decide) (jz _ _ (by omega) (by omega))
  obtain ⟨h3, e3, g3⟩ := stI0 (L := []) (y := 0) (pc := 14) (cl := 1) (v := 0) (k := 2) (cs := [4]) rfl rfl rfl g2 (by omega) a16 k0 (by decide) (by decide) (jz _ _ (by omega) (by omega))
  obtain ⟨h4, e4, g4⟩ := stI0 (L := []) (y := 0) (pc := 19) (cl := 1) (v := 0) (k := 3) (cs := [4]) rfl rfl rfl g3 (by omega) a16 k0 (by decide) (by decide) (jz _ _ (by omega) (by omega))
  obtain ⟨h5, e5, g5⟩ := stI0 (L := []) (y := 0) (pc := 24) (cl := 1) (v := 0) (k := 4) (cs := [4]) rfl rfl rfl g4 (by omega) a16 k0 (by decide) (by decide) (jz _ _ (by omega) (by omega))
  obtain ⟨h6, e6, g6⟩ := stI0 (L := []) (y := 0) (pc := 29) (cl := 1) (v := 0) (k := 5) (cs := [4]) rfl rfl rfl g5 (by omega) a16 k0 (by decide) (by decide) (jz _ _ (by omega) (by omega))
  obtain ⟨h7, e7, g7⟩ := stF (L := []) (y := 0) (pc := 34) (cl := 1) (n := 3) (t := 100) (k := 6) (cs := [4]) rfl rfl rfl rfl g6 (by omega) (by decide) (by omega) a16 a37 a147 k0 (by decide) (by decide) (fun _ => k1.symm) o1 (fun k => jz _ _ (by omega) (by omega)) r1 (fun k a b c => rn k a (by omega))
  obtain ⟨h8, e8, g8⟩ := stF (L := []) (y := 0) (pc := 41) (cl := 1) (n := 3) (t := 100) (k := 7) (cs := [4]) rfl rfl rfl rfl g7 (by omega) (by decide) (by omega) a16 a37 a147 k0 (by decide) (by decide) (fun _ => k2.symm) o2 (fun k => jz _ _ (by omega) (by omega)) r2 (fun k a b c => by omega)
  obtain ⟨h9, e9, g9⟩ := stF (L := []) (y := 0) (pc := 48) (cl := 1) (n := 3) (t := 100) (k := 8) (cs := [4]) rfl rfl rfl rfl g8 (by omega) (by decide) (by omega) a16 a37 a147 k0 (by decide) (by decide) (fun _ => k3.symm) o3 (fun k => jz _ _ (by omega) (by omega)) r3 (fun k a b c => by omega)
  refine ⟨h9, ?_, Gp_close g9 (fun k a b => rn k a (by omega))⟩
  rw [E0, e1, e2, e3, e4, e5, e6, e7, e8, e9, q_vret rfl]
end STF
