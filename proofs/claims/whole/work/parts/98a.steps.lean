/-! the objects are made: steps -/
section STP
variable {y pc : Nat} {L : am_L} {st : List am_V} {h : am_H}
theorem q_ald {x : Option Nat} (hP : am_P y pc = some (i_ald 0 1)) : am_E y (pc, some (vr x) :: L, st, h) = am_E y (pc + 1, some (vr x) :: L, vr x :: st, h) := E_s hP rfl
theorem q_ic {v : Int32} {n : Nat} (hP : am_P y pc = some (i_ic v n)) : am_E y (pc, L, st, h) = am_E y (pc + n, L, vi v :: st, h) := E_s hP rfl
theorem q_na {t n : Nat} (hn : n ≤ 10000) (hP : am_P y pc = some (i_na t)) : am_E y (pc, L, vi (ni n) :: st, h) = am_E y (pc + 2, L, vr (some (hN h)) :: st, al h (t, n) n) := by
  refine E_s hP ?_
  show (if ni n < 0 then none else if (ni n).toNatClampNeg ≤ 10000 then some (Sum.inl (pc + 2, L, vr (some (hN h)) :: st, al h (t, (ni n).toNatClampNeg) (ni n).toNatClampNeg)) else none) = _
  rw [if_neg (show ¬ ni n < 0 by rw [show (0 : Int32) = ni 0 from rfl, ni_lt (by omega) (by omega)]; omega), ni_nn (by omega), if_pos hn]
theorem q_ana {t n : Nat} (hn : n ≤ 10000) (hP : am_P y pc = some (i_ana t)) : am_E y (pc, L, vi (ni n) :: st, h) = am_E y (pc + 3, L, vr (some (hN h)) :: st, al h (t, n) n) := by
  refine E_s hP ?_
  show (if ni n < 0 then none else if (ni n).toNatClampNeg ≤ 10000 then some (Sum.inl (pc + 3, L, vr (some (hN h)) :: st, al h (t, (ni n).toNatClampNeg) (ni n).toNatClampNeg)) else none) = _
  rw [if_neg (show ¬ ni n < 0 by rw [show (0 : Int32) = ni 0 from rfl, ni_lt (by omega) (by omega)]; omega), ni_nn (by omega), if_pos hn]
theorem q_mul {t ti n m : Nat} (hn : n ≤ 10000) (hm : m ≤ 10000) (hP : am_P y pc = some (i_mul t ti)) : am_E y (pc, L, vi (ni m) :: vi (ni n) :: st, h) = am_E y (pc + 4, L, vr (some (hN h)) :: st, am_mul h t ti n m) := by
  refine E_s hP ?_
  show (if ni n < 0 ∨ ni m < 0 then none else if (ni n).toNatClampNeg ≤ 10000 ∧ (ni m).toNatClampNeg ≤ 10000 then some (Sum.inl (pc + 4, L, vr (some (hN h)) :: st, am_mul h t ti (ni n).toNatClampNeg (ni m).toNatClampNeg)) else none) = _
  have n0 : ¬ ni n < 0 := by rw [show (0 : Int32) = ni 0 from rfl, ni_lt (by omega) (by omega)]; omega
  have m0 : ¬ ni m < 0 := by rw [show (0 : Int32) = ni 0 from rfl, ni_lt (by omega) (by omega)]; omega
  rw [if_neg (fun z => z.elim n0 m0), ni_nn (by omega), ni_nn (by omega), if_pos ⟨hn, hm⟩]
theorem q_pR {cs : List Nat} {k a : Nat} {x : Option Nat} (hk : (hK h a).1 ∈ cs) (hP : am_P y pc = some (i_pR cs k)) : am_E y (pc, L, vr x :: vr (some a) :: st, h) = am_E y (pc + 3, L, st, pR h a k x) := E_s hP (if_pos hk)
theorem q_pI {cs : List Nat} {k a : Nat} {x : Int32} (hk : (hK h a).1 ∈ cs) (hP : am_P y pc = some (i_pI cs k)) : am_E y (pc, L, vi x :: vr (some a) :: st, h) = am_E y (pc + 3, L, st, pI h a k x) := E_s hP (if_pos hk)
theorem q_pZ {cs : List Nat} {k a : Nat} {x : Int32} (hk : (hK h a).1 ∈ cs) (hx : x = 0 ∨ x = 1) (hP : am_P y pc = some (i_pZ cs k)) : am_E y (pc, L, vi x :: vr (some a) :: st, h) = am_E y (pc + 3, L, st, pI h a k x) := E_s hP (if_pos ⟨hk, hx⟩)
theorem q_new {t n : Nat} (hP : am_P y pc = some (i_new t n)) : am_E y (pc, L, st, h) = am_E y (pc + 3, L, vr (some (hN h)) :: st, al h (t, 0) n) := E_s hP rfl
theorem q_dup {x : Option Nat} (hP : am_P y pc = some i_dup) : am_E y (pc, L, vr x :: st, h) = am_E y (pc + 1, L, vr x :: vr x :: st, h) := E_s hP rfl
theorem q_iast {a n j : Nat} {v : Int32} (hk : hK h a = (100, n)) (ha : 16 ≤ a) (hj : j < n) (hj2 : j < 2147483648) (hP : am_P y pc = some i_iast) : am_E y (pc, L, vi v :: vi (ni j) :: vr (some a) :: st, h) = am_E y (pc + 1, L, st, pI h a j v) := E_s hP (v_iastl hk ha (ix_ni hj hj2))
theorem q_oin {a : Nat} (hP : am_P y pc = some i_oin) : am_E y (pc, L, [vr (some a)], h) = am_E y (pc + 3, L, [], h) := E_s hP rfl
end STP
/-! what is known of the heap while the objects are made: h0 the heap at the start, N cells, S slots, what is still open (from which field on), the ints -/
def Gp (h0 : am_H) (N S : Nat) (O : List (Nat × Nat)) (J : Nat → Nat → Int32) (h : am_H) : Prop := hN h = N ∧ hSl h = S ∧ (∀ b, b < 16 → hK h b = hK h0 b ∧ ∀ k, hI h b k = hI h0 b k) ∧ (∀ b, 16 ≤ b → b < N → (shK b).1 < 200 → hK h b = shK b) ∧ (∀ b, N ≤ b → (hK h b).1 = 200) ∧ (∀ b k r, 16 ≤ b → b < N → k < 64 → shR b k = some r → (∀ p, p ∈ O → p.1 = b → k < p.2) → hR h b k = some r) ∧ (∀ b k, 16 ≤ b → b < N → hI h b k = J b k) ∧ ∀ b k, b = 37 ∨ b = 147 → b < N → hR h b k = none
section GPR
variable {h0 h : am_H} {N S : Nat} {O : List (Nat × Nat)} {J : Nat → Nat → Int32}
theorem Gp_al {kd : Nat × Nat} {sl : Nat} (hN16 : 16 ≤ N) (g : Gp h0 N S O J h) (k1 : (shK N).1 < 200 → kd = shK N) (o1 : ∀ k, k < 64 → shR N k = none) (j1 : ∀ k, J N k = 0) : Gp h0 (N + 1) (S + sl) O J (al h kd sl) := by
  obtain ⟨g1, g2, g3, g4, g5, g6, g7, g8⟩ := g
  have K : ∀ b, hK (al h kd sl) b = if b = N then kd else hK h b := fun b => by rw [← g1]; rfl
  have I : ∀ b k, hI (al h kd sl) b k = if b = N then 0 else hI h b k := fun b k => by rw [← g1]; rfl
  have R : ∀ b k, hR (al h kd sl) b k = if b = N then none else hR h b k := fun b k => by rw [← g1]; rfl
  refine ⟨by show hN h + 1 = _; rw [g1], by show hSl h + sl = _; rw [g2], fun b hb => ?_, fun b h1 h2 h3 => ?_, fun b hb => ?_, fun b k r h1 h2 h3 h4 h5 => ?_, fun b k h1 h2 => ?_, fun b k h1 h2 => ?_⟩
  · rw [K, if_neg (by omega)]
    exact ⟨(g3 b hb).1, fun k => by rw [I, if_neg (by omega)]; exact (g3 b hb).2 k⟩
  · rw [K]
    by_cases e : b = N
    · rw [if_pos e, e]; rw [e] at h3; exact k1 h3
    · rw [if_neg e]; exact g4 b h1 (by omega) h3
  · rw [K, if_neg (by omega)]; exact g5 b (by omega)
  · by_cases e : b = N
    · rw [e, o1 k h3] at h4; cases h4
    · rw [R, if_neg e]; exact g6 b k r h1 (by omega) h3 h4 h5
  · rw [I]
    by_cases e : b = N
    · rw [if_pos e, e, j1]
    · rw [if_neg e]; exact g7 b k h1 (by omega)
  · rw [R]
    by_cases e : b = N
    · rw [if_pos e]
    · rw [if_neg e]; exact g8 b k h1 (by omega)
/-- a cell that will hold references -/
theorem Gp_alo {kd : Nat × Nat} {sl : Nat} (hN16 : 16 ≤ N) (g : Gp h0 N S O J h) (k1 : (shK N).1 < 200 → kd = shK N) (j1 : ∀ k, J N k = 0) : Gp h0 (N + 1) (S + sl) ((N, 0) :: O) J (al h kd sl) := by
  obtain ⟨g1, g2, g3, g4, g5, g6, g7, g8⟩ := g
  have K : ∀ b, hK (al h kd sl) b = if b = N then kd else hK h b := fun b => by rw [← g1]; rfl
  have I : ∀ b k, hI (al h kd sl) b k = if b = N then 0 else hI h b k := fun b k => by rw [← g1]; rfl
  have R : ∀ b k, hR (al h kd sl) b k = if b = N then none else hR h b k := fun b k => by rw [← g1]; rfl
  refine ⟨by show hN h + 1 = _; rw [g1], by show hSl h + sl = _; rw [g2], fun b hb => ?_, fun b h1 h2 h3 => ?_, fun b hb => ?_, fun b k r h1 h2 h3 h4 h5 => ?_, fun b k h1 h2 => ?_, fun b k h1 h2 => ?_⟩
  · rw [K, if_neg (by omega)]
    exact ⟨(g3 b hb).1, fun k => by rw [I, if_neg (by omega)]; exact (g3 b hb).2 k⟩
  · rw [K]
    by_cases e : b = N
    · rw [if_pos e, e]; rw [e] at h3; exact k1 h3
    · rw [if_neg e]; exact g4 b h1 (by omega) h3
  · rw [K, if_neg (by omega)]; exact g5 b (by omega)
  · by_cases e : b = N
    · have := h5 (N, 0) List.mem_cons_self e.symm
      have : k < 0 := this
      omega
    · rw [R, if_neg e]; exact g6 b k r h1 (by omega) h3 h4 (fun p hp => h5 p (List.mem_cons_of_mem _ hp))
  · rw [I]
    by_cases e : b = N
    · rw [if_pos e, e, j1]
    · rw [if_neg e]; exact g7 b k h1 (by omega)
  · rw [R]
    by_cases e : b = N
    · rw [if_pos e]
    · rw [if_neg e]; exact g8 b k h1 (by omega)
theorem Gp_R {a k0 k : Nat} {v : Nat} (g : Gp h0 N S ((a, k0) :: O) J h) (n37 : a ≠ 37) (n147 : a ≠ 147) (a16 : 16 ≤ a) (hv : shR a k = some v) (gap : ∀ k', k' < 64 → k0 ≤ k' → k' < k → shR a k' = none) : Gp h0 N S ((a, k + 1) :: O) J (pR h a k (some v)) := by
  obtain ⟨g1, g2, g3, g4, g5, g6, g7, g8⟩ := g
  refine ⟨g1, g2, g3, g4, g5, fun b k' r h1 h2 h3 h4 h5 => ?_, g7, fun b k' h1 h2 => ?_⟩
  · rw [hR_pR]
    by_cases e : b = a ∧ k' = k
    · rw [if_pos e]
      rw [e.1, e.2, hv] at h4
      exact h4
    · rw [if_neg e]
      refine g6 b k' r h1 h2 h3 h4 (fun p hp he => ?_)
      rcases List.mem_cons.mp hp with rfl | hp
      · have he' : a = b := he
        have := h5 (a, k + 1) List.mem_cons_self he
        have : k' < k + 1 := this
        show k' < k0
        by_cases q : k' < k0
        · exact q
        · have ne : k' ≠ k := fun z => e ⟨he'.symm, z⟩
          have := gap k' h3 (by omega) (by omega)
          rw [he', h4] at this
          cases this
      · exact h5 p (List.mem_cons_of_mem _ hp) he
  · rw [hR_pR, if_neg (fun z => h1.elim (fun w => n37 (z.1.symm.trans w)) (fun w => n147 (z.1.symm.trans w)))]
    exact g8 b k' h1 h2
theorem Gp_close {a k0 : Nat} (g : Gp h0 N S ((a, k0) :: O) J h) (c : ∀ k, k < 64 → k0 ≤ k → shR a k = none) : Gp h0 N S O J h := by
  obtain ⟨g1, g2, g3, g4, g5, g6, g7, g8⟩ := g
  refine ⟨g1, g2, g3, g4, g5, fun b k' r h1 h2 h3 h4 h5 => g6 b k' r h1 h2 h3 h4 (fun p hp he => ?_), g7, g8⟩
  rcases List.mem_cons.mp hp with rfl | hp
  · have he' : a = b := he
    show k' < k0
    by_cases q : k' < k0
    · exact q
    · have := c k' h3 (by omega)
      rw [he', h4] at this
      cases this
  · exact h5 p hp he
theorem Gp_swap {p q : Nat × Nat} (g : Gp h0 N S (p :: q :: O) J h) : Gp h0 N S (q :: p :: O) J h := by
  obtain ⟨g1, g2, g3, g4, g5, g6, g7, g8⟩ := g
  refine ⟨g1, g2, g3, g4, g5, fun b k' r h1 h2 h3 h4 h5 => g6 b k' r h1 h2 h3 h4 (fun x hx => h5 x ?_), g7, g8⟩
  rcases List.mem_cons.mp hx with rfl | hx
  · exact List.mem_cons_of_mem _ List.mem_cons_self
  · rcases List.mem_cons.mp hx with rfl | hx
    · exact List.mem_cons_self
    · exact List.mem_cons_of_mem _ (List.mem_cons_of_mem _ hx)
theorem Gp_I {a k : Nat} {v : Int32} (g : Gp h0 N S O J h) (a16 : 16 ≤ a) : Gp h0 N S O (fun b j => if b = a ∧ j = k then v else J b j) (pI h a k v) := by
  obtain ⟨g1, g2, g3, g4, g5, g6, g7, g8⟩ := g
  refine ⟨g1, g2, fun b hb => ⟨(g3 b hb).1, fun j => ?_⟩, g4, g5, g6, fun b j h1 h2 => ?_, g8⟩
  · rw [hI_pI, if_neg (by omega)]; exact (g3 b hb).2 j
  · rw [hI_pI]
    by_cases e : b = a ∧ j = k
    · rw [if_pos e]; exact (if_pos e).symm
    · rw [if_neg e, g7 b j h1 h2]; exact (if_neg e).symm
theorem Gp_I0 {a k : Nat} {v : Int32} (g : Gp h0 N S O J h) (a16 : 16 ≤ a) (e : J a k = v) : Gp h0 N S O J (pI h a k v) := by
  obtain ⟨g1, g2, g3, g4, g5, g6, g7, g8⟩ := g
  refine ⟨g1, g2, fun b hb => ⟨(g3 b hb).1, fun j => ?_⟩, g4, g5, g6, fun b j h1 h2 => ?_, g8⟩
  · rw [hI_pI, if_neg (by omega)]; exact (g3 b hb).2 j
  · rw [hI_pI]
    by_cases q : b = a ∧ j = k
    · rw [if_pos q, q.1, q.2]; exact e.symm
    · rw [if_neg q]; exact g7 b j h1 h2
theorem Gp_mul {ko ki n m : Nat} (hN16 : 16 ≤ N) (g : Gp h0 N S O J h) (k1 : shK N = (ko, n)) (k2 : ∀ j, j < n → shK (N + 1 + j) = (ki, m)) (r1 : ∀ k, k < 64 → shR N k = if k < n then some (N + 1 + k) else none) (r2 : ∀ j, j < n → ∀ k, k < 64 → shR (N + 1 + j) k = none) (j1 : ∀ j k, j ≤ n → J (N + j) k = 0) (n37 : ∀ b, b = 37 ∨ b = 147 → b < N ∨ N + n < b) : Gp h0 (N + 1 + n) (S + n + n * m) O J (am_mul h ko ki n m) := by
  obtain ⟨g1, g2, g3, g4, g5, g6, g7, g8⟩ := g
  have K : ∀ b, hK (am_mul h ko ki n m) b = if b = N then (ko, n) else if N < b ∧ b ≤ N + n then (ki, m) else hK h b := fun b => by rw [← g1]; rfl
  have I : ∀ b k, hI (am_mul h ko ki n m) b k = if N ≤ b ∧ b ≤ N + n then 0 else hI h b k := fun b k => by rw [← g1]; rfl
  have R : ∀ b k, hR (am_mul h ko ki n m) b k = if b = N then (if k < n then some (N + 1 + k) else none) else if N < b ∧ b ≤ N + n then none else hR h b k := fun b k => by rw [← g1]; rfl
  refine ⟨by show hN h + 1 + n = _; rw [g1], by show hSl h + n + n * m = _; rw [g2], fun b hb => ?_, fun b h1 h2 h3 => ?_, fun b hb => ?_, fun b k r h1 h2 h3 h4 h5 => ?_, fun b k h1 h2 => ?_, fun b k h1 h2 => ?_⟩
  · rw [K, if_neg (by omega), if_neg (by omega)]
    exact ⟨(g3 b hb).1, fun k => by rw [I, if_neg (by omega)]; exact (g3 b hb).2 k⟩
  · rw [K]
    by_cases e : b = N
    · rw [if_pos e, e, k1]
    · rw [if_neg e]
      by_cases e2 : N < b ∧ b ≤ N + n
      · rw [if_pos e2]
        have := k2 (b - (N + 1)) (by omega)
        rw [show N + 1 + (b - (N + 1)) = b by omega] at this
        exact this.symm
      · rw [if_neg e2]; exact g4 b h1 (by omega) h3
  · rw [K, if_neg (by omega), if_neg (by omega)]; exact g5 b (by omega)
  · rw [R]
    by_cases e : b = N
    · rw [if_pos e]
      rw [e, r1 k h3] at h4
      exact h4
    · rw [if_neg e]
      by_cases e2 : N < b ∧ b ≤ N + n
      · have := r2 (b - (N + 1)) (by omega) k h3
        rw [show N + 1 + (b - (N + 1)) = b by omega, h4] at this
        cases this
      · rw [if_neg e2]; exact g6 b k r h1 (by omega) h3 h4 h5
  · rw [I]
    by_cases e : N ≤ b ∧ b ≤ N + n
    · rw [if_pos e]
      have := j1 (b - N) k (by omega)
      rw [show N + (b - N) = b by omega] at this
      exact this.symm
    · rw [if_neg e]; exact g7 b k h1 (by omega)
  · have := n37 b h1
    rw [R, if_neg (by omega), if_neg (by omega)]; exact g8 b k h1 (by omega)
/-- a field that holds a new row -/
theorem stF {y pc cl a k0 k n t kk : Nat} {L : am_L} {cs : List Nat} (h1 : am_P y pc = some (i_ald 0 1)) (h2 : am_P y (pc + 1) = some (i_ic (ni n) cl)) (h3 : am_P y (pc + 1 + cl) = some (i_na t)) (h4 : am_P y (pc + 1 + cl + 2) = some (i_pR cs k)) (g : Gp h0 N S ((a, k0) :: O) J h) (hN16 : 16 ≤ N) (hn : n ≤ 10000) (aN : a < N) (a16 : 16 ≤ a) (n37 : a ≠ 37) (n147 : a ≠ 147) (ka : shK a = (kk, 0)) (kc : kk ∈ cs) (k2 : kk < 200) (kN : (shK N).1 < 200 → (t, n) = shK N) (oN : ∀ k, k < 64 → shR N k = none) (jN : ∀ k, J N k = 0) (hv : shR a k = some N) (gap : ∀ k', k' < 64 → k0 ≤ k' → k' < k → shR a k' = none) : ∃ h', am_E y (pc, some (vr (some a)) :: L, [], h) = am_E y (pc + 1 + cl + 2 + 3, some (vr (some a)) :: L, [], h') ∧ Gp h0 (N + 1) (S + n) ((a, k + 1) :: O) J h' := by
  have g' := Gp_al (kd := (t, n)) (sl := n) hN16 g kN oN jN
  have ka' : hK (al h (t, n) n) a = (kk, 0) := (g'.2.2.2.1 a a16 (by omega) (by rw [ka]; exact k2)).trans ka
  refine ⟨pR (al h (t, n) n) a k (some N), ?_, Gp_R g' n37 n147 a16 hv gap⟩
  rw [q_ald h1, q_ic h2, q_na hn h3, g.1, q_pR (by rw [ka']; exact kc) h4]
/-- a field that is 0, or what the ints' table says -/
theorem stI {y pc cl a k kk : Nat} {v : Int32} {L : am_L} {cs : List Nat} (h1 : am_P y pc = some (i_ald 0 1)) (h2 : am_P y (pc + 1) = some (i_ic v cl)) (h3 : am_P y (pc + 1 + cl) = some (i_pI cs k)) (g : Gp h0 N S O J h) (aN : a < N) (a16 : 16 ≤ a) (ka : shK a = (kk, 0)) (kc : kk ∈ cs) (k2 : kk < 200) : ∃ h', am_E y (pc, some (vr (some a)) :: L, [], h) = am_E y (pc + 1 + cl + 3, some (vr (some a)) :: L, [], h') ∧ Gp h0 N S O (fun b j => if b = a ∧ j = k then v else J b j) h' ∧ (J a k = v → Gp h0 N S O J h') := by
  have ka' : hK h a = (kk, 0) := (g.2.2.2.1 a a16 aN (by rw [ka]; exact k2)).trans ka
  refine ⟨pI h a k v, ?_, Gp_I g a16, Gp_I0 g a16⟩
  rw [q_ald h1, q_ic h2, q_pI (by rw [ka']; exact kc) h3]
end GPR
