theorem am_len5 {i : Nat} (hi : i < 5) : ((List.range 5).map fun i => (am_byt i).length).getD i 0 = (am_byt i).length := by
  rw [List.getD_eq_getElem?_getD, List.getElem?_map, List.getElem?_range hi]; rfl
theorem am_byt5 {i : Nat} (hi : i < 5) : ((List.range 5).map am_byt).getD i [] = am_byt i := by
  rw [List.getD_eq_getElem?_getD, List.getElem?_map, List.getElem?_range hi]; rfl
/-! THE LAW AT ITS START: what is known of the world there; a run of the abstract machine that ends in 1 gives the claim's walk -/
def am_fl : List Cond := flatC (Jvm.Cond.and given_1 narrow_1)
theorem am_ins : ∀ t, t < 13 → Cond.instantiable (am_q t).1 (am_q t).2.2 ∈ am_T := am_13 (am_in 685 (by decide +kernel) (by decide +kernel)) (am_in 697 (by decide +kernel) (by decide +kernel)) (am_in 709 (by decide +kernel) (by decide +kernel)) (am_in 733 (by decide +kernel) (by decide +kernel)) (am_in 125 (by decide +kernel) (by decide +kernel)) (am_in 241 (by decide +kernel) (by decide +kernel)) (am_in 721 (by decide +kernel) (by decide +kernel)) (am_in 745 (by decide +kernel) (by decide +kernel)) (am_in 214 (by decide +kernel) (by decide +kernel)) (am_in 644 (by decide +kernel) (by decide +kernel)) (am_in 114 (by decide +kernel) (by decide +kernel)) (am_in 104 (by decide +kernel) (by decide +kernel)) (am_in 1257 (by decide +kernel) (by decide +kernel))
def am_tab0 : List Int32 := [10, 2, 3, 9, 5, 2, 0, 6, 1, 2, 3, 2, 3, 1]
def am_tab1 : List Int32 := [99, 2, 9, 9, 9, 9, 9, 9, 9, 9, 9, 9, 99, 99]
def am_st0 : Term := .static "HadItFrom" "FIRST_RULES" "[I"
def am_st1 : Term := .static "HadItFrom" "MOST_OF_RULES" "[I"
def am_tm (i : Nat) : Term := .string "HadItFrom$Text" ((am_lit[i]?).getD (0, "")).1
def am_tv (i : Nat) : Term := .field (am_tm i) "java/lang/String" "value" "[B"
theorem am_f0 : Cond.arrayOf am_st0 .int ∈ am_fl ∧ Cond.eq (.length am_st0) (.int 14) ∈ am_fl ∧ ∀ j, j < 14 → Cond.eq (.elem am_st0 (.int (Int32.ofNat j))) (.int (am_tab0.getD j 0)) ∈ am_fl := ⟨by decide +kernel, by decide +kernel, by decide +kernel⟩
theorem am_f1 : Cond.arrayOf am_st1 .int ∈ am_fl ∧ Cond.eq (.length am_st1) (.int 14) ∈ am_fl ∧ ∀ j, j < 14 → Cond.eq (.elem am_st1 (.int (Int32.ofNat j))) (.int (am_tab1.getD j 0)) ∈ am_fl := ⟨by decide +kernel, by decide +kernel, by decide +kernel⟩
theorem am_f2 : Cond.eq (.static "java/lang/String" "COMPACT_STRINGS" "Z") (.int 1) ∈ am_fl ∧ Cond.isRef (.static "jdk/internal/util/Preconditions" "SIOOBE_FORMATTER" "Ljava/util/function/BiFunction;") ∈ am_fl := ⟨by decide +kernel, by decide +kernel⟩
theorem am_f3 : ∀ i, i < 5 → Cond.exactly (am_tm i) "java/lang/String" ∈ am_fl ∧ Cond.eq (.field (am_tm i) "java/lang/String" "coder" "B") (.int 0) ∈ am_fl ∧ Cond.arrayOf (am_tv i) .byte ∈ am_fl ∧ Cond.eq (.length (am_tv i)) (.int (Int32.ofNat (am_byt i).length)) ∈ am_fl := by decide +kernel
theorem am_f4_0 : ∀ j, j < (am_byt 0).length → am_fl[185 + j]? = some (Cond.eq (.elem (am_tv 0) (.int (Int32.ofNat j))) (.int ((am_byt 0).getD j 0))) := by decide +kernel
theorem am_f4_1 : ∀ j, j < (am_byt 1).length → am_fl[279 + j]? = some (Cond.eq (.elem (am_tv 1) (.int (Int32.ofNat j))) (.int ((am_byt 1).getD j 0))) := by decide +kernel
theorem am_f4_2 : ∀ j, j < (am_byt 2).length → am_fl[324 + j]? = some (Cond.eq (.elem (am_tv 2) (.int (Int32.ofNat j))) (.int ((am_byt 2).getD j 0))) := by decide +kernel
theorem am_f4_3 : ∀ j, j < (am_byt 3).length → am_fl[352 + j]? = some (Cond.eq (.elem (am_tv 3) (.int (Int32.ofNat j))) (.int ((am_byt 3).getD j 0))) := by decide +kernel
theorem am_f4_4 : ∀ j, j < (am_byt 4).length → am_fl[388 + j]? = some (Cond.eq (.elem (am_tv 4) (.int (Int32.ofNat j))) (.int ((am_byt 4).getD j 0))) := by decide +kernel
theorem am_f4 : ∀ i, i < 5 → ∀ j, j < (am_byt i).length → Cond.eq (.elem (am_tv i) (.int (Int32.ofNat j))) (.int ((am_byt i).getD j 0)) ∈ am_fl := by
  intro i hi j hj
  match i, hi with
  | 0, _ => exact List.mem_of_getElem? (am_f4_0 j hj)
  | 1, _ => exact List.mem_of_getElem? (am_f4_1 j hj)
  | 2, _ => exact List.mem_of_getElem? (am_f4_2 j hj)
  | 3, _ => exact List.mem_of_getElem? (am_f4_3 j hj)
  | 4, _ => exact List.mem_of_getElem? (am_f4_4 j hj)
theorem am_f5 : ∀ i, i < 5 → ∀ j, j < 5 → i ≠ j → Cond.not (Cond.eq (am_tm i) (am_tm j)) ∈ am_fl ∨ Cond.not (Cond.eq (am_tm j) (am_tm i)) ∈ am_fl := by decide +kernel
theorem am_f6 : ∀ q ∈ am_ncs, Cond.not (.castable q.1 q.2) ∈ am_fl := by decide +kernel
theorem am_f7 : ∀ i, i < 5 → (am_byt i).length < 2 ^ 31 := by decide +kernel
theorem am_start {s : State} {b L : Nat} {xs : Nat → Int32} (hL : L ≤ 3072) (hts0 : ∀ w ∈ lw_tbl, w.before #[Value.ref b] s = true) (hX : va_X b L xs s s.heap) (hbl : b < s.heap.size) (hgv : (Jvm.Cond.and given_1 narrow_1).before #[Value.ref b] s = true) :
    ∃ G : am_G, gB G = s.heap.size ∧ gH G = s.heap ∧ gL G = L ∧ gX G = xs ∧ gS G 15 = b ∧ am_K G s := by
  have hf : ∀ c ∈ am_fl, c.before #[Value.ref b] s = true := flat_of_before _ hgv
  have hts : ∀ w ∈ am_T, w.before #[Value.ref b] s = true := fun w hw => hts0 w (List.mem_filter.mp hw).1
  have hA : ∀ a : Nat, a < s.heap.size → ¬ (fun q : Nat => s.heap.size ≤ q) a := fun a h => Nat.not_le.mpr h
  -- the classes
  have hcl : ∀ t : Nat, ∃ q : ClassId × (Nat → Nat), t < 13 → u_Kn s (am_q t).1 (am_q t).2.1 (am_q t).2.2 q.1 q.2 := by
    intro t
    by_cases ht : t < 13
    · obtain ⟨cC, iS, h⟩ := u_known (C := (am_q t).1) (T := (am_q t).2.1) (N := (am_q t).2.2) hts (am_hin t ht) (hts _ (am_ins t ht))
      exact ⟨(cC, iS), fun _ => h⟩
    · exact ⟨(0, fun _ => 0), fun h => absurd h ht⟩
  obtain ⟨dq, hdq⟩ := Classical.axiomOfChoice hcl
  -- the arrays' classes
  have hAr : ∀ (ty : FieldType) (c : ClassId) (k : Class) (comp : ClassId), s.vm.classes[c]? = some k → k.kind = .array comp ty → ArrOfT s c ty := fun ty c k comp h2 h3 N z => ⟨(fun q hq => by cases hq), k, h2, comp, h3⟩
  obtain ⟨cI, kI, pI9, i1, i2, i3⟩ := Cond.arrayClass_spec (hts _ tw_170)
  obtain ⟨cJ, kJ, pJ9, j1, j2, j3⟩ := Cond.arrayClass_spec (hts _ tw_169)
  obtain ⟨pM, cM, kM, m1, -, m3, m4, m5⟩ := Cond.arrayOver_spec (hts _ tw_120)
  obtain ⟨pR9, cR, kR, r1, -, r3, r4, r5⟩ := Cond.arrayOver_spec (hts _ tw_124)
  obtain ⟨pII, cII, kII, a1, -, a3, a4, a5⟩ := arrayOverA_spec (hts _ tw_122)
  obtain ⟨pJJ, cJJ, kJJ, b1, -, b3, b4, b5⟩ := arrayOverA_spec (hts _ tw_112)
  -- the tables
  obtain ⟨t0, ht0, hT0⟩ := va_Tof (N := 14) (f := fun j => .int (am_tab0.getD j 0)) (A := fun q : Nat => s.heap.size ≤ q) (by decide) (hf _ am_f0.1) (va_eqt (hf _ am_f0.2.1)) (fun j hj => va_eqt (hf _ (am_f0.2.2 j hj))) hA
  obtain ⟨t1, ht1, hT1⟩ := va_Tof (N := 14) (f := fun j => .int (am_tab1.getD j 0)) (A := fun q : Nat => s.heap.size ≤ q) (by decide) (hf _ am_f1.1) (va_eqt (hf _ am_f1.2.1)) (fun j hj => va_eqt (hf _ (am_f1.2.2 j hj))) hA
  have hini : (Cond.initialized "HadItFrom").before #[Value.ref b] s = true := hts0 _ (List.mem_of_getElem? (i := 81) (by decide +kernel))
  have hZ0 := va_Zref (hts0 (.laysStatic "HadItFrom" "FIRST_RULES" "[I") (List.mem_of_getElem? (i := 497) (by decide +kernel))) hini ht0 hA
  have hZ1 := va_Zref (hts0 (.laysStatic "HadItFrom" "MOST_OF_RULES" "[I") (List.mem_of_getElem? (i := 556) (by decide +kernel))) hini ht1 hA
  -- the literals
  obtain ⟨adK, adV, hS, had⟩ := vk_Sof (N := 5) (tm := am_tm) (len := (List.range 5).map fun i => (am_byt i).length) (byt := (List.range 5).map am_byt) (A := fun q : Nat => s.heap.size ≤ q)
    (fun i hi => by rw [am_len5 hi]; exact am_f7 i hi) (fun i hi => hf _ (am_f3 i hi).1) (fun i hi => hf _ (am_f3 i hi).2.1) (fun i hi => hf _ (am_f3 i hi).2.2.1) (fun i hi => by rw [am_len5 hi]; exact hf _ (am_f3 i hi).2.2.2)
    (fun i hi j hj => by rw [am_len5 hi] at hj; rw [am_byt5 hi]; exact hf _ (am_f4 i hi j hj)) (fun i j hi hj hne => (am_f5 i hi j hj hne).elim (fun z => Or.inl (hf _ z)) (fun z => Or.inr (hf _ z))) hA
  refine ⟨(s.heap.size, s.heap, (fun t => (dq t).1, fun t => (dq t).2), (fun t => if t = 100 then cI else if t = 101 then cJ else if t = 102 then cM else if t = 103 then cR else if t = 104 then cII else cJJ), (fun a => if a = 0 then t0 else if a = 1 then t1 else if a < 7 then adK (a - 2) else if a < 12 then adV (a - 7) else b), L, xs), rfl, rfl, rfl, rfl, rfl, ?_⟩
  refine ⟨⟨fun k q hq => ?_, fun k q hq => ?_⟩, hZ0, hZ1, hT0, hT1, ?_, fun i q hq => ?_, ?_, ?_, fun q hq => va_Nc.of (hf _ (am_f6 q hq)), fun w hw => am_gw_args (am_T_gw hw) rfl (hts w hw), hX, hbl, hL⟩
  · have hk : k < 13 := (List.getElem?_eq_some_iff.mp hq).1
    have e : q = am_q k := Option.some.inj (hq.symm.trans (am_q_some hk))
    rw [e]
    exact hdq k hk
  · match k, hq with
    | 0, hq => cases hq; exact ⟨hAr _ _ _ _ i2 i3, i1⟩
    | 1, hq => cases hq; exact ⟨hAr _ _ _ _ j2 j3, j1⟩
    | 2, hq => cases hq; exact ⟨hAr _ _ _ _ m3 m4, kM, pM, m3, m4, m1, m5⟩
    | 3, hq => cases hq; exact ⟨hAr _ _ _ _ r3 r4, kR, pR9, r3, r4, r1, r5⟩
    | 4, hq => cases hq; exact ⟨hAr _ _ _ _ a3 a4, a5⟩
    | 5, hq => cases hq; exact ⟨hAr _ _ _ _ b3 b4, b5⟩
    | k + 6, hq => simp [am_tys] at hq
  · have hK : ∀ i, i < 5 → (if 2 + i = 0 then t0 else if 2 + i = 1 then t1 else if 2 + i < 7 then adK (2 + i - 2) else if 2 + i < 12 then adV (2 + i - 7) else b) = adK i := fun i hi => by
      rw [if_neg (by omega), if_neg (by omega), if_pos (by omega), show 2 + i - 2 = i by omega]
    have hV : ∀ i, i < 5 → (if 7 + i = 0 then t0 else if 7 + i = 1 then t1 else if 7 + i < 7 then adK (7 + i - 2) else if 7 + i < 12 then adV (7 + i - 7) else b) = adV i := fun i hi => by
      rw [if_neg (by omega), if_neg (by omega), if_neg (by omega), if_pos (by omega), show 7 + i - 7 = i by omega]
    refine ⟨fun i hi => ?_, fun i j hi hj e => ?_⟩
    · have := hS.1 i hi
      dsimp only [gS]
      rw [hK i hi, hV i hi]
      exact this
    · dsimp only [gS] at e
      rw [hK i hi, hK j hj] at e
      exact hS.2 i j hi hj e
  · have hi : i < 5 := (List.getElem?_eq_some_iff.mp hq).1
    have e0 : am_tm i = Term.string "HadItFrom$Text" q.1 := by unfold am_tm; rw [hq]; rfl
    have e1 := had i hi
    rw [e0] at e1
    have e2 : (if 2 + i = 0 then t0 else if 2 + i = 1 then t1 else if 2 + i < 7 then adK (2 + i - 2) else if 2 + i < 12 then adV (2 + i - 7) else b) = adK i := by
      rw [if_neg (by omega), if_neg (by omega), if_pos (by omega), show 2 + i - 2 = i by omega]
    show vk_R "HadItFrom$Text" q.1 q.2 (if 2 + i = 0 then t0 else if 2 + i = 1 then t1 else if 2 + i < 7 then adK (2 + i - 2) else if 2 + i < 12 then adV (2 + i - 7) else b) s
    rw [e2]
    refine vk_R.of (A := #[Value.ref b]) (hts0 _ ?_) e1
    match i, hq with
    | 0, hq => cases hq; exact (List.mem_of_getElem? (i := 499) (by decide +kernel))
    | 1, hq => cases hq; exact (List.mem_of_getElem? (i := 611) (by decide +kernel))
    | 2, hq => cases hq; exact (List.mem_of_getElem? (i := 620) (by decide +kernel))
    | 3, hq => cases hq; exact (List.mem_of_getElem? (i := 621) (by decide +kernel))
    | 4, hq => cases hq; exact (List.mem_of_getElem? (i := 622) (by decide +kernel))
    | k + 5, hq => simp [am_lit] at hq
  · exact va_Zof (hts0 (.laysStatic "java/lang/String" "COMPACT_STRINGS" "Z") (List.mem_of_getElem? (i := 513) (by decide +kernel))) (hts0 _ (List.mem_of_getElem? (i := 89) (by decide +kernel))) (va_eqi (hf _ am_f2.1)) hA
  · exact va_Zqof (hts0 (.laysStatic "jdk/internal/util/Preconditions" "SIOOBE_FORMATTER" "Ljava/util/function/BiFunction;") (List.mem_of_getElem? (i := 529) (by decide +kernel))) (hts0 _ (List.mem_of_getElem? (i := 91) (by decide +kernel))) (hf _ am_f2.2) hA
