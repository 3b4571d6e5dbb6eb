/-! image, restore -/
-- the model keeps its arrays in one
def szk (i : Nat) : Nat := if i ≤ 5 then 24 else if i ≤ 8 then 72 else if i = 9 then 84 else if i = 10 ∨ i = 16 then 8 else if i = 14 ∨ i = 15 then 512 else 64
theorem szk_k {i k : Nat} (h : i ≤ 16) (h1 : i ≤ 5 → k < 24) (h2 : i ≤ 8 → k < 72) (h3 : i = 9 → k < 84) (h4 : 10 ≤ i → i ≠ 14 → i ≠ 15 → i ≠ 10 → i ≠ 16 → k < 64) (h5 : i = 10 ∨ i = 16 → k < 8) (h6 : k < 512) : k < szk i := by
  unfold szk
  split
  · exact h1 (by omega)
  · split
    · exact h2 (by omega)
    · split
      · exact h3 (by omega)
      · split
        · exact h5 (by omega)
        · split
          · exact h6
          · exact h4 (by omega) (by omega) (by omega) (by omega) (by omega)
theorem ko_s : ∀ n, n < 16 → ko (n + 1) = ko n + szk n := by decide
theorem ko_lt : ∀ n, n < 17 → ∀ i, i < n → ko i + szk i ≤ ko n := by decide
theorem ko_le : ∀ n, n < 17 → ko n + szk n ≤ 1800 ∧ szk n ≤ 512 := by decide
theorem mc_K {h : am_H} (hs : Sh h) : ∀ n, n ≤ 16 → hK h (mc n) = (100, szk n) := by
  intro n hn
  have e : ∀ n, n < 17 → shK (mc n) = (100, szk n) := by decide +kernel
  have b : ∀ n, n < 17 → mc n < 303 := by decide
  rw [← e n (by omega)]
  exact hs.1 _ (b n (by omega)) (by rw [e n (by omega)]; show 100 < 200; omega)
theorem L269a : ∀ (m : Nat) {h : am_H} {i : Nat}, Sh h → ∀ {n b a : Nat}, i + m = n → n ≤ 512 → b + n ≤ 1800 → hK h a = (100, n) → 16 ≤ a → a ≠ 302 → ∃ h', am_E 269 (3, [some (vr (some 261)), some (vr (some a)), some (vi (ni n)), some (vi (ni b)), some (vi 0), some (vi (ni i))], [], h) = some (some (vi (ni (b + n))), h') ∧ Kg (fun c k => c = 302 ∧ b + i ≤ k ∧ k < b + n) h h' ∧ ∀ j, i ≤ j → j < n → hI h' 302 (b + j) = hI h a j := by
  intro m
  induction m with
  | zero =>
    intro h i hs n b a hi hn hb hk ha ha2
    refine ⟨h, ?_, Kg_refl h, fun j h1 h2 => by omega⟩
    rw [e_269_3 hs hk ha, if_pos (show ni n ≤ ni i by rw [ni_le (by omega) (by omega)]; omega), ni_add]
  | succ m ih =>
    intro h i hs n b a hi hn hb hk ha ha2
    obtain ⟨h', d, k, g⟩ := ih (h := pI h 302 (b + i) (hI h a i)) (i := i + 1) hs (n := n) (b := b) (a := a) (by omega) hn hb hk ha ha2
    refine ⟨h', ?_, Kg_trans (Kg_pI (by omega) (Kg_refl h)) (Kg_mono (fun c j z => by omega) k), fun j h1 h2 => ?_⟩
    · rw [e_269_3 hs hk ha, if_neg (show ¬ ni n ≤ ni i by rw [ni_le (by omega) (by omega)]; omega), if_pos rfl, ixb _ (show i < n by omega) (by omega), ni_add, ixb _ (show b + i < 1800 by omega) (by omega), e_269_43 (h := pI h 302 (b + i) (hI h a i)) hs hk ha, ni_add1]
      exact d
    · by_cases y : j = i
      · subst y
        rw [k.2.2.2.2.1 302 (b + j) (by omega), pe]
      · rw [g j (by omega) h2, hI_pI, if_neg (by omega)]
theorem L269b : ∀ (m : Nat) {h : am_H} {i : Nat}, Sh h → ∀ {n b a : Nat}, i + m = n → n ≤ 512 → b + n ≤ 1800 → hK h a = (100, n) → 16 ≤ a → a ≠ 302 → ∃ h', am_E 269 (3, [some (vr (some 261)), some (vr (some a)), some (vi (ni n)), some (vi (ni b)), some (vi 1), some (vi (ni i))], [], h) = some (some (vi (ni (b + n))), h') ∧ Kg (fun c k => c = a ∧ i ≤ k ∧ k < n) h h' ∧ ∀ j, i ≤ j → j < n → hI h' a j = hI h 302 (b + j) := by
  intro m
  induction m with
  | zero =>
    intro h i hs n b a hi hn hb hk ha ha2
    refine ⟨h, ?_, Kg_refl h, fun j h1 h2 => by omega⟩
    rw [e_269_3 hs hk ha, if_pos (show ni n ≤ ni i by rw [ni_le (by omega) (by omega)]; omega), ni_add]
  | succ m ih =>
    intro h i hs n b a hi hn hb hk ha ha2
    obtain ⟨h', d, k, g⟩ := ih (h := pI h a i (hI h 302 (b + i))) (i := i + 1) hs (n := n) (b := b) (a := a) (by omega) hn hb hk ha ha2
    refine ⟨h', ?_, Kg_trans (Kg_pI (by omega) (Kg_refl h)) (Kg_mono (fun c j z => by omega) k), fun j h1 h2 => ?_⟩
    · rw [e_269_3 hs hk ha, if_neg (show ¬ ni n ≤ ni i by rw [ni_le (by omega) (by omega)]; omega), if_neg (show ¬ (1 : Int32) = 0 by decide), ni_add, ixb _ (show b + i < 1800 by omega) (by omega), ixb _ (show i < n by omega) (by omega), e_269_43 (h := pI h a i (hI h 302 (b + i))) hs hk ha, ni_add1]
      exact d
    · by_cases y : j = i
      · subst y
        rw [k.2.2.2.2.1 a j (by omega), pe]
      · rw [g j (by omega) h2, hI_pI, if_neg (by omega)]
theorem mc_in : ∀ i, i ≤ 16 → 263 ≤ mc i ∧ mc i ≤ 280 ∧ mc i ≠ 272 := fun i hi => mc_ok hi
theorem mc_inj {i j : Nat} (h : mc i = mc j) (hi : i ≤ 16) (hj : j ≤ 16) : i = j := by unfold mc at h; split at h <;> split at h <;> omega
def KP (h h' : am_H) (n : Nat) : Prop := Kg (fun a _ => a = 302) h h' ∧ ∀ i, i < n → ∀ k, k < szk i → hI h' 302 (ko i + k) = hI h (mc i) k
def KQ (h h' : am_H) (n : Nat) : Prop := Kg (fun a _ => 263 ≤ a ∧ a ≤ 280 ∧ a ≠ 272) h h' ∧ ∀ i, i < n → ∀ k, k < szk i → hI h' (mc i) k = hI h 302 (ko i + k)
theorem KP_s {h h1 : am_H} (hs : Sh h) {n : Nat} (hn : n ≤ 16) (k : KP h h1 n) : ∃ h2, am_D 269 [vr (some 261), vr (some (mc n)), vi (ni (szk n)), vi (ni (ko n)), vi 0] h1 = some (some (vi (ni (ko n + szk n))), h2) ∧ KP h h2 (n + 1) := by
  have hs1 := Kg_Sh k.1 hs
  have mk := mc_K hs1 n hn
  have m1 := mc_in n hn
  have l1 := ko_le n (by omega)
  obtain ⟨h2, d, k2, g⟩ := L269a (szk n) (i := 0) hs1 (n := szk n) (b := ko n) (a := mc n) (by omega) l1.2 l1.1 mk (by omega) (by omega)
  refine ⟨h2, ?_, Kg_trans k.1 (Kg_mono (fun c j z => z.1) k2), fun i hi j hj => ?_⟩
  · rw [d_269 hs1 mk (show 16 ≤ mc n by omega)]
    exact d
  · by_cases y : i = n
    · subst y
      rw [g j (Nat.zero_le _) hj, k.1.2.2.2.2.1 (mc i) j (by omega)]
    · have l2 := ko_lt n (by omega) i (by omega)
      rw [k2.2.2.2.2.1 302 (ko i + j) (by omega)]
      exact k.2 i (by omega) j hj
theorem KQ_s {h h1 : am_H} (hs : Sh h) {n : Nat} (hn : n ≤ 16) (k : KQ h h1 n) : ∃ h2, am_D 269 [vr (some 261), vr (some (mc n)), vi (ni (szk n)), vi (ni (ko n)), vi 1] h1 = some (some (vi (ni (ko n + szk n))), h2) ∧ KQ h h2 (n + 1) := by
  have hs1 := Kg_Sh k.1 hs
  have mk := mc_K hs1 n hn
  have m1 := mc_in n hn
  have l1 := ko_le n (by omega)
  obtain ⟨h2, d, k2, g⟩ := L269b (szk n) (i := 0) hs1 (n := szk n) (b := ko n) (a := mc n) (by omega) l1.2 l1.1 mk (by omega) (by omega)
  refine ⟨h2, ?_, Kg_trans k.1 (Kg_mono (fun c j z => by omega) k2), fun i hi j hj => ?_⟩
  · rw [d_269 hs1 mk (show 16 ≤ mc n by omega)]
    exact d
  · by_cases y : i = n
    · subst y
      rw [g j (Nat.zero_le _) hj, k.1.2.2.2.2.1 302 (ko i + j) (by omega)]
    · rw [k2.2.2.2.2.1 (mc i) j (fun z => y (mc_inj z.1 (by omega) hn))]
      exact k.2 i (by omega) j hj
theorem D270a {h : am_H} (hs : Sh h) : ∃ h', am_D 270 [vr (some 261), vi 0] h = some (none, h') ∧ KP h h' 17 := by
  have k0 : KP h h 0 := ⟨Kg_refl h, fun i hi => by omega⟩
  obtain ⟨h1, d0, k1⟩ := KP_s hs (n := 0) (by omega) k0
  have hs1 := Kg_Sh k1.1 hs
  obtain ⟨h2, d1, k2⟩ := KP_s hs (n := 1) (by omega) k1
  have hs2 := Kg_Sh k2.1 hs
  obtain ⟨h3, d2, k3⟩ := KP_s hs (n := 2) (by omega) k2
  have hs3 := Kg_Sh k3.1 hs
  obtain ⟨h4, d3, k4⟩ := KP_s hs (n := 3) (by omega) k3
  have hs4 := Kg_Sh k4.1 hs
  obtain ⟨h5, d4, k5⟩ := KP_s hs (n := 4) (by omega) k4
  have hs5 := Kg_Sh k5.1 hs
  obtain ⟨h6, d5, k6⟩ := KP_s hs (n := 5) (by omega) k5
  have hs6 := Kg_Sh k6.1 hs
  obtain ⟨h7, d6, k7⟩ := KP_s hs (n := 6) (by omega) k6
  have hs7 := Kg_Sh k7.1 hs
  obtain ⟨h8, d7, k8⟩ := KP_s hs (n := 7) (by omega) k7
  have hs8 := Kg_Sh k8.1 hs
  obtain ⟨h9, d8, k9⟩ := KP_s hs (n := 8) (by omega) k8
  have hs9 := Kg_Sh k9.1 hs
  obtain ⟨h10, d9, k10⟩ := KP_s hs (n := 9) (by omega) k9
  have hs10 := Kg_Sh k10.1 hs
  obtain ⟨h11, d10, k11⟩ := KP_s hs (n := 10) (by omega) k10
  have hs11 := Kg_Sh k11.1 hs
  obtain ⟨h12, d11, k12⟩ := KP_s hs (n := 11) (by omega) k11
  have hs12 := Kg_Sh k12.1 hs
  obtain ⟨h13, d12, k13⟩ := KP_s hs (n := 12) (by omega) k12
  have hs13 := Kg_Sh k13.1 hs
  obtain ⟨h14, d13, k14⟩ := KP_s hs (n := 13) (by omega) k13
  have hs14 := Kg_Sh k14.1 hs
  obtain ⟨h15, d14, k15⟩ := KP_s hs (n := 14) (by omega) k14
  have hs15 := Kg_Sh k15.1 hs
  obtain ⟨h16, d15, k16⟩ := KP_s hs (n := 15) (by omega) k15
  have hs16 := Kg_Sh k16.1 hs
  obtain ⟨h17, d16, k17⟩ := KP_s hs (n := 16) (by omega) k16
  have hs17 := Kg_Sh k17.1 hs
  refine ⟨h17, ?_, k17⟩
  rw [d_270 hs, show am_D 269 [vr (some 261), vr (some 263), vi 24, vi 0, vi 0] h = some (some (vi (ni (ko 1))), h1) from d0]
  simp only [Option.bind_some, Option.toList_some, List.cons_append, List.nil_append]
  rw [e_270_12 hs1, show am_D 269 [vr (some 261), vr (some 264), vi 24, vi (ni (ko 1)), vi 0] h1 = some (some (vi (ni (ko 2))), h2) from d1]
  simp only [Option.bind_some, Option.toList_some, List.cons_append, List.nil_append]
  rw [e_270_25 hs2, show am_D 269 [vr (some 261), vr (some 265), vi 24, vi (ni (ko 2)), vi 0] h2 = some (some (vi (ni (ko 3))), h3) from d2]
  simp only [Option.bind_some, Option.toList_some, List.cons_append, List.nil_append]
  rw [e_270_38 hs3, show am_D 269 [vr (some 261), vr (some 266), vi 24, vi (ni (ko 3)), vi 0] h3 = some (some (vi (ni (ko 4))), h4) from d3]
  simp only [Option.bind_some, Option.toList_some, List.cons_append, List.nil_append]
  rw [e_270_51 hs4, show am_D 269 [vr (some 261), vr (some 267), vi 24, vi (ni (ko 4)), vi 0] h4 = some (some (vi (ni (ko 5))), h5) from d4]
  simp only [Option.bind_some, Option.toList_some, List.cons_append, List.nil_append]
  rw [e_270_64 hs5, show am_D 269 [vr (some 261), vr (some 268), vi 24, vi (ni (ko 5)), vi 0] h5 = some (some (vi (ni (ko 6))), h6) from d5]
  simp only [Option.bind_some, Option.toList_some, List.cons_append, List.nil_append]
  rw [e_270_77 hs6, show am_D 269 [vr (some 261), vr (some 269), vi 72, vi (ni (ko 6)), vi 0] h6 = some (some (vi (ni (ko 7))), h7) from d6]
  simp only [Option.bind_some, Option.toList_some, List.cons_append, List.nil_append]
  rw [e_270_90 hs7, show am_D 269 [vr (some 261), vr (some 270), vi 72, vi (ni (ko 7)), vi 0] h7 = some (some (vi (ni (ko 8))), h8) from d7]
  simp only [Option.bind_some, Option.toList_some, List.cons_append, List.nil_append]
  rw [e_270_103 hs8, show am_D 269 [vr (some 261), vr (some 271), vi 72, vi (ni (ko 8)), vi 0] h8 = some (some (vi (ni (ko 9))), h9) from d8]
  simp only [Option.bind_some, Option.toList_some, List.cons_append, List.nil_append]
  rw [e_270_116 hs9, show am_D 269 [vr (some 261), vr (some 273), vi 84, vi (ni (ko 9)), vi 0] h9 = some (some (vi (ni (ko 10))), h10) from d9]
  simp only [Option.bind_some, Option.toList_some, List.cons_append, List.nil_append]
  rw [e_270_129 hs10, show am_D 269 [vr (some 261), vr (some 274), vi 8, vi (ni (ko 10)), vi 0] h10 = some (some (vi (ni (ko 11))), h11) from d10]
  simp only [Option.bind_some, Option.toList_some, List.cons_append, List.nil_append]
  rw [e_270_142 hs11, show am_D 269 [vr (some 261), vr (some 275), vi 64, vi (ni (ko 11)), vi 0] h11 = some (some (vi (ni (ko 12))), h12) from d11]
  simp only [Option.bind_some, Option.toList_some, List.cons_append, List.nil_append]
  rw [e_270_155 hs12, show am_D 269 [vr (some 261), vr (some 276), vi 64, vi (ni (ko 12)), vi 0] h12 = some (some (vi (ni (ko 13))), h13) from d12]
  simp only [Option.bind_some, Option.toList_some, List.cons_append, List.nil_append]
  rw [e_270_168 hs13, show am_D 269 [vr (some 261), vr (some 277), vi 64, vi (ni (ko 13)), vi 0] h13 = some (some (vi (ni (ko 14))), h14) from d13]
  simp only [Option.bind_some, Option.toList_some, List.cons_append, List.nil_append]
  rw [e_270_181 hs14, show am_D 269 [vr (some 261), vr (some 278), vi 512, vi (ni (ko 14)), vi 0] h14 = some (some (vi (ni (ko 15))), h15) from d14]
  simp only [Option.bind_some, Option.toList_some, List.cons_append, List.nil_append]
  rw [e_270_195 hs15, show am_D 269 [vr (some 261), vr (some 279), vi 512, vi (ni (ko 15)), vi 0] h15 = some (some (vi (ni (ko 16))), h16) from d15]
  simp only [Option.bind_some, Option.toList_some, List.cons_append, List.nil_append]
  rw [e_270_209 hs16, show am_D 269 [vr (some 261), vr (some 280), vi 8, vi (ni (ko 16)), vi 0] h16 = some (some (vi (ni (ko 16 + szk 16))), h17) from d16]
  simp only [Option.bind_some, Option.toList_some, List.cons_append, List.nil_append]
  exact e_270_222 hs17
theorem D270b {h : am_H} (hs : Sh h) : ∃ h', am_D 270 [vr (some 261), vi 1] h = some (none, h') ∧ KQ h h' 17 := by
  have k0 : KQ h h 0 := ⟨Kg_refl h, fun i hi => by omega⟩
  obtain ⟨h1, d0, k1⟩ := KQ_s hs (n := 0) (by omega) k0
  have hs1 := Kg_Sh k1.1 hs
  obtain ⟨h2, d1, k2⟩ := KQ_s hs (n := 1) (by omega) k1
  have hs2 := Kg_Sh k2.1 hs
  obtain ⟨h3, d2, k3⟩ := KQ_s hs (n := 2) (by omega) k2
  have hs3 := Kg_Sh k3.1 hs
  obtain ⟨h4, d3, k4⟩ := KQ_s hs (n := 3) (by omega) k3
  have hs4 := Kg_Sh k4.1 hs
  obtain ⟨h5, d4, k5⟩ := KQ_s hs (n := 4) (by omega) k4
  have hs5 := Kg_Sh k5.1 hs
  obtain ⟨h6, d5, k6⟩ := KQ_s hs (n := 5) (by omega) k5
  have hs6 := Kg_Sh k6.1 hs
  obtain ⟨h7, d6, k7⟩ := KQ_s hs (n := 6) (by omega) k6
  have hs7 := Kg_Sh k7.1 hs
  obtain ⟨h8, d7, k8⟩ := KQ_s hs (n := 7) (by omega) k7
  have hs8 := Kg_Sh k8.1 hs
  obtain ⟨h9, d8, k9⟩ := KQ_s hs (n := 8) (by omega) k8
  have hs9 := Kg_Sh k9.1 hs
  obtain ⟨h10, d9, k10⟩ := KQ_s hs (n := 9) (by omega) k9
  have hs10 := Kg_Sh k10.1 hs
  obtain ⟨h11, d10, k11⟩ := KQ_s hs (n := 10) (by omega) k10
  have hs11 := Kg_Sh k11.1 hs
  obtain ⟨h12, d11, k12⟩ := KQ_s hs (n := 11) (by omega) k11
  have hs12 := Kg_Sh k12.1 hs
  obtain ⟨h13, d12, k13⟩ := KQ_s hs (n := 12) (by omega) k12
  have hs13 := Kg_Sh k13.1 hs
  obtain ⟨h14, d13, k14⟩ := KQ_s hs (n := 13) (by omega) k13
  have hs14 := Kg_Sh k14.1 hs
  obtain ⟨h15, d14, k15⟩ := KQ_s hs (n := 14) (by omega) k14
  have hs15 := Kg_Sh k15.1 hs
  obtain ⟨h16, d15, k16⟩ := KQ_s hs (n := 15) (by omega) k15
  have hs16 := Kg_Sh k16.1 hs
  obtain ⟨h17, d16, k17⟩ := KQ_s hs (n := 16) (by omega) k16
  have hs17 := Kg_Sh k17.1 hs
  refine ⟨h17, ?_, k17⟩
  rw [d_270 hs, show am_D 269 [vr (some 261), vr (some 263), vi 24, vi 0, vi 1] h = some (some (vi (ni (ko 1))), h1) from d0]
  simp only [Option.bind_some, Option.toList_some, List.cons_append, List.nil_append]
  rw [e_270_12 hs1, show am_D 269 [vr (some 261), vr (some 264), vi 24, vi (ni (ko 1)), vi 1] h1 = some (some (vi (ni (ko 2))), h2) from d1]
  simp only [Option.bind_some, Option.toList_some, List.cons_append, List.nil_append]
  rw [e_270_25 hs2, show am_D 269 [vr (some 261), vr (some 265), vi 24, vi (ni (ko 2)), vi 1] h2 = some (some (vi (ni (ko 3))), h3) from d2]
  simp only [Option.bind_some, Option.toList_some, List.cons_append, List.nil_append]
  rw [e_270_38 hs3, show am_D 269 [vr (some 261), vr (some 266), vi 24, vi (ni (ko 3)), vi 1] h3 = some (some (vi (ni (ko 4))), h4) from d3]
  simp only [Option.bind_some, Option.toList_some, List.cons_append, List.nil_append]
  rw [e_270_51 hs4, show am_D 269 [vr (some 261), vr (some 267), vi 24, vi (ni (ko 4)), vi 1] h4 = some (some (vi (ni (ko 5))), h5) from d4]
  simp only [Option.bind_some, Option.toList_some, List.cons_append, List.nil_append]
  rw [e_270_64 hs5, show am_D 269 [vr (some 261), vr (some 268), vi 24, vi (ni (ko 5)), vi 1] h5 = some (some (vi (ni (ko 6))), h6) from d5]
  simp only [Option.bind_some, Option.toList_some, List.cons_append, List.nil_append]
  rw [e_270_77 hs6, show am_D 269 [vr (some 261), vr (some 269), vi 72, vi (ni (ko 6)), vi 1] h6 = some (some (vi (ni (ko 7))), h7) from d6]
  simp only [Option.bind_some, Option.toList_some, List.cons_append, List.nil_append]
  rw [e_270_90 hs7, show am_D 269 [vr (some 261), vr (some 270), vi 72, vi (ni (ko 7)), vi 1] h7 = some (some (vi (ni (ko 8))), h8) from d7]
  simp only [Option.bind_some, Option.toList_some, List.cons_append, List.nil_append]
  rw [e_270_103 hs8, show am_D 269 [vr (some 261), vr (some 271), vi 72, vi (ni (ko 8)), vi 1] h8 = some (some (vi (ni (ko 9))), h9) from d8]
  simp only [Option.bind_some, Option.toList_some, List.cons_append, List.nil_append]
  rw [e_270_116 hs9, show am_D 269 [vr (some 261), vr (some 273), vi 84, vi (ni (ko 9)), vi 1] h9 = some (some (vi (ni (ko 10))), h10) from d9]
  simp only [Option.bind_some, Option.toList_some, List.cons_append, List.nil_append]
  rw [e_270_129 hs10, show am_D 269 [vr (some 261), vr (some 274), vi 8, vi (ni (ko 10)), vi 1] h10 = some (some (vi (ni (ko 11))), h11) from d10]
  simp only [Option.bind_some, Option.toList_some, List.cons_append, List.nil_append]
  rw [e_270_142 hs11, show am_D 269 [vr (some 261), vr (some 275), vi 64, vi (ni (ko 11)), vi 1] h11 = some (some (vi (ni (ko 12))), h12) from d11]
  simp only [Option.bind_some, Option.toList_some, List.cons_append, List.nil_append]
  rw [e_270_155 hs12, show am_D 269 [vr (some 261), vr (some 276), vi 64, vi (ni (ko 12)), vi 1] h12 = some (some (vi (ni (ko 13))), h13) from d12]
  simp only [Option.bind_some, Option.toList_some, List.cons_append, List.nil_append]
  rw [e_270_168 hs13, show am_D 269 [vr (some 261), vr (some 277), vi 64, vi (ni (ko 13)), vi 1] h13 = some (some (vi (ni (ko 14))), h14) from d13]
  simp only [Option.bind_some, Option.toList_some, List.cons_append, List.nil_append]
  rw [e_270_181 hs14, show am_D 269 [vr (some 261), vr (some 278), vi 512, vi (ni (ko 14)), vi 1] h14 = some (some (vi (ni (ko 15))), h15) from d14]
  simp only [Option.bind_some, Option.toList_some, List.cons_append, List.nil_append]
  rw [e_270_195 hs15, show am_D 269 [vr (some 261), vr (some 279), vi 512, vi (ni (ko 15)), vi 1] h15 = some (some (vi (ni (ko 16))), h16) from d15]
  simp only [Option.bind_some, Option.toList_some, List.cons_append, List.nil_append]
  rw [e_270_209 hs16, show am_D 269 [vr (some 261), vr (some 280), vi 8, vi (ni (ko 16)), vi 1] h16 = some (some (vi (ni (ko 16 + szk 16))), h17) from d16]
  simp only [Option.bind_some, Option.toList_some, List.cons_append, List.nil_append]
  exact e_270_222 hs17
-- the class's worlds
theorem vac {f g : Nat → Int32} {n k : Nat} (hn : n < 2147483648) (hk : k < n) : va_cpy f g (ni 0).toNatClampNeg (ni 0).toNatClampNeg (ni n).toNatClampNeg k = f k := by
  rw [ni_nn (show 0 < 2147483648 by omega), ni_nn hn]
  unfold va_cpy
  rw [if_pos ⟨Nat.zero_le _, by omega⟩]
  congr 1
  omega
theorem vac3 {f g : Nat → Int32} {k : Nat} (hk : k < 3) : va_cpy f g (0 : Int32).toNatClampNeg (0 : Int32).toNatClampNeg (3 : Int32).toNatClampNeg k = f k := vac (n := 3) (by omega) hk
theorem vac14 {f g : Nat → Int32} {k : Nat} (hk : k < 14) : va_cpy f g (0 : Int32).toNatClampNeg (0 : Int32).toNatClampNeg (14 : Int32).toNatClampNeg k = f k := vac (n := 14) (by omega) hk
def p1c (h : am_H) (a b k : Nat) : am_H := pI h a k (hI h b k)
def c3c (h : am_H) (a b : Nat) : am_H := pIs h a (va_cpy (hI h b) (hI h a) (0 : Int32).toNatClampNeg (0 : Int32).toNatClampNeg (3 : Int32).toNatClampNeg)
theorem hI_p1c {h : am_H} {a b k c j : Nat} : hI (p1c h a b k) c j = if c = a ∧ j = k then hI h b k else hI h c j := rfl
theorem hI_c3c {h : am_H} {a b c j : Nat} : hI (c3c h a b) c j = if c = a then va_cpy (hI h b) (hI h a) (0 : Int32).toNatClampNeg (0 : Int32).toNatClampNeg (3 : Int32).toNatClampNeg j else hI h c j := rfl
def pnc (h : am_H) (a b : Nat) : Nat → am_H
  | 0 => h
  | n + 1 => p1c (pnc h a b n) a b n
theorem pnc_s {h : am_H} {a b n : Nat} : pnc h a b (n + 1) = p1c (pnc h a b n) a b n := rfl
theorem pnc_n {h : am_H} {a b c j : Nat} (z : c ≠ a) : ∀ {n : Nat}, hI (pnc h a b n) c j = hI h c j
  | 0 => rfl
  | n + 1 => by rw [pnc_s, hI_p1c, if_neg (fun y => z y.1)]; exact pnc_n z
theorem pnc_a {h : am_H} {a b j : Nat} (z : b ≠ a) : ∀ {n : Nat}, j < n → hI (pnc h a b n) a j = hI h b j
  | 0, y => by omega
  | n + 1, y => by
    rw [pnc_s, hI_p1c]
    by_cases x : j = n
    · rw [if_pos ⟨rfl, x⟩, x]; exact pnc_n z
    · rw [if_neg (fun y => x y.2)]; exact pnc_a z (by omega)
def Mcp (d e : Nat) (h h' : am_H) (j : Nat) : Prop := (∀ k, k < 6 → hI h' (42 + d + 4 * j) k = hI h (42 + e + 4 * j) k) ∧ ∀ k, k < 3 → hI h' (42 + d + 4 * j + 1) k = hI h (42 + e + 4 * j + 1) k ∧ hI h' (42 + d + 4 * j + 2) k = hI h (42 + e + 4 * j + 2) k ∧ hI h' (42 + d + 4 * j + 3) k = hI h (42 + e + 4 * j + 3) k
def Rcp (d e : Nat) (h h' : am_H) (r : Nat) : Prop := ∀ j, j < 14 → hI h' (31 + d + r) j = hI h (31 + e + r) j
def Wcp (d e : Nat) (h h' : am_H) (t : Nat) : Prop := hI h' (38 + d) t = hI h (38 + e) t ∧ hI h' (39 + d) t = hI h (39 + e) t
/-- one world has become the other -/
def BC (d e : Nat) (h h' : am_H) : Prop := hN h' = hN h ∧ hSl h' = hSl h ∧ hK h' = hK h ∧ (∀ a k, ¬ (a = 37 + d ∧ k < 64) → ¬ (a = 248 ∧ k = 1) → a ≠ 253 → hR h' a k = hR h a k) ∧ (∀ k, k < 64 → hR h' (37 + d) k = hR h (37 + e) k) ∧ (∀ a k, ¬ (28 + d ≤ a ∧ a < 138 + d) → hI h' a k = hI h a k) ∧ (∀ a k, ¬ (28 + d ≤ a ∧ a < 138 + d) → hL h' a k = hL h a k) ∧ (hI h' (28 + d) 1 = hI h (28 + e) 1 ∧ hI h' (28 + d) 3 = hI h (28 + e) 3 ∧ hI h' (28 + d) 4 = hI h (28 + e) 4 ∧ hI h' (28 + d) 7 = hI h (28 + e) 7) ∧ (∀ m, m < 24 → Mcp d e h h' m) ∧ (∀ r, r < 6 → Rcp d e h h' r) ∧ ∀ t, t < 8 → Wcp d e h h' t
theorem D266 {h : am_H} (hs : Sh h) {j : Nat} (hj : j < 24) : ∃ h', am_D 266 [vr (some (42 + 4 * j)), vr (some (152 + 4 * j))] h = some (none, h') ∧ Kg (fun a _ => 42 + 4 * j ≤ a ∧ a ≤ 45 + 4 * j) h h' ∧ Mcp 0 110 h h' j := by
  refine ⟨c3c (c3c (c3c (pnc h (42 + 4 * j) (152 + 4 * j) 6) (43 + 4 * j) (153 + 4 * j)) (44 + 4 * j) (154 + 4 * j)) (45 + 4 * j) (155 + 4 * j), ?d, ?g, fun k hk => ?m, fun k hk => ?t⟩
  case d =>
    rw [d_266 hs hj hj, e_266_32, if_pos (by decide), e_266_62, if_pos (by decide), if_pos (by decide), e_266_90]
    all_goals first | rfl | exact hs | exact hj
  case g => exact Kg_pIs (fun i => by omega) (Kg_pIs (fun i => by omega) (Kg_pIs (fun i => by omega) (Kg_pI (by omega) (Kg_pI (by omega) (Kg_pI (by omega) (Kg_pI (by omega) (Kg_pI (by omega) (Kg_pI (by omega) (Kg_refl h)))))))))
  case m =>
    show hI _ (42 + 4 * j) k = hI h (152 + 4 * j) k
    rw [hI_c3c, if_neg (by omega), hI_c3c, if_neg (by omega), hI_c3c, if_neg (by omega), pnc_a (by omega) hk]
  case t =>
    have q1 : 42 + 4 * j + 1 = 43 + 4 * j := by omega
    have q2 : 42 + 4 * j + 2 = 44 + 4 * j := by omega
    have q3 : 42 + 4 * j + 3 = 45 + 4 * j := by omega
    have p1 : 152 + 4 * j + 1 = 153 + 4 * j := by omega
    have p2 : 152 + 4 * j + 2 = 154 + 4 * j := by omega
    have p3 : 152 + 4 * j + 3 = 155 + 4 * j := by omega
    show hI _ (42 + 4 * j + 1) k = hI h (152 + 4 * j + 1) k ∧ hI _ (42 + 4 * j + 2) k = hI h (152 + 4 * j + 2) k ∧ hI _ (42 + 4 * j + 3) k = hI h (152 + 4 * j + 3) k
    rw [q1, q2, q3, p1, p2, p3]
    refine ⟨?_, ?_, ?_⟩
    · rw [hI_c3c, if_neg (by omega), hI_c3c, if_neg (by omega), hI_c3c, if_pos rfl, vac3 hk, pnc_n (by omega)]
    · rw [hI_c3c, if_neg (by omega), hI_c3c, if_pos rfl, vac3 hk, hI_c3c, if_neg (by omega), pnc_n (by omega)]
    · rw [hI_c3c, if_pos rfl, vac3 hk, hI_c3c, if_neg (by omega), hI_c3c, if_neg (by omega), pnc_n (by omega)]
theorem L267a : ∀ (m : Nat) {h : am_H} {i : Nat}, Sh h → i + m = 24 → ∃ h', am_E 267 (2, [some (vr (some 28)), some (vr (some 138)), some (vi (ni i))], [], h) = am_E 267 (39, [some (vr (some 28)), some (vr (some 138)), some (vi 0)], [], pI h' 28 1 (hI h' 138 1)) ∧ Kg (fun a _ => 42 + 4 * i ≤ a ∧ a < 42 + 96) h h' ∧ ∀ j, i ≤ j → j < 24 → Mcp 0 110 h h' j := by
  intro m
  induction m with
  | zero =>
    intro h i hs hi
    refine ⟨h, ?_, Kg_refl h, fun j h1 h2 => by omega⟩
    rw [e_267_2 hs, if_pos (show (24 : Int32) ≤ ni i by rw [show (24 : Int32) = ni 24 from rfl, ni_le (by omega) (by omega)]; omega)]
  | succ m ih =>
    intro h i hs hi
    obtain ⟨h1, d, k, g⟩ := D266 hs (show i < 24 by omega)
    obtain ⟨h', d2, k2, g2⟩ := ih (h := h1) (i := i + 1) (Kg_Sh k hs) (by omega)
    refine ⟨h', ?_, Kg_trans (Kg_mono (fun a j z => by omega) k) (Kg_mono (fun a j z => by omega) k2), fun j l1 l2 => ?_⟩
    · rw [e_267_2 hs, if_neg (show ¬ (24 : Int32) ≤ ni i by rw [show (24 : Int32) = ni 24 from rfl, ni_le (by omega) (by omega)]; omega), ixb _ (show i < 24 by omega) (by omega), ixb _ (show i < 24 by omega) (by omega), d]
      simp only [Option.bind_some, Option.toList_none, List.nil_append]
      rw [e_267_23 (Kg_Sh k hs), ni_add1]
      exact d2
    · by_cases y : j = i
      · subst y
        refine ⟨fun x hx => ?_, fun x hx => ⟨?_, ?_, ?_⟩⟩
        · rw [k2.2.2.2.2.1 _ _ (by omega)]; exact g.1 x hx
        · rw [k2.2.2.2.2.1 _ _ (by omega)]; exact (g.2 x hx).1
        · rw [k2.2.2.2.2.1 _ _ (by omega)]; exact (g.2 x hx).2.1
        · rw [k2.2.2.2.2.1 _ _ (by omega)]; exact (g.2 x hx).2.2
      · have z := g2 j (by omega) l2
        refine ⟨fun x hx => ?_, fun x hx => ⟨?_, ?_, ?_⟩⟩
        · rw [z.1 x hx, k.2.2.2.2.1 _ _ (by omega)]
        · rw [(z.2 x hx).1, k.2.2.2.2.1 _ _ (by omega)]
        · rw [(z.2 x hx).2.1, k.2.2.2.2.1 _ _ (by omega)]
        · rw [(z.2 x hx).2.2, k.2.2.2.2.1 _ _ (by omega)]
theorem L267b : ∀ (m : Nat) {h : am_H} {i : Nat}, Sh h → i + m = 6 → ∃ h', am_E 267 (39, [some (vr (some 28)), some (vr (some 138)), some (vi (ni i))], [], h) = am_E 267 (88, [some (vr (some 28)), some (vr (some 138)), some (vi 0)], [], pI (pI h' 28 3 (hI h' 138 3)) 28 4 (hI (pI h' 28 3 (hI h' 138 3)) 138 4)) ∧ Kg (fun a _ => 31 + i ≤ a ∧ a ≤ 36) h h' ∧ ∀ r, i ≤ r → r < 6 → Rcp 0 110 h h' r := by
  intro m
  induction m with
  | zero =>
    intro h i hs hi
    refine ⟨h, ?_, Kg_refl h, fun j h1 h2 => by omega⟩
    rw [e_267_39 hs, if_pos (show (6 : Int32) ≤ ni i by rw [show (6 : Int32) = ni 6 from rfl, ni_le (by omega) (by omega)]; omega)]
  | succ m ih =>
    intro h i hs hi
    obtain ⟨h', d2, k2, g2⟩ := ih (h := pIs h (31 + i) (va_cpy (hI h (141 + i)) (hI h (31 + i)) (0 : Int32).toNatClampNeg (0 : Int32).toNatClampNeg (14 : Int32).toNatClampNeg)) (i := i + 1) hs (by omega)
    refine ⟨h', ?_, Kg_trans (Kg_pIs (fun j => by omega) (Kg_refl h)) (Kg_mono (fun a j z => by omega) k2), fun r l1 l2 => ?_⟩
    · rw [e_267_39 hs, if_neg (show ¬ (6 : Int32) ≤ ni i by rw [show (6 : Int32) = ni 6 from rfl, ni_le (by omega) (by omega)]; omega), ixb _ (show i < 6 by omega) (by omega), ixb _ (show i < 6 by omega) (by omega), if_pos (by decide), ni_add1]
      exact d2
    · by_cases y : r = i
      · subst y
        intro j hj
        show hI h' (31 + r) j = hI h (141 + r) j
        rw [k2.2.2.2.2.1 _ _ (by omega), hI_pIs, if_pos rfl, vac14 hj]
      · intro j hj
        show hI h' (31 + r) j = hI h (141 + r) j
        have z := g2 r (by omega) l2 j hj
        have z' : hI h' (31 + r) j = hI (pIs h (31 + i) (va_cpy (hI h (141 + i)) (hI h (31 + i)) (0 : Int32).toNatClampNeg (0 : Int32).toNatClampNeg (14 : Int32).toNatClampNeg)) (141 + r) j := z
        rw [z', hI_pIs, if_neg (by omega)]
def Lcp (i : Nat) (h h' : am_H) : Prop := hN h' = hN h ∧ hSl h' = hSl h ∧ hK h' = hK h ∧ hI h' = hI h ∧ hL h' = hL h ∧ (∀ a k, ¬ (a = 37 ∧ i ≤ k ∧ k < 64) → hR h' a k = hR h a k) ∧ ∀ k, i ≤ k → k < 64 → hR h' 37 k = hR h 147 k
theorem Sh_r {h : am_H} (hs : Sh h) {i : Nat} (hi : i < 64) : Sh (pR h 37 i (hR h 147 i)) := by
  refine ⟨hs.1, fun a k r e => ?_, hs.2.2.1, fun k hk => ?_⟩
  · rw [hR_pR, if_neg (fun z => by rw [z.1] at e; cases e)]
    exact hs.2.1 a k r e
  · have ok := hs.2.2.2 k hk
    have okn : ∀ x, am_okr (pR h 37 i (hR h 147 i)) x [0, 1, 2, 3, 6, 7, 9] = am_okr h x [0, 1, 2, 3, 6, 7, 9] := fun x => rfl
    rw [okn, okn, hR_pR, hR_pR]
    by_cases z : k = i
    · subst z
      rw [if_pos ⟨rfl, rfl⟩, if_neg (by omega)]; exact ⟨ok.2, ok.2⟩
    · rw [if_neg (fun y => z y.2), if_neg (fun y => z y.2)]
      exact ok
theorem L267c : ∀ (m : Nat) {h : am_H} {i : Nat}, Sh h → i + m = 64 → ∃ h', am_E 267 (88, [some (vr (some 28)), some (vr (some 138)), some (vi (ni i))], [], h) = am_E 267 (114, [some (vr (some 28)), some (vr (some 138)), some (vi 0)], [], h') ∧ Sh h' ∧ Lcp i h h' := by
  intro m
  induction m with
  | zero =>
    intro h i hs hi
    refine ⟨h, ?_, hs, rfl, rfl, rfl, rfl, rfl, fun _ _ _ => rfl, fun k h1 h2 => by omega⟩
    rw [e_267_88 hs, if_pos (show (64 : Int32) ≤ ni i by rw [show (64 : Int32) = ni 64 from rfl, ni_le (by omega) (by omega)]; omega)]
  | succ m ih =>
    intro h i hs hi
    have hi' : i < 64 := by omega
    obtain ⟨h', d2, s2, n1, n2, n3, n4, n5, n6, n7⟩ := ih (h := pR h 37 i (hR h 147 i)) (i := i + 1) (Sh_r hs hi') (by omega)
    refine ⟨h', ?_, s2, n1, n2, n3, n4, n5, fun a k z => ?_, fun k l1 l2 => ?_⟩
    · rw [e_267_88 hs, if_neg (show ¬ (64 : Int32) ≤ ni i by rw [show (64 : Int32) = ni 64 from rfl, ni_le (by omega) (by omega)]; omega), ixb _ hi' (by omega), if_pos (hs.2.2.2 i hi').2, ixb _ hi' (by omega), e_267_106 (h := pR h 37 i (hR h 147 i)) (Sh_r hs hi'), ni_add1]
      exact d2
    · rw [n6 a k (by omega), hR_pR, if_neg (by omega)]
    · by_cases y : k = i
      · subst y
        rw [n6 37 k (by omega), hR_pR, if_pos ⟨rfl, rfl⟩]
      · rw [n7 k (by omega) l2, hR_pR, if_neg (by omega)]
theorem L267d : ∀ (m : Nat) {h : am_H} {i : Nat}, Sh h → i + m = 8 → ∃ h', am_E 267 (114, [some (vr (some 28)), some (vr (some 138)), some (vi (ni i))], [], h) = some (none, pI h' 28 7 (hI h' 138 7)) ∧ Kg (fun a k => (a = 38 ∨ a = 39) ∧ i ≤ k) h h' ∧ ∀ t, i ≤ t → t < 8 → Wcp 0 110 h h' t := by
  intro m
  induction m with
  | zero =>
    intro h i hs hi
    refine ⟨h, ?_, Kg_refl h, fun j h1 h2 => by omega⟩
    rw [e_267_114 hs, if_pos (show (8 : Int32) ≤ ni i by rw [show (8 : Int32) = ni 8 from rfl, ni_le (by omega) (by omega)]; omega)]
  | succ m ih =>
    intro h i hs hi
    obtain ⟨h', d2, k2, g2⟩ := ih (h := pI (pI h 38 i (hI h 148 i)) 39 i (hI (pI h 38 i (hI h 148 i)) 149 i)) (i := i + 1) hs (by omega)
    refine ⟨h', ?_, Kg_trans (Kg_pI (by omega) (Kg_pI (by omega) (Kg_refl h))) (Kg_mono (fun a j z => by omega) k2), fun t l1 l2 => ?_⟩
    · rw [e_267_114 hs, if_neg (show ¬ (8 : Int32) ≤ ni i by rw [show (8 : Int32) = ni 8 from rfl, ni_le (by omega) (by omega)]; omega), ixb _ (show i < 8 by omega) (by omega), ixb _ (show i < 8 by omega) (by omega), ixb _ (show i < 8 by omega) (by omega), ixb _ (show i < 8 by omega) (by omega), ni_add1]
      exact d2
    · show hI h' 38 t = hI h 148 t ∧ hI h' 39 t = hI h 149 t
      by_cases y : t = i
      · subst y
        rw [k2.2.2.2.2.1 38 t (by omega), k2.2.2.2.2.1 39 t (by omega)]
        refine ⟨?_, ?_⟩ <;> simp (disch := omega) only [hI_pI, if_neg, if_pos, and_true, true_and, and_false, false_and, if_true, if_false, reduceIte]
      · have z1 := (g2 t (by omega) l2).1
        have z2 := (g2 t (by omega) l2).2
        have z1' : hI h' 38 t = hI (pI (pI h 38 i (hI h 148 i)) 39 i (hI (pI h 38 i (hI h 148 i)) 149 i)) 148 t := z1
        have z2' : hI h' 39 t = hI (pI (pI h 38 i (hI h 148 i)) 39 i (hI (pI h 38 i (hI h 148 i)) 149 i)) 149 t := z2
        rw [z1', z2', hI_pI, if_neg (by omega), hI_pI, if_neg (by omega), hI_pI, if_neg (by omega), hI_pI, if_neg (by omega)]
        exact ⟨rfl, rfl⟩
theorem D267 {h : am_H} (hs : Sh h) : ∃ h', am_D 267 [vr (some 28), vr (some 138)] h = some (none, h') ∧ BC 0 110 h h' := by
  obtain ⟨h1, d1, k1, g1⟩ := L267a 24 (i := 0) hs (by omega)
  have s1 : Sh (pI h1 28 1 (hI h1 138 1)) := show Sh h1 from Kg_Sh k1 hs
  obtain ⟨h2, d2, k2, g2⟩ := L267b 6 (i := 0) s1 (by omega)
  have s2 : Sh (pI (pI h2 28 3 (hI h2 138 3)) 28 4 (hI (pI h2 28 3 (hI h2 138 3)) 138 4)) := show Sh h2 from Kg_Sh k2 s1
  obtain ⟨h3, d3, s3, n1, n2, n3, n4, n5, n6, n7⟩ := L267c 64 (i := 0) s2 (by omega)
  obtain ⟨h4, d4, k4, g4⟩ := L267d 8 (i := 0) s3 (by omega)
  have I1 : ∀ a k, ¬ (42 + 4 * 0 ≤ a ∧ a < 42 + 96) → hI h1 a k = hI h a k := k1.2.2.2.2.1
  have I2 : ∀ a k, ¬ (31 + 0 ≤ a ∧ a ≤ 36) → hI h2 a k = if a = 28 ∧ k = 1 then hI h1 138 1 else hI h1 a k := fun a k z => by rw [k2.2.2.2.2.1 a k z, hI_pI]
  have I3 : ∀ a k, hI h3 a k = if a = 28 ∧ k = 4 then hI h2 138 4 else if a = 28 ∧ k = 3 then hI h2 138 3 else hI h2 a k := fun a k => by rw [n4, hI_pI, hI_pI, hI_pI, if_neg (show ¬ (138 = 28 ∧ 4 = 3) by omega)]
  have I4 : ∀ a k, ¬ ((a = 38 ∨ a = 39) ∧ 0 ≤ k) → hI h4 a k = hI h3 a k := k4.2.2.2.2.1
  refine ⟨pI h4 28 7 (hI h4 138 7), ?_, ?_, ?_, ?_, fun a k z1 z2 z3 => ?_, fun k hk => ?_, fun a k z => ?_, fun a k z => ?_, ⟨?_, ?_, ?_, ?_⟩, fun m hm => ?_, fun r hr j hj => ?_, fun t ht => ?_⟩
  · rw [d_267 hs]
    exact d1.trans (d2.trans (d3.trans d4))
  · exact k4.1.trans (n1.trans (k2.1.trans k1.1))
  · exact k4.2.1.trans (n2.trans (k2.2.1.trans k1.2.1))
  · exact k4.2.2.1.trans (n3.trans (k2.2.2.1.trans k1.2.2.1))
  · show hR h4 a k = hR h a k
    rw [k4.2.2.2.1 a k z2 z3, n6 a k (fun y => z1 ⟨y.1, y.2.2⟩)]
    exact (k2.2.2.2.1 a k z2 z3).trans (k1.2.2.2.1 a k z2 z3)
  · show hR h4 37 k = hR h 147 k
    rw [k4.2.2.2.1 37 k (by omega) (by omega), n7 k (Nat.zero_le _) hk]
    exact (k2.2.2.2.1 147 k (by omega) (by omega)).trans (k1.2.2.2.1 147 k (by omega) (by omega))
  · rw [hI_pI, if_neg (by omega), I4 a k (by omega), I3, if_neg (by omega), if_neg (by omega), I2 a k (by omega), if_neg (by omega), I1 a k (by omega)]
  · show hL h4 a k = hL h a k
    rw [k4.2.2.2.2.2 a k (by omega), n5]
    exact (k2.2.2.2.2.2 a k (by omega)).trans (k1.2.2.2.2.2 a k (by omega))
  · show hI (pI h4 28 7 (hI h4 138 7)) 28 1 = hI h 138 1
    rw [hI_pI, if_neg (by omega), I4 _ _ (by omega), I3, if_neg (by omega), if_neg (by omega), I2 _ _ (by omega), if_pos ⟨rfl, rfl⟩, I1 _ _ (by omega)]
  · show hI (pI h4 28 7 (hI h4 138 7)) 28 3 = hI h 138 3
    rw [hI_pI, if_neg (by omega), I4 _ _ (by omega), I3, if_neg (by omega), if_pos ⟨rfl, rfl⟩, I2 _ _ (by omega), if_neg (by omega), I1 _ _ (by omega)]
  · show hI (pI h4 28 7 (hI h4 138 7)) 28 4 = hI h 138 4
    rw [hI_pI, if_neg (by omega), I4 _ _ (by omega), I3, if_pos ⟨rfl, rfl⟩, I2 _ _ (by omega), if_neg (by omega), I1 _ _ (by omega)]
  · show hI (pI h4 28 7 (hI h4 138 7)) 28 7 = hI h 138 7
    rw [hI_pI, if_pos ⟨rfl, rfl⟩, I4 _ _ (by omega), I3, if_neg (by omega), if_neg (by omega), I2 _ _ (by omega), if_neg (by omega), I1 _ _ (by omega)]
  · have J : ∀ a k, 42 ≤ a → a < 42 + 96 → hI (pI h4 28 7 (hI h4 138 7)) a k = hI h1 a k := fun a k u v => by
      rw [hI_pI, if_neg (by omega), I4 _ _ (by omega), I3, if_neg (by omega), if_neg (by omega), I2 _ _ (by omega), if_neg (by omega)]
    have g := g1 m (Nat.zero_le _) hm
    refine ⟨fun x hx => ?_, fun x hx => ⟨?_, ?_, ?_⟩⟩
    · rw [J _ _ (by omega) (by omega)]; exact g.1 x hx
    · rw [J _ _ (by omega) (by omega)]; exact (g.2 x hx).1
    · rw [J _ _ (by omega) (by omega)]; exact (g.2 x hx).2.1
    · rw [J _ _ (by omega) (by omega)]; exact (g.2 x hx).2.2
  · have g : hI h2 (31 + r) j = hI (pI h1 28 1 (hI h1 138 1)) (141 + r) j := g2 r (Nat.zero_le _) hr j hj
    show hI (pI h4 28 7 (hI h4 138 7)) (31 + r) j = hI h (141 + r) j
    rw [hI_pI, if_neg (by omega), I4 _ _ (by omega), I3, if_neg (by omega), if_neg (by omega), g, hI_pI, if_neg (by omega), I1 _ _ (by omega)]
  · have ga : hI h4 38 t = hI h3 148 t := (g4 t (Nat.zero_le _) ht).1
    have gb : hI h4 39 t = hI h3 149 t := (g4 t (Nat.zero_le _) ht).2
    show hI (pI h4 28 7 (hI h4 138 7)) 38 t = hI h 148 t ∧ hI (pI h4 28 7 (hI h4 138 7)) 39 t = hI h 149 t
    refine ⟨?_, ?_⟩
    · rw [hI_pI, if_neg (by omega), ga, I3, if_neg (by omega), if_neg (by omega), I2 _ _ (by omega), if_neg (by omega), I1 _ _ (by omega)]
    · rw [hI_pI, if_neg (by omega), gb, I3, if_neg (by omega), if_neg (by omega), I2 _ _ (by omega), if_neg (by omega), I1 _ _ (by omega)]
theorem D266_1 {h : am_H} (hs : Sh h) {j : Nat} (hj : j < 24) : ∃ h', am_D 266 [vr (some (152 + 4 * j)), vr (some (42 + 4 * j))] h = some (none, h') ∧ Kg (fun a _ => 152 + 4 * j ≤ a ∧ a ≤ 155 + 4 * j) h h' ∧ Mcp 110 0 h h' j := by
  refine ⟨c3c (c3c (c3c (pnc h (152 + 4 * j) (42 + 4 * j) 6) (153 + 4 * j) (43 + 4 * j)) (154 + 4 * j) (44 + 4 * j)) (155 + 4 * j) (45 + 4 * j), ?d, ?g, fun k hk => ?m, fun k hk => ?t⟩
  case d =>
    rw [d_266_1 hs hj hj, e_266_32_1, if_pos (by decide), e_266_62_1, if_pos (by decide), if_pos (by decide), e_266_90]
    all_goals first | rfl | exact hs | exact hj
  case g => exact Kg_pIs (fun i => by omega) (Kg_pIs (fun i => by omega) (Kg_pIs (fun i => by omega) (Kg_pI (by omega) (Kg_pI (by omega) (Kg_pI (by omega) (Kg_pI (by omega) (Kg_pI (by omega) (Kg_pI (by omega) (Kg_refl h)))))))))
  case m =>
    show hI _ (152 + 4 * j) k = hI h (42 + 4 * j) k
    rw [hI_c3c, if_neg (by omega), hI_c3c, if_neg (by omega), hI_c3c, if_neg (by omega), pnc_a (by omega) hk]
  case t =>
    have q1 : 152 + 4 * j + 1 = 153 + 4 * j := by omega
    have q2 : 152 + 4 * j + 2 = 154 + 4 * j := by omega
    have q3 : 152 + 4 * j + 3 = 155 + 4 * j := by omega
    have p1 : 42 + 4 * j + 1 = 43 + 4 * j := by omega
    have p2 : 42 + 4 * j + 2 = 44 + 4 * j := by omega
    have p3 : 42 + 4 * j + 3 = 45 + 4 * j := by omega
    show hI _ (152 + 4 * j + 1) k = hI h (42 + 4 * j + 1) k ∧ hI _ (152 + 4 * j + 2) k = hI h (42 + 4 * j + 2) k ∧ hI _ (152 + 4 * j + 3) k = hI h (42 + 4 * j + 3) k
    rw [q1, q2, q3, p1, p2, p3]
    refine ⟨?_, ?_, ?_⟩
    · rw [hI_c3c, if_neg (by omega), hI_c3c, if_neg (by omega), hI_c3c, if_pos rfl, vac3 hk, pnc_n (by omega)]
    · rw [hI_c3c, if_neg (by omega), hI_c3c, if_pos rfl, vac3 hk, hI_c3c, if_neg (by omega), pnc_n (by omega)]
    · rw [hI_c3c, if_pos rfl, vac3 hk, hI_c3c, if_neg (by omega), hI_c3c, if_neg (by omega), pnc_n (by omega)]
theorem L267a_1 : ∀ (m : Nat) {h : am_H} {i : Nat}, Sh h → i + m = 24 → ∃ h', am_E 267 (2, [some (vr (some 138)), some (vr (some 28)), some (vi (ni i))], [], h) = am_E 267 (39, [some (vr (some 138)), some (vr (some 28)), some (vi 0)], [], pI h' 138 1 (hI h' 28 1)) ∧ Kg (fun a _ => 152 + 4 * i ≤ a ∧ a < 152 + 96) h h' ∧ ∀ j, i ≤ j → j < 24 → Mcp 110 0 h h' j := by
  intro m
  induction m with
  | zero =>
    intro h i hs hi
    refine ⟨h, ?_, Kg_refl h, fun j h1 h2 => by omega⟩
    rw [e_267_2_1 hs, if_pos (show (24 : Int32) ≤ ni i by rw [show (24 : Int32) = ni 24 from rfl, ni_le (by omega) (by omega)]; omega)]
  | succ m ih =>
    intro h i hs hi
    obtain ⟨h1, d, k, g⟩ := D266_1 hs (show i < 24 by omega)
    obtain ⟨h', d2, k2, g2⟩ := ih (h := h1) (i := i + 1) (Kg_Sh k hs) (by omega)
    refine ⟨h', ?_, Kg_trans (Kg_mono (fun a j z => by omega) k) (Kg_mono (fun a j z => by omega) k2), fun j l1 l2 => ?_⟩
    · rw [e_267_2_1 hs, if_neg (show ¬ (24 : Int32) ≤ ni i by rw [show (24 : Int32) = ni 24 from rfl, ni_le (by omega) (by omega)]; omega), ixb _ (show i < 24 by omega) (by omega), ixb _ (show i < 24 by omega) (by omega), d]
      simp only [Option.bind_some, Option.toList_none, List.nil_append]
      rw [e_267_23_1 (Kg_Sh k hs), ni_add1]
      exact d2
    · by_cases y : j = i
      · subst y
        refine ⟨fun x hx => ?_, fun x hx => ⟨?_, ?_, ?_⟩⟩
        · rw [k2.2.2.2.2.1 _ _ (by omega)]; exact g.1 x hx
        · rw [k2.2.2.2.2.1 _ _ (by omega)]; exact (g.2 x hx).1
        · rw [k2.2.2.2.2.1 _ _ (by omega)]; exact (g.2 x hx).2.1
        · rw [k2.2.2.2.2.1 _ _ (by omega)]; exact (g.2 x hx).2.2
      · have z := g2 j (by omega) l2
        refine ⟨fun x hx => ?_, fun x hx => ⟨?_, ?_, ?_⟩⟩
        · rw [z.1 x hx, k.2.2.2.2.1 _ _ (by omega)]
        · rw [(z.2 x hx).1, k.2.2.2.2.1 _ _ (by omega)]
        · rw [(z.2 x hx).2.1, k.2.2.2.2.1 _ _ (by omega)]
        · rw [(z.2 x hx).2.2, k.2.2.2.2.1 _ _ (by omega)]
theorem L267b_1 : ∀ (m : Nat) {h : am_H} {i : Nat}, Sh h → i + m = 6 → ∃ h', am_E 267 (39, [some (vr (some 138)), some (vr (some 28)), some (vi (ni i))], [], h) = am_E 267 (88, [some (vr (some 138)), some (vr (some 28)), some (vi 0)], [], pI (pI h' 138 3 (hI h' 28 3)) 138 4 (hI (pI h' 138 3 (hI h' 28 3)) 28 4)) ∧ Kg (fun a _ => 141 + i ≤ a ∧ a ≤ 146) h h' ∧ ∀ r, i ≤ r → r < 6 → Rcp 110 0 h h' r := by
  intro m
  induction m with
  | zero =>
    intro h i hs hi
    refine ⟨h, ?_, Kg_refl h, fun j h1 h2 => by omega⟩
    rw [e_267_39_1 hs, if_pos (show (6 : Int32) ≤ ni i by rw [show (6 : Int32) = ni 6 from rfl, ni_le (by omega) (by omega)]; omega)]
  | succ m ih =>
    intro h i hs hi
    obtain ⟨h', d2, k2, g2⟩ := ih (h := pIs h (141 + i) (va_cpy (hI h (31 + i)) (hI h (141 + i)) (0 : Int32).toNatClampNeg (0 : Int32).toNatClampNeg (14 : Int32).toNatClampNeg)) (i := i + 1) hs (by omega)
    refine ⟨h', ?_, Kg_trans (Kg_pIs (fun j => by omega) (Kg_refl h)) (Kg_mono (fun a j z => by omega) k2), fun r l1 l2 => ?_⟩
    · rw [e_267_39_1 hs, if_neg (show ¬ (6 : Int32) ≤ ni i by rw [show (6 : Int32) = ni 6 from rfl, ni_le (by omega) (by omega)]; omega), ixb _ (show i < 6 by omega) (by omega), ixb _ (show i < 6 by omega) (by omega), if_pos (by decide), ni_add1]
      exact d2
    · by_cases y : r = i
      · subst y
        intro j hj
        show hI h' (141 + r) j = hI h (31 + r) j
        rw [k2.2.2.2.2.1 _ _ (by omega), hI_pIs, if_pos rfl, vac14 hj]
      · intro j hj
        show hI h' (141 + r) j = hI h (31 + r) j
        have z := g2 r (by omega) l2 j hj
        have z' : hI h' (141 + r) j = hI (pIs h (141 + i) (va_cpy (hI h (31 + i)) (hI h (141 + i)) (0 : Int32).toNatClampNeg (0 : Int32).toNatClampNeg (14 : Int32).toNatClampNeg)) (31 + r) j := z
        rw [z', hI_pIs, if_neg (by omega)]
def Lcp_1 (i : Nat) (h h' : am_H) : Prop := hN h' = hN h ∧ hSl h' = hSl h ∧ hK h' = hK h ∧ hI h' = hI h ∧ hL h' = hL h ∧ (∀ a k, ¬ (a = 147 ∧ i ≤ k ∧ k < 64) → hR h' a k = hR h a k) ∧ ∀ k, i ≤ k → k < 64 → hR h' 147 k = hR h 37 k
theorem Sh_r_1 {h : am_H} (hs : Sh h) {i : Nat} (hi : i < 64) : Sh (pR h 147 i (hR h 37 i)) := by
  refine ⟨hs.1, fun a k r e => ?_, hs.2.2.1, fun k hk => ?_⟩
  · rw [hR_pR, if_neg (fun z => by rw [z.1] at e; cases e)]
    exact hs.2.1 a k r e
  · have ok := hs.2.2.2 k hk
    have okn : ∀ x, am_okr (pR h 147 i (hR h 37 i)) x [0, 1, 2, 3, 6, 7, 9] = am_okr h x [0, 1, 2, 3, 6, 7, 9] := fun x => rfl
    rw [okn, okn, hR_pR, hR_pR]
    by_cases z : k = i
    · subst z
      rw [if_neg (by omega), if_pos ⟨rfl, rfl⟩]; exact ⟨ok.1, ok.1⟩
    · rw [if_neg (fun y => z y.2), if_neg (fun y => z y.2)]
      exact ok
theorem L267c_1 : ∀ (m : Nat) {h : am_H} {i : Nat}, Sh h → i + m = 64 → ∃ h', am_E 267 (88, [some (vr (some 138)), some (vr (some 28)), some (vi (ni i))], [], h) = am_E 267 (114, [some (vr (some 138)), some (vr (some 28)), some (vi 0)], [], h') ∧ Sh h' ∧ Lcp_1 i h h' := by
  intro m
  induction m with
  | zero =>
    intro h i hs hi
    refine ⟨h, ?_, hs, rfl, rfl, rfl, rfl, rfl, fun _ _ _ => rfl, fun k h1 h2 => by omega⟩
    rw [e_267_88_1 hs, if_pos (show (64 : Int32) ≤ ni i by rw [show (64 : Int32) = ni 64 from rfl, ni_le (by omega) (by omega)]; omega)]
  | succ m ih =>
    intro h i hs hi
    have hi' : i < 64 := by omega
    obtain ⟨h', d2, s2, n1, n2, n3, n4, n5, n6, n7⟩ := ih (h := pR h 147 i (hR h 37 i)) (i := i + 1) (Sh_r_1 hs hi') (by omega)
    refine ⟨h', ?_, s2, n1, n2, n3, n4, n5, fun a k z => ?_, fun k l1 l2 => ?_⟩
    · rw [e_267_88_1 hs, if_neg (show ¬ (64 : Int32) ≤ ni i by rw [show (64 : Int32) = ni 64 from rfl, ni_le (by omega) (by omega)]; omega), ixb _ hi' (by omega), if_pos (hs.2.2.2 i hi').1, ixb _ hi' (by omega), e_267_106_1 (h := pR h 147 i (hR h 37 i)) (Sh_r_1 hs hi'), ni_add1]
      exact d2
    · rw [n6 a k (by omega), hR_pR, if_neg (by omega)]
    · by_cases y : k = i
      · subst y
        rw [n6 147 k (by omega), hR_pR, if_pos ⟨rfl, rfl⟩]
      · rw [n7 k (by omega) l2, hR_pR, if_neg (by omega)]
theorem L267d_1 : ∀ (m : Nat) {h : am_H} {i : Nat}, Sh h → i + m = 8 → ∃ h', am_E 267 (114, [some (vr (some 138)), some (vr (some 28)), some (vi (ni i))], [], h) = some (none, pI h' 138 7 (hI h' 28 7)) ∧ Kg (fun a k => (a = 148 ∨ a = 149) ∧ i ≤ k) h h' ∧ ∀ t, i ≤ t → t < 8 → Wcp 110 0 h h' t := by
  intro m
  induction m with
  | zero =>
    intro h i hs hi
    refine ⟨h, ?_, Kg_refl h, fun j h1 h2 => by omega⟩
    rw [e_267_114_1 hs, if_pos (show (8 : Int32) ≤ ni i by rw [show (8 : Int32) = ni 8 from rfl, ni_le (by omega) (by omega)]; omega)]
  | succ m ih =>
    intro h i hs hi
    obtain ⟨h', d2, k2, g2⟩ := ih (h := pI (pI h 148 i (hI h 38 i)) 149 i (hI (pI h 148 i (hI h 38 i)) 39 i)) (i := i + 1) hs (by omega)
    refine ⟨h', ?_, Kg_trans (Kg_pI (by omega) (Kg_pI (by omega) (Kg_refl h))) (Kg_mono (fun a j z => by omega) k2), fun t l1 l2 => ?_⟩
    · rw [e_267_114_1 hs, if_neg (show ¬ (8 : Int32) ≤ ni i by rw [show (8 : Int32) = ni 8 from rfl, ni_le (by omega) (by omega)]; omega), ixb _ (show i < 8 by omega) (by omega), ixb _ (show i < 8 by omega) (by omega), ixb _ (show i < 8 by omega) (by omega), ixb _ (show i < 8 by omega) (by omega), ni_add1]
      exact d2
    · show hI h' 148 t = hI h 38 t ∧ hI h' 149 t = hI h 39 t
      by_cases y : t = i
      · subst y
        rw [k2.2.2.2.2.1 148 t (by omega), k2.2.2.2.2.1 149 t (by omega)]
        refine ⟨?_, ?_⟩ <;> simp (disch := omega) only [hI_pI, if_neg, if_pos, and_true, true_and, and_false, false_and, if_true, if_false, reduceIte]
      · have z1 := (g2 t (by omega) l2).1
        have z2 := (g2 t (by omega) l2).2
        have z1' : hI h' 148 t = hI (pI (pI h 148 i (hI h 38 i)) 149 i (hI (pI h 148 i (hI h 38 i)) 39 i)) 38 t := z1
        have z2' : hI h' 149 t = hI (pI (pI h 148 i (hI h 38 i)) 149 i (hI (pI h 148 i (hI h 38 i)) 39 i)) 39 t := z2
        rw [z1', z2', hI_pI, if_neg (by omega), hI_pI, if_neg (by omega), hI_pI, if_neg (by omega), hI_pI, if_neg (by omega)]
        exact ⟨rfl, rfl⟩
theorem D267_1 {h : am_H} (hs : Sh h) : ∃ h', am_D 267 [vr (some 138), vr (some 28)] h = some (none, h') ∧ BC 110 0 h h' := by
  obtain ⟨h1, d1, k1, g1⟩ := L267a_1 24 (i := 0) hs (by omega)
  have s1 : Sh (pI h1 138 1 (hI h1 28 1)) := show Sh h1 from Kg_Sh k1 hs
  obtain ⟨h2, d2, k2, g2⟩ := L267b_1 6 (i := 0) s1 (by omega)
  have s2 : Sh (pI (pI h2 138 3 (hI h2 28 3)) 138 4 (hI (pI h2 138 3 (hI h2 28 3)) 28 4)) := show Sh h2 from Kg_Sh k2 s1
  obtain ⟨h3, d3, s3, n1, n2, n3, n4, n5, n6, n7⟩ := L267c_1 64 (i := 0) s2 (by omega)
  obtain ⟨h4, d4, k4, g4⟩ := L267d_1 8 (i := 0) s3 (by omega)
  have I1 : ∀ a k, ¬ (152 + 4 * 0 ≤ a ∧ a < 152 + 96) → hI h1 a k = hI h a k := k1.2.2.2.2.1
  have I2 : ∀ a k, ¬ (141 + 0 ≤ a ∧ a ≤ 146) → hI h2 a k = if a = 138 ∧ k = 1 then hI h1 28 1 else hI h1 a k := fun a k z => by rw [k2.2.2.2.2.1 a k z, hI_pI]
  have I3 : ∀ a k, hI h3 a k = if a = 138 ∧ k = 4 then hI h2 28 4 else if a = 138 ∧ k = 3 then hI h2 28 3 else hI h2 a k := fun a k => by rw [n4, hI_pI, hI_pI, hI_pI, if_neg (show ¬ (28 = 138 ∧ 4 = 3) by omega)]
  have I4 : ∀ a k, ¬ ((a = 148 ∨ a = 149) ∧ 0 ≤ k) → hI h4 a k = hI h3 a k := k4.2.2.2.2.1
  refine ⟨pI h4 138 7 (hI h4 28 7), ?_, ?_, ?_, ?_, fun a k z1 z2 z3 => ?_, fun k hk => ?_, fun a k z => ?_, fun a k z => ?_, ⟨?_, ?_, ?_, ?_⟩, fun m hm => ?_, fun r hr j hj => ?_, fun t ht => ?_⟩
  · rw [d_267_1 hs]
    exact d1.trans (d2.trans (d3.trans d4))
  · exact k4.1.trans (n1.trans (k2.1.trans k1.1))
  · exact k4.2.1.trans (n2.trans (k2.2.1.trans k1.2.1))
  · exact k4.2.2.1.trans (n3.trans (k2.2.2.1.trans k1.2.2.1))
  · show hR h4 a k = hR h a k
    rw [k4.2.2.2.1 a k z2 z3, n6 a k (fun y => z1 ⟨y.1, y.2.2⟩)]
    exact (k2.2.2.2.1 a k z2 z3).trans (k1.2.2.2.1 a k z2 z3)
  · show hR h4 147 k = hR h 37 k
    rw [k4.2.2.2.1 147 k (by omega) (by omega), n7 k (Nat.zero_le _) hk]
    exact (k2.2.2.2.1 37 k (by omega) (by omega)).trans (k1.2.2.2.1 37 k (by omega) (by omega))
  · rw [hI_pI, if_neg (by omega), I4 a k (by omega), I3, if_neg (by omega), if_neg (by omega), I2 a k (by omega), if_neg (by omega), I1 a k (by omega)]
  · show hL h4 a k = hL h a k
    rw [k4.2.2.2.2.2 a k (by omega), n5]
    exact (k2.2.2.2.2.2 a k (by omega)).trans (k1.2.2.2.2.2 a k (by omega))
  · show hI (pI h4 138 7 (hI h4 28 7)) 138 1 = hI h 28 1
    rw [hI_pI, if_neg (by omega), I4 _ _ (by omega), I3, if_neg (by omega), if_neg (by omega), I2 _ _ (by omega), if_pos ⟨rfl, rfl⟩, I1 _ _ (by omega)]
  · show hI (pI h4 138 7 (hI h4 28 7)) 138 3 = hI h 28 3
    rw [hI_pI, if_neg (by omega), I4 _ _ (by omega), I3, if_neg (by omega), if_pos ⟨rfl, rfl⟩, I2 _ _ (by omega), if_neg (by omega), I1 _ _ (by omega)]
  · show hI (pI h4 138 7 (hI h4 28 7)) 138 4 = hI h 28 4
    rw [hI_pI, if_neg (by omega), I4 _ _ (by omega), I3, if_pos ⟨rfl, rfl⟩, I2 _ _ (by omega), if_neg (by omega), I1 _ _ (by omega)]
  · show hI (pI h4 138 7 (hI h4 28 7)) 138 7 = hI h 28 7
    rw [hI_pI, if_pos ⟨rfl, rfl⟩, I4 _ _ (by omega), I3, if_neg (by omega), if_neg (by omega), I2 _ _ (by omega), if_neg (by omega), I1 _ _ (by omega)]
  · have J : ∀ a k, 152 ≤ a → a < 152 + 96 → hI (pI h4 138 7 (hI h4 28 7)) a k = hI h1 a k := fun a k u v => by
      rw [hI_pI, if_neg (by omega), I4 _ _ (by omega), I3, if_neg (by omega), if_neg (by omega), I2 _ _ (by omega), if_neg (by omega)]
    have g := g1 m (Nat.zero_le _) hm
    refine ⟨fun x hx => ?_, fun x hx => ⟨?_, ?_, ?_⟩⟩
    · rw [J _ _ (by omega) (by omega)]; exact g.1 x hx
    · rw [J _ _ (by omega) (by omega)]; exact (g.2 x hx).1
    · rw [J _ _ (by omega) (by omega)]; exact (g.2 x hx).2.1
    · rw [J _ _ (by omega) (by omega)]; exact (g.2 x hx).2.2
  · have g : hI h2 (141 + r) j = hI (pI h1 138 1 (hI h1 28 1)) (31 + r) j := g2 r (Nat.zero_le _) hr j hj
    show hI (pI h4 138 7 (hI h4 28 7)) (141 + r) j = hI h (31 + r) j
    rw [hI_pI, if_neg (by omega), I4 _ _ (by omega), I3, if_neg (by omega), if_neg (by omega), g, hI_pI, if_neg (by omega), I1 _ _ (by omega)]
  · have ga : hI h4 148 t = hI h3 38 t := (g4 t (Nat.zero_le _) ht).1
    have gb : hI h4 149 t = hI h3 39 t := (g4 t (Nat.zero_le _) ht).2
    show hI (pI h4 138 7 (hI h4 28 7)) 148 t = hI h 38 t ∧ hI (pI h4 138 7 (hI h4 28 7)) 149 t = hI h 39 t
    refine ⟨?_, ?_⟩
    · rw [hI_pI, if_neg (by omega), ga, I3, if_neg (by omega), if_neg (by omega), I2 _ _ (by omega), if_neg (by omega), I1 _ _ (by omega)]
    · rw [hI_pI, if_neg (by omega), gb, I3, if_neg (by omega), if_neg (by omega), I2 _ _ (by omega), if_neg (by omega), I1 _ _ (by omega)]
