/-! THE LAW, out of its calls -/
theorem lgc_self (v : Int64) : lg_cmp v v = 0 := by
  unfold lg_cmp; simp
theorem lit_i (n : Nat) : (@OfNat.ofNat Int32 n Int32.instOfNat) = ni (@OfNat.ofNat Nat n (instOfNatNat n)) := rfl
theorem am_gd (l : List Nat) (i a b : Nat) (h : i < l.length) : l.getD i a = l.getD i b := by
  rw [List.getD_eq_getElem?_getD, List.getD_eq_getElem?_getD, List.getElem?_eq_getElem h]; rfl
theorem lq_0 (H : ∀ a1 a2 a3 : Int32, Alike 8 11 [vi a1, vi a2, vi a3]) {h : am_H} {s : Sg} {n i : Nat} (hs : Sh h) (hV : Vs s) (hC : CS h s) (hM : MS h s) (hk : hK h 15 = (100, n)) (hn : n ≤ 3072) (hi : i + 6 ≤ n) : ∃ (h2 : am_H) (s' : Sg), am_E 278 (236, [some (vr (some 15)), some (vr (some 16)), some (vr (some 261)), some (vi (ni i))], [], h) = am_E 278 (1794, [some (vr (some 15)), some (vr (some 16)), some (vr (some 261)), some (vi (ni i))], [], h2) ∧ Aft h h2 s' := by
  obtain ⟨v, h1, h2, s', d1, d2, ⟨g1, g2, g3⟩, g4⟩ := H (hI h 15 (i + 1)) (hI h 15 (i + 2)) (hI h 15 (i + 3)) h s hs hV hC hM
  have hk1 : hK h1 15 = (100, n) := g2.trans hk
  have hk2 : hK h2 15 = (100, n) := g4.2.2.2.2.2.2.2.1.trans hk
  have hs2 := g4.1
  refine ⟨h2, s', ?_, g4⟩
  rw [e_278_236 hs hk]
  try simp only [lit_i, ni_add, ix_ni (show i + 1 < n by omega) (by omega), ix_ni (show i + 2 < n by omega) (by omega), ix_ni (show i + 3 < n by omega) (by omega), ix_ni (show i + 4 < n by omega) (by omega), ix_ni (show i + 5 < n by omega) (by omega), Option.bind_some]
  rw [d1]
  simp only [Option.bind_some, Option.toList_some, List.cons_append, List.nil_append]
  rw [e_278_255 g1 hk1]
  try simp only [lit_i, ni_add, ix_ni (show i + 1 < n by omega) (by omega), ix_ni (show i + 2 < n by omega) (by omega), ix_ni (show i + 3 < n by omega) (by omega), ix_ni (show i + 4 < n by omega) (by omega), ix_ni (show i + 5 < n by omega) (by omega), Option.bind_some, g3]
  rw [d2]
  simp only [Option.bind_some, Option.toList_some, List.cons_append, List.nil_append]
  rw [e_278_274 hs2 hk2]
  exact if_pos rfl
theorem lq_1 (H : ∀ (a b : Int32) (v : Int64), Alike 14 15 [vi a, vi b, vl v]) {h : am_H} {s : Sg} {n i : Nat} (hs : Sh h) (hV : Vs s) (hC : CS h s) (hM : MS h s) (hk : hK h 15 = (100, n)) (hn : n ≤ 3072) (hi : i + 6 ≤ n) : ∃ (h2 : am_H) (s' : Sg), am_E 278 (279, [some (vr (some 15)), some (vr (some 16)), some (vr (some 261)), some (vi (ni i))], [], h) = am_E 278 (1794, [some (vr (some 15)), some (vr (some 16)), some (vr (some 261)), some (vi (ni i))], [], h2) ∧ Aft h h2 s' := by
  obtain ⟨v, h1, h2, s', d1, d2, ⟨g1, g2, g3⟩, g4⟩ := H (hI h 15 (i + 1)) (hI h 15 (i + 2)) (((((hI h 15 (i + 3)).toInt64) <<< ((ni 32).toInt64 &&& 63)) ||| (((hI h 15 (i + 4)).toInt64) &&& 4294967295))) h s hs hV hC hM
  have hk1 : hK h1 15 = (100, n) := g2.trans hk
  have hk2 : hK h2 15 = (100, n) := g4.2.2.2.2.2.2.2.1.trans hk
  have hs2 := g4.1
  refine ⟨h2, s', ?_, g4⟩
  rw [e_278_279 hs hk]
  try simp only [lit_i, ni_add, ix_ni (show i + 1 < n by omega) (by omega), ix_ni (show i + 2 < n by omega) (by omega), ix_ni (show i + 3 < n by omega) (by omega), ix_ni (show i + 4 < n by omega) (by omega), ix_ni (show i + 5 < n by omega) (by omega), Option.bind_some]
  rw [d1]
  simp only [Option.bind_some, Option.toList_some, List.cons_append, List.nil_append]
  rw [e_278_313 g1 hk1]
  try simp only [lit_i, ni_add, ix_ni (show i + 1 < n by omega) (by omega), ix_ni (show i + 2 < n by omega) (by omega), ix_ni (show i + 3 < n by omega) (by omega), ix_ni (show i + 4 < n by omega) (by omega), ix_ni (show i + 5 < n by omega) (by omega), Option.bind_some, g3]
  rw [d2]
  simp only [Option.bind_some, Option.toList_some, List.cons_append, List.nil_append]
  rw [e_278_347 hs2 hk2]
  exact if_pos rfl
theorem lq_2 (H : ∀ a1 a2 a3 a4 a5 : Int32, Alike 19 20 [vi a1, vi a2, vi a3, vi a4, vi a5]) {h : am_H} {s : Sg} {n i : Nat} (hs : Sh h) (hV : Vs s) (hC : CS h s) (hM : MS h s) (hk : hK h 15 = (100, n)) (hn : n ≤ 3072) (hi : i + 6 ≤ n) : ∃ (h2 : am_H) (s' : Sg), am_E 278 (352, [some (vr (some 15)), some (vr (some 16)), some (vr (some 261)), some (vi (ni i))], [], h) = am_E 278 (1794, [some (vr (some 15)), some (vr (some 16)), some (vr (some 261)), some (vi (ni i))], [], h2) ∧ Aft h h2 s' := by
  obtain ⟨v, h1, h2, s', d1, d2, ⟨g1, g2, g3⟩, g4⟩ := H (hI h 15 (i + 1)) (hI h 15 (i + 2)) (hI h 15 (i + 3)) (hI h 15 (i + 4)) (hI h 15 (i + 5)) h s hs hV hC hM
  have hk1 : hK h1 15 = (100, n) := g2.trans hk
  have hk2 : hK h2 15 = (100, n) := g4.2.2.2.2.2.2.2.1.trans hk
  have hs2 := g4.1
  refine ⟨h2, s', ?_, g4⟩
  rw [e_278_352 hs hk]
  try simp only [lit_i, ni_add, ix_ni (show i + 1 < n by omega) (by omega), ix_ni (show i + 2 < n by omega) (by omega), ix_ni (show i + 3 < n by omega) (by omega), ix_ni (show i + 4 < n by omega) (by omega), ix_ni (show i + 5 < n by omega) (by omega), Option.bind_some]
  rw [d1]
  simp only [Option.bind_some, Option.toList_some, List.cons_append, List.nil_append]
  rw [e_278_381 g1 hk1]
  try simp only [lit_i, ni_add, ix_ni (show i + 1 < n by omega) (by omega), ix_ni (show i + 2 < n by omega) (by omega), ix_ni (show i + 3 < n by omega) (by omega), ix_ni (show i + 4 < n by omega) (by omega), ix_ni (show i + 5 < n by omega) (by omega), Option.bind_some, g3]
  rw [d2]
  simp only [Option.bind_some, Option.toList_some, List.cons_append, List.nil_append]
  rw [e_278_410 hs2 hk2]
  exact if_pos rfl
theorem lq_3 (H : ∀ a1 a2 : Int32, AlikeL 21 22 [vi a1, vi a2]) {h : am_H} {s : Sg} {n i : Nat} (hs : Sh h) (hV : Vs s) (hC : CS h s) (hM : MS h s) (hk : hK h 15 = (100, n)) (hn : n ≤ 3072) (hi : i + 6 ≤ n) : ∃ (h2 : am_H) (s' : Sg), am_E 278 (415, [some (vr (some 15)), some (vr (some 16)), some (vr (some 261)), some (vi (ni i))], [], h) = am_E 278 (1794, [some (vr (some 15)), some (vr (some 16)), some (vr (some 261)), some (vi (ni i))], [], h2) ∧ Aft h h2 s' := by
  obtain ⟨v, h1, h2, s', d1, d2, ⟨g1, g2, g3⟩, g4⟩ := H (hI h 15 (i + 1)) (hI h 15 (i + 2)) h s hs hV hC hM
  have hk1 : hK h1 15 = (100, n) := g2.trans hk
  have hk2 : hK h2 15 = (100, n) := g4.2.2.2.2.2.2.2.1.trans hk
  have hs2 := g4.1
  refine ⟨h2, s', ?_, g4⟩
  rw [e_278_415 hs hk]
  try simp only [lit_i, ni_add, ix_ni (show i + 1 < n by omega) (by omega), ix_ni (show i + 2 < n by omega) (by omega), ix_ni (show i + 3 < n by omega) (by omega), ix_ni (show i + 4 < n by omega) (by omega), ix_ni (show i + 5 < n by omega) (by omega), Option.bind_some]
  rw [d1]
  simp only [Option.bind_some, Option.toList_some, List.cons_append, List.nil_append]
  rw [e_278_429 g1 hk1]
  try simp only [lit_i, ni_add, ix_ni (show i + 1 < n by omega) (by omega), ix_ni (show i + 2 < n by omega) (by omega), ix_ni (show i + 3 < n by omega) (by omega), ix_ni (show i + 4 < n by omega) (by omega), ix_ni (show i + 5 < n by omega) (by omega), Option.bind_some, g3]
  rw [d2]
  simp only [Option.bind_some, Option.toList_some, List.cons_append, List.nil_append]
  rw [e_278_443 hs2 hk2]
  exact if_pos (lgc_self v)
theorem lq_4 (H : ∀ a1 a2 a3 : Int32, Alike 25 28 [vi a1, vi a2, vi a3]) {h : am_H} {s : Sg} {n i : Nat} (hs : Sh h) (hV : Vs s) (hC : CS h s) (hM : MS h s) (hk : hK h 15 = (100, n)) (hn : n ≤ 3072) (hi : i + 6 ≤ n) : ∃ (h2 : am_H) (s' : Sg), am_E 278 (449, [some (vr (some 15)), some (vr (some 16)), some (vr (some 261)), some (vi (ni i))], [], h) = am_E 278 (1794, [some (vr (some 15)), some (vr (some 16)), some (vr (some 261)), some (vi (ni i))], [], h2) ∧ Aft h h2 s' := by
  obtain ⟨v, h1, h2, s', d1, d2, ⟨g1, g2, g3⟩, g4⟩ := H (hI h 15 (i + 1)) (hI h 15 (i + 2)) (hI h 15 (i + 3)) h s hs hV hC hM
  have hk1 : hK h1 15 = (100, n) := g2.trans hk
  have hk2 : hK h2 15 = (100, n) := g4.2.2.2.2.2.2.2.1.trans hk
  have hs2 := g4.1
  refine ⟨h2, s', ?_, g4⟩
  rw [e_278_449 hs hk]
  try simp only [lit_i, ni_add, ix_ni (show i + 1 < n by omega) (by omega), ix_ni (show i + 2 < n by omega) (by omega), ix_ni (show i + 3 < n by omega) (by omega), ix_ni (show i + 4 < n by omega) (by omega), ix_ni (show i + 5 < n by omega) (by omega), Option.bind_some]
  rw [d1]
  simp only [Option.bind_some, Option.toList_some, List.cons_append, List.nil_append]
  rw [e_278_468 g1 hk1]
  try simp only [lit_i, ni_add, ix_ni (show i + 1 < n by omega) (by omega), ix_ni (show i + 2 < n by omega) (by omega), ix_ni (show i + 3 < n by omega) (by omega), ix_ni (show i + 4 < n by omega) (by omega), ix_ni (show i + 5 < n by omega) (by omega), Option.bind_some, g3]
  rw [d2]
  simp only [Option.bind_some, Option.toList_some, List.cons_append, List.nil_append]
  rw [e_278_487 hs2 hk2]
  exact if_pos rfl
theorem lq_5 (H : ∀ a1 : Int32, Alike 29 30 [vi a1]) {h : am_H} {s : Sg} {n i : Nat} (hs : Sh h) (hV : Vs s) (hC : CS h s) (hM : MS h s) (hk : hK h 15 = (100, n)) (hn : n ≤ 3072) (hi : i + 6 ≤ n) : ∃ (h2 : am_H) (s' : Sg), am_E 278 (492, [some (vr (some 15)), some (vr (some 16)), some (vr (some 261)), some (vi (ni i))], [], h) = am_E 278 (1794, [some (vr (some 15)), some (vr (some 16)), some (vr (some 261)), some (vi (ni i))], [], h2) ∧ Aft h h2 s' := by
  obtain ⟨v, h1, h2, s', d1, d2, ⟨g1, g2, g3⟩, g4⟩ := H (hI h 15 (i + 1)) h s hs hV hC hM
  have hk1 : hK h1 15 = (100, n) := g2.trans hk
  have hk2 : hK h2 15 = (100, n) := g4.2.2.2.2.2.2.2.1.trans hk
  have hs2 := g4.1
  refine ⟨h2, s', ?_, g4⟩
  rw [e_278_492 hs hk]
  try simp only [lit_i, ni_add, ix_ni (show i + 1 < n by omega) (by omega), ix_ni (show i + 2 < n by omega) (by omega), ix_ni (show i + 3 < n by omega) (by omega), ix_ni (show i + 4 < n by omega) (by omega), ix_ni (show i + 5 < n by omega) (by omega), Option.bind_some]
  rw [d1]
  simp only [Option.bind_some, Option.toList_some, List.cons_append, List.nil_append]
  rw [e_278_501 g1 hk1]
  try simp only [lit_i, ni_add, ix_ni (show i + 1 < n by omega) (by omega), ix_ni (show i + 2 < n by omega) (by omega), ix_ni (show i + 3 < n by omega) (by omega), ix_ni (show i + 4 < n by omega) (by omega), ix_ni (show i + 5 < n by omega) (by omega), Option.bind_some, g3]
  rw [d2]
  simp only [Option.bind_some, Option.toList_some, List.cons_append, List.nil_append]
  rw [e_278_510 hs2 hk2]
  exact if_pos rfl
theorem lq_6 (H : ∀ a1 a2 : Int32, Alike 35 36 [vi a1, vi a2]) {h : am_H} {s : Sg} {n i : Nat} (hs : Sh h) (hV : Vs s) (hC : CS h s) (hM : MS h s) (hk : hK h 15 = (100, n)) (hn : n ≤ 3072) (hi : i + 6 ≤ n) : ∃ (h2 : am_H) (s' : Sg), am_E 278 (515, [some (vr (some 15)), some (vr (some 16)), some (vr (some 261)), some (vi (ni i))], [], h) = am_E 278 (1794, [some (vr (some 15)), some (vr (some 16)), some (vr (some 261)), some (vi (ni i))], [], h2) ∧ Aft h h2 s' := by
  obtain ⟨v, h1, h2, s', d1, d2, ⟨g1, g2, g3⟩, g4⟩ := H (hI h 15 (i + 1)) (hI h 15 (i + 2)) h s hs hV hC hM
  have hk1 : hK h1 15 = (100, n) := g2.trans hk
  have hk2 : hK h2 15 = (100, n) := g4.2.2.2.2.2.2.2.1.trans hk
  have hs2 := g4.1
  refine ⟨h2, s', ?_, g4⟩
  rw [e_278_515 hs hk]
  try simp only [lit_i, ni_add, ix_ni (show i + 1 < n by omega) (by omega), ix_ni (show i + 2 < n by omega) (by omega), ix_ni (show i + 3 < n by omega) (by omega), ix_ni (show i + 4 < n by omega) (by omega), ix_ni (show i + 5 < n by omega) (by omega), Option.bind_some]
  rw [d1]
  simp only [Option.bind_some, Option.toList_some, List.cons_append, List.nil_append]
  rw [e_278_529 g1 hk1]
  try simp only [lit_i, ni_add, ix_ni (show i + 1 < n by omega) (by omega), ix_ni (show i + 2 < n by omega) (by omega), ix_ni (show i + 3 < n by omega) (by omega), ix_ni (show i + 4 < n by omega) (by omega), ix_ni (show i + 5 < n by omega) (by omega), Option.bind_some, g3]
  rw [d2]
  simp only [Option.bind_some, Option.toList_some, List.cons_append, List.nil_append]
  rw [e_278_543 hs2 hk2]
  exact if_pos rfl
theorem lq_7 (H : ∀ a1 a2 a3 a4 a5 : Int32, Alike 41 47 [vi a1, vi a2, vi a3, vi a4, vi a5]) {h : am_H} {s : Sg} {n i : Nat} (hs : Sh h) (hV : Vs s) (hC : CS h s) (hM : MS h s) (hk : hK h 15 = (100, n)) (hn : n ≤ 3072) (hi : i + 6 ≤ n) : ∃ (h2 : am_H) (s' : Sg), am_E 278 (548, [some (vr (some 15)), some (vr (some 16)), some (vr (some 261)), some (vi (ni i))], [], h) = am_E 278 (1794, [some (vr (some 15)), some (vr (some 16)), some (vr (some 261)), some (vi (ni i))], [], h2) ∧ Aft h h2 s' := by
  obtain ⟨v, h1, h2, s', d1, d2, ⟨g1, g2, g3⟩, g4⟩ := H (hI h 15 (i + 1)) (hI h 15 (i + 2)) (hI h 15 (i + 3)) (hI h 15 (i + 4)) (hI h 15 (i + 5)) h s hs hV hC hM
  have hk1 : hK h1 15 = (100, n) := g2.trans hk
  have hk2 : hK h2 15 = (100, n) := g4.2.2.2.2.2.2.2.1.trans hk
  have hs2 := g4.1
  refine ⟨h2, s', ?_, g4⟩
  rw [e_278_548 hs hk]
  try simp only [lit_i, ni_add, ix_ni (show i + 1 < n by omega) (by omega), ix_ni (show i + 2 < n by omega) (by omega), ix_ni (show i + 3 < n by omega) (by omega), ix_ni (show i + 4 < n by omega) (by omega), ix_ni (show i + 5 < n by omega) (by omega), Option.bind_some]
  rw [d1]
  simp only [Option.bind_some, Option.toList_some, List.cons_append, List.nil_append]
  rw [e_278_577 g1 hk1]
  try simp only [lit_i, ni_add, ix_ni (show i + 1 < n by omega) (by omega), ix_ni (show i + 2 < n by omega) (by omega), ix_ni (show i + 3 < n by omega) (by omega), ix_ni (show i + 4 < n by omega) (by omega), ix_ni (show i + 5 < n by omega) (by omega), Option.bind_some, g3]
  rw [d2]
  simp only [Option.bind_some, Option.toList_some, List.cons_append, List.nil_append]
  rw [e_278_606 hs2 hk2]
  exact if_pos rfl
theorem lq_8 (H : ∀ a1 a2 a3 : Int32, Alike 49 52 [vi a1, vi a2, vi a3]) {h : am_H} {s : Sg} {n i : Nat} (hs : Sh h) (hV : Vs s) (hC : CS h s) (hM : MS h s) (hk : hK h 15 = (100, n)) (hn : n ≤ 3072) (hi : i + 6 ≤ n) : ∃ (h2 : am_H) (s' : Sg), am_E 278 (611, [some (vr (some 15)), some (vr (some 16)), some (vr (some 261)), some (vi (ni i))], [], h) = am_E 278 (1794, [some (vr (some 15)), some (vr (some 16)), some (vr (some 261)), some (vi (ni i))], [], h2) ∧ Aft h h2 s' := by
  obtain ⟨v, h1, h2, s', d1, d2, ⟨g1, g2, g3⟩, g4⟩ := H (hI h 15 (i + 1)) (hI h 15 (i + 2)) (hI h 15 (i + 3)) h s hs hV hC hM
  have hk1 : hK h1 15 = (100, n) := g2.trans hk
  have hk2 : hK h2 15 = (100, n) := g4.2.2.2.2.2.2.2.1.trans hk
  have hs2 := g4.1
  refine ⟨h2, s', ?_, g4⟩
  rw [e_278_611 hs hk]
  try simp only [lit_i, ni_add, ix_ni (show i + 1 < n by omega) (by omega), ix_ni (show i + 2 < n by omega) (by omega), ix_ni (show i + 3 < n by omega) (by omega), ix_ni (show i + 4 < n by omega) (by omega), ix_ni (show i + 5 < n by omega) (by omega), Option.bind_some]
  rw [d1]
  simp only [Option.bind_some, Option.toList_some, List.cons_append, List.nil_append]
  rw [e_278_630 g1 hk1]
  try simp only [lit_i, ni_add, ix_ni (show i + 1 < n by omega) (by omega), ix_ni (show i + 2 < n by omega) (by omega), ix_ni (show i + 3 < n by omega) (by omega), ix_ni (show i + 4 < n by omega) (by omega), ix_ni (show i + 5 < n by omega) (by omega), Option.bind_some, g3]
  rw [d2]
  simp only [Option.bind_some, Option.toList_some, List.cons_append, List.nil_append]
  rw [e_278_649 hs2 hk2]
  exact if_pos rfl
theorem lq_9 (H : ∀ a1 a2 a3 a4 : Int32, Alike 55 57 [vi a1, vi a2, vi a3, vi a4]) {h : am_H} {s : Sg} {n i : Nat} (hs : Sh h) (hV : Vs s) (hC : CS h s) (hM : MS h s) (hk : hK h 15 = (100, n)) (hn : n ≤ 3072) (hi : i + 6 ≤ n) : ∃ (h2 : am_H) (s' : Sg), am_E 278 (654, [some (vr (some 15)), some (vr (some 16)), some (vr (some 261)), some (vi (ni i))], [], h) = am_E 278 (1794, [some (vr (some 15)), some (vr (some 16)), some (vr (some 261)), some (vi (ni i))], [], h2) ∧ Aft h h2 s' := by
  obtain ⟨v, h1, h2, s', d1, d2, ⟨g1, g2, g3⟩, g4⟩ := H (hI h 15 (i + 1)) (hI h 15 (i + 2)) (hI h 15 (i + 3)) (hI h 15 (i + 4)) h s hs hV hC hM
  have hk1 : hK h1 15 = (100, n) := g2.trans hk
  have hk2 : hK h2 15 = (100, n) := g4.2.2.2.2.2.2.2.1.trans hk
  have hs2 := g4.1
  refine ⟨h2, s', ?_, g4⟩
  rw [e_278_654 hs hk]
  try simp only [lit_i, ni_add, ix_ni (show i + 1 < n by omega) (by omega), ix_ni (show i + 2 < n by omega) (by omega), ix_ni (show i + 3 < n by omega) (by omega), ix_ni (show i + 4 < n by omega) (by omega), ix_ni (show i + 5 < n by omega) (by omega), Option.bind_some]
  rw [d1]
  simp only [Option.bind_some, Option.toList_some, List.cons_append, List.nil_append]
  rw [e_278_678 g1 hk1]
  try simp only [lit_i, ni_add, ix_ni (show i + 1 < n by omega) (by omega), ix_ni (show i + 2 < n by omega) (by omega), ix_ni (show i + 3 < n by omega) (by omega), ix_ni (show i + 4 < n by omega) (by omega), ix_ni (show i + 5 < n by omega) (by omega), Option.bind_some, g3]
  rw [d2]
  simp only [Option.bind_some, Option.toList_some, List.cons_append, List.nil_append]
  rw [e_278_702 hs2 hk2]
  exact if_pos rfl
theorem lq_10 (H : ∀ a1 a2 a3 : Int32, Alike 58 59 [vi a1, vi a2, vi a3]) {h : am_H} {s : Sg} {n i : Nat} (hs : Sh h) (hV : Vs s) (hC : CS h s) (hM : MS h s) (hk : hK h 15 = (100, n)) (hn : n ≤ 3072) (hi : i + 6 ≤ n) : ∃ (h2 : am_H) (s' : Sg), am_E 278 (707, [some (vr (some 15)), some (vr (some 16)), some (vr (some 261)), some (vi (ni i))], [], h) = am_E 278 (1794, [some (vr (some 15)), some (vr (some 16)), some (vr (some 261)), some (vi (ni i))], [], h2) ∧ Aft h h2 s' := by
  obtain ⟨v, h1, h2, s', d1, d2, ⟨g1, g2, g3⟩, g4⟩ := H (hI h 15 (i + 1)) (hI h 15 (i + 2)) (hI h 15 (i + 3)) h s hs hV hC hM
  have hk1 : hK h1 15 = (100, n) := g2.trans hk
  have hk2 : hK h2 15 = (100, n) := g4.2.2.2.2.2.2.2.1.trans hk
  have hs2 := g4.1
  refine ⟨h2, s', ?_, g4⟩
  rw [e_278_707 hs hk]
  try simp only [lit_i, ni_add, ix_ni (show i + 1 < n by omega) (by omega), ix_ni (show i + 2 < n by omega) (by omega), ix_ni (show i + 3 < n by omega) (by omega), ix_ni (show i + 4 < n by omega) (by omega), ix_ni (show i + 5 < n by omega) (by omega), Option.bind_some]
  rw [d1]
  simp only [Option.bind_some, Option.toList_some, List.cons_append, List.nil_append]
  rw [e_278_726 g1 hk1]
  try simp only [lit_i, ni_add, ix_ni (show i + 1 < n by omega) (by omega), ix_ni (show i + 2 < n by omega) (by omega), ix_ni (show i + 3 < n by omega) (by omega), ix_ni (show i + 4 < n by omega) (by omega), ix_ni (show i + 5 < n by omega) (by omega), Option.bind_some, g3]
  rw [d2]
  simp only [Option.bind_some, Option.toList_some, List.cons_append, List.nil_append]
  rw [e_278_745 hs2 hk2]
  exact if_pos rfl
theorem lq_11 (H : ∀ a1 a2 a3 : Int32, Alike 61 62 [vi a1, vi a2, vi a3]) {h : am_H} {s : Sg} {n i : Nat} (hs : Sh h) (hV : Vs s) (hC : CS h s) (hM : MS h s) (hk : hK h 15 = (100, n)) (hn : n ≤ 3072) (hi : i + 6 ≤ n) : ∃ (h2 : am_H) (s' : Sg), am_E 278 (750, [some (vr (some 15)), some (vr (some 16)), some (vr (some 261)), some (vi (ni i))], [], h) = am_E 278 (1794, [some (vr (some 15)), some (vr (some 16)), some (vr (some 261)), some (vi (ni i))], [], h2) ∧ Aft h h2 s' := by
  obtain ⟨v, h1, h2, s', d1, d2, ⟨g1, g2, g3⟩, g4⟩ := H (hI h 15 (i + 1)) (hI h 15 (i + 2)) (hI h 15 (i + 3)) h s hs hV hC hM
  have hk1 : hK h1 15 = (100, n) := g2.trans hk
  have hk2 : hK h2 15 = (100, n) := g4.2.2.2.2.2.2.2.1.trans hk
  have hs2 := g4.1
  refine ⟨h2, s', ?_, g4⟩
  rw [e_278_750 hs hk]
  try simp only [lit_i, ni_add, ix_ni (show i + 1 < n by omega) (by omega), ix_ni (show i + 2 < n by omega) (by omega), ix_ni (show i + 3 < n by omega) (by omega), ix_ni (show i + 4 < n by omega) (by omega), ix_ni (show i + 5 < n by omega) (by omega), Option.bind_some]
  rw [d1]
  simp only [Option.bind_some, Option.toList_some, List.cons_append, List.nil_append]
  rw [e_278_769 g1 hk1]
  try simp only [lit_i, ni_add, ix_ni (show i + 1 < n by omega) (by omega), ix_ni (show i + 2 < n by omega) (by omega), ix_ni (show i + 3 < n by omega) (by omega), ix_ni (show i + 4 < n by omega) (by omega), ix_ni (show i + 5 < n by omega) (by omega), Option.bind_some, g3]
  rw [d2]
  simp only [Option.bind_some, Option.toList_some, List.cons_append, List.nil_append]
  rw [e_278_788 hs2 hk2]
  exact if_pos rfl
theorem lq_12 (H : ∀ a1 a2 : Int32, Alike 63 64 [vi a1, vi a2]) {h : am_H} {s : Sg} {n i : Nat} (hs : Sh h) (hV : Vs s) (hC : CS h s) (hM : MS h s) (hk : hK h 15 = (100, n)) (hn : n ≤ 3072) (hi : i + 6 ≤ n) : ∃ (h2 : am_H) (s' : Sg), am_E 278 (793, [some (vr (some 15)), some (vr (some 16)), some (vr (some 261)), some (vi (ni i))], [], h) = am_E 278 (1794, [some (vr (some 15)), some (vr (some 16)), some (vr (some 261)), some (vi (ni i))], [], h2) ∧ Aft h h2 s' := by
  obtain ⟨v, h1, h2, s', d1, d2, ⟨g1, g2, g3⟩, g4⟩ := H (hI h 15 (i + 1)) (hI h 15 (i + 2)) h s hs hV hC hM
  have hk1 : hK h1 15 = (100, n) := g2.trans hk
  have hk2 : hK h2 15 = (100, n) := g4.2.2.2.2.2.2.2.1.trans hk
  have hs2 := g4.1
  refine ⟨h2, s', ?_, g4⟩
  rw [e_278_793 hs hk]
  try simp only [lit_i, ni_add, ix_ni (show i + 1 < n by omega) (by omega), ix_ni (show i + 2 < n by omega) (by omega), ix_ni (show i + 3 < n by omega) (by omega), ix_ni (show i + 4 < n by omega) (by omega), ix_ni (show i + 5 < n by omega) (by omega), Option.bind_some]
  rw [d1]
  simp only [Option.bind_some, Option.toList_some, List.cons_append, List.nil_append]
  rw [e_278_807 g1 hk1]
  try simp only [lit_i, ni_add, ix_ni (show i + 1 < n by omega) (by omega), ix_ni (show i + 2 < n by omega) (by omega), ix_ni (show i + 3 < n by omega) (by omega), ix_ni (show i + 4 < n by omega) (by omega), ix_ni (show i + 5 < n by omega) (by omega), Option.bind_some, g3]
  rw [d2]
  simp only [Option.bind_some, Option.toList_some, List.cons_append, List.nil_append]
  rw [e_278_821 hs2 hk2]
  exact if_pos rfl
theorem lq_13 (H : ∀ a1 a2 : Int32, Alike 66 68 [vi a1, vi a2]) {h : am_H} {s : Sg} {n i : Nat} (hs : Sh h) (hV : Vs s) (hC : CS h s) (hM : MS h s) (hk : hK h 15 = (100, n)) (hn : n ≤ 3072) (hi : i + 6 ≤ n) : ∃ (h2 : am_H) (s' : Sg), am_E 278 (826, [some (vr (some 15)), some (vr (some 16)), some (vr (some 261)), some (vi (ni i))], [], h) = am_E 278 (1794, [some (vr (some 15)), some (vr (some 16)), some (vr (some 261)), some (vi (ni i))], [], h2) ∧ Aft h h2 s' := by
  obtain ⟨v, h1, h2, s', d1, d2, ⟨g1, g2, g3⟩, g4⟩ := H (hI h 15 (i + 1)) (hI h 15 (i + 2)) h s hs hV hC hM
  have hk1 : hK h1 15 = (100, n) := g2.trans hk
  have hk2 : hK h2 15 = (100, n) := g4.2.2.2.2.2.2.2.1.trans hk
  have hs2 := g4.1
  refine ⟨h2, s', ?_, g4⟩
  rw [e_278_826 hs hk]
  try simp only [lit_i, ni_add, ix_ni (show i + 1 < n by omega) (by omega), ix_ni (show i + 2 < n by omega) (by omega), ix_ni (show i + 3 < n by omega) (by omega), ix_ni (show i + 4 < n by omega) (by omega), ix_ni (show i + 5 < n by omega) (by omega), Option.bind_some]
  rw [d1]
  simp only [Option.bind_some, Option.toList_some, List.cons_append, List.nil_append]
  rw [e_278_840 g1 hk1]
  try simp only [lit_i, ni_add, ix_ni (show i + 1 < n by omega) (by omega), ix_ni (show i + 2 < n by omega) (by omega), ix_ni (show i + 3 < n by omega) (by omega), ix_ni (show i + 4 < n by omega) (by omega), ix_ni (show i + 5 < n by omega) (by omega), Option.bind_some, g3]
  rw [d2]
  simp only [Option.bind_some, Option.toList_some, List.cons_append, List.nil_append]
  rw [e_278_854 hs2 hk2]
  exact if_pos rfl
theorem lq_14 (H : ∀ a1 : Int32, Alike 83 96 [vi a1]) {h : am_H} {s : Sg} {n i : Nat} (hs : Sh h) (hV : Vs s) (hC : CS h s) (hM : MS h s) (hk : hK h 15 = (100, n)) (hn : n ≤ 3072) (hi : i + 6 ≤ n) : ∃ (h2 : am_H) (s' : Sg), am_E 278 (859, [some (vr (some 15)), some (vr (some 16)), some (vr (some 261)), some (vi (ni i))], [], h) = am_E 278 (1794, [some (vr (some 15)), some (vr (some 16)), some (vr (some 261)), some (vi (ni i))], [], h2) ∧ Aft h h2 s' := by
  obtain ⟨v, h1, h2, s', d1, d2, ⟨g1, g2, g3⟩, g4⟩ := H (hI h 15 (i + 1)) h s hs hV hC hM
  have hk1 : hK h1 15 = (100, n) := g2.trans hk
  have hk2 : hK h2 15 = (100, n) := g4.2.2.2.2.2.2.2.1.trans hk
  have hs2 := g4.1
  refine ⟨h2, s', ?_, g4⟩
  rw [e_278_859 hs hk]
  try simp only [lit_i, ni_add, ix_ni (show i + 1 < n by omega) (by omega), ix_ni (show i + 2 < n by omega) (by omega), ix_ni (show i + 3 < n by omega) (by omega), ix_ni (show i + 4 < n by omega) (by omega), ix_ni (show i + 5 < n by omega) (by omega), Option.bind_some]
  rw [d1]
  simp only [Option.bind_some, Option.toList_some, List.cons_append, List.nil_append]
  rw [e_278_868 g1 hk1]
  try simp only [lit_i, ni_add, ix_ni (show i + 1 < n by omega) (by omega), ix_ni (show i + 2 < n by omega) (by omega), ix_ni (show i + 3 < n by omega) (by omega), ix_ni (show i + 4 < n by omega) (by omega), ix_ni (show i + 5 < n by omega) (by omega), Option.bind_some, g3]
  rw [d2]
  simp only [Option.bind_some, Option.toList_some, List.cons_append, List.nil_append]
  rw [e_278_877 hs2 hk2]
  exact if_pos rfl
theorem lq_15 (H : Alike 97 98 []) {h : am_H} {s : Sg} {n i : Nat} (hs : Sh h) (hV : Vs s) (hC : CS h s) (hM : MS h s) (hk : hK h 15 = (100, n)) (hn : n ≤ 3072) (hi : i + 6 ≤ n) : ∃ (h2 : am_H) (s' : Sg), am_E 278 (882, [some (vr (some 15)), some (vr (some 16)), some (vr (some 261)), some (vi (ni i))], [], h) = am_E 278 (1794, [some (vr (some 15)), some (vr (some 16)), some (vr (some 261)), some (vi (ni i))], [], h2) ∧ Aft h h2 s' := by
  obtain ⟨v, h1, h2, s', d1, d2, ⟨g1, g2, g3⟩, g4⟩ := H  h s hs hV hC hM
  have hk1 : hK h1 15 = (100, n) := g2.trans hk
  have hk2 : hK h2 15 = (100, n) := g4.2.2.2.2.2.2.2.1.trans hk
  have hs2 := g4.1
  refine ⟨h2, s', ?_, g4⟩
  rw [e_278_882 hs hk]
  try simp only [lit_i, ni_add, ix_ni (show i + 1 < n by omega) (by omega), ix_ni (show i + 2 < n by omega) (by omega), ix_ni (show i + 3 < n by omega) (by omega), ix_ni (show i + 4 < n by omega) (by omega), ix_ni (show i + 5 < n by omega) (by omega), Option.bind_some]
  rw [d1]
  simp only [Option.bind_some, Option.toList_some, List.cons_append, List.nil_append]
  rw [e_278_886 g1 hk1]
  try simp only [lit_i, ni_add, ix_ni (show i + 1 < n by omega) (by omega), ix_ni (show i + 2 < n by omega) (by omega), ix_ni (show i + 3 < n by omega) (by omega), ix_ni (show i + 4 < n by omega) (by omega), ix_ni (show i + 5 < n by omega) (by omega), Option.bind_some, g3]
  rw [d2]
  simp only [Option.bind_some, Option.toList_some, List.cons_append, List.nil_append]
  rw [e_278_890 hs2 hk2]
  exact if_pos rfl
theorem lq_16 (H : ∀ a1 a2 : Int32, Alike 100 101 [vi a1, vi a2]) {h : am_H} {s : Sg} {n i : Nat} (hs : Sh h) (hV : Vs s) (hC : CS h s) (hM : MS h s) (hk : hK h 15 = (100, n)) (hn : n ≤ 3072) (hi : i + 6 ≤ n) : ∃ (h2 : am_H) (s' : Sg), am_E 278 (895, [some (vr (some 15)), some (vr (some 16)), some (vr (some 261)), some (vi (ni i))], [], h) = am_E 278 (1794, [some (vr (some 15)), some (vr (some 16)), some (vr (some 261)), some (vi (ni i))], [], h2) ∧ Aft h h2 s' := by
  obtain ⟨v, h1, h2, s', d1, d2, ⟨g1, g2, g3⟩, g4⟩ := H (hI h 15 (i + 1)) (hI h 15 (i + 2)) h s hs hV hC hM
  have hk1 : hK h1 15 = (100, n) := g2.trans hk
  have hk2 : hK h2 15 = (100, n) := g4.2.2.2.2.2.2.2.1.trans hk
  have hs2 := g4.1
  refine ⟨h2, s', ?_, g4⟩
  rw [e_278_895 hs hk]
  try simp only [lit_i, ni_add, ix_ni (show i + 1 < n by omega) (by omega), ix_ni (show i + 2 < n by omega) (by omega), ix_ni (show i + 3 < n by omega) (by omega), ix_ni (show i + 4 < n by omega) (by omega), ix_ni (show i + 5 < n by omega) (by omega), Option.bind_some]
  rw [d1]
  simp only [Option.bind_some, Option.toList_some, List.cons_append, List.nil_append]
  rw [e_278_909 g1 hk1]
  try simp only [lit_i, ni_add, ix_ni (show i + 1 < n by omega) (by omega), ix_ni (show i + 2 < n by omega) (by omega), ix_ni (show i + 3 < n by omega) (by omega), ix_ni (show i + 4 < n by omega) (by omega), ix_ni (show i + 5 < n by omega) (by omega), Option.bind_some, g3]
  rw [d2]
  simp only [Option.bind_some, Option.toList_some, List.cons_append, List.nil_append]
  rw [e_278_923 hs2 hk2]
  exact if_pos rfl
theorem lq_17 (H : ∀ a1 : Int32, Alike 103 105 [vi a1]) {h : am_H} {s : Sg} {n i : Nat} (hs : Sh h) (hV : Vs s) (hC : CS h s) (hM : MS h s) (hk : hK h 15 = (100, n)) (hn : n ≤ 3072) (hi : i + 6 ≤ n) : ∃ (h2 : am_H) (s' : Sg), am_E 278 (928, [some (vr (some 15)), some (vr (some 16)), some (vr (some 261)), some (vi (ni i))], [], h) = am_E 278 (1794, [some (vr (some 15)), some (vr (some 16)), some (vr (some 261)), some (vi (ni i))], [], h2) ∧ Aft h h2 s' := by
  obtain ⟨v, h1, h2, s', d1, d2, ⟨g1, g2, g3⟩, g4⟩ := H (hI h 15 (i + 1)) h s hs hV hC hM
  have hk1 : hK h1 15 = (100, n) := g2.trans hk
  have hk2 : hK h2 15 = (100, n) := g4.2.2.2.2.2.2.2.1.trans hk
  have hs2 := g4.1
  refine ⟨h2, s', ?_, g4⟩
  rw [e_278_928 hs hk]
  try simp only [lit_i, ni_add, ix_ni (show i + 1 < n by omega) (by omega), ix_ni (show i + 2 < n by omega) (by omega), ix_ni (show i + 3 < n by omega) (by omega), ix_ni (show i + 4 < n by omega) (by omega), ix_ni (show i + 5 < n by omega) (by omega), Option.bind_some]
  rw [d1]
  simp only [Option.bind_some, Option.toList_some, List.cons_append, List.nil_append]
  rw [e_278_937 g1 hk1]
  try simp only [lit_i, ni_add, ix_ni (show i + 1 < n by omega) (by omega), ix_ni (show i + 2 < n by omega) (by omega), ix_ni (show i + 3 < n by omega) (by omega), ix_ni (show i + 4 < n by omega) (by omega), ix_ni (show i + 5 < n by omega) (by omega), Option.bind_some, g3]
  rw [d2]
  simp only [Option.bind_some, Option.toList_some, List.cons_append, List.nil_append]
  rw [e_278_946 hs2 hk2]
  exact if_pos rfl
theorem lq_18 (H : ∀ a1 : Int32, Alike 122 123 [vi a1]) {h : am_H} {s : Sg} {n i : Nat} (hs : Sh h) (hV : Vs s) (hC : CS h s) (hM : MS h s) (hk : hK h 15 = (100, n)) (hn : n ≤ 3072) (hi : i + 6 ≤ n) : ∃ (h2 : am_H) (s' : Sg), am_E 278 (951, [some (vr (some 15)), some (vr (some 16)), some (vr (some 261)), some (vi (ni i))], [], h) = am_E 278 (1794, [some (vr (some 15)), some (vr (some 16)), some (vr (some 261)), some (vi (ni i))], [], h2) ∧ Aft h h2 s' := by
  obtain ⟨v, h1, h2, s', d1, d2, ⟨g1, g2, g3⟩, g4⟩ := H (hI h 15 (i + 1)) h s hs hV hC hM
  have hk1 : hK h1 15 = (100, n) := g2.trans hk
  have hk2 : hK h2 15 = (100, n) := g4.2.2.2.2.2.2.2.1.trans hk
  have hs2 := g4.1
  refine ⟨h2, s', ?_, g4⟩
  rw [e_278_951 hs hk]
  try simp only [lit_i, ni_add, ix_ni (show i + 1 < n by omega) (by omega), ix_ni (show i + 2 < n by omega) (by omega), ix_ni (show i + 3 < n by omega) (by omega), ix_ni (show i + 4 < n by omega) (by omega), ix_ni (show i + 5 < n by omega) (by omega), Option.bind_some]
  rw [d1]
  simp only [Option.bind_some, Option.toList_some, List.cons_append, List.nil_append]
  rw [e_278_960 g1 hk1]
  try simp only [lit_i, ni_add, ix_ni (show i + 1 < n by omega) (by omega), ix_ni (show i + 2 < n by omega) (by omega), ix_ni (show i + 3 < n by omega) (by omega), ix_ni (show i + 4 < n by omega) (by omega), ix_ni (show i + 5 < n by omega) (by omega), Option.bind_some, g3]
  rw [d2]
  simp only [Option.bind_some, Option.toList_some, List.cons_append, List.nil_append]
  rw [e_278_969 hs2 hk2]
  exact if_pos rfl
theorem lq_19 (H : ∀ a1 : Int32, Alike 124 125 [vi a1]) {h : am_H} {s : Sg} {n i : Nat} (hs : Sh h) (hV : Vs s) (hC : CS h s) (hM : MS h s) (hk : hK h 15 = (100, n)) (hn : n ≤ 3072) (hi : i + 6 ≤ n) : ∃ (h2 : am_H) (s' : Sg), am_E 278 (974, [some (vr (some 15)), some (vr (some 16)), some (vr (some 261)), some (vi (ni i))], [], h) = am_E 278 (1794, [some (vr (some 15)), some (vr (some 16)), some (vr (some 261)), some (vi (ni i))], [], h2) ∧ Aft h h2 s' := by
  obtain ⟨v, h1, h2, s', d1, d2, ⟨g1, g2, g3⟩, g4⟩ := H (hI h 15 (i + 1)) h s hs hV hC hM
  have hk1 : hK h1 15 = (100, n) := g2.trans hk
  have hk2 : hK h2 15 = (100, n) := g4.2.2.2.2.2.2.2.1.trans hk
  have hs2 := g4.1
  refine ⟨h2, s', ?_, g4⟩
  rw [e_278_974 hs hk]
  try simp only [lit_i, ni_add, ix_ni (show i + 1 < n by omega) (by omega), ix_ni (show i + 2 < n by omega) (by omega), ix_ni (show i + 3 < n by omega) (by omega), ix_ni (show i + 4 < n by omega) (by omega), ix_ni (show i + 5 < n by omega) (by omega), Option.bind_some]
  rw [d1]
  simp only [Option.bind_some, Option.toList_some, List.cons_append, List.nil_append]
  rw [e_278_983 g1 hk1]
  try simp only [lit_i, ni_add, ix_ni (show i + 1 < n by omega) (by omega), ix_ni (show i + 2 < n by omega) (by omega), ix_ni (show i + 3 < n by omega) (by omega), ix_ni (show i + 4 < n by omega) (by omega), ix_ni (show i + 5 < n by omega) (by omega), Option.bind_some, g3]
  rw [d2]
  simp only [Option.bind_some, Option.toList_some, List.cons_append, List.nil_append]
  rw [e_278_992 hs2 hk2]
  exact if_pos rfl
theorem lq_20 (H : ∀ a1 a2 a3 : Int32, Alike 133 134 [vi a1, vi a2, vi a3]) {h : am_H} {s : Sg} {n i : Nat} (hs : Sh h) (hV : Vs s) (hC : CS h s) (hM : MS h s) (hk : hK h 15 = (100, n)) (hn : n ≤ 3072) (hi : i + 6 ≤ n) : ∃ (h2 : am_H) (s' : Sg), am_E 278 (997, [some (vr (some 15)), some (vr (some 16)), some (vr (some 261)), some (vi (ni i))], [], h) = am_E 278 (1794, [some (vr (some 15)), some (vr (some 16)), some (vr (some 261)), some (vi (ni i))], [], h2) ∧ Aft h h2 s' := by
  obtain ⟨v, h1, h2, s', d1, d2, ⟨g1, g2, g3⟩, g4⟩ := H (hI h 15 (i + 1)) (hI h 15 (i + 2)) (hI h 15 (i + 3)) h s hs hV hC hM
  have hk1 : hK h1 15 = (100, n) := g2.trans hk
  have hk2 : hK h2 15 = (100, n) := g4.2.2.2.2.2.2.2.1.trans hk
  have hs2 := g4.1
  refine ⟨h2, s', ?_, g4⟩
  rw [e_278_997 hs hk]
  try simp only [lit_i, ni_add, ix_ni (show i + 1 < n by omega) (by omega), ix_ni (show i + 2 < n by omega) (by omega), ix_ni (show i + 3 < n by omega) (by omega), ix_ni (show i + 4 < n by omega) (by omega), ix_ni (show i + 5 < n by omega) (by omega), Option.bind_some]
  rw [d1]
  simp only [Option.bind_some, Option.toList_some, List.cons_append, List.nil_append]
  rw [e_278_1016 g1 hk1]
  try simp only [lit_i, ni_add, ix_ni (show i + 1 < n by omega) (by omega), ix_ni (show i + 2 < n by omega) (by omega), ix_ni (show i + 3 < n by omega) (by omega), ix_ni (show i + 4 < n by omega) (by omega), ix_ni (show i + 5 < n by omega) (by omega), Option.bind_some, g3]
  rw [d2]
  simp only [Option.bind_some, Option.toList_some, List.cons_append, List.nil_append]
  rw [e_278_1035 hs2 hk2]
  exact if_pos rfl
theorem lq_21 (H : ∀ a1 a2 : Int32, Alike 141 144 [vi a1, vi a2]) {h : am_H} {s : Sg} {n i : Nat} (hs : Sh h) (hV : Vs s) (hC : CS h s) (hM : MS h s) (hk : hK h 15 = (100, n)) (hn : n ≤ 3072) (hi : i + 6 ≤ n) : ∃ (h2 : am_H) (s' : Sg), am_E 278 (1040, [some (vr (some 15)), some (vr (some 16)), some (vr (some 261)), some (vi (ni i))], [], h) = am_E 278 (1794, [some (vr (some 15)), some (vr (some 16)), some (vr (some 261)), some (vi (ni i))], [], h2) ∧ Aft h h2 s' := by
  obtain ⟨v, h1, h2, s', d1, d2, ⟨g1, g2, g3⟩, g4⟩ := H (hI h 15 (i + 1)) (hI h 15 (i + 2)) h s hs hV hC hM
  have hk1 : hK h1 15 = (100, n) := g2.trans hk
  have hk2 : hK h2 15 = (100, n) := g4.2.2.2.2.2.2.2.1.trans hk
  have hs2 := g4.1
  refine ⟨h2, s', ?_, g4⟩
  rw [e_278_1040 hs hk]
  try simp only [lit_i, ni_add, ix_ni (show i + 1 < n by omega) (by omega), ix_ni (show i + 2 < n by omega) (by omega), ix_ni (show i + 3 < n by omega) (by omega), ix_ni (show i + 4 < n by omega) (by omega), ix_ni (show i + 5 < n by omega) (by omega), Option.bind_some]
  rw [d1]
  simp only [Option.bind_some, Option.toList_some, List.cons_append, List.nil_append]
  rw [e_278_1054 g1 hk1]
  try simp only [lit_i, ni_add, ix_ni (show i + 1 < n by omega) (by omega), ix_ni (show i + 2 < n by omega) (by omega), ix_ni (show i + 3 < n by omega) (by omega), ix_ni (show i + 4 < n by omega) (by omega), ix_ni (show i + 5 < n by omega) (by omega), Option.bind_some, g3]
  rw [d2]
  simp only [Option.bind_some, Option.toList_some, List.cons_append, List.nil_append]
  rw [e_278_1068 hs2 hk2]
  exact if_pos rfl
theorem lq_22 (H : ∀ a1 a2 : Int32, Alike 145 146 [vi a1, vi a2]) {h : am_H} {s : Sg} {n i : Nat} (hs : Sh h) (hV : Vs s) (hC : CS h s) (hM : MS h s) (hk : hK h 15 = (100, n)) (hn : n ≤ 3072) (hi : i + 6 ≤ n) : ∃ (h2 : am_H) (s' : Sg), am_E 278 (1073, [some (vr (some 15)), some (vr (some 16)), some (vr (some 261)), some (vi (ni i))], [], h) = am_E 278 (1794, [some (vr (some 15)), some (vr (some 16)), some (vr (some 261)), some (vi (ni i))], [], h2) ∧ Aft h h2 s' := by
  obtain ⟨v, h1, h2, s', d1, d2, ⟨g1, g2, g3⟩, g4⟩ := H (hI h 15 (i + 1)) (hI h 15 (i + 2)) h s hs hV hC hM
  have hk1 : hK h1 15 = (100, n) := g2.trans hk
  have hk2 : hK h2 15 = (100, n) := g4.2.2.2.2.2.2.2.1.trans hk
  have hs2 := g4.1
  refine ⟨h2, s', ?_, g4⟩
  rw [e_278_1073 hs hk]
  try simp only [lit_i, ni_add, ix_ni (show i + 1 < n by omega) (by omega), ix_ni (show i + 2 < n by omega) (by omega), ix_ni (show i + 3 < n by omega) (by omega), ix_ni (show i + 4 < n by omega) (by omega), ix_ni (show i + 5 < n by omega) (by omega), Option.bind_some]
  rw [d1]
  simp only [Option.bind_some, Option.toList_some, List.cons_append, List.nil_append]
  rw [e_278_1087 g1 hk1]
  try simp only [lit_i, ni_add, ix_ni (show i + 1 < n by omega) (by omega), ix_ni (show i + 2 < n by omega) (by omega), ix_ni (show i + 3 < n by omega) (by omega), ix_ni (show i + 4 < n by omega) (by omega), ix_ni (show i + 5 < n by omega) (by omega), Option.bind_some, g3]
  rw [d2]
  simp only [Option.bind_some, Option.toList_some, List.cons_append, List.nil_append]
  rw [e_278_1101 hs2 hk2]
  exact if_pos rfl
theorem lq_23 (H : ∀ a1 a2 : Int32, Alike 153 155 [vi a1, vi a2]) {h : am_H} {s : Sg} {n i : Nat} (hs : Sh h) (hV : Vs s) (hC : CS h s) (hM : MS h s) (hk : hK h 15 = (100, n)) (hn : n ≤ 3072) (hi : i + 6 ≤ n) : ∃ (h2 : am_H) (s' : Sg), am_E 278 (1106, [some (vr (some 15)), some (vr (some 16)), some (vr (some 261)), some (vi (ni i))], [], h) = am_E 278 (1794, [some (vr (some 15)), some (vr (some 16)), some (vr (some 261)), some (vi (ni i))], [], h2) ∧ Aft h h2 s' := by
  obtain ⟨v, h1, h2, s', d1, d2, ⟨g1, g2, g3⟩, g4⟩ := H (hI h 15 (i + 1)) (hI h 15 (i + 2)) h s hs hV hC hM
  have hk1 : hK h1 15 = (100, n) := g2.trans hk
  have hk2 : hK h2 15 = (100, n) := g4.2.2.2.2.2.2.2.1.trans hk
  have hs2 := g4.1
  refine ⟨h2, s', ?_, g4⟩
  rw [e_278_1106 hs hk]
  try simp only [lit_i, ni_add, ix_ni (show i + 1 < n by omega) (by omega), ix_ni (show i + 2 < n by omega) (by omega), ix_ni (show i + 3 < n by omega) (by omega), ix_ni (show i + 4 < n by omega) (by omega), ix_ni (show i + 5 < n by omega) (by omega), Option.bind_some]
  rw [d1]
  simp only [Option.bind_some, Option.toList_some, List.cons_append, List.nil_append]
  rw [e_278_1120 g1 hk1]
  try simp only [lit_i, ni_add, ix_ni (show i + 1 < n by omega) (by omega), ix_ni (show i + 2 < n by omega) (by omega), ix_ni (show i + 3 < n by omega) (by omega), ix_ni (show i + 4 < n by omega) (by omega), ix_ni (show i + 5 < n by omega) (by omega), Option.bind_some, g3]
  rw [d2]
  simp only [Option.bind_some, Option.toList_some, List.cons_append, List.nil_append]
  rw [e_278_1134 hs2 hk2]
  exact if_pos rfl
theorem lq_24 (H : ∀ a1 a2 : Int32, Alike 163 166 [vi a1, vi a2]) {h : am_H} {s : Sg} {n i : Nat} (hs : Sh h) (hV : Vs s) (hC : CS h s) (hM : MS h s) (hk : hK h 15 = (100, n)) (hn : n ≤ 3072) (hi : i + 6 ≤ n) : ∃ (h2 : am_H) (s' : Sg), am_E 278 (1139, [some (vr (some 15)), some (vr (some 16)), some (vr (some 261)), some (vi (ni i))], [], h) = am_E 278 (1794, [some (vr (some 15)), some (vr (some 16)), some (vr (some 261)), some (vi (ni i))], [], h2) ∧ Aft h h2 s' := by
  obtain ⟨v, h1, h2, s', d1, d2, ⟨g1, g2, g3⟩, g4⟩ := H (hI h 15 (i + 1)) (hI h 15 (i + 2)) h s hs hV hC hM
  have hk1 : hK h1 15 = (100, n) := g2.trans hk
  have hk2 : hK h2 15 = (100, n) := g4.2.2.2.2.2.2.2.1.trans hk
  have hs2 := g4.1
  refine ⟨h2, s', ?_, g4⟩
  rw [e_278_1139 hs hk]
  try simp only [lit_i, ni_add, ix_ni (show i + 1 < n by omega) (by omega), ix_ni (show i + 2 < n by omega) (by omega), ix_ni (show i + 3 < n by omega) (by omega), ix_ni (show i + 4 < n by omega) (by omega), ix_ni (show i + 5 < n by omega) (by omega), Option.bind_some]
  rw [d1]
  simp only [Option.bind_some, Option.toList_some, List.cons_append, List.nil_append]
  rw [e_278_1153 g1 hk1]
  try simp only [lit_i, ni_add, ix_ni (show i + 1 < n by omega) (by omega), ix_ni (show i + 2 < n by omega) (by omega), ix_ni (show i + 3 < n by omega) (by omega), ix_ni (show i + 4 < n by omega) (by omega), ix_ni (show i + 5 < n by omega) (by omega), Option.bind_some, g3]
  rw [d2]
  simp only [Option.bind_some, Option.toList_some, List.cons_append, List.nil_append]
  rw [e_278_1167 hs2 hk2]
  exact if_pos rfl
theorem lq_25 (H : ∀ a1 a2 : Int32, Alike 167 169 [vi a1, vi a2]) {h : am_H} {s : Sg} {n i : Nat} (hs : Sh h) (hV : Vs s) (hC : CS h s) (hM : MS h s) (hk : hK h 15 = (100, n)) (hn : n ≤ 3072) (hi : i + 6 ≤ n) : ∃ (h2 : am_H) (s' : Sg), am_E 278 (1172, [some (vr (some 15)), some (vr (some 16)), some (vr (some 261)), some (vi (ni i))], [], h) = am_E 278 (1794, [some (vr (some 15)), some (vr (some 16)), some (vr (some 261)), some (vi (ni i))], [], h2) ∧ Aft h h2 s' := by
  obtain ⟨v, h1, h2, s', d1, d2, ⟨g1, g2, g3⟩, g4⟩ := H (hI h 15 (i + 1)) (hI h 15 (i + 2)) h s hs hV hC hM
  have hk1 : hK h1 15 = (100, n) := g2.trans hk
  have hk2 : hK h2 15 = (100, n) := g4.2.2.2.2.2.2.2.1.trans hk
  have hs2 := g4.1
  refine ⟨h2, s', ?_, g4⟩
  rw [e_278_1172 hs hk]
  try simp only [lit_i, ni_add, ix_ni (show i + 1 < n by omega) (by omega), ix_ni (show i + 2 < n by omega) (by omega), ix_ni (show i + 3 < n by omega) (by omega), ix_ni (show i + 4 < n by omega) (by omega), ix_ni (show i + 5 < n by omega) (by omega), Option.bind_some]
  rw [d1]
  simp only [Option.bind_some, Option.toList_some, List.cons_append, List.nil_append]
  rw [e_278_1186 g1 hk1]
  try simp only [lit_i, ni_add, ix_ni (show i + 1 < n by omega) (by omega), ix_ni (show i + 2 < n by omega) (by omega), ix_ni (show i + 3 < n by omega) (by omega), ix_ni (show i + 4 < n by omega) (by omega), ix_ni (show i + 5 < n by omega) (by omega), Option.bind_some, g3]
  rw [d2]
  simp only [Option.bind_some, Option.toList_some, List.cons_append, List.nil_append]
  rw [e_278_1200 hs2 hk2]
  exact if_pos rfl
theorem lq_26 (H : ∀ a1 a2 a3 : Int32, Alike 170 171 [vi a1, vi a2, vi a3]) {h : am_H} {s : Sg} {n i : Nat} (hs : Sh h) (hV : Vs s) (hC : CS h s) (hM : MS h s) (hk : hK h 15 = (100, n)) (hn : n ≤ 3072) (hi : i + 6 ≤ n) : ∃ (h2 : am_H) (s' : Sg), am_E 278 (1205, [some (vr (some 15)), some (vr (some 16)), some (vr (some 261)), some (vi (ni i))], [], h) = am_E 278 (1794, [some (vr (some 15)), some (vr (some 16)), some (vr (some 261)), some (vi (ni i))], [], h2) ∧ Aft h h2 s' := by
  obtain ⟨v, h1, h2, s', d1, d2, ⟨g1, g2, g3⟩, g4⟩ := H (hI h 15 (i + 1)) (hI h 15 (i + 2)) (hI h 15 (i + 3)) h s hs hV hC hM
  have hk1 : hK h1 15 = (100, n) := g2.trans hk
  have hk2 : hK h2 15 = (100, n) := g4.2.2.2.2.2.2.2.1.trans hk
  have hs2 := g4.1
  refine ⟨h2, s', ?_, g4⟩
  rw [e_278_1205 hs hk]
  try simp only [lit_i, ni_add, ix_ni (show i + 1 < n by omega) (by omega), ix_ni (show i + 2 < n by omega) (by omega), ix_ni (show i + 3 < n by omega) (by omega), ix_ni (show i + 4 < n by omega) (by omega), ix_ni (show i + 5 < n by omega) (by omega), Option.bind_some]
  rw [d1]
  simp only [Option.bind_some, Option.toList_some, List.cons_append, List.nil_append]
  rw [e_278_1224 g1 hk1]
  try simp only [lit_i, ni_add, ix_ni (show i + 1 < n by omega) (by omega), ix_ni (show i + 2 < n by omega) (by omega), ix_ni (show i + 3 < n by omega) (by omega), ix_ni (show i + 4 < n by omega) (by omega), ix_ni (show i + 5 < n by omega) (by omega), Option.bind_some, g3]
  rw [d2]
  simp only [Option.bind_some, Option.toList_some, List.cons_append, List.nil_append]
  rw [e_278_1243 hs2 hk2]
  exact if_pos rfl
theorem lq_27 (H : ∀ a1 a2 : Int32, Alike 173 174 [vi a1, vi a2]) {h : am_H} {s : Sg} {n i : Nat} (hs : Sh h) (hV : Vs s) (hC : CS h s) (hM : MS h s) (hk : hK h 15 = (100, n)) (hn : n ≤ 3072) (hi : i + 6 ≤ n) : ∃ (h2 : am_H) (s' : Sg), am_E 278 (1248, [some (vr (some 15)), some (vr (some 16)), some (vr (some 261)), some (vi (ni i))], [], h) = am_E 278 (1794, [some (vr (some 15)), some (vr (some 16)), some (vr (some 261)), some (vi (ni i))], [], h2) ∧ Aft h h2 s' := by
  obtain ⟨v, h1, h2, s', d1, d2, ⟨g1, g2, g3⟩, g4⟩ := H (hI h 15 (i + 1)) (hI h 15 (i + 2)) h s hs hV hC hM
  have hk1 : hK h1 15 = (100, n) := g2.trans hk
  have hk2 : hK h2 15 = (100, n) := g4.2.2.2.2.2.2.2.1.trans hk
  have hs2 := g4.1
  refine ⟨h2, s', ?_, g4⟩
  rw [e_278_1248 hs hk]
  try simp only [lit_i, ni_add, ix_ni (show i + 1 < n by omega) (by omega), ix_ni (show i + 2 < n by omega) (by omega), ix_ni (show i + 3 < n by omega) (by omega), ix_ni (show i + 4 < n by omega) (by omega), ix_ni (show i + 5 < n by omega) (by omega), Option.bind_some]
  rw [d1]
  simp only [Option.bind_some, Option.toList_some, List.cons_append, List.nil_append]
  rw [e_278_1262 g1 hk1]
  try simp only [lit_i, ni_add, ix_ni (show i + 1 < n by omega) (by omega), ix_ni (show i + 2 < n by omega) (by omega), ix_ni (show i + 3 < n by omega) (by omega), ix_ni (show i + 4 < n by omega) (by omega), ix_ni (show i + 5 < n by omega) (by omega), Option.bind_some, g3]
  rw [d2]
  simp only [Option.bind_some, Option.toList_some, List.cons_append, List.nil_append]
  rw [e_278_1276 hs2 hk2]
  exact if_pos rfl
theorem lq_28 (H : ∀ a1 : Int32, Alike 185 191 [vi a1]) {h : am_H} {s : Sg} {n i : Nat} (hs : Sh h) (hV : Vs s) (hC : CS h s) (hM : MS h s) (hk : hK h 15 = (100, n)) (hn : n ≤ 3072) (hi : i + 6 ≤ n) : ∃ (h2 : am_H) (s' : Sg), am_E 278 (1281, [some (vr (some 15)), some (vr (some 16)), some (vr (some 261)), some (vi (ni i))], [], h) = am_E 278 (1794, [some (vr (some 15)), some (vr (some 16)), some (vr (some 261)), some (vi (ni i))], [], h2) ∧ Aft h h2 s' := by
  obtain ⟨v, h1, h2, s', d1, d2, ⟨g1, g2, g3⟩, g4⟩ := H (hI h 15 (i + 1)) h s hs hV hC hM
  have hk1 : hK h1 15 = (100, n) := g2.trans hk
  have hk2 : hK h2 15 = (100, n) := g4.2.2.2.2.2.2.2.1.trans hk
  have hs2 := g4.1
  refine ⟨h2, s', ?_, g4⟩
  rw [e_278_1281 hs hk]
  try simp only [lit_i, ni_add, ix_ni (show i + 1 < n by omega) (by omega), ix_ni (show i + 2 < n by omega) (by omega), ix_ni (show i + 3 < n by omega) (by omega), ix_ni (show i + 4 < n by omega) (by omega), ix_ni (show i + 5 < n by omega) (by omega), Option.bind_some]
  rw [d1]
  simp only [Option.bind_some, Option.toList_some, List.cons_append, List.nil_append]
  rw [e_278_1290 g1 hk1]
  try simp only [lit_i, ni_add, ix_ni (show i + 1 < n by omega) (by omega), ix_ni (show i + 2 < n by omega) (by omega), ix_ni (show i + 3 < n by omega) (by omega), ix_ni (show i + 4 < n by omega) (by omega), ix_ni (show i + 5 < n by omega) (by omega), Option.bind_some, g3]
  rw [d2]
  simp only [Option.bind_some, Option.toList_some, List.cons_append, List.nil_append]
  rw [e_278_1299 hs2 hk2]
  exact if_pos rfl
theorem lq_29 (H : ∀ a1 : Int32, Alike 194 195 [vi a1]) {h : am_H} {s : Sg} {n i : Nat} (hs : Sh h) (hV : Vs s) (hC : CS h s) (hM : MS h s) (hk : hK h 15 = (100, n)) (hn : n ≤ 3072) (hi : i + 6 ≤ n) : ∃ (h2 : am_H) (s' : Sg), am_E 278 (1304, [some (vr (some 15)), some (vr (some 16)), some (vr (some 261)), some (vi (ni i))], [], h) = am_E 278 (1794, [some (vr (some 15)), some (vr (some 16)), some (vr (some 261)), some (vi (ni i))], [], h2) ∧ Aft h h2 s' := by
  obtain ⟨v, h1, h2, s', d1, d2, ⟨g1, g2, g3⟩, g4⟩ := H (hI h 15 (i + 1)) h s hs hV hC hM
  have hk1 : hK h1 15 = (100, n) := g2.trans hk
  have hk2 : hK h2 15 = (100, n) := g4.2.2.2.2.2.2.2.1.trans hk
  have hs2 := g4.1
  refine ⟨h2, s', ?_, g4⟩
  rw [e_278_1304 hs hk]
  try simp only [lit_i, ni_add, ix_ni (show i + 1 < n by omega) (by omega), ix_ni (show i + 2 < n by omega) (by omega), ix_ni (show i + 3 < n by omega) (by omega), ix_ni (show i + 4 < n by omega) (by omega), ix_ni (show i + 5 < n by omega) (by omega), Option.bind_some]
  rw [d1]
  simp only [Option.bind_some, Option.toList_some, List.cons_append, List.nil_append]
  rw [e_278_1313 g1 hk1]
  try simp only [lit_i, ni_add, ix_ni (show i + 1 < n by omega) (by omega), ix_ni (show i + 2 < n by omega) (by omega), ix_ni (show i + 3 < n by omega) (by omega), ix_ni (show i + 4 < n by omega) (by omega), ix_ni (show i + 5 < n by omega) (by omega), Option.bind_some, g3]
  rw [d2]
  simp only [Option.bind_some, Option.toList_some, List.cons_append, List.nil_append]
  rw [e_278_1322 hs2 hk2]
  exact if_pos rfl
theorem lq_30 (H : ∀ a1 : Int32, Alike 198 200 [vi a1]) {h : am_H} {s : Sg} {n i : Nat} (hs : Sh h) (hV : Vs s) (hC : CS h s) (hM : MS h s) (hk : hK h 15 = (100, n)) (hn : n ≤ 3072) (hi : i + 6 ≤ n) : ∃ (h2 : am_H) (s' : Sg), am_E 278 (1327, [some (vr (some 15)), some (vr (some 16)), some (vr (some 261)), some (vi (ni i))], [], h) = am_E 278 (1794, [some (vr (some 15)), some (vr (some 16)), some (vr (some 261)), some (vi (ni i))], [], h2) ∧ Aft h h2 s' := by
  obtain ⟨v, h1, h2, s', d1, d2, ⟨g1, g2, g3⟩, g4⟩ := H (hI h 15 (i + 1)) h s hs hV hC hM
  have hk1 : hK h1 15 = (100, n) := g2.trans hk
  have hk2 : hK h2 15 = (100, n) := g4.2.2.2.2.2.2.2.1.trans hk
  have hs2 := g4.1
  refine ⟨h2, s', ?_, g4⟩
  rw [e_278_1327 hs hk]
  try simp only [lit_i, ni_add, ix_ni (show i + 1 < n by omega) (by omega), ix_ni (show i + 2 < n by omega) (by omega), ix_ni (show i + 3 < n by omega) (by omega), ix_ni (show i + 4 < n by omega) (by omega), ix_ni (show i + 5 < n by omega) (by omega), Option.bind_some]
  rw [d1]
  simp only [Option.bind_some, Option.toList_some, List.cons_append, List.nil_append]
  rw [e_278_1336 g1 hk1]
  try simp only [lit_i, ni_add, ix_ni (show i + 1 < n by omega) (by omega), ix_ni (show i + 2 < n by omega) (by omega), ix_ni (show i + 3 < n by omega) (by omega), ix_ni (show i + 4 < n by omega) (by omega), ix_ni (show i + 5 < n by omega) (by omega), Option.bind_some, g3]
  rw [d2]
  simp only [Option.bind_some, Option.toList_some, List.cons_append, List.nil_append]
  rw [e_278_1345 hs2 hk2]
  exact if_pos rfl
theorem lq_31 (H : ∀ a1 : Int32, Alike 201 202 [vi a1]) {h : am_H} {s : Sg} {n i : Nat} (hs : Sh h) (hV : Vs s) (hC : CS h s) (hM : MS h s) (hk : hK h 15 = (100, n)) (hn : n ≤ 3072) (hi : i + 6 ≤ n) : ∃ (h2 : am_H) (s' : Sg), am_E 278 (1350, [some (vr (some 15)), some (vr (some 16)), some (vr (some 261)), some (vi (ni i))], [], h) = am_E 278 (1794, [some (vr (some 15)), some (vr (some 16)), some (vr (some 261)), some (vi (ni i))], [], h2) ∧ Aft h h2 s' := by
  obtain ⟨v, h1, h2, s', d1, d2, ⟨g1, g2, g3⟩, g4⟩ := H (hI h 15 (i + 1)) h s hs hV hC hM
  have hk1 : hK h1 15 = (100, n) := g2.trans hk
  have hk2 : hK h2 15 = (100, n) := g4.2.2.2.2.2.2.2.1.trans hk
  have hs2 := g4.1
  refine ⟨h2, s', ?_, g4⟩
  rw [e_278_1350 hs hk]
  try simp only [lit_i, ni_add, ix_ni (show i + 1 < n by omega) (by omega), ix_ni (show i + 2 < n by omega) (by omega), ix_ni (show i + 3 < n by omega) (by omega), ix_ni (show i + 4 < n by omega) (by omega), ix_ni (show i + 5 < n by omega) (by omega), Option.bind_some]
  rw [d1]
  simp only [Option.bind_some, Option.toList_some, List.cons_append, List.nil_append]
  rw [e_278_1359 g1 hk1]
  try simp only [lit_i, ni_add, ix_ni (show i + 1 < n by omega) (by omega), ix_ni (show i + 2 < n by omega) (by omega), ix_ni (show i + 3 < n by omega) (by omega), ix_ni (show i + 4 < n by omega) (by omega), ix_ni (show i + 5 < n by omega) (by omega), Option.bind_some, g3]
  rw [d2]
  simp only [Option.bind_some, Option.toList_some, List.cons_append, List.nil_append]
  rw [e_278_1368 hs2 hk2]
  exact if_pos rfl
theorem lq_32 (H : ∀ a1 : Int32, Alike 205 207 [vi a1]) {h : am_H} {s : Sg} {n i : Nat} (hs : Sh h) (hV : Vs s) (hC : CS h s) (hM : MS h s) (hk : hK h 15 = (100, n)) (hn : n ≤ 3072) (hi : i + 6 ≤ n) : ∃ (h2 : am_H) (s' : Sg), am_E 278 (1373, [some (vr (some 15)), some (vr (some 16)), some (vr (some 261)), some (vi (ni i))], [], h) = am_E 278 (1794, [some (vr (some 15)), some (vr (some 16)), some (vr (some 261)), some (vi (ni i))], [], h2) ∧ Aft h h2 s' := by
  obtain ⟨v, h1, h2, s', d1, d2, ⟨g1, g2, g3⟩, g4⟩ := H (hI h 15 (i + 1)) h s hs hV hC hM
  have hk1 : hK h1 15 = (100, n) := g2.trans hk
  have hk2 : hK h2 15 = (100, n) := g4.2.2.2.2.2.2.2.1.trans hk
  have hs2 := g4.1
  refine ⟨h2, s', ?_, g4⟩
  rw [e_278_1373 hs hk]
  try simp only [lit_i, ni_add, ix_ni (show i + 1 < n by omega) (by omega), ix_ni (show i + 2 < n by omega) (by omega), ix_ni (show i + 3 < n by omega) (by omega), ix_ni (show i + 4 < n by omega) (by omega), ix_ni (show i + 5 < n by omega) (by omega), Option.bind_some]
  rw [d1]
  simp only [Option.bind_some, Option.toList_some, List.cons_append, List.nil_append]
  rw [e_278_1382 g1 hk1]
  try simp only [lit_i, ni_add, ix_ni (show i + 1 < n by omega) (by omega), ix_ni (show i + 2 < n by omega) (by omega), ix_ni (show i + 3 < n by omega) (by omega), ix_ni (show i + 4 < n by omega) (by omega), ix_ni (show i + 5 < n by omega) (by omega), Option.bind_some, g3]
  rw [d2]
  simp only [Option.bind_some, Option.toList_some, List.cons_append, List.nil_append]
  rw [e_278_1391 hs2 hk2]
  exact if_pos rfl
theorem lq_33 (H : ∀ a1 : Int32, Alike 209 211 [vi a1]) {h : am_H} {s : Sg} {n i : Nat} (hs : Sh h) (hV : Vs s) (hC : CS h s) (hM : MS h s) (hk : hK h 15 = (100, n)) (hn : n ≤ 3072) (hi : i + 6 ≤ n) : ∃ (h2 : am_H) (s' : Sg), am_E 278 (1396, [some (vr (some 15)), some (vr (some 16)), some (vr (some 261)), some (vi (ni i))], [], h) = am_E 278 (1794, [some (vr (some 15)), some (vr (some 16)), some (vr (some 261)), some (vi (ni i))], [], h2) ∧ Aft h h2 s' := by
  obtain ⟨v, h1, h2, s', d1, d2, ⟨g1, g2, g3⟩, g4⟩ := H (hI h 15 (i + 1)) h s hs hV hC hM
  have hk1 : hK h1 15 = (100, n) := g2.trans hk
  have hk2 : hK h2 15 = (100, n) := g4.2.2.2.2.2.2.2.1.trans hk
  have hs2 := g4.1
  refine ⟨h2, s', ?_, g4⟩
  rw [e_278_1396 hs hk]
  try simp only [lit_i, ni_add, ix_ni (show i + 1 < n by omega) (by omega), ix_ni (show i + 2 < n by omega) (by omega), ix_ni (show i + 3 < n by omega) (by omega), ix_ni (show i + 4 < n by omega) (by omega), ix_ni (show i + 5 < n by omega) (by omega), Option.bind_some]
  rw [d1]
  simp only [Option.bind_some, Option.toList_some, List.cons_append, List.nil_append]
  rw [e_278_1405 g1 hk1]
  try simp only [lit_i, ni_add, ix_ni (show i + 1 < n by omega) (by omega), ix_ni (show i + 2 < n by omega) (by omega), ix_ni (show i + 3 < n by omega) (by omega), ix_ni (show i + 4 < n by omega) (by omega), ix_ni (show i + 5 < n by omega) (by omega), Option.bind_some, g3]
  rw [d2]
  simp only [Option.bind_some, Option.toList_some, List.cons_append, List.nil_append]
  rw [e_278_1414 hs2 hk2]
  exact if_pos rfl
theorem lq_34 (H : ∀ a1 : Int32, Alike 214 216 [vi a1]) {h : am_H} {s : Sg} {n i : Nat} (hs : Sh h) (hV : Vs s) (hC : CS h s) (hM : MS h s) (hk : hK h 15 = (100, n)) (hn : n ≤ 3072) (hi : i + 6 ≤ n) : ∃ (h2 : am_H) (s' : Sg), am_E 278 (1419, [some (vr (some 15)), some (vr (some 16)), some (vr (some 261)), some (vi (ni i))], [], h) = am_E 278 (1794, [some (vr (some 15)), some (vr (some 16)), some (vr (some 261)), some (vi (ni i))], [], h2) ∧ Aft h h2 s' := by
  obtain ⟨v, h1, h2, s', d1, d2, ⟨g1, g2, g3⟩, g4⟩ := H (hI h 15 (i + 1)) h s hs hV hC hM
  have hk1 : hK h1 15 = (100, n) := g2.trans hk
  have hk2 : hK h2 15 = (100, n) := g4.2.2.2.2.2.2.2.1.trans hk
  have hs2 := g4.1
  refine ⟨h2, s', ?_, g4⟩
  rw [e_278_1419 hs hk]
  try simp only [lit_i, ni_add, ix_ni (show i + 1 < n by omega) (by omega), ix_ni (show i + 2 < n by omega) (by omega), ix_ni (show i + 3 < n by omega) (by omega), ix_ni (show i + 4 < n by omega) (by omega), ix_ni (show i + 5 < n by omega) (by omega), Option.bind_some]
  rw [d1]
  simp only [Option.bind_some, Option.toList_some, List.cons_append, List.nil_append]
  rw [e_278_1428 g1 hk1]
  try simp only [lit_i, ni_add, ix_ni (show i + 1 < n by omega) (by omega), ix_ni (show i + 2 < n by omega) (by omega), ix_ni (show i + 3 < n by omega) (by omega), ix_ni (show i + 4 < n by omega) (by omega), ix_ni (show i + 5 < n by omega) (by omega), Option.bind_some, g3]
  rw [d2]
  simp only [Option.bind_some, Option.toList_some, List.cons_append, List.nil_append]
  rw [e_278_1437 hs2 hk2]
  exact if_pos rfl
theorem lq_35 (H : ∀ a1 : Int32, Alike 219 221 [vi a1]) {h : am_H} {s : Sg} {n i : Nat} (hs : Sh h) (hV : Vs s) (hC : CS h s) (hM : MS h s) (hk : hK h 15 = (100, n)) (hn : n ≤ 3072) (hi : i + 6 ≤ n) : ∃ (h2 : am_H) (s' : Sg), am_E 278 (1442, [some (vr (some 15)), some (vr (some 16)), some (vr (some 261)), some (vi (ni i))], [], h) = am_E 278 (1794, [some (vr (some 15)), some (vr (some 16)), some (vr (some 261)), some (vi (ni i))], [], h2) ∧ Aft h h2 s' := by
  obtain ⟨v, h1, h2, s', d1, d2, ⟨g1, g2, g3⟩, g4⟩ := H (hI h 15 (i + 1)) h s hs hV hC hM
  have hk1 : hK h1 15 = (100, n) := g2.trans hk
  have hk2 : hK h2 15 = (100, n) := g4.2.2.2.2.2.2.2.1.trans hk
  have hs2 := g4.1
  refine ⟨h2, s', ?_, g4⟩
  rw [e_278_1442 hs hk]
  try simp only [lit_i, ni_add, ix_ni (show i + 1 < n by omega) (by omega), ix_ni (show i + 2 < n by omega) (by omega), ix_ni (show i + 3 < n by omega) (by omega), ix_ni (show i + 4 < n by omega) (by omega), ix_ni (show i + 5 < n by omega) (by omega), Option.bind_some]
  rw [d1]
  simp only [Option.bind_some, Option.toList_some, List.cons_append, List.nil_append]
  rw [e_278_1451 g1 hk1]
  try simp only [lit_i, ni_add, ix_ni (show i + 1 < n by omega) (by omega), ix_ni (show i + 2 < n by omega) (by omega), ix_ni (show i + 3 < n by omega) (by omega), ix_ni (show i + 4 < n by omega) (by omega), ix_ni (show i + 5 < n by omega) (by omega), Option.bind_some, g3]
  rw [d2]
  simp only [Option.bind_some, Option.toList_some, List.cons_append, List.nil_append]
  rw [e_278_1460 hs2 hk2]
  exact if_pos rfl
theorem lq_36 (H : ∀ a b z : Int32, z = 0 ∨ z = 1 → Alike 224 225 [vi a, vi b, vi z]) {h : am_H} {s : Sg} {n i : Nat} (hs : Sh h) (hV : Vs s) (hC : CS h s) (hM : MS h s) (hk : hK h 15 = (100, n)) (hn : n ≤ 3072) (hi : i + 6 ≤ n) : ∃ (h2 : am_H) (s' : Sg), am_E 278 (1465, [some (vr (some 15)), some (vr (some 16)), some (vr (some 261)), some (vi (ni i))], [], h) = am_E 278 (1794, [some (vr (some 15)), some (vr (some 16)), some (vr (some 261)), some (vi (ni i))], [], h2) ∧ Aft h h2 s' := by
  by_cases hz : hI h 15 (i + 3) = 0
  · obtain ⟨v, h1, h2, s', d1, d2, ⟨g1, g2, g3⟩, g4⟩ := H (hI h 15 (i + 1)) (hI h 15 (i + 2)) 0 (Or.inl rfl) h s hs hV hC hM
    have hk1 : hK h1 15 = (100, n) := g2.trans hk
    have hk2 : hK h2 15 = (100, n) := g4.2.2.2.2.2.2.2.1.trans hk
    have hs2 := g4.1
    refine ⟨h2, s', ?_, g4⟩
    rw [e_278_1465 hs hk, show ni i + 1 = ni (i + 1) from ni_add1 i, show ni i + 2 = ni (i + 2) from ni_add i 2, show ni i + 3 = ni (i + 3) from ni_add i 3, ixb _ (show i + 1 < n by omega) (by omega), ixb _ (show i + 2 < n by omega) (by omega), ixb _ (show i + 3 < n by omega) (by omega), if_pos hz, e_278_1489 hs hk, d1]
    simp only [Option.bind_some, Option.toList_some, List.cons_append, List.nil_append]
    rw [e_278_1492 g1 hk1, show ni i + 1 = ni (i + 1) from ni_add1 i, show ni i + 2 = ni (i + 2) from ni_add i 2, show ni i + 3 = ni (i + 3) from ni_add i 3, ixb _ (show i + 1 < n by omega) (by omega), ixb _ (show i + 2 < n by omega) (by omega), ixb _ (show i + 3 < n by omega) (by omega), g3, g3, g3, if_pos hz, e_278_1516 g1 hk1, d2]
    simp only [Option.bind_some, Option.toList_some, List.cons_append, List.nil_append]
    rw [e_278_1519 hs2 hk2]
    exact if_pos rfl
  · obtain ⟨v, h1, h2, s', d1, d2, ⟨g1, g2, g3⟩, g4⟩ := H (hI h 15 (i + 1)) (hI h 15 (i + 2)) 1 (Or.inr rfl) h s hs hV hC hM
    have hk1 : hK h1 15 = (100, n) := g2.trans hk
    have hk2 : hK h2 15 = (100, n) := g4.2.2.2.2.2.2.2.1.trans hk
    have hs2 := g4.1
    refine ⟨h2, s', ?_, g4⟩
    rw [e_278_1465 hs hk, show ni i + 1 = ni (i + 1) from ni_add1 i, show ni i + 2 = ni (i + 2) from ni_add i 2, show ni i + 3 = ni (i + 3) from ni_add i 3, ixb _ (show i + 1 < n by omega) (by omega), ixb _ (show i + 2 < n by omega) (by omega), ixb _ (show i + 3 < n by omega) (by omega), if_neg hz, e_278_1489 hs hk, d1]
    simp only [Option.bind_some, Option.toList_some, List.cons_append, List.nil_append]
    rw [e_278_1492 g1 hk1, show ni i + 1 = ni (i + 1) from ni_add1 i, show ni i + 2 = ni (i + 2) from ni_add i 2, show ni i + 3 = ni (i + 3) from ni_add i 3, ixb _ (show i + 1 < n by omega) (by omega), ixb _ (show i + 2 < n by omega) (by omega), ixb _ (show i + 3 < n by omega) (by omega), g3, g3, g3, if_neg hz, e_278_1516 g1 hk1, d2]
    simp only [Option.bind_some, Option.toList_some, List.cons_append, List.nil_append]
    rw [e_278_1519 hs2 hk2]
    exact if_pos rfl
theorem lq_37 (H : ∀ a1 : Int32, Alike 228 229 [vi a1]) {h : am_H} {s : Sg} {n i : Nat} (hs : Sh h) (hV : Vs s) (hC : CS h s) (hM : MS h s) (hk : hK h 15 = (100, n)) (hn : n ≤ 3072) (hi : i + 6 ≤ n) : ∃ (h2 : am_H) (s' : Sg), am_E 278 (1524, [some (vr (some 15)), some (vr (some 16)), some (vr (some 261)), some (vi (ni i))], [], h) = am_E 278 (1794, [some (vr (some 15)), some (vr (some 16)), some (vr (some 261)), some (vi (ni i))], [], h2) ∧ Aft h h2 s' := by
  obtain ⟨v, h1, h2, s', d1, d2, ⟨g1, g2, g3⟩, g4⟩ := H (hI h 15 (i + 1)) h s hs hV hC hM
  have hk1 : hK h1 15 = (100, n) := g2.trans hk
  have hk2 : hK h2 15 = (100, n) := g4.2.2.2.2.2.2.2.1.trans hk
  have hs2 := g4.1
  refine ⟨h2, s', ?_, g4⟩
  rw [e_278_1524 hs hk]
  try simp only [lit_i, ni_add, ix_ni (show i + 1 < n by omega) (by omega), ix_ni (show i + 2 < n by omega) (by omega), ix_ni (show i + 3 < n by omega) (by omega), ix_ni (show i + 4 < n by omega) (by omega), ix_ni (show i + 5 < n by omega) (by omega), Option.bind_some]
  rw [d1]
  simp only [Option.bind_some, Option.toList_some, List.cons_append, List.nil_append]
  rw [e_278_1533 g1 hk1]
  try simp only [lit_i, ni_add, ix_ni (show i + 1 < n by omega) (by omega), ix_ni (show i + 2 < n by omega) (by omega), ix_ni (show i + 3 < n by omega) (by omega), ix_ni (show i + 4 < n by omega) (by omega), ix_ni (show i + 5 < n by omega) (by omega), Option.bind_some, g3]
  rw [d2]
  simp only [Option.bind_some, Option.toList_some, List.cons_append, List.nil_append]
  rw [e_278_1542 hs2 hk2]
  exact if_pos rfl
theorem lq_38 (H : ∀ a1 a2 : Int32, Alike 233 236 [vi a1, vi a2]) {h : am_H} {s : Sg} {n i : Nat} (hs : Sh h) (hV : Vs s) (hC : CS h s) (hM : MS h s) (hk : hK h 15 = (100, n)) (hn : n ≤ 3072) (hi : i + 6 ≤ n) : ∃ (h2 : am_H) (s' : Sg), am_E 278 (1547, [some (vr (some 15)), some (vr (some 16)), some (vr (some 261)), some (vi (ni i))], [], h) = am_E 278 (1794, [some (vr (some 15)), some (vr (some 16)), some (vr (some 261)), some (vi (ni i))], [], h2) ∧ Aft h h2 s' := by
  obtain ⟨v, h1, h2, s', d1, d2, ⟨g1, g2, g3⟩, g4⟩ := H (hI h 15 (i + 1)) (hI h 15 (i + 2)) h s hs hV hC hM
  have hk1 : hK h1 15 = (100, n) := g2.trans hk
  have hk2 : hK h2 15 = (100, n) := g4.2.2.2.2.2.2.2.1.trans hk
  have hs2 := g4.1
  refine ⟨h2, s', ?_, g4⟩
  rw [e_278_1547 hs hk]
  try simp only [lit_i, ni_add, ix_ni (show i + 1 < n by omega) (by omega), ix_ni (show i + 2 < n by omega) (by omega), ix_ni (show i + 3 < n by omega) (by omega), ix_ni (show i + 4 < n by omega) (by omega), ix_ni (show i + 5 < n by omega) (by omega), Option.bind_some]
  rw [d1]
  simp only [Option.bind_some, Option.toList_some, List.cons_append, List.nil_append]
  rw [e_278_1561 g1 hk1]
  try simp only [lit_i, ni_add, ix_ni (show i + 1 < n by omega) (by omega), ix_ni (show i + 2 < n by omega) (by omega), ix_ni (show i + 3 < n by omega) (by omega), ix_ni (show i + 4 < n by omega) (by omega), ix_ni (show i + 5 < n by omega) (by omega), Option.bind_some, g3]
  rw [d2]
  simp only [Option.bind_some, Option.toList_some, List.cons_append, List.nil_append]
  rw [e_278_1575 hs2 hk2]
  exact if_pos rfl
theorem lq_39 (H : ∀ a1 a2 : Int32, Alike 237 238 [vi a1, vi a2]) {h : am_H} {s : Sg} {n i : Nat} (hs : Sh h) (hV : Vs s) (hC : CS h s) (hM : MS h s) (hk : hK h 15 = (100, n)) (hn : n ≤ 3072) (hi : i + 6 ≤ n) : ∃ (h2 : am_H) (s' : Sg), am_E 278 (1580, [some (vr (some 15)), some (vr (some 16)), some (vr (some 261)), some (vi (ni i))], [], h) = am_E 278 (1794, [some (vr (some 15)), some (vr (some 16)), some (vr (some 261)), some (vi (ni i))], [], h2) ∧ Aft h h2 s' := by
  obtain ⟨v, h1, h2, s', d1, d2, ⟨g1, g2, g3⟩, g4⟩ := H (hI h 15 (i + 1)) (hI h 15 (i + 2)) h s hs hV hC hM
  have hk1 : hK h1 15 = (100, n) := g2.trans hk
  have hk2 : hK h2 15 = (100, n) := g4.2.2.2.2.2.2.2.1.trans hk
  have hs2 := g4.1
  refine ⟨h2, s', ?_, g4⟩
  rw [e_278_1580 hs hk]
  try simp only [lit_i, ni_add, ix_ni (show i + 1 < n by omega) (by omega), ix_ni (show i + 2 < n by omega) (by omega), ix_ni (show i + 3 < n by omega) (by omega), ix_ni (show i + 4 < n by omega) (by omega), ix_ni (show i + 5 < n by omega) (by omega), Option.bind_some]
  rw [d1]
  simp only [Option.bind_some, Option.toList_some, List.cons_append, List.nil_append]
  rw [e_278_1594 g1 hk1]
  try simp only [lit_i, ni_add, ix_ni (show i + 1 < n by omega) (by omega), ix_ni (show i + 2 < n by omega) (by omega), ix_ni (show i + 3 < n by omega) (by omega), ix_ni (show i + 4 < n by omega) (by omega), ix_ni (show i + 5 < n by omega) (by omega), Option.bind_some, g3]
  rw [d2]
  simp only [Option.bind_some, Option.toList_some, List.cons_append, List.nil_append]
  rw [e_278_1608 hs2 hk2]
  exact if_pos rfl
theorem lq_40 (H : ∀ a1 : Int32, Alike 241 242 [vi a1]) {h : am_H} {s : Sg} {n i : Nat} (hs : Sh h) (hV : Vs s) (hC : CS h s) (hM : MS h s) (hk : hK h 15 = (100, n)) (hn : n ≤ 3072) (hi : i + 6 ≤ n) : ∃ (h2 : am_H) (s' : Sg), am_E 278 (1613, [some (vr (some 15)), some (vr (some 16)), some (vr (some 261)), some (vi (ni i))], [], h) = am_E 278 (1794, [some (vr (some 15)), some (vr (some 16)), some (vr (some 261)), some (vi (ni i))], [], h2) ∧ Aft h h2 s' := by
  obtain ⟨v, h1, h2, s', d1, d2, ⟨g1, g2, g3⟩, g4⟩ := H (hI h 15 (i + 1)) h s hs hV hC hM
  have hk1 : hK h1 15 = (100, n) := g2.trans hk
  have hk2 : hK h2 15 = (100, n) := g4.2.2.2.2.2.2.2.1.trans hk
  have hs2 := g4.1
  refine ⟨h2, s', ?_, g4⟩
  rw [e_278_1613 hs hk]
  try simp only [lit_i, ni_add, ix_ni (show i + 1 < n by omega) (by omega), ix_ni (show i + 2 < n by omega) (by omega), ix_ni (show i + 3 < n by omega) (by omega), ix_ni (show i + 4 < n by omega) (by omega), ix_ni (show i + 5 < n by omega) (by omega), Option.bind_some]
  rw [d1]
  simp only [Option.bind_some, Option.toList_some, List.cons_append, List.nil_append]
  rw [e_278_1622 g1 hk1]
  try simp only [lit_i, ni_add, ix_ni (show i + 1 < n by omega) (by omega), ix_ni (show i + 2 < n by omega) (by omega), ix_ni (show i + 3 < n by omega) (by omega), ix_ni (show i + 4 < n by omega) (by omega), ix_ni (show i + 5 < n by omega) (by omega), Option.bind_some, g3]
  rw [d2]
  simp only [Option.bind_some, Option.toList_some, List.cons_append, List.nil_append]
  rw [e_278_1631 hs2 hk2]
  exact if_pos rfl
theorem lq_41 (H : ∀ a1 a2 : Int32, Alike 243 245 [vi a1, vi a2]) {h : am_H} {s : Sg} {n i : Nat} (hs : Sh h) (hV : Vs s) (hC : CS h s) (hM : MS h s) (hk : hK h 15 = (100, n)) (hn : n ≤ 3072) (hi : i + 6 ≤ n) : ∃ (h2 : am_H) (s' : Sg), am_E 278 (1636, [some (vr (some 15)), some (vr (some 16)), some (vr (some 261)), some (vi (ni i))], [], h) = am_E 278 (1794, [some (vr (some 15)), some (vr (some 16)), some (vr (some 261)), some (vi (ni i))], [], h2) ∧ Aft h h2 s' := by
  obtain ⟨v, h1, h2, s', d1, d2, ⟨g1, g2, g3⟩, g4⟩ := H (hI h 15 (i + 1)) (hI h 15 (i + 2)) h s hs hV hC hM
  have hk1 : hK h1 15 = (100, n) := g2.trans hk
  have hk2 : hK h2 15 = (100, n) := g4.2.2.2.2.2.2.2.1.trans hk
  have hs2 := g4.1
  refine ⟨h2, s', ?_, g4⟩
  rw [e_278_1636 hs hk]
  try simp only [lit_i, ni_add, ix_ni (show i + 1 < n by omega) (by omega), ix_ni (show i + 2 < n by omega) (by omega), ix_ni (show i + 3 < n by omega) (by omega), ix_ni (show i + 4 < n by omega) (by omega), ix_ni (show i + 5 < n by omega) (by omega), Option.bind_some]
  rw [d1]
  simp only [Option.bind_some, Option.toList_some, List.cons_append, List.nil_append]
  rw [e_278_1650 g1 hk1]
  try simp only [lit_i, ni_add, ix_ni (show i + 1 < n by omega) (by omega), ix_ni (show i + 2 < n by omega) (by omega), ix_ni (show i + 3 < n by omega) (by omega), ix_ni (show i + 4 < n by omega) (by omega), ix_ni (show i + 5 < n by omega) (by omega), Option.bind_some, g3]
  rw [d2]
  simp only [Option.bind_some, Option.toList_some, List.cons_append, List.nil_append]
  rw [e_278_1664 hs2 hk2]
  exact if_pos rfl
theorem lq_42 (H : ∀ a1 a2 a3 a4 : Int32, Alike 258 263 [vi a1, vi a2, vi a3, vi a4]) {h : am_H} {s : Sg} {n i : Nat} (hs : Sh h) (hV : Vs s) (hC : CS h s) (hM : MS h s) (hk : hK h 15 = (100, n)) (hn : n ≤ 3072) (hi : i + 6 ≤ n) : ∃ (h2 : am_H) (s' : Sg), am_E 278 (1669, [some (vr (some 15)), some (vr (some 16)), some (vr (some 261)), some (vi (ni i))], [], h) = am_E 278 (1794, [some (vr (some 15)), some (vr (some 16)), some (vr (some 261)), some (vi (ni i))], [], h2) ∧ Aft h h2 s' := by
  obtain ⟨v, h1, h2, s', d1, d2, ⟨g1, g2, g3⟩, g4⟩ := H (hI h 15 (i + 1)) (hI h 15 (i + 2)) (hI h 15 (i + 3)) (hI h 15 (i + 4)) h s hs hV hC hM
  have hk1 : hK h1 15 = (100, n) := g2.trans hk
  have hk2 : hK h2 15 = (100, n) := g4.2.2.2.2.2.2.2.1.trans hk
  have hs2 := g4.1
  refine ⟨h2, s', ?_, g4⟩
  rw [e_278_1669 hs hk]
  try simp only [lit_i, ni_add, ix_ni (show i + 1 < n by omega) (by omega), ix_ni (show i + 2 < n by omega) (by omega), ix_ni (show i + 3 < n by omega) (by omega), ix_ni (show i + 4 < n by omega) (by omega), ix_ni (show i + 5 < n by omega) (by omega), Option.bind_some]
  rw [d1]
  simp only [Option.bind_some, Option.toList_some, List.cons_append, List.nil_append]
  rw [e_278_1693 g1 hk1]
  try simp only [lit_i, ni_add, ix_ni (show i + 1 < n by omega) (by omega), ix_ni (show i + 2 < n by omega) (by omega), ix_ni (show i + 3 < n by omega) (by omega), ix_ni (show i + 4 < n by omega) (by omega), ix_ni (show i + 5 < n by omega) (by omega), Option.bind_some, g3]
  rw [d2]
  simp only [Option.bind_some, Option.toList_some, List.cons_append, List.nil_append]
  rw [e_278_1717 hs2 hk2]
  exact if_pos rfl
theorem lq_43 (H : ∀ a1 : Int32, Alike 264 265 [vi a1]) {h : am_H} {s : Sg} {n i : Nat} (hs : Sh h) (hV : Vs s) (hC : CS h s) (hM : MS h s) (hk : hK h 15 = (100, n)) (hn : n ≤ 3072) (hi : i + 6 ≤ n) : ∃ (h2 : am_H) (s' : Sg), am_E 278 (1722, [some (vr (some 15)), some (vr (some 16)), some (vr (some 261)), some (vi (ni i))], [], h) = am_E 278 (1794, [some (vr (some 15)), some (vr (some 16)), some (vr (some 261)), some (vi (ni i))], [], h2) ∧ Aft h h2 s' := by
  obtain ⟨v, h1, h2, s', d1, d2, ⟨g1, g2, g3⟩, g4⟩ := H (hI h 15 (i + 1)) h s hs hV hC hM
  have hk1 : hK h1 15 = (100, n) := g2.trans hk
  have hk2 : hK h2 15 = (100, n) := g4.2.2.2.2.2.2.2.1.trans hk
  have hs2 := g4.1
  refine ⟨h2, s', ?_, g4⟩
  rw [e_278_1722 hs hk]
  try simp only [lit_i, ni_add, ix_ni (show i + 1 < n by omega) (by omega), ix_ni (show i + 2 < n by omega) (by omega), ix_ni (show i + 3 < n by omega) (by omega), ix_ni (show i + 4 < n by omega) (by omega), ix_ni (show i + 5 < n by omega) (by omega), Option.bind_some]
  rw [d1]
  simp only [Option.bind_some, Option.toList_some, List.cons_append, List.nil_append]
  rw [e_278_1731 g1 hk1]
  try simp only [lit_i, ni_add, ix_ni (show i + 1 < n by omega) (by omega), ix_ni (show i + 2 < n by omega) (by omega), ix_ni (show i + 3 < n by omega) (by omega), ix_ni (show i + 4 < n by omega) (by omega), ix_ni (show i + 5 < n by omega) (by omega), Option.bind_some, g3]
  rw [d2]
  simp only [Option.bind_some, Option.toList_some, List.cons_append, List.nil_append]
  rw [e_278_1740 hs2 hk2]
  exact if_pos rfl
theorem lq_44 (H : Alike 268 271 []) {h : am_H} {s : Sg} {n i : Nat} (hs : Sh h) (hV : Vs s) (hC : CS h s) (hM : MS h s) (hk : hK h 15 = (100, n)) (hn : n ≤ 3072) (hi : i + 6 ≤ n) : ∃ (h2 : am_H) (s' : Sg), am_E 278 (1745, [some (vr (some 15)), some (vr (some 16)), some (vr (some 261)), some (vi (ni i))], [], h) = am_E 278 (1794, [some (vr (some 15)), some (vr (some 16)), some (vr (some 261)), some (vi (ni i))], [], h2) ∧ Aft h h2 s' := by
  obtain ⟨v, h1, h2, s', d1, d2, ⟨g1, g2, g3⟩, g4⟩ := H  h s hs hV hC hM
  have hk1 : hK h1 15 = (100, n) := g2.trans hk
  have hk2 : hK h2 15 = (100, n) := g4.2.2.2.2.2.2.2.1.trans hk
  have hs2 := g4.1
  refine ⟨h2, s', ?_, g4⟩
  rw [e_278_1745 hs hk]
  try simp only [lit_i, ni_add, ix_ni (show i + 1 < n by omega) (by omega), ix_ni (show i + 2 < n by omega) (by omega), ix_ni (show i + 3 < n by omega) (by omega), ix_ni (show i + 4 < n by omega) (by omega), ix_ni (show i + 5 < n by omega) (by omega), Option.bind_some]
  rw [d1]
  simp only [Option.bind_some, Option.toList_some, List.cons_append, List.nil_append]
  rw [e_278_1749 g1 hk1]
  try simp only [lit_i, ni_add, ix_ni (show i + 1 < n by omega) (by omega), ix_ni (show i + 2 < n by omega) (by omega), ix_ni (show i + 3 < n by omega) (by omega), ix_ni (show i + 4 < n by omega) (by omega), ix_ni (show i + 5 < n by omega) (by omega), Option.bind_some, g3]
  rw [d2]
  simp only [Option.bind_some, Option.toList_some, List.cons_append, List.nil_append]
  rw [e_278_1753 hs2 hk2]
  exact if_pos rfl
theorem lq_45 (H : Alike 272 273 []) {h : am_H} {s : Sg} {n i : Nat} (hs : Sh h) (hV : Vs s) (hC : CS h s) (hM : MS h s) (hk : hK h 15 = (100, n)) (hn : n ≤ 3072) (hi : i + 6 ≤ n) : ∃ (h2 : am_H) (s' : Sg), am_E 278 (1758, [some (vr (some 15)), some (vr (some 16)), some (vr (some 261)), some (vi (ni i))], [], h) = am_E 278 (1794, [some (vr (some 15)), some (vr (some 16)), some (vr (some 261)), some (vi (ni i))], [], h2) ∧ Aft h h2 s' := by
  obtain ⟨v, h1, h2, s', d1, d2, ⟨g1, g2, g3⟩, g4⟩ := H  h s hs hV hC hM
  have hk1 : hK h1 15 = (100, n) := g2.trans hk
  have hk2 : hK h2 15 = (100, n) := g4.2.2.2.2.2.2.2.1.trans hk
  have hs2 := g4.1
  refine ⟨h2, s', ?_, g4⟩
  rw [e_278_1758 hs hk]
  try simp only [lit_i, ni_add, ix_ni (show i + 1 < n by omega) (by omega), ix_ni (show i + 2 < n by omega) (by omega), ix_ni (show i + 3 < n by omega) (by omega), ix_ni (show i + 4 < n by omega) (by omega), ix_ni (show i + 5 < n by omega) (by omega), Option.bind_some]
  rw [d1]
  simp only [Option.bind_some, Option.toList_some, List.cons_append, List.nil_append]
  rw [e_278_1762 g1 hk1]
  try simp only [lit_i, ni_add, ix_ni (show i + 1 < n by omega) (by omega), ix_ni (show i + 2 < n by omega) (by omega), ix_ni (show i + 3 < n by omega) (by omega), ix_ni (show i + 4 < n by omega) (by omega), ix_ni (show i + 5 < n by omega) (by omega), Option.bind_some, g3]
  rw [d2]
  simp only [Option.bind_some, Option.toList_some, List.cons_append, List.nil_append]
  rw [e_278_1766 hs2 hk2]
  exact if_pos rfl
theorem lq_46 (H : ∀ a1 : Int32, Alike 276 277 [vi a1]) {h : am_H} {s : Sg} {n i : Nat} (hs : Sh h) (hV : Vs s) (hC : CS h s) (hM : MS h s) (hk : hK h 15 = (100, n)) (hn : n ≤ 3072) (hi : i + 6 ≤ n) : ∃ (h2 : am_H) (s' : Sg), am_E 278 (1771, [some (vr (some 15)), some (vr (some 16)), some (vr (some 261)), some (vi (ni i))], [], h) = am_E 278 (1794, [some (vr (some 15)), some (vr (some 16)), some (vr (some 261)), some (vi (ni i))], [], h2) ∧ Aft h h2 s' := by
  obtain ⟨v, h1, h2, s', d1, d2, ⟨g1, g2, g3⟩, g4⟩ := H (hI h 15 (i + 1)) h s hs hV hC hM
  have hk1 : hK h1 15 = (100, n) := g2.trans hk
  have hk2 : hK h2 15 = (100, n) := g4.2.2.2.2.2.2.2.1.trans hk
  have hs2 := g4.1
  refine ⟨h2, s', ?_, g4⟩
  rw [e_278_1771 hs hk]
  try simp only [lit_i, ni_add, ix_ni (show i + 1 < n by omega) (by omega), ix_ni (show i + 2 < n by omega) (by omega), ix_ni (show i + 3 < n by omega) (by omega), ix_ni (show i + 4 < n by omega) (by omega), ix_ni (show i + 5 < n by omega) (by omega), Option.bind_some]
  rw [d1]
  simp only [Option.bind_some, Option.toList_some, List.cons_append, List.nil_append]
  rw [e_278_1780 g1 hk1]
  try simp only [lit_i, ni_add, ix_ni (show i + 1 < n by omega) (by omega), ix_ni (show i + 2 < n by omega) (by omega), ix_ni (show i + 3 < n by omega) (by omega), ix_ni (show i + 4 < n by omega) (by omega), ix_ni (show i + 5 < n by omega) (by omega), Option.bind_some, g3]
  rw [d2]
  simp only [Option.bind_some, Option.toList_some, List.cons_append, List.nil_append]
  rw [e_278_1789 hs2 hk2]
  exact if_pos rfl
theorem lit_j : True := trivial
def AllAlike : Prop := (∀ a1 a2 a3 : Int32, Alike 8 11 [vi a1, vi a2, vi a3]) ∧ (∀ (a b : Int32) (v : Int64), Alike 14 15 [vi a, vi b, vl v]) ∧ (∀ a1 a2 a3 a4 a5 : Int32, Alike 19 20 [vi a1, vi a2, vi a3, vi a4, vi a5]) ∧ (∀ a1 a2 : Int32, AlikeL 21 22 [vi a1, vi a2]) ∧ (∀ a1 a2 a3 : Int32, Alike 25 28 [vi a1, vi a2, vi a3]) ∧ (∀ a1 : Int32, Alike 29 30 [vi a1]) ∧ (∀ a1 a2 : Int32, Alike 35 36 [vi a1, vi a2]) ∧ (∀ a1 a2 a3 a4 a5 : Int32, Alike 41 47 [vi a1, vi a2, vi a3, vi a4, vi a5]) ∧ (∀ a1 a2 a3 : Int32, Alike 49 52 [vi a1, vi a2, vi a3]) ∧ (∀ a1 a2 a3 a4 : Int32, Alike 55 57 [vi a1, vi a2, vi a3, vi a4]) ∧ (∀ a1 a2 a3 : Int32, Alike 58 59 [vi a1, vi a2, vi a3]) ∧ (∀ a1 a2 a3 : Int32, Alike 61 62 [vi a1, vi a2, vi a3]) ∧ (∀ a1 a2 : Int32, Alike 63 64 [vi a1, vi a2]) ∧ (∀ a1 a2 : Int32, Alike 66 68 [vi a1, vi a2]) ∧ (∀ a1 : Int32, Alike 83 96 [vi a1]) ∧ (Alike 97 98 []) ∧ (∀ a1 a2 : Int32, Alike 100 101 [vi a1, vi a2]) ∧ (∀ a1 : Int32, Alike 103 105 [vi a1]) ∧ (∀ a1 : Int32, Alike 122 123 [vi a1]) ∧ (∀ a1 : Int32, Alike 124 125 [vi a1]) ∧ (∀ a1 a2 a3 : Int32, Alike 133 134 [vi a1, vi a2, vi a3]) ∧ (∀ a1 a2 : Int32, Alike 141 144 [vi a1, vi a2]) ∧ (∀ a1 a2 : Int32, Alike 145 146 [vi a1, vi a2]) ∧ (∀ a1 a2 : Int32, Alike 153 155 [vi a1, vi a2]) ∧ (∀ a1 a2 : Int32, Alike 163 166 [vi a1, vi a2]) ∧ (∀ a1 a2 : Int32, Alike 167 169 [vi a1, vi a2]) ∧ (∀ a1 a2 a3 : Int32, Alike 170 171 [vi a1, vi a2, vi a3]) ∧ (∀ a1 a2 : Int32, Alike 173 174 [vi a1, vi a2]) ∧ (∀ a1 : Int32, Alike 185 191 [vi a1]) ∧ (∀ a1 : Int32, Alike 194 195 [vi a1]) ∧ (∀ a1 : Int32, Alike 198 200 [vi a1]) ∧ (∀ a1 : Int32, Alike 201 202 [vi a1]) ∧ (∀ a1 : Int32, Alike 205 207 [vi a1]) ∧ (∀ a1 : Int32, Alike 209 211 [vi a1]) ∧ (∀ a1 : Int32, Alike 214 216 [vi a1]) ∧ (∀ a1 : Int32, Alike 219 221 [vi a1]) ∧ (∀ a b z : Int32, z = 0 ∨ z = 1 → Alike 224 225 [vi a, vi b, vi z]) ∧ (∀ a1 : Int32, Alike 228 229 [vi a1]) ∧ (∀ a1 a2 : Int32, Alike 233 236 [vi a1, vi a2]) ∧ (∀ a1 a2 : Int32, Alike 237 238 [vi a1, vi a2]) ∧ (∀ a1 : Int32, Alike 241 242 [vi a1]) ∧ (∀ a1 a2 : Int32, Alike 243 245 [vi a1, vi a2]) ∧ (∀ a1 a2 a3 a4 : Int32, Alike 258 263 [vi a1, vi a2, vi a3, vi a4]) ∧ (∀ a1 : Int32, Alike 264 265 [vi a1]) ∧ (Alike 268 271 []) ∧ (Alike 272 273 []) ∧ (∀ a1 : Int32, Alike 276 277 [vi a1])
theorem lw_pick (A : AllAlike) {h : am_H} {s : Sg} {n i : Nat} (hs : Sh h) (hV : Vs s) (hC : CS h s) (hM : MS h s) (hk : hK h 15 = (100, n)) (hn : n ≤ 3072) (hi : i + 6 ≤ n) (x : Int32) : ∃ (h2 : am_H) (s' : Sg), am_E 278 (am_tg 0 [236, 279, 352, 415, 449, 492, 515, 548, 611, 654, 707, 750, 793, 826, 859, 882, 895, 928, 951, 974, 997, 1040, 1073, 1106, 1139, 1172, 1205, 1248, 1281, 1304, 1327, 1350, 1373, 1396, 1419, 1442, 1465, 1524, 1547, 1580, 1613, 1636, 1669, 1722, 1745, 1758, 1771] 1794 x, [some (vr (some 15)), some (vr (some 16)), some (vr (some 261)), some (vi (ni i))], [], h) = am_E 278 (1794, [some (vr (some 15)), some (vr (some 16)), some (vr (some 261)), some (vi (ni i))], [], h2) ∧ Aft h h2 s' := by
  obtain ⟨H0, H1, H2, H3, H4, H5, H6, H7, H8, H9, H10, H11, H12, H13, H14, H15, H16, H17, H18, H19, H20, H21, H22, H23, H24, H25, H26, H27, H28, H29, H30, H31, H32, H33, H34, H35, H36, H37, H38, H39, H40, H41, H42, H43, H44, H45, H46⟩ := A
  have hst : ∃ (h2 : am_H) (s' : Sg), am_E 278 (1794, [some (vr (some 15)), some (vr (some 16)), some (vr (some 261)), some (vi (ni i))], [], h) = am_E 278 (1794, [some (vr (some 15)), some (vr (some 16)), some (vr (some 261)), some (vi (ni i))], [], h2) ∧ Aft h h2 s' := ⟨h, s, rfl, hs, hV, hC, hM, Nat.le_refl _, Nat.le_add_right _ _, Nat.le_add_right _ _, rfl, fun _ => rfl⟩
  have key : am_tg 0 [236, 279, 352, 415, 449, 492, 515, 548, 611, 654, 707, 750, 793, 826, 859, 882, 895, 928, 951, 974, 997, 1040, 1073, 1106, 1139, 1172, 1205, 1248, 1281, 1304, 1327, 1350, 1373, 1396, 1419, 1442, 1465, 1524, 1547, 1580, 1613, 1636, 1669, 1722, 1745, 1758, 1771] 1794 x = 1794 ∨ ∃ c, c < 47 ∧ am_tg 0 [236, 279, 352, 415, 449, 492, 515, 548, 611, 654, 707, 750, 793, 826, 859, 882, 895, 928, 951, 974, 997, 1040, 1073, 1106, 1139, 1172, 1205, 1248, 1281, 1304, 1327, 1350, 1373, 1396, 1419, 1442, 1465, 1524, 1547, 1580, 1613, 1636, 1669, 1722, 1745, 1758, 1771] 1794 x = ([236, 279, 352, 415, 449, 492, 515, 548, 611, 654, 707, 750, 793, 826, 859, 882, 895, 928, 951, 974, 997, 1040, 1073, 1106, 1139, 1172, 1205, 1248, 1281, 1304, 1327, 1350, 1373, 1396, 1419, 1442, 1465, 1524, 1547, 1580, 1613, 1636, 1669, 1722, 1745, 1758, 1771] : List Nat).getD c 0 := by
    unfold am_tg
    by_cases h0 : x.toInt < 0
    · exact Or.inl (if_pos h0)
    · rw [if_neg h0]
      by_cases h1 : (x.toInt - 0).toNat < 47
      · refine Or.inr ⟨_, h1, ?_⟩
        rw [← List.getD_eq_getElem?_getD]
        exact am_gd _ _ _ _ (by simpa using h1)
      · left
        rw [List.getElem?_eq_none (by simpa using Nat.le_of_not_lt h1)]
        rfl
  rcases key with e | ⟨c, hc, e⟩
  · rw [e]; exact hst
  · rw [e]
    match c, hc with
    | 0, _ => exact lq_0 H0 hs hV hC hM hk hn hi
    | 1, _ => exact lq_1 H1 hs hV hC hM hk hn hi
    | 2, _ => exact lq_2 H2 hs hV hC hM hk hn hi
    | 3, _ => exact lq_3 H3 hs hV hC hM hk hn hi
    | 4, _ => exact lq_4 H4 hs hV hC hM hk hn hi
    | 5, _ => exact lq_5 H5 hs hV hC hM hk hn hi
    | 6, _ => exact lq_6 H6 hs hV hC hM hk hn hi
    | 7, _ => exact lq_7 H7 hs hV hC hM hk hn hi
    | 8, _ => exact lq_8 H8 hs hV hC hM hk hn hi
    | 9, _ => exact lq_9 H9 hs hV hC hM hk hn hi
    | 10, _ => exact lq_10 H10 hs hV hC hM hk hn hi
    | 11, _ => exact lq_11 H11 hs hV hC hM hk hn hi
    | 12, _ => exact lq_12 H12 hs hV hC hM hk hn hi
    | 13, _ => exact lq_13 H13 hs hV hC hM hk hn hi
    | 14, _ => exact lq_14 H14 hs hV hC hM hk hn hi
    | 15, _ => exact lq_15 H15 hs hV hC hM hk hn hi
    | 16, _ => exact lq_16 H16 hs hV hC hM hk hn hi
    | 17, _ => exact lq_17 H17 hs hV hC hM hk hn hi
    | 18, _ => exact lq_18 H18 hs hV hC hM hk hn hi
    | 19, _ => exact lq_19 H19 hs hV hC hM hk hn hi
    | 20, _ => exact lq_20 H20 hs hV hC hM hk hn hi
    | 21, _ => exact lq_21 H21 hs hV hC hM hk hn hi
    | 22, _ => exact lq_22 H22 hs hV hC hM hk hn hi
    | 23, _ => exact lq_23 H23 hs hV hC hM hk hn hi
    | 24, _ => exact lq_24 H24 hs hV hC hM hk hn hi
    | 25, _ => exact lq_25 H25 hs hV hC hM hk hn hi
    | 26, _ => exact lq_26 H26 hs hV hC hM hk hn hi
    | 27, _ => exact lq_27 H27 hs hV hC hM hk hn hi
    | 28, _ => exact lq_28 H28 hs hV hC hM hk hn hi
    | 29, _ => exact lq_29 H29 hs hV hC hM hk hn hi
    | 30, _ => exact lq_30 H30 hs hV hC hM hk hn hi
    | 31, _ => exact lq_31 H31 hs hV hC hM hk hn hi
    | 32, _ => exact lq_32 H32 hs hV hC hM hk hn hi
    | 33, _ => exact lq_33 H33 hs hV hC hM hk hn hi
    | 34, _ => exact lq_34 H34 hs hV hC hM hk hn hi
    | 35, _ => exact lq_35 H35 hs hV hC hM hk hn hi
    | 36, _ => exact lq_36 H36 hs hV hC hM hk hn hi
    | 37, _ => exact lq_37 H37 hs hV hC hM hk hn hi
    | 38, _ => exact lq_38 H38 hs hV hC hM hk hn hi
    | 39, _ => exact lq_39 H39 hs hV hC hM hk hn hi
    | 40, _ => exact lq_40 H40 hs hV hC hM hk hn hi
    | 41, _ => exact lq_41 H41 hs hV hC hM hk hn hi
    | 42, _ => exact lq_42 H42 hs hV hC hM hk hn hi
    | 43, _ => exact lq_43 H43 hs hV hC hM hk hn hi
    | 44, _ => exact lq_44 H44 hs hV hC hM hk hn hi
    | 45, _ => exact lq_45 H45 hs hV hC hM hk hn hi
    | 46, _ => exact lq_46 H46 hs hV hC hM hk hn hi
    | c + 47, hc => exact absurd hc (by omega)
theorem lw_loop (A : AllAlike) {n : Nat} (hn : n ≤ 3072) : ∀ (k i : Nat) (h : am_H) (s : Sg), n < i + 6 * k + 6 → i ≤ n + 6 → Sh h → Vs s → CS h s → MS h s → hK h 15 = (100, n) → ∃ h1, am_E 278 (18, [some (vr (some 15)), some (vr (some 16)), some (vr (some 261)), some (vi (ni i))], [], h) = some (some (vi 1), h1) ∧ hN h1 ≤ hN h + 24 * k ∧ hSl h1 ≤ hSl h + 1000 * k := by
  intro k
  induction k with
  | zero =>
    intro i h s hk hi hs hV hC hM hk15
    refine ⟨h, ?_, Nat.le_refl _, Nat.le_refl _⟩
    rw [e_278_18 hs hk15]
    refine if_pos ?_
    rw [show Int32.ofNat n - 6 = Int32.ofInt ((n : Int) - 6) from by rw [Int32.ofInt_sub, Int32.ofInt_eq_ofNat]; rfl, Int32.lt_iff_toInt_lt, Int32.toInt_ofInt_of_le (by omega) (by omega), ni_toInt (by omega)]
    omega
  | succ k ih =>
    intro i h s hk hi hs hV hC hM hk15
    by_cases hin : i + 6 ≤ n
    · obtain ⟨h2, s', e, a1, a2, a3, a4, a5, a6, a7, a8, a9⟩ := lw_pick A hs hV hC hM hk15 hn hin (hI h 15 i &&& 63)
      obtain ⟨h3, b1, b2, b3⟩ := ih (i + 6) h2 s' (by omega) (by omega) a1 a2 a3 a4 (a8.trans hk15)
      refine ⟨h3, ?_, by omega, by omega⟩
      rw [e_278_18 hs hk15, if_neg, ix_ni (show i < n by omega) (by omega), Option.bind_some, e, e_278_1794 a1 (a8.trans hk15)]
      · rw [show ni i + 6 = ni (i + 6) from ni_add i 6]; exact b1
      · rw [show Int32.ofNat n - 6 = Int32.ofInt ((n : Int) - 6) from by rw [Int32.ofInt_sub, Int32.ofInt_eq_ofNat]; rfl, Int32.lt_iff_toInt_lt, Int32.toInt_ofInt_of_le (by omega) (by omega), ni_toInt (by omega)]
        omega
    · refine ⟨h, ?_, by omega, by omega⟩
      rw [e_278_18 hs hk15]
      refine if_pos ?_
      rw [show Int32.ofNat n - 6 = Int32.ofInt ((n : Int) - 6) from by rw [Int32.ofInt_sub, Int32.ofInt_eq_ofNat]; rfl, Int32.lt_iff_toInt_lt, Int32.toInt_ofInt_of_le (by omega) (by omega), ni_toInt (by omega)]
      omega
