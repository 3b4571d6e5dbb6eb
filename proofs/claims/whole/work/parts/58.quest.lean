/-! could, when, fails, strength, stands, sureness, judge -/
/-- a set as bits, by its first n -/
def sb (f : Nat → Bool) : Nat → Int32
  | 0 => ni 0
  | n + 1 => if f n = true then sb f n ||| (ni 1 <<< (ni n &&& ni 31)) else sb f n
theorem sb_t {f : Nat → Bool} {n : Nat} (h : f n = true) : sb f (n + 1) = sb f n ||| (ni 1 <<< (ni n &&& ni 31)) := if_pos h
theorem sb_f {f : Nat → Bool} {n : Nat} (h : f n = false) : sb f (n + 1) = sb f n := if_neg (by rw [h]; decide)
theorem refgT {yx ym : Nat} {as : List am_V} {s : Sg} (V : Vs s) (e : Nat) (h8 : e < 8) (x1 : ∀ h, Sh h → CS h s → am_D yx (vr (some 16) :: as) h = some (some (vi (-ni e - ni 10)), pI h 260 e (hI h 260 e + 1))) (x2 : ∀ h, Sh h → MS h s → am_D ym (vr (some 261) :: as) h = some (some (vi (-ni e - ni 10)), pI h 262 e (hI h 262 e + 1))) : ∃ (v : Int32) (s' : Sg), Vs s' ∧ HC yx as s (vi v) s' ∧ HM ym as s (vi v) s' := ⟨-ni e - ni 10, sRf s e, Vs_rf V, HC_r V h8 x1, HM_r h8 x2⟩
section QUE
variable {h : am_H} {s : Sg}
/-- what is in force, for the model's questions -/
def hb (h : am_H) (s : Sg) : am_H := pI h 261 43 (fI (sD s 22 3))
theorem hb_e (c : MS h s) : pI h 261 43 (hI h 261 3) = hb h s := by rw [mF c]; rfl
theorem hb_M (V : Vs s) (c : MS h s) : MS (hb h s) s := MSb V c _
theorem hb_S (hs : Sh h) : Sh (hb h s) := hs
theorem hb_43 : hI (hb h s) 261 43 = fI (sD s 22 3) := pe
theorem hb_K : Kg scm h (hb h s) := Kg_pI (by unfold scm; omega) (Kg_refl h)
def lwF (s : Sg) : Nat → Nat := lwf (sD s) (sD s 22 3)
theorem wc_b {a b : Nat} (V : Vs s) (ha : a < sM s) {F : Nat} (hF : F ≤ sR s) : ∀ y, wc (sD s) (lwf (sD s) F 0) (lwf (sD s) F 1) a b = some y → y ≤ 400 := fun y e => wc_le (lw_le V hF (by omega)) (vm V ha).2.1 e
theorem D140 (hs : Sh h) (V : Vs s) (c : CS h s) {a b : Nat} (ha : a < sM s) (hb : b < sM s) : am_D 140 [vr (some 28), vi (ni a), vi (ni b)] h = some (some (vi (bi (wc (sD s) (lwF s 0) (lwF s 1) a b).isSome)), h) := by
  have vM' := vM V
  have vF := V.2.1
  have vR' := vR V
  have hk := nfK hs (show sD s 22 3 ≤ 6 by omega)
  rw [d_140 hs]
  simp (disch := first | assumption | omega | (simp only [Sh_pI, Sh_pL, Sh_pIs, Sh_pLs]; assumption)) only [↓ixb, Option.bind_some, Option.bind_none, Option.toList_some, Option.toList_none, List.cons_append, List.nil_append, ni_lit, ni_of, ni_add, ni_mul, ni_sub, ni_div, ni_lt, ni_le, ni_eq, ng_lt, ng_le, ng_lt', ng_le', ng_eq, ng_eq', ng_ng, Int32.neg_neg, ix_ni, if_pos, if_neg, reduceIte, D137 hs V c]
  rw [e_140_16 hs hk (by omega) (by omega), D139 hs V c ha hb hk (nfI V c vF (by omega)) (nfI V c vF (by omega)) (lw_le V vF (by omega)) (lw_1 V vF)]
  simp only [Option.bind_some, Option.toList_some, List.cons_append, List.nil_append]
  rw [e_140_19 hs]
  have e := oI_c (wc (sD s) (lwF s 0) (lwF s 1) a b) (fun y e => by have := wc_b V ha vF y e; omega) (some (some (vi (ni 0)), h)) (some (some (vi (ni 1)), h))
  refine Eq.trans e ?_
  cases (wc (sD s) (lwF s 0) (lwF s 1) a b).isSome <;> rfl
theorem D135t (hs : Sh h) (V : Vs s) (c : CS h s) {a b : Nat} (ha : a < sM s) (hb : b < sM s) : am_D 135 [vr (some 16), vi (ni a), vi (ni b)] h = some (some (vi (if a = b then -ni 6 else ni 0)), h) := by
  have vM' := vM V
  rw [d_135 hs, D53t hs V c ha]
  simp (disch := first | assumption | omega | (simp only [Sh_pI, Sh_pL, Sh_pIs, Sh_pLs]; assumption)) only [↓ixb, Option.bind_some, Option.bind_none, Option.toList_some, Option.toList_none, List.cons_append, List.nil_append, ni_lit, ni_of, ni_add, ni_mul, ni_sub, ni_div, ni_lt, ni_le, ni_eq, ng_lt, ng_le, ng_lt', ng_le', ng_eq, ng_eq', ng_ng, Int32.neg_neg, ix_ni, if_pos, if_neg, reduceIte, e_135_8, D53t hs V c hb, e_135_19]
  split <;> rfl
theorem D135f (hs : Sh h) (V : Vs s) (c : CS h s) {x y : Int32} (hn : ¬ ((∃ a, a < sM s ∧ x = ni a) ∧ ∃ b, b < sM s ∧ y = ni b)) : am_D 135 [vr (some 16), vi x, vi y] h = some (some (vi (-ni 1)), h) := by
  rcases rg x (sM s) with ⟨a, ha, rfl⟩ | hx
  · rcases rg y (sM s) with ⟨b, hb, rfl⟩ | hy
    · exact absurd ⟨⟨a, ha, rfl⟩, b, hb, rfl⟩ hn
    · rw [d_135 hs, D53t hs V c ha]
      simp (disch := first | assumption | omega | (simp only [Sh_pI, Sh_pL, Sh_pIs, Sh_pLs]; assumption)) only [↓ixb, Option.bind_some, Option.bind_none, Option.toList_some, Option.toList_none, List.cons_append, List.nil_append, ni_lit, ni_of, ni_add, ni_mul, ni_sub, ni_div, ni_lt, ni_le, ni_eq, ng_lt, ng_le, ng_lt', ng_le', ng_eq, ng_eq', ng_ng, Int32.neg_neg, ix_ni, if_pos, if_neg, reduceIte, e_135_8, D53f hs V c hy, e_135_19]
  · rw [d_135 hs, D53f hs V c hx]
    simp (disch := first | assumption | omega | (simp only [Sh_pI, Sh_pL, Sh_pIs, Sh_pLs]; assumption)) only [↓ixb, Option.bind_some, Option.bind_none, Option.toList_some, Option.toList_none, List.cons_append, List.nil_append, ni_lit, ni_of, ni_add, ni_mul, ni_sub, ni_div, ni_lt, ni_le, ni_eq, ng_lt, ng_le, ng_lt', ng_le', ng_eq, ng_eq', ng_ng, Int32.neg_neg, ix_ni, if_pos, if_neg, reduceIte, e_135_8]
end QUE
theorem A21 : ∀ a1 a2, Alike 141 144 [vi a1, vi a2] := fun a1 a2 => glue fun s V => by
  have vM' := vM V
  have vF := V.2.1
  by_cases g : (∃ a, a < sM s ∧ a1 = ni a) ∧ ∃ b, b < sM s ∧ a2 = ni b
  · obtain ⟨⟨a, ha, rfl⟩, b, hb', rfl⟩ := g
    by_cases e : a = b
    · refine refg V 6 (by omega) (fun h hs c => ?_) (fun h hs c => ?_)
      · rw [d_141 hs, D135t hs V c ha hb', if_pos e]; simp (disch := first | assumption | omega | (simp only [Sh_pI, Sh_pL, Sh_pIs, Sh_pLs]; assumption)) only [↓ixb, Option.bind_some, Option.bind_none, Option.toList_some, Option.toList_none, List.cons_append, List.nil_append, ni_lit, ni_of, ni_add, ni_mul, ni_sub, ni_div, ni_lt, ni_le, ni_eq, ng_lt, ng_le, ng_lt', ng_le', ng_eq, ng_eq', ng_ng, Int32.neg_neg, ix_ni, if_pos, if_neg, reduceIte, e_141_6, D7, e_141_16]
      · rw [d_144 hs, D56t hs V c ha]; simp (disch := first | assumption | omega | (simp only [Sh_pI, Sh_pL, Sh_pIs, Sh_pLs]; assumption)) only [↓ixb, Option.bind_some, Option.bind_none, Option.toList_some, Option.toList_none, List.cons_append, List.nil_append, ni_lit, ni_of, ni_add, ni_mul, ni_sub, ni_div, ni_lt, ni_le, ni_eq, ng_lt, ng_le, ng_lt', ng_le', ng_eq, ng_eq', ng_ng, Int32.neg_neg, ix_ni, if_pos, if_neg, reduceIte, e_144_5, D56t hs V c hb', e_144_13, D10, e_144_33]
    · refine ⟨bi (wc (sD s) (lwF s 0) (lwF s 1) a b).isSome, s, V, HC_0 fun h hs c => ?_, HM_q V fun h hs c => ⟨hb h s, ?_, hb_K⟩⟩
      · rw [d_141 hs, D135t hs V c ha hb', if_neg e]; simp (disch := first | assumption | omega | (simp only [Sh_pI, Sh_pL, Sh_pIs, Sh_pLs]; assumption)) only [↓ixb, Option.bind_some, Option.bind_none, Option.toList_some, Option.toList_none, List.cons_append, List.nil_append, ni_lit, ni_of, ni_add, ni_mul, ni_sub, ni_div, ni_lt, ni_le, ni_eq, ng_lt, ng_le, ng_lt', ng_le', ng_eq, ng_eq', ng_ng, Int32.neg_neg, ix_ni, if_pos, if_neg, reduceIte, e_141_6, D140 hs V c ha hb', e_141_26]
        cases (wc (sD s) (lwF s 0) (lwF s 1) a b).isSome <;> rfl
      · rw [d_144 hs, D56t hs V c ha]; simp (disch := first | assumption | omega | (simp only [Sh_pI, Sh_pL, Sh_pIs, Sh_pLs]; assumption)) only [↓ixb, Option.bind_some, Option.bind_none, Option.toList_some, Option.toList_none, List.cons_append, List.nil_append, ni_lit, ni_of, ni_add, ni_mul, ni_sub, ni_div, ni_lt, ni_le, ni_eq, ng_lt, ng_le, ng_lt', ng_le', ng_eq, ng_eq', ng_ng, Int32.neg_neg, ix_ni, if_pos, if_neg, reduceIte, e_144_5, D56t hs V c hb', e_144_13, hb_e c]
        rw [D143 (hb_S hs) V (hb_M V c) vF hb_43 ha hb']
        simp only [Option.bind_some, Option.toList_some, List.cons_append, List.nil_append]
        rw [e_144_48 (hb_S hs)]
        have e := oI_c (wc (sD s) (lwF s 0) (lwF s 1) a b) (fun y e => by have := wc_b V ha vF y e; omega) (some (some (vi (ni 0)), hb h s)) (some (some (vi (ni 1)), hb h s))
        refine Eq.trans e ?_
        cases (wc (sD s) (lwF s 0) (lwF s 1) a b).isSome <;> rfl
  · refine refg V 1 (by omega) (fun h hs c => ?_) (fun h hs c => ?_)
    · rw [d_141 hs, D135f hs V c g]; simp (disch := first | assumption | omega | (simp only [Sh_pI, Sh_pL, Sh_pIs, Sh_pLs]; assumption)) only [↓ixb, Option.bind_some, Option.bind_none, Option.toList_some, Option.toList_none, List.cons_append, List.nil_append, ni_lit, ni_of, ni_add, ni_mul, ni_sub, ni_div, ni_lt, ni_le, ni_eq, ng_lt, ng_le, ng_lt', ng_le', ng_eq, ng_eq', ng_ng, Int32.neg_neg, ix_ni, if_pos, if_neg, reduceIte, e_141_6, D7, e_141_16]
    · rcases rg a1 (sM s) with ⟨a, ha, rfl⟩ | hx
      · rcases rg a2 (sM s) with ⟨b, hb, rfl⟩ | hy
        · exact absurd ⟨⟨a, ha, rfl⟩, b, hb, rfl⟩ g
        · rw [d_144 hs, D56t hs V c ha]; simp (disch := first | assumption | omega | (simp only [Sh_pI, Sh_pL, Sh_pIs, Sh_pLs]; assumption)) only [↓ixb, Option.bind_some, Option.bind_none, Option.toList_some, Option.toList_none, List.cons_append, List.nil_append, ni_lit, ni_of, ni_add, ni_mul, ni_sub, ni_div, ni_lt, ni_le, ni_eq, ng_lt, ng_le, ng_lt', ng_le', ng_eq, ng_eq', ng_ng, Int32.neg_neg, ix_ni, if_pos, if_neg, reduceIte, e_144_5, D56f hs V c hy, e_144_13, e_144_16, D10, e_144_21]
      · rw [d_144 hs, D56f hs V c hx]; simp (disch := first | assumption | omega | (simp only [Sh_pI, Sh_pL, Sh_pIs, Sh_pLs]; assumption)) only [↓ixb, Option.bind_some, Option.bind_none, Option.toList_some, Option.toList_none, List.cons_append, List.nil_append, ni_lit, ni_of, ni_add, ni_mul, ni_sub, ni_div, ni_lt, ni_le, ni_eq, ng_lt, ng_le, ng_lt', ng_le', ng_eq, ng_eq', ng_ng, Int32.neg_neg, ix_ni, if_pos, if_neg, reduceIte, e_144_5, e_144_16, D10, e_144_21]
theorem A22 : ∀ a1 a2, Alike 145 146 [vi a1, vi a2] := fun a1 a2 => glue fun s V => by
  have vM' := vM V
  have vR' := vR V
  have vF := V.2.1
  by_cases g : (∃ a, a < sM s ∧ a1 = ni a) ∧ ∃ b, b < sM s ∧ a2 = ni b
  · obtain ⟨⟨a, ha, rfl⟩, b, hb', rfl⟩ := g
    by_cases e : a = b
    · refine ⟨-ni 1, s, V, HC_0 fun h hs c => ?_, HM_0 fun h hs c => ?_⟩
      · rw [d_145 hs, D135t hs V c ha hb', if_pos e]; simp (disch := first | assumption | omega | (simp only [Sh_pI, Sh_pL, Sh_pIs, Sh_pLs]; assumption)) only [↓ixb, Option.bind_some, Option.bind_none, Option.toList_some, Option.toList_none, List.cons_append, List.nil_append, ni_lit, ni_of, ni_add, ni_mul, ni_sub, ni_div, ni_lt, ni_le, ni_eq, ng_lt, ng_le, ng_lt', ng_le', ng_eq, ng_eq', ng_ng, Int32.neg_neg, ix_ni, if_pos, if_neg, reduceIte, e_145_6]
      · rw [d_146 hs, D56t hs V c ha]; simp (disch := first | assumption | omega | (simp only [Sh_pI, Sh_pL, Sh_pIs, Sh_pLs]; assumption)) only [↓ixb, Option.bind_some, Option.bind_none, Option.toList_some, Option.toList_none, List.cons_append, List.nil_append, ni_lit, ni_of, ni_add, ni_mul, ni_sub, ni_div, ni_lt, ni_le, ni_eq, ng_lt, ng_le, ng_lt', ng_le', ng_eq, ng_eq', ng_ng, Int32.neg_neg, ix_ni, if_pos, if_neg, reduceIte, e_146_5, D56t hs V c hb', e_146_13]
    · refine ⟨oI (wc (sD s) (lwF s 0) (lwF s 1) a b), s, V, HC_0 fun h hs c => ?_, HM_q V fun h hs c => ⟨hb h s, ?_, hb_K⟩⟩
      · have hk := nfK hs (show sD s 22 3 ≤ 6 by omega)
        rw [d_145 hs, D135t hs V c ha hb', if_neg e]; simp (disch := first | assumption | omega | (simp only [Sh_pI, Sh_pL, Sh_pIs, Sh_pLs]; assumption)) only [↓ixb, Option.bind_some, Option.bind_none, Option.toList_some, Option.toList_none, List.cons_append, List.nil_append, ni_lit, ni_of, ni_add, ni_mul, ni_sub, ni_div, ni_lt, ni_le, ni_eq, ng_lt, ng_le, ng_lt', ng_le', ng_eq, ng_eq', ng_ng, Int32.neg_neg, ix_ni, if_pos, if_neg, reduceIte, e_145_6, D137 hs V c]
        rw [e_145_36 hs hk (by omega) (by omega), D139 hs V c ha hb' hk (nfI V c vF (by omega)) (nfI V c vF (by omega)) (lw_le V vF (by omega)) (lw_1 V vF)]
        simp (disch := first | assumption | omega | (simp only [Sh_pI, Sh_pL, Sh_pIs, Sh_pLs]; assumption)) only [↓ixb, Option.bind_some, Option.toList_some, Option.toList_none, List.cons_append, List.nil_append, e_145_39]
        rfl
      · rw [d_146 hs, D56t hs V c ha]; simp (disch := first | assumption | omega | (simp only [Sh_pI, Sh_pL, Sh_pIs, Sh_pLs]; assumption)) only [↓ixb, Option.bind_some, Option.bind_none, Option.toList_some, Option.toList_none, List.cons_append, List.nil_append, ni_lit, ni_of, ni_add, ni_mul, ni_sub, ni_div, ni_lt, ni_le, ni_eq, ng_lt, ng_le, ng_lt', ng_le', ng_eq, ng_eq', ng_ng, Int32.neg_neg, ix_ni, if_pos, if_neg, reduceIte, e_146_5, D56t hs V c hb', e_146_13, hb_e c]
        rw [D143 (hb_S hs) V (hb_M V c) vF hb_43 ha hb']
        simp only [Option.bind_some, Option.toList_some, List.cons_append, List.nil_append]
        exact e_146_37 (hb_S hs)
  · refine ⟨-ni 1, s, V, HC_0 fun h hs c => ?_, HM_0 fun h hs c => ?_⟩
    · rw [d_145 hs, D135f hs V c g]; simp (disch := first | assumption | omega | (simp only [Sh_pI, Sh_pL, Sh_pIs, Sh_pLs]; assumption)) only [↓ixb, Option.bind_some, Option.bind_none, Option.toList_some, Option.toList_none, List.cons_append, List.nil_append, ni_lit, ni_of, ni_add, ni_mul, ni_sub, ni_div, ni_lt, ni_le, ni_eq, ng_lt, ng_le, ng_lt', ng_le', ng_eq, ng_eq', ng_ng, Int32.neg_neg, ix_ni, if_pos, if_neg, reduceIte, e_145_6]
    · rcases rg a1 (sM s) with ⟨a, ha, rfl⟩ | hx
      · rcases rg a2 (sM s) with ⟨b, hb, rfl⟩ | hy
        · exact absurd ⟨⟨a, ha, rfl⟩, b, hb, rfl⟩ g
        · rw [d_146 hs, D56t hs V c ha]; simp (disch := first | assumption | omega | (simp only [Sh_pI, Sh_pL, Sh_pIs, Sh_pLs]; assumption)) only [↓ixb, Option.bind_some, Option.bind_none, Option.toList_some, Option.toList_none, List.cons_append, List.nil_append, ni_lit, ni_of, ni_add, ni_mul, ni_sub, ni_div, ni_lt, ni_le, ni_eq, ng_lt, ng_le, ng_lt', ng_le', ng_eq, ng_eq', ng_ng, Int32.neg_neg, ix_ni, if_pos, if_neg, reduceIte, e_146_5, D56f hs V c hy, e_146_13]
      · rw [d_146 hs, D56f hs V c hx]; simp (disch := first | assumption | omega | (simp only [Sh_pI, Sh_pL, Sh_pIs, Sh_pLs]; assumption)) only [↓ixb, Option.bind_some, Option.bind_none, Option.toList_some, Option.toList_none, List.cons_append, List.nil_append, ni_lit, ni_of, ni_add, ni_mul, ni_sub, ni_div, ni_lt, ni_le, ni_eq, ng_lt, ng_le, ng_lt', ng_le', ng_eq, ng_eq', ng_ng, Int32.neg_neg, ix_ni, if_pos, if_neg, reduceIte, e_146_5]
theorem A23 : ∀ a1 a2, Alike 153 155 [vi a1, vi a2] := fun a1 a2 => glue fun s V => by
  have vR' := vR V
  have vS' := vS V
  have vF := V.2.1
  by_cases g : isQ s a1 a2
  · obtain ⟨t, r, ht, hr, rfl, rfl⟩ := g
    have vN' := vN V ht
    refine ⟨oI (flk (sD s) (lwF s) (8 * t + r) (sD s 12 (8 * t + r) - 1) 0), s, V, HC_q V fun h hs c => ?_, HM_q V fun h hs c => ⟨hb h s, ?_, hb_K⟩⟩
    · obtain ⟨a, w, l, q1, q⟩ := cRow c ht hr
      have hk := nfK hs (show sD s 22 3 ≤ 6 by omega)
      have kg : Kg sc h (hd40 (sD s) (lwf (sD s) (sD s 22 3)) (8 * t + r) h 0) := Kg_hd
      have hs1 := Kg_Sh kg hs
      have c1 := CS_fr (fun _ _ z => Or.inl z) kg V c
      have q' := CQ_fr (fun a k z => by unfold sc at z; omega) kg q
      refine ⟨_, ?_, kg⟩
      rw [d_153 hs, D24t hs V c ht hr, q1]
      simp only [Option.bind_some, Option.toList_some, List.cons_append, List.nil_append]
      rw [e_153_9_1 hs (qR q), D137 hs V c]
      simp only [Option.bind_some, Option.toList_some, List.cons_append, List.nil_append]
      rw [e_153_32 hs (qR q) hk (qR q), D147 vF V ht hr hs c q]
      simp only [Option.bind_some, Option.toList_none, List.nil_append]
      rw [e_153_35 hs1 (qR q'), D152 vF V ht hr hs1 c1 q' Hd_hd]
      simp only [Option.bind_some, Option.toList_some, List.cons_append, List.nil_append]
      exact e_153_43 hs1
    · rw [d_155 hs, D27t hs V c ht hr]
      simp (disch := first | assumption | omega | (simp only [Sh_pI, Sh_pL, Sh_pIs, Sh_pLs]; assumption)) only [↓ixb, Option.bind_some, Option.bind_none, Option.toList_some, Option.toList_none, List.cons_append, List.nil_append, ni_lit, ni_of, ni_add, ni_mul, ni_sub, ni_div, ni_lt, ni_le, ni_eq, ng_lt, ng_le, ng_lt', ng_le', ng_eq, ng_eq', ng_ng, Int32.neg_neg, ix_ni, if_pos, if_neg, reduceIte, e_155_6, hb_e c]
      rw [D154 (hb_S hs) V (hb_M V c) vF hb_43 ht hr]
      simp only [Option.bind_some, Option.toList_some, List.cons_append, List.nil_append]
      exact e_155_33 (hb_S hs)
  · refine refgT V 1 (by omega) (fun h hs c => ?_) (fun h hs c => ?_)
    · rw [d_153 hs, D24f hs V c g]
      simp only [Option.bind_some, Option.toList_some, List.cons_append, List.nil_append]
      rw [e_153_9 hs, show (-1 : Int32) = -ni 1 from rfl, D102 hs (by omega)]
      simp only [Option.bind_some, Option.toList_some, List.cons_append, List.nil_append]
      exact e_153_19 (h := pI h 260 1 (hI h 260 1 + 1)) hs
    · rw [d_155 hs, D27f hs V c g]
      simp only [Option.bind_some, Option.toList_some, List.cons_append, List.nil_append]
      rw [e_155_6 hs, if_pos (show ni 0 = 0 from rfl), show (-1 : Int32) = -ni 1 from rfl, D104 hs (by omega)]
      simp only [Option.bind_some, Option.toList_some, List.cons_append, List.nil_append]
      exact e_155_14 (h := pI h 262 1 (hI h 262 1 + 1)) hs
theorem A24 : ∀ a1 a2, Alike 163 166 [vi a1, vi a2] := fun a1 a2 => glue fun s V => by
  have vR' := vR V
  have vS' := vS V
  have vF := V.2.1
  by_cases g : isQ s a1 a2
  · obtain ⟨t, r, ht, hr, rfl, rfl⟩ := g
    have vN' := vN V ht
    refine ⟨ni ((grq (sD s) (lwF s) (8 * t + r)).getD 0), s, V, HC_q V fun h hs c => ?_, HM_q V fun h hs c => ⟨hb h s, ?_, hb_K⟩⟩
    · obtain ⟨a, w, l, q1, q⟩ := cRow c ht hr
      have hk := nfK hs (show sD s 22 3 ≤ 6 by omega)
      have kg : Kg sc h (hd40 (sD s) (lwf (sD s) (sD s 22 3)) (8 * t + r) h 0) := Kg_hd
      have hs1 := Kg_Sh kg hs
      refine ⟨_, ?_, kg⟩
      rw [d_163 hs, D24t hs V c ht hr, q1]
      simp only [Option.bind_some, Option.toList_some, List.cons_append, List.nil_append]
      rw [e_163_9_1 hs (qR q), D137 hs V c]
      simp only [Option.bind_some, Option.toList_some, List.cons_append, List.nil_append]
      rw [e_163_33 hs hk (qR q), D162 vF V ht hr hs c q]
      simp only [Option.bind_some, Option.toList_some, List.cons_append, List.nil_append]
      rw [e_163_36 hs1]
      cases e : grq (sD s) (lwF s) (8 * t + r) with
      | none =>
        rw [show grq (sD s) (lwf (sD s) (sD s 22 3)) (8 * t + r) = none from e]; rfl
      | some x =>
        have x9 := grq_99 e
        rw [show grq (sD s) (lwf (sD s) (sD s 22 3)) (8 * t + r) = some x from e]
        show some (some (vi (if ni 0 < ni x then ni x else ni 0)), _) = _
        rw [ni_mx (by omega) (by omega), show mx 0 x = x from by unfold mx; split <;> omega]
        rfl
    · rw [d_166 hs, D27t hs V c ht hr]
      simp (disch := first | assumption | omega | (simp only [Sh_pI, Sh_pL, Sh_pIs, Sh_pLs]; assumption)) only [↓ixb, Option.bind_some, Option.bind_none, Option.toList_some, Option.toList_none, List.cons_append, List.nil_append, ni_lit, ni_of, ni_add, ni_mul, ni_sub, ni_div, ni_lt, ni_le, ni_eq, ng_lt, ng_le, ng_lt', ng_le', ng_eq, ng_eq', ng_ng, Int32.neg_neg, ix_ni, if_pos, if_neg, reduceIte, e_166_6, hb_e c]
      rw [D165 (hb_S hs) V (hb_M V c) vF hb_43 ht hr]
      simp only [Option.bind_some, Option.toList_some, List.cons_append, List.nil_append]
      exact e_166_33 (hb_S hs)
  · refine refg V 1 (by omega) (fun h hs c => ?_) (fun h hs c => ?_)
    · rw [d_163 hs, D24f hs V c g]
      simp (disch := first | assumption | omega | (simp only [Sh_pI, Sh_pL, Sh_pIs, Sh_pLs]; assumption)) only [↓ixb, Option.bind_some, Option.bind_none, Option.toList_some, Option.toList_none, List.cons_append, List.nil_append, ni_lit, ni_of, ni_add, ni_mul, ni_sub, ni_div, ni_lt, ni_le, ni_eq, ng_lt, ng_le, ng_lt', ng_le', ng_eq, ng_eq', ng_ng, Int32.neg_neg, ix_ni, if_pos, if_neg, reduceIte, e_163_9, D7, e_163_19]
    · rw [d_166 hs, D27f hs V c g]
      simp (disch := first | assumption | omega | (simp only [Sh_pI, Sh_pL, Sh_pIs, Sh_pLs]; assumption)) only [↓ixb, Option.bind_some, Option.bind_none, Option.toList_some, Option.toList_none, List.cons_append, List.nil_append, ni_lit, ni_of, ni_add, ni_mul, ni_sub, ni_div, ni_lt, ni_le, ni_eq, ng_lt, ng_le, ng_lt', ng_le', ng_eq, ng_eq', ng_ng, Int32.neg_neg, ix_ni, if_pos, if_neg, reduceIte, e_166_6, D10, e_166_14]
theorem upq_bar {D : Nat → Nat → Nat} {L : Nat → Nat} {q : Nat} (hL : L 12 ≤ 99) {α : Type} (A C : α) : (if oI (grq D L q) < ni (L 12) then A else C) = cond (upq D L q) C A := by
  unfold upq
  cases e : grq D L q with
  | none =>
    show (if -ni 1 < ni (L 12) then A else C) = A
    exact if_pos (by rw [ng_lt (by omega) (by omega) (by omega)]; trivial)
  | some x =>
    have x9 := grq_99 e
    show (if ni x < ni (L 12) then A else C) = cond (decide (L 12 ≤ x)) C A
    by_cases y : x < L 12
    · rw [if_pos (show ni x < ni (L 12) by rw [ni_lt (by omega) (by omega)]; exact y), decide_eq_false (by omega)]; rfl
    · rw [if_neg (show ¬ ni x < ni (L 12) by rw [ni_lt (by omega) (by omega)]; exact y), decide_eq_true (by omega)]; rfl
theorem A25 : ∀ a1 a2, Alike 167 169 [vi a1, vi a2] := fun a1 a2 => glue fun s V => by
  have vR' := vR V
  have vS' := vS V
  have vF := V.2.1
  by_cases g : isQ s a1 a2
  · obtain ⟨t, r, ht, hr, rfl, rfl⟩ := g
    have vN' := vN V ht
    refine ⟨bi (upq (sD s) (lwF s) (8 * t + r)), s, V, HC_q V fun h hs c => ?_, HM_q V fun h hs c => ⟨hb h s, ?_, hb_K⟩⟩
    · obtain ⟨a, w, l, q1, q⟩ := cRow c ht hr
      have hk := nfK hs (show sD s 22 3 ≤ 6 by omega)
      have kg : Kg sc h (hd40 (sD s) (lwf (sD s) (sD s 22 3)) (8 * t + r) h 0) := Kg_hd
      have hs1 := Kg_Sh kg hs
      have c1 := CS_fr (fun _ _ z => Or.inl z) kg V c
      refine ⟨_, ?_, kg⟩
      rw [d_167 hs, D24t hs V c ht hr, q1]
      simp only [Option.bind_some, Option.toList_some, List.cons_append, List.nil_append]
      rw [e_167_9_1 hs (qR q), D137 hs V c]
      simp only [Option.bind_some, Option.toList_some, List.cons_append, List.nil_append]
      rw [e_167_27 hs (qR q) hk, D162 vF V ht hr hs c q]
      simp only [Option.bind_some, Option.toList_some, List.cons_append, List.nil_append]
      rw [e_167_39 hs1 (nfK hs1 (show sD s 22 3 ≤ 6 by omega)), nfI V c1 vF (by omega), upq_bar (lw_le V vF (by omega))]
      show cond (upq (sD s) (lwF s) (8 * t + r)) _ _ = _
      cases upq (sD s) (lwF s) (8 * t + r) <;> rfl
    · rw [d_169 hs, D27t hs V c ht hr]
      simp (disch := first | assumption | omega | (simp only [Sh_pI, Sh_pL, Sh_pIs, Sh_pLs]; assumption)) only [↓ixb, Option.bind_some, Option.bind_none, Option.toList_some, Option.toList_none, List.cons_append, List.nil_append, ni_lit, ni_of, ni_add, ni_mul, ni_sub, ni_div, ni_lt, ni_le, ni_eq, ng_lt, ng_le, ng_lt', ng_le', ng_eq, ng_eq', ng_ng, Int32.neg_neg, ix_ni, if_pos, if_neg, reduceIte, e_169_6, hb_e c]
      rw [D168 (hb_S hs) V (hb_M V c) vF hb_43 ht hr]
      simp only [Option.bind_some, Option.toList_some, List.cons_append, List.nil_append]
      rw [e_169_33 (hb_S hs)]
      show (if bi (upq (sD s) (lwF s) (8 * t + r)) = 0 then _ else _) = _
      cases upq (sD s) (lwF s) (8 * t + r) <;> rfl
  · refine refg V 1 (by omega) (fun h hs c => ?_) (fun h hs c => ?_)
    · rw [d_167 hs, D24f hs V c g]
      simp (disch := first | assumption | omega | (simp only [Sh_pI, Sh_pL, Sh_pIs, Sh_pLs]; assumption)) only [↓ixb, Option.bind_some, Option.bind_none, Option.toList_some, Option.toList_none, List.cons_append, List.nil_append, ni_lit, ni_of, ni_add, ni_mul, ni_sub, ni_div, ni_lt, ni_le, ni_eq, ng_lt, ng_le, ng_lt', ng_le', ng_eq, ng_eq', ng_ng, Int32.neg_neg, ix_ni, if_pos, if_neg, reduceIte, e_167_9, D7, e_167_19]
    · rw [d_169 hs, D27f hs V c g]
      simp (disch := first | assumption | omega | (simp only [Sh_pI, Sh_pL, Sh_pIs, Sh_pLs]; assumption)) only [↓ixb, Option.bind_some, Option.bind_none, Option.toList_some, Option.toList_none, List.cons_append, List.nil_append, ni_lit, ni_of, ni_add, ni_mul, ni_sub, ni_div, ni_lt, ni_le, ni_eq, ng_lt, ng_le, ng_lt', ng_le', ng_eq, ng_eq', ng_ng, Int32.neg_neg, ix_ni, if_pos, if_neg, reduceIte, e_169_6, D10, e_169_14]
theorem A26 : ∀ a1 a2 a3, Alike 170 171 [vi a1, vi a2, vi a3] := fun a1 a2 a3 => glue fun s V => by
  have vR' := vR V
  have vS' := vS V
  have vF := V.2.1
  by_cases g : isQ s a1 a2
  · obtain ⟨t, r, ht, hr, rfl, rfl⟩ := g
    have vN' := vN V ht
    have v := vq V ht hr
    have v8 := v.2.2.1
    rcases rg a3 (sD s 12 (8 * t + r)) with ⟨i, hi, rfl⟩ | hn
    · refine ⟨ni (suq (sD s) (lwF s) (8 * t + r) i), s, V, HC_q V fun h hs c => ?_, HM_q V fun h hs c => ⟨hb h s, ?_, hb_K⟩⟩
      · obtain ⟨a, w, l, q1, q⟩ := cRow c ht hr
        have hk := nfK hs (show sD s 22 3 ≤ 6 by omega)
        have kg : Kg sc h (hd40 (sD s) (lwf (sD s) (sD s 22 3)) (8 * t + r) h 0) := Kg_hd
        have hs1 := Kg_Sh kg hs
        have c1 := CS_fr (fun _ _ z => Or.inl z) kg V c
        have q' := CQ_fr (fun a k z => by unfold sc at z; omega) kg q
        have hk1 := nfK hs1 (show sD s 22 3 ≤ 6 by omega)
        refine ⟨_, ?_, kg⟩
        rw [d_170 hs, D24t hs V c ht hr, q1]
        simp only [Option.bind_some, Option.toList_some, List.cons_append, List.nil_append]
        rw [e_170_9_1 hs (qR q), qZ q]
        simp (disch := first | assumption | omega | (simp only [Sh_pI, Sh_pL, Sh_pIs, Sh_pLs]; assumption)) only [↓ixb, Option.bind_some, Option.bind_none, Option.toList_some, Option.toList_none, List.cons_append, List.nil_append, ni_lit, ni_of, ni_add, ni_mul, ni_sub, ni_div, ni_lt, ni_le, ni_eq, ng_lt, ng_le, ng_lt', ng_le', ng_eq, ng_eq', ng_ng, Int32.neg_neg, ix_ni, if_pos, if_neg, reduceIte, D137 hs V c]
        rw [e_170_42 hs (qR q) hk, D147 vF V ht hr hs c q]
        simp only [Option.bind_some, Option.toList_none, List.nil_append]
        rw [e_170_55 hs1 (qR q') hk1, D156 vF V ht hr hs1 c1 q' Hd_hd hi]
        simp only [Option.bind_some, Option.toList_some, List.cons_append, List.nil_append]
        exact e_170_67 hs1
      · rw [d_171 hs, D27t hs V c ht hr]
        simp (disch := first | assumption | omega | (simp only [Sh_pI, Sh_pL, Sh_pIs, Sh_pLs]; assumption)) only [↓ixb, Option.bind_some, Option.bind_none, Option.toList_some, Option.toList_none, List.cons_append, List.nil_append, ni_lit, ni_of, ni_add, ni_mul, ni_sub, ni_div, ni_lt, ni_le, ni_eq, ng_lt, ng_le, ng_lt', ng_le', ng_eq, ng_eq', ng_ng, Int32.neg_neg, ix_ni, if_pos, if_neg, reduceIte, e_171_6, mZ c ht hr, hb_e c]
        rw [D164 (hb_S hs) V (hb_M V c) vF hb_43 ht hr hi]
        simp only [Option.bind_some, Option.toList_some, List.cons_append, List.nil_append]
        exact e_171_53 (hb_S hs)
    · refine refg V 1 (by omega) (fun h hs c => ?_) (fun h hs c => ?_)
      · obtain ⟨a, w, l, q1, q⟩ := cRow c ht hr
        have fin : ∀ {o4 o5 : Option am_V}, am_E 170 (29, [some (vr (some 16)), some (vi (ni t)), some (vi (ni r)), some (vi a3), o4, o5], [], h) = some (some (vi (-ni 1)), pI h 260 1 (hI h 260 1 + 1)) := by
          intros; simp (disch := first | assumption | omega | (simp only [Sh_pI, Sh_pL, Sh_pIs, Sh_pLs]; assumption)) only [↓ixb, Option.bind_some, Option.bind_none, Option.toList_some, Option.toList_none, List.cons_append, List.nil_append, ni_lit, ni_of, ni_add, ni_mul, ni_sub, ni_div, ni_lt, ni_le, ni_eq, ng_lt, ng_le, ng_lt', ng_le', ng_eq, ng_eq', ng_ng, Int32.neg_neg, ix_ni, if_pos, if_neg, reduceIte, e_170_29, D7, e_170_34]
        rw [d_170 hs, D24t hs V c ht hr, q1]
        simp only [Option.bind_some, Option.toList_some, List.cons_append, List.nil_append]
        rw [e_170_9_1 hs (qR q), qZ q, fin]
        exact gd_g hn (by omega) _ _
      · have fin : am_E 171 (28, [some (vr (some 261)), some (vi (ni t)), some (vi (ni r)), some (vi a3)], [], h) = some (some (vi (-ni 1)), pI h 262 1 (hI h 262 1 + 1)) := by
          simp (disch := first | assumption | omega | (simp only [Sh_pI, Sh_pL, Sh_pIs, Sh_pLs]; assumption)) only [↓ixb, Option.bind_some, Option.bind_none, Option.toList_some, Option.toList_none, List.cons_append, List.nil_append, ni_lit, ni_of, ni_add, ni_mul, ni_sub, ni_div, ni_lt, ni_le, ni_eq, ng_lt, ng_le, ng_lt', ng_le', ng_eq, ng_eq', ng_ng, Int32.neg_neg, ix_ni, if_pos, if_neg, reduceIte, e_171_28, D10, e_171_33]
        rw [d_171 hs, D27t hs V c ht hr]
        simp only [Option.bind_some, Option.toList_some, List.cons_append, List.nil_append]
        rw [e_171_6 hs, if_neg (show ¬ ni 1 = 0 by decide), fin]
        have ex : (8 : Int32) * ni t + ni r = ni (8 * t + r) := by rw [show (8 : Int32) = ni 8 from rfl, ni_mul, ni_add]
        rw [ex, ixb _ (show 8 * t + r < 64 by omega) (by omega), mZ c ht hr]
        exact gd_g hn (by omega) _ _
  · refine refg V 1 (by omega) (fun h hs c => ?_) (fun h hs c => ?_)
    · rw [d_170 hs, D24f hs V c g]
      simp (disch := first | assumption | omega | (simp only [Sh_pI, Sh_pL, Sh_pIs, Sh_pLs]; assumption)) only [↓ixb, Option.bind_some, Option.bind_none, Option.toList_some, Option.toList_none, List.cons_append, List.nil_append, ni_lit, ni_of, ni_add, ni_mul, ni_sub, ni_div, ni_lt, ni_le, ni_eq, ng_lt, ng_le, ng_lt', ng_le', ng_eq, ng_eq', ng_ng, Int32.neg_neg, ix_ni, if_pos, if_neg, reduceIte, e_170_9, e_170_29, D7, e_170_34]
    · rw [d_171 hs, D27f hs V c g]
      simp (disch := first | assumption | omega | (simp only [Sh_pI, Sh_pL, Sh_pIs, Sh_pLs]; assumption)) only [↓ixb, Option.bind_some, Option.bind_none, Option.toList_some, Option.toList_none, List.cons_append, List.nil_append, ni_lit, ni_of, ni_add, ni_mul, ni_sub, ni_div, ni_lt, ni_le, ni_eq, ng_lt, ng_le, ng_lt', ng_le', ng_eq, ng_eq', ng_ng, Int32.neg_neg, ix_ni, if_pos, if_neg, reduceIte, e_171_6, e_171_28, D10, e_171_33]
-- grades of a saying
theorem L172 {s : Sg} (V : Vs s) {F t : Nat} (hF : F ≤ sR s) (ht : t < sS s) : ∀ m i h (o : Option am_V), i + m = sD s 10 t → Sh h → CS h s → (∀ r, r < i → hI h 41 r = oI (grq (sD s) (lwf (sD s) F) (8 * t + r))) → ∃ h1, am_E 172 (5, [some (vr (some 28)), some (vi (ni t)), some (vr (some (nfa F))), some (vi (sb (fun r => upq (sD s) (lwf (sD s) F) (8 * t + r)) i)), some (vi (ni i)), o], [], h) = some (some (vi (sb (fun r => upq (sD s) (lwf (sD s) F) (8 * t + r)) (sD s 10 t))), h1) ∧ Kg sc h h1 ∧ ∀ r, r < sD s 10 t → hI h1 41 r = oI (grq (sD s) (lwf (sD s) F) (8 * t + r)) := by
  have vR' := vR V
  have vS' := vS V
  have vN' := vN V ht
  intro m
  induction m with
  | zero =>
    intro i h o e hs c g
    refine ⟨h, ?_, Kg_refl h, fun r hr => g r (by omega)⟩
    rw [e_172_5 hs (nfK hs (show F ≤ 6 by omega))]
    simp (disch := first | assumption | omega | (simp only [Sh_pI, Sh_pL, Sh_pIs, Sh_pLs]; assumption)) only [↓ixb, Option.bind_some, Option.bind_none, Option.toList_some, Option.toList_none, List.cons_append, List.nil_append, ni_lit, ni_of, ni_add, ni_mul, ni_sub, ni_div, ni_lt, ni_le, ni_eq, ng_lt, ng_le, ng_lt', ng_le', ng_eq, ng_eq', ng_ng, Int32.neg_neg, ix_ni, if_pos, if_neg, reduceIte, cN c ht]
    rw [show i = sD s 10 t by omega]
  | succ m ih =>
    intro i h o e hs c g
    have hi : i < sD s 10 t := by omega
    obtain ⟨a, w, l, q1, q⟩ := cRow c ht hi
    have hk := nfK hs (show F ≤ 6 by omega)
    have kg : Kg sc h (hd40 (sD s) (lwf (sD s) F) (8 * t + i) h 0) := Kg_hd
    have hs1 := Kg_Sh kg hs
    have c1 := CS_fr (fun _ _ z => Or.inl z) kg V c
    have hk1 := nfK hs1 (show F ≤ 6 by omega)
    have kg2 : Kg sc h (pI (hd40 (sD s) (lwf (sD s) F) (8 * t + i) h 0) 41 i (oI (grq (sD s) (lwf (sD s) F) (8 * t + i)))) := Kg_pI (by unfold sc; omega) kg
    have hs2 := Kg_Sh kg2 hs
    have c2 := CS_fr (fun _ _ z => Or.inl z) kg2 V c
    have hk2 := nfK hs2 (show F ≤ 6 by omega)
    obtain ⟨h1, f1, f2, f3⟩ := ih (i + 1) (pI (hd40 (sD s) (lwf (sD s) F) (8 * t + i) h 0) 41 i (oI (grq (sD s) (lwf (sD s) F) (8 * t + i)))) (some (vr (some a))) (by omega) hs2 c2 (fun r hr => by
      by_cases z : r = i
      · rw [z, pe]
      · rw [pn (by omega)]
        unfold hd40
        rw [hI_pIs, if_neg (by omega)]
        exact g r (by omega))
    refine ⟨h1, ?_, Kg_trans kg2 f2, f3⟩
    rw [← f1, e_172_5 hs hk]
    simp (disch := first | assumption | omega | (simp only [Sh_pI, Sh_pL, Sh_pIs, Sh_pLs]; assumption)) only [↓ixb, Option.bind_some, Option.bind_none, Option.toList_some, Option.toList_none, List.cons_append, List.nil_append, ni_lit, ni_of, ni_add, ni_mul, ni_sub, ni_div, ni_lt, ni_le, ni_eq, ng_lt, ng_le, ng_lt', ng_le', ng_eq, ng_eq', ng_ng, Int32.neg_neg, ix_ni, if_pos, if_neg, reduceIte, cN c ht, D24t hs V c ht hi, q1]
    rw [e_172_23_1 hs hk (qR q), D162 hF V ht hi hs c q]
    simp only [Option.bind_some, Option.toList_some, List.cons_append, List.nil_append]
    rw [e_172_47 hs1 hk1, ixb _ (show i < 8 by omega) (by omega), ixb _ (show i < 8 by omega) (by omega), pe, nfI V c2 hF (by omega), upq_bar (lw_le V hF (by omega))]
    cases u : upq (sD s) (lwf (sD s) F) (8 * t + i)
    · rw [sb_f (f := fun r => upq (sD s) (lwf (sD s) F) (8 * t + r)) u, cond_false, e_172_69 hs2 hk2, ni_add1]
    · rw [sb_t (f := fun r => upq (sD s) (lwf (sD s) F) (8 * t + r)) u, cond_true]
      exact (e_172_69 hs2 hk2).trans (by rw [ni_add1]; rfl)
theorem D172 {h : am_H} {s : Sg} (hs : Sh h) (V : Vs s) (c : CS h s) {F t : Nat} (hF : F ≤ sR s) (ht : t < sS s) : ∃ h1, am_D 172 [vr (some 28), vi (ni t), vr (some (nfa F))] h = some (some (vi (sb (fun r => upq (sD s) (lwf (sD s) F) (8 * t + r)) (sD s 10 t))), h1) ∧ Kg sc h h1 ∧ ∀ r, r < sD s 10 t → hI h1 41 r = oI (grq (sD s) (lwf (sD s) F) (8 * t + r)) := by
  have vR' := vR V
  rw [d_172 hs (nfK hs (show F ≤ 6 by omega))]
  exact L172 V hF ht (sD s 10 t) 0 h none (by omega) hs c (fun r hr => absurd hr (Nat.not_lt_zero _))
/-- the first row that was judged wrong, from the i-th on -/
def jdq (D : Nat → Nat → Nat) (L : Nat → Nat) (E : Nat → Int32) (n t : Nat) : Nat → Nat → Int32
  | 0, _ => -ni 1
  | m + 1, i => if (if i < n then E i else ni 0) = ni ((grq D L (8 * t + i)).getD 0) then jdq D L E n t m (i + 1) else ni i
theorem jdq_s {D : Nat → Nat → Nat} {L : Nat → Nat} {E : Nat → Int32} {n t m i : Nat} : jdq D L E n t (m + 1) i = if (if i < n then E i else ni 0) = ni ((grq D L (8 * t + i)).getD 0) then jdq D L E n t m (i + 1) else ni i := rfl
theorem grade0 {D : Nat → Nat → Nat} {L : Nat → Nat} {q : Nat} : (if ni 0 < oI (grq D L q) then oI (grq D L q) else ni 0) = ni ((grq D L q).getD 0) := by
  cases e : grq D L q with
  | none => rfl
  | some x =>
    have x9 := grq_99 e
    show (if ni 0 < ni x then ni x else ni 0) = ni x
    rw [ni_mx (by omega) (by omega), show mx 0 x = x from by unfold mx; split <;> omega]
theorem L173 {h : am_H} {s : Sg} (hs : Sh h) (V : Vs s) (c : CS h s) {F t k : Nat} (ht : t < sS s) (hk : k < 8) (z : sD s 17 k = 1) (z2 : sD s 19 k ≤ 100) (g : ∀ r, r < sD s 10 t → hI h 41 r = oI (grq (sD s) (lwf (sD s) F) (8 * t + r))) : ∀ m i (o3 o5 : Option am_V), i + m = sD s 10 t → am_E 173 (52, [some (vr (some 16)), some (vi (ni t)), some (vi (ni k)), o3, some (vi (ni i)), o5], [], h) = some (some (vi (jdq (sD s) (lwf (sD s) F) (fun i => (sE s (100 * k + i)).toInt32) (sD s 19 k) t m i)), h) := by
  have vS' := vS V
  have vN' := vN V ht
  intro m
  induction m with
  | zero =>
    intro i o3 o5 e
    rw [e_173_52 hs]
    simp (disch := first | assumption | omega | (simp only [Sh_pI, Sh_pL, Sh_pIs, Sh_pLs]; assumption)) only [↓ixb, Option.bind_some, Option.bind_none, Option.toList_some, Option.toList_none, List.cons_append, List.nil_append, ni_lit, ni_of, ni_add, ni_mul, ni_sub, ni_div, ni_lt, ni_le, ni_eq, ng_lt, ng_le, ng_lt', ng_le', ng_eq, ng_eq', ng_ng, Int32.neg_neg, ix_ni, if_pos, if_neg, reduceIte, cN c ht]
    rfl
  | succ m ih =>
    intro i o3 o5 e
    have f91 : am_E 173 (91, [some (vr (some 16)), some (vi (ni t)), some (vi (ni k)), o3, some (vi (ni i)), o5], [vi (if i < sD s 19 k then (sE s (100 * k + i)).toInt32 else ni 0)], h) = some (some (vi (jdq (sD s) (lwf (sD s) F) (fun i => (sE s (100 * k + i)).toInt32) (sD s 19 k) t (m + 1) i)), h) := by
      rw [e_173_91 hs, ixb _ (show i < 8 by omega) (by omega), g i (by omega)]
      rw [show (0 : Int32) = ni 0 from rfl, grade0]
      rw [jdq_s]
      by_cases x : (if i < sD s 19 k then (sE s (100 * k + i)).toInt32 else ni 0) = ni ((grq (sD s) (lwf (sD s) F) (8 * t + i)).getD 0)
      · rw [if_pos x, if_pos x, ni_add1]; exact ih (i + 1) _ _ (by omega)
      · rw [if_neg x, if_neg x]
    rw [e_173_52 hs]
    by_cases x : i < sD s 19 k
    · rw [if_pos x] at f91
      simp (disch := first | assumption | omega | (simp only [Sh_pI, Sh_pL, Sh_pIs, Sh_pLs]; assumption)) only [ixb, ni_lit, cN c ht, ni_le, if_neg, cHn c hk z, cHe c hk z]
      exact f91
    · rw [if_neg x] at f91
      simp (disch := first | assumption | omega | (simp only [Sh_pI, Sh_pL, Sh_pIs, Sh_pLs]; assumption)) only [ixb, ni_lit, cN c ht, ni_le, if_neg, if_pos, cHn c hk z]
      exact f91
theorem L174 {h : am_H} {s : Sg} (hs : Sh h) (V : Vs s) (c : MS h s) {F t k : Nat} (hF : F ≤ sR s) (hb : hI h 261 43 = fI F) (ht : t < sS s) (hk : k < 8) (z : sD s 17 k = 1) (z2 : sD s 19 k ≤ 100) : ∀ m i (o3 o5 : Option am_V), i + m = sD s 10 t → am_E 174 (39, [some (vr (some 261)), some (vi (ni t)), some (vi (ni k)), o3, some (vi (ni i)), o5], [], h) = some (some (vi (jdq (sD s) (lwf (sD s) F) (fun i => (sE s (100 * k + i)).toInt32) (sD s 19 k) t m i)), h) := by
  have vS' := vS V
  have vN' := vN V ht
  intro m
  induction m with
  | zero =>
    intro i o3 o5 e
    rw [e_174_39 hs]
    simp (disch := first | assumption | omega | (simp only [Sh_pI, Sh_pL, Sh_pIs, Sh_pLs]; assumption)) only [↓ixb, Option.bind_some, Option.bind_none, Option.toList_some, Option.toList_none, List.cons_append, List.nil_append, ni_lit, ni_of, ni_add, ni_mul, ni_sub, ni_div, ni_lt, ni_le, ni_eq, ng_lt, ng_le, ng_lt', ng_le', ng_eq, ng_eq', ng_ng, Int32.neg_neg, ix_ni, if_pos, if_neg, reduceIte, mN c ht]
    rfl
  | succ m ih =>
    intro i o3 o5 e
    have ex : (8 : Int32) * ni t + ni i = ni (8 * t + i) := by rw [show (8 : Int32) = ni 8 from rfl, ni_mul, ni_add]
    have f72 : am_E 174 (72, [some (vr (some 261)), some (vi (ni t)), some (vi (ni k)), o3, some (vi (ni i)), o5], [vi (if i < sD s 19 k then (sE s (100 * k + i)).toInt32 else ni 0)], h) = some (some (vi (jdq (sD s) (lwf (sD s) F) (fun i => (sE s (100 * k + i)).toInt32) (sD s 19 k) t (m + 1) i)), h) := by
      rw [e_174_72 hs, ex, D165 hs V c hF hb ht (by omega)]
      simp only [Option.bind_some, Option.toList_some, List.cons_append, List.nil_append]
      rw [e_174_87 hs]
      rw [jdq_s]
      by_cases x : (if i < sD s 19 k then (sE s (100 * k + i)).toInt32 else ni 0) = ni ((grq (sD s) (lwf (sD s) F) (8 * t + i)).getD 0)
      · rw [if_pos x, if_pos x, ni_add1]; exact ih (i + 1) _ _ (by omega)
      · rw [if_neg x, if_neg x]
    rw [e_174_39 hs]
    by_cases x : i < sD s 19 k
    · rw [if_pos x] at f72
      simp (disch := first | assumption | omega | (simp only [Sh_pI, Sh_pL, Sh_pIs, Sh_pLs]; assumption)) only [ixb, ni_lit, mN c ht, ni_le, if_neg, mHn c hk z, D51 hs c hk z z2 x, ↓ixb, Option.bind_some, Option.toList_some, Option.toList_none, List.cons_append, List.nil_append, e_174_68]
      exact f72
    · rw [if_neg x] at f72
      simp (disch := first | assumption | omega | (simp only [Sh_pI, Sh_pL, Sh_pIs, Sh_pLs]; assumption)) only [ixb, ni_lit, mN c ht, ni_le, if_neg, if_pos, mHn c hk z]
      exact f72
theorem A27 : ∀ a1 a2, Alike 173 174 [vi a1, vi a2] := fun a1 a2 => glue fun s V => by
  have vR' := vR V
  have vS' := vS V
  have vF := V.2.1
  rcases rg a1 (sS s) with ⟨t, ht, rfl⟩ | hn
  · have vN' := vN V ht
    rcases wn_cases V a2 with ⟨k, hk, rfl, z, z1, z2⟩ | ⟨e, he, he0, w⟩
    · refine ⟨jdq (sD s) (lwF s) (fun i => (sE s (100 * k + i)).toInt32) (sD s 19 k) t (sD s 10 t) 0, s, V, HC_q V fun h hs c => ?_, HM_q V fun h hs c => ⟨hb h s, ?_, hb_K⟩⟩
      · obtain ⟨h1, d, kg, g⟩ := D172 hs V c vF ht
        have hs1 := Kg_Sh kg hs
        have c1 := CS_fr (fun _ _ z => Or.inl z) kg V c
        refine ⟨h1, ?_, kg⟩
        rw [d_173 hs, D23t hs V c ht]
        simp (disch := first | assumption | omega | (simp only [Sh_pI, Sh_pL, Sh_pIs, Sh_pLs]; assumption)) only [↓ixb, Option.bind_some, Option.bind_none, Option.toList_some, Option.toList_none, List.cons_append, List.nil_append, ni_lit, ni_of, ni_add, ni_mul, ni_sub, ni_div, ni_lt, ni_le, ni_eq, ng_lt, ng_le, ng_lt', ng_le', ng_eq, ng_eq', ng_ng, Int32.neg_neg, ix_ni, if_pos, if_neg, reduceIte, e_173_8, D12t hs V c hk z, e_173_22, D137 hs V c]
        rw [e_173_45 hs (nfK hs (show sD s 22 3 ≤ 6 by omega)), d]
        simp only [Option.bind_some, Option.toList_some, List.cons_append, List.nil_append]
        rw [e_173_48 hs1]
        exact L173 hs1 V c1 ht hk z z2 g (sD s 10 t) 0 _ _ (by omega)
      · rw [d_174 hs, D26t hs V c ht]
        simp (disch := first | assumption | omega | (simp only [Sh_pI, Sh_pL, Sh_pIs, Sh_pLs]; assumption)) only [↓ixb, Option.bind_some, Option.bind_none, Option.toList_some, Option.toList_none, List.cons_append, List.nil_append, ni_lit, ni_of, ni_add, ni_mul, ni_sub, ni_div, ni_lt, ni_le, ni_eq, ng_lt, ng_le, ng_lt', ng_le', ng_eq, ng_eq', ng_ng, Int32.neg_neg, ix_ni, if_pos, if_neg, reduceIte, e_174_5, D50t hs c hk z, e_174_13, e_174_17, hb_e c]
        exact L174 (hb_S hs) V (hb_M V c) vF hb_43 ht hk z z2 (sD s 10 t) 0 _ _ (by omega)
    · refine refgT V e (by omega) (fun h hs c => ?_) (fun h hs c => ?_)
      · rw [d_173 hs, D23t hs V c ht]
        simp (disch := first | assumption | omega | (simp only [Sh_pI, Sh_pL, Sh_pIs, Sh_pLs]; assumption)) only [↓ixb, Option.bind_some, Option.bind_none, Option.toList_some, Option.toList_none, List.cons_append, List.nil_append, ni_lit, ni_of, ni_add, ni_mul, ni_sub, ni_div, ni_lt, ni_le, ni_eq, ng_lt, ng_le, ng_lt', ng_le', ng_eq, ng_eq', ng_ng, Int32.neg_neg, ix_ni, if_pos, if_neg, reduceIte, e_173_8, D12f hs V c w, e_173_22, D102, e_173_32]
      · rw [d_174 hs, D26t hs V c ht]
        simp (disch := first | assumption | omega | (simp only [Sh_pI, Sh_pL, Sh_pIs, Sh_pLs]; assumption)) only [↓ixb, Option.bind_some, Option.bind_none, Option.toList_some, Option.toList_none, List.cons_append, List.nil_append, ni_lit, ni_of, ni_add, ni_mul, ni_sub, ni_div, ni_lt, ni_le, ni_eq, ng_lt, ng_le, ng_lt', ng_le', ng_eq, ng_eq', ng_ng, Int32.neg_neg, ix_ni, if_pos, if_neg, reduceIte, e_174_5, D50f hs c w, e_174_13, e_174_17, D104, e_174_27]
  · refine refgT V 1 (by omega) (fun h hs c => ?_) (fun h hs c => ?_)
    · rw [d_173 hs, D23f hs V c hn]; simp (disch := first | assumption | omega | (simp only [Sh_pI, Sh_pL, Sh_pIs, Sh_pLs]; assumption)) only [↓ixb, Option.bind_some, Option.bind_none, Option.toList_some, Option.toList_none, List.cons_append, List.nil_append, ni_lit, ni_of, ni_add, ni_mul, ni_sub, ni_div, ni_lt, ni_le, ni_eq, ng_lt, ng_le, ng_lt', ng_le', ng_eq, ng_eq', ng_ng, Int32.neg_neg, ix_ni, if_pos, if_neg, reduceIte, e_173_8, D102, e_173_16]
    · rw [d_174 hs, D26f hs V c hn]; simp (disch := first | assumption | omega | (simp only [Sh_pI, Sh_pL, Sh_pIs, Sh_pLs]; assumption)) only [↓ixb, Option.bind_some, Option.bind_none, Option.toList_some, Option.toList_none, List.cons_append, List.nil_append, ni_lit, ni_of, ni_add, ni_mul, ni_sub, ni_div, ni_lt, ni_le, ni_eq, ng_lt, ng_le, ng_lt', ng_le', ng_eq, ng_eq', ng_ng, Int32.neg_neg, ix_ni, if_pos, if_neg, reduceIte, e_174_5, e_174_17, D104, e_174_27]
