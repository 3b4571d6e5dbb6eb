/-! weights of sayings -/
def gc (u : Nat → Bool) (g : Nat → Nat) : Nat → Nat
  | 0 => 0
  | n + 1 => if u n = true then mx (gc u g n) (g n) else gc u g n
theorem gc_s {u : Nat → Bool} {g : Nat → Nat} {n : Nat} : gc u g (n + 1) = if u n = true then mx (gc u g n) (g n) else gc u g n := rfl
theorem gc_le {u : Nat → Bool} {g : Nat → Nat} (hg : ∀ k, g k ≤ 99) : ∀ n, gc u g n ≤ 99
  | 0 => Nat.zero_le _
  | n + 1 => by
    have a := gc_le (u := u) hg n
    have b := hg n
    rw [gc_s]
    unfold mx
    split
    · split <;> omega
    · exact a
theorem gc_congr {u v : Nat → Bool} {g : Nat → Nat} : ∀ {n}, (∀ r, r < n → u r = v r) → gc u g n = gc v g n
  | 0, _ => rfl
  | n + 1, h => by rw [gc_s, gc_s, gc_congr (n := n) (fun r hr => h r (by omega)), h n (by omega)]
theorem gc_cut {u : Nat → Bool} {g : Nat → Nat} {n : Nat} : ∀ k, gc (fun r => decide (r < n) && u r) g (n + k) = gc u g n
  | 0 => gc_congr fun r hr => by rw [decide_eq_true (show r < n by omega), Bool.true_and]
  | k + 1 => by
    rw [show n + (k + 1) = n + k + 1 by omega, gc_s, gc_cut k, decide_eq_false (show ¬ n + k < n by omega), Bool.false_and, if_neg (by decide)]
theorem gc_0 {u : Nat → Bool} {g : Nat → Nat} : ∀ {n}, anyb u n = false → gc u g n = 0
  | 0, _ => rfl
  | n + 1, h => by
    rw [anyb_s, Bool.or_eq_false_iff] at h
    rw [gc_s, h.2, if_neg (by decide), gc_0 h.1]
section WGT
variable {s : Sg} {t : Nat}
def gs (s : Sg) (t r : Nat) : Nat := (grq (sD s) (lwF s) (8 * t + r)).getD 0
theorem gs_le (r : Nat) : gs s t r ≤ 99 := by
  unfold gs
  cases e : grq (sD s) (lwF s) (8 * t + r) with
  | none => exact Nat.zero_le _
  | some x => exact grq_99 e
theorem gs_up {r : Nat} (h : uF s t r = true) : oI (grq (sD s) (lwF s) (8 * t + r)) = ni (gs s t r) := by
  unfold uF upq at h
  unfold gs
  cases e : grq (sD s) (lwF s) (8 * t + r) with
  | none => rw [e] at h; cases h
  | some x => rfl
def wgt (s : Sg) (t f : Nat) : Nat := if anyb (uF s t) (sD s 10 t) = true then mn (gc (uF s t) (gs s t) (sD s 10 t) + lwF s 13 * (f - 1)) 99 else 0
theorem wgt_le {f : Nat} : wgt s t f ≤ 99 := by
  unfold wgt mn
  split
  · split <;> omega
  · omega
-- the class's grades, and nothing else
theorem L172k (V : Vs s) {F : Nat} (hF : F ≤ sR s) (ht : t < sS s) : ∀ m i h (o : Option am_V), i + m = sD s 10 t → Sh h → CS h s → (∀ r, r < i → hI h 41 r = oI (grq (sD s) (lwf (sD s) F) (8 * t + r))) → ∃ h1, am_E 172 (5, [some (vr (some 28)), some (vi (ni t)), some (vr (some (nfa F))), some (vi (sb (fun r => upq (sD s) (lwf (sD s) F) (8 * t + r)) i)), some (vi (ni i)), o], [], h) = some (some (vi (sb (fun r => upq (sD s) (lwf (sD s) F) (8 * t + r)) (sD s 10 t))), h1) ∧ Kg (fun a _ => a = 40 ∨ a = 41) h h1 ∧ ∀ r, r < sD s 10 t → hI h1 41 r = oI (grq (sD s) (lwf (sD s) F) (8 * t + r)) := by
  have vR' := vR V
  have vS' := vS V
  have vN' := vN V ht
  intro m
  induction m with
  | zero =>
    intro i h o e hs c g
    refine ⟨h, ?_, Kg_refl h, fun r hr => g r (by omega)⟩
    rw [e_172_5 hs (nfK hs (show F ≤ 6 by omega))]
    simp (disch := first | assumption | omega | (simp only [Sh_pI, Sh_pL, Sh_pIs, Sh_pLs]; assumption)) only [↓ixb, Option.bind_some, Option.bind_none, Option.toList_some, Option.toList_none, List.cons_append, List.nil_append, ni_lit, ni_of, ni_add, ni_mul, ni_sub, ni_div, ni_lt, ni_le, ni_eq, ng_lt, ng_le, ng_lt', ng_le', ng_eq, ng_eq', ng_ng, Int32.neg_neg, ix_ni, if_pos, if_neg, reduceIte, cN c ht]
    rw [show i = sD s 10 t by omega]
  | succ m ih =>
    intro i h o e hs c g
    have hi : i < sD s 10 t := by omega
    obtain ⟨a, w, l, q1, q⟩ := cRow c ht hi
    have hk := nfK hs (show F ≤ 6 by omega)
    have kg : Kg (fun a _ => a = 40 ∨ a = 41) h (hd40 (sD s) (lwf (sD s) F) (8 * t + i) h 0) := Kg_pIs (fun j => Or.inl rfl) (Kg_refl h)
    have hs1 := Kg_Sh kg hs
    have hk1 := nfK hs1 (show F ≤ 6 by omega)
    have kg2 : Kg (fun a _ => a = 40 ∨ a = 41) h (pI (hd40 (sD s) (lwf (sD s) F) (8 * t + i) h 0) 41 i (oI (grq (sD s) (lwf (sD s) F) (8 * t + i)))) := Kg_pI (Or.inr rfl) kg
    have hs2 := Kg_Sh kg2 hs
    have c2 := CS_fr (fun a k z => Or.inl (by unfold sc; omega)) kg2 V c
    have hk2 := nfK hs2 (show F ≤ 6 by omega)
    obtain ⟨h1, f1, f2, f3⟩ := ih (i + 1) (pI (hd40 (sD s) (lwf (sD s) F) (8 * t + i) h 0) 41 i (oI (grq (sD s) (lwf (sD s) F) (8 * t + i)))) (some (vr (some a))) (by omega) hs2 c2 (fun r hr => by
      by_cases z : r = i
      · rw [z, pe]
      · rw [pn (by omega)]
        unfold hd40
        rw [hI_pIs, if_neg (by omega)]
        exact g r (by omega))
    refine ⟨h1, ?_, Kg_trans kg2 f2, f3⟩
    rw [← f1, e_172_5 hs hk]
    simp (disch := first | assumption | omega | (simp only [Sh_pI, Sh_pL, Sh_pIs, Sh_pLs]; assumption)) only [↓ixb, Option.bind_some, Option.bind_none, Option.toList_some, Option.toList_none, List.cons_append, List.nil_append, ni_lit, ni_of, ni_add, ni_mul, ni_sub, ni_div, ni_lt, ni_le, ni_eq, ng_lt, ng_le, ng_lt', ng_le', ng_eq, ng_eq', ng_ng, Int32.neg_neg, ix_ni, if_pos, if_neg, reduceIte, cN c ht, D24t hs V c ht hi, q1]
    rw [e_172_23_1 hs hk (qR q), D162 hF V ht hi hs c q]
    simp only [Option.bind_some, Option.toList_some, List.cons_append, List.nil_append]
    rw [e_172_47 hs1 hk1, ixb _ (show i < 8 by omega) (by omega), ixb _ (show i < 8 by omega) (by omega), pe, nfI V c2 hF (by omega), upq_bar (lw_le V hF (by omega))]
    cases u : upq (sD s) (lwf (sD s) F) (8 * t + i)
    · rw [sb_f (f := fun r => upq (sD s) (lwf (sD s) F) (8 * t + r)) u, cond_false, e_172_69 hs2 hk2, ni_add1]
    · rw [sb_t (f := fun r => upq (sD s) (lwf (sD s) F) (8 * t + r)) u, cond_true]
      exact (e_172_69 hs2 hk2).trans (by rw [ni_add1]; rfl)
theorem D172k {h : am_H} (hs : Sh h) (V : Vs s) (c : CS h s) (ht : t < sS s) : ∃ h1, am_D 172 [vr (some 28), vi (ni t), vr (some (nfa (sD s 22 3)))] h = some (some (vi (sb (uF s t) (sD s 10 t))), h1) ∧ Kg (fun a _ => a = 40 ∨ a = 41) h h1 ∧ ∀ r, r < sD s 10 t → hI h1 41 r = oI (grq (sD s) (lwF s) (8 * t + r)) := by
  have vR' := vR V
  have vF := V.2.1
  rw [d_172 hs (nfK hs (show sD s 22 3 ≤ 6 by omega))]
  exact L172k V vF ht (sD s 10 t) 0 h none (by omega) hs c (fun r hr => absurd hr (Nat.not_lt_zero _))
theorem L208 {h : am_H} (hs : Sh h) (V : Vs s) (ht : t < sS s) {a : Nat} (hk : hK h a = (100, 14)) (g : ∀ r, r < sD s 10 t → hI h 41 r = oI (grq (sD s) (lwF s) (8 * t + r))) : ∀ m r, r + m = 8 → am_E 208 (30, [some (vr (some 16)), some (vi (ni t)), some (vr (some a)), some (vi (sb (uF s t) (sD s 10 t))), some (vi (ni (gc (fun r => decide (r < sD s 10 t) && uF s t r) (gs s t) r))), some (vi (ni r))], [], h) = am_E 208 (30, [some (vr (some 16)), some (vi (ni t)), some (vr (some a)), some (vi (sb (uF s t) (sD s 10 t))), some (vi (ni (gc (fun r => decide (r < sD s 10 t) && uF s t r) (gs s t) 8))), some (vi (ni 8))], [], h) := by
  have vN' := vN V ht
  intro m
  induction m with
  | zero =>
    intro r hr
    have e : r = 8 := by omega
    subst e; rfl
  | succ m ih =>
    intro r hr
    have gl := gc_le (u := fun r => decide (r < sD s 10 t) && uF s t r) (gs_le (s := s) (t := t)) r
    have g9 := gs_le (s := s) (t := t) r
    refine (e_208_30 hs hk).trans ?_
    rw [if_neg (show ¬ (8 : Int32) ≤ ni r by rw [show (8 : Int32) = ni 8 from rfl, ni_le (by omega) (by omega)]; omega), bt_up (by omega) (show r < 32 by omega)]
    have nx := ih (r + 1) (by omega)
    rw [gc_s] at nx
    cases y : (decide (r < sD s 10 t) && uF s t r)
    · rw [if_pos (show bi false = 0 from rfl), e_208_63 hs hk, ni_add1]
      rw [y, if_neg (by decide)] at nx
      exact nx
    · rw [y, if_pos rfl] at nx
      rw [Bool.and_eq_true] at y
      rw [if_neg (show ¬ bi true = 0 by decide), ixb _ (show r < 8 by omega) (by omega), g r (of_decide_eq_true y.1), gs_up y.2, ni_mx (by omega) (by omega), e_208_63 hs hk, ni_add1]
      exact nx
theorem mx_ex {h : am_H} (V : Vs s) (ht : t < sS s) (hs : Sh h) (c : MS h s) : ∃ f, Mxf (cNt (nB s t) (nA s t) (fun _ => 1)) (2 * nT s t) f ∧ f ≤ 24 := by
  obtain ⟨h1, f, _, _, m, l, _⟩ := D190 V ht (hb_S hs) (hb_M V c) hb_43
  exact ⟨f, m, l⟩
theorem D208 {h : am_H} (hs : Sh h) (V : Vs s) (c : CS h s) (ht : t < sS s) {f : Nat} (mf : Mxf (cNt (nB s t) (nA s t) (fun _ => 1)) (2 * nT s t) f) (f24 : f ≤ 24) : ∃ h1, am_D 208 [vr (some 16), vi (ni t)] h = some (some (vi (ni (wgt s t f))), h1) ∧ Kg (fun a k => sc a k ∧ a ≠ 258) h h1 := by
  have vR' := vR V
  have vF := V.2.1
  have vN' := vN V ht
  have hT := nT_24 V ht
  obtain ⟨h1, d1, k1, g1⟩ := D172k hs V c ht
  have hs1 := Kg_Sh k1 hs
  have kk1 : Kg (fun a k => sc a k ∧ a ≠ 258) h h1 := Kg_mono (fun a k z => by unfold sc; omega) k1
  have c1 := CS_fr (fun a k z => Or.inl z.1) kk1 V c
  have hk1 := nfK hs1 (show sD s 22 3 ≤ 6 by omega)
  have b0 : am_D 208 [vr (some 16), vi (ni t)] h = am_E 208 (17, [some (vr (some 16)), some (vi (ni t)), some (vr (some (nfa (sD s 22 3)))), none, none, none], [vi (sb (uF s t) (sD s 10 t))], h1) := by
    rw [d_208 hs, D137 hs V c]
    simp only [Option.bind_some, Option.toList_some, List.cons_append, List.nil_append]
    rw [e_208_7 hs (nfK hs (show sD s 22 3 ≤ 6 by omega)), d1]
    simp only [Option.bind_some, Option.toList_some, List.cons_append, List.nil_append]
  rw [e_208_17 hs1 hk1] at b0
  cases y : anyb (uF s t) (sD s 10 t)
  · refine ⟨h1, ?_, kk1⟩
    rw [b0, if_pos (show sb (uF s t) (sD s 10 t) = 0 from (sb_0 (by omega)).mpr (anyb_f.mp y))]
    unfold wgt
    rw [y, if_neg (by decide)]; rfl
  · rw [if_neg (show ¬ sb (uF s t) (sD s 10 t) = 0 from fun z => by
      have := anyb_f.mpr ((sb_0 (by omega)).mp (show sb (uF s t) (sD s 10 t) = ni 0 from z))
      rw [y] at this; cases this)] at b0
    have b1 := b0.trans (L208 hs1 V ht hk1 g1 8 0 rfl)
    rw [show (8 : Nat) = sD s 10 t + (8 - sD s 10 t) by omega, gc_cut, show sD s 10 t + (8 - sD s 10 t) = 8 by omega] at b1
    obtain ⟨h2, d2, k2, n2⟩ := D177 V ht hs1 c1
    have hs2 := Kg_Sh k2 hs1
    have kk2 : Kg (fun a k => sc a k ∧ a ≠ 258) h h2 := Kg_trans kk1 (Kg_mono (fun a k z => by unfold scN at z; unfold sc; omega) k2)
    have c2 := CS_fr (fun a k z => Or.inl z.1) kk2 V c
    obtain ⟨h3, f', p1, d3, k3, r3, s3, b3, f24', fin⟩ := D184 (B := nB s t) (A := nA s t) (T := nT s t) hT (fun x _ => nxt_irr V ht x _ (Nat.le_refl _)) hs2 n2.1 n2.2.1 n2.2.2
    have e : f = f' := same_f hT mf f24 s3 fin
    subst e
    have gl := gc_le (u := uF s t) (gs_le (s := s) (t := t)) (sD s 10 t)
    have l13 := lw_le V vF (j := 13) (by omega)
    have l13' : lwF s 13 ≤ 99 := l13
    have lf : lwF s 13 * (f - 1) ≤ 99 * 24 := Nat.mul_le_mul l13' (by omega)
    refine ⟨h3, ?_, Kg_trans kk2 (Kg_mono (fun a k z => by unfold sc; omega) k3)⟩
    rw [b1, e_208_30 hs1 hk1, if_pos (show (8 : Int32) ≤ ni 8 by decide), d2]
    simp only [Option.bind_some, Option.toList_none, List.nil_append]
    rw [e_208_82 hs2 (nfK hs2 (show sD s 22 3 ≤ 6 by omega)), d3, nfI V c2 vF (show 13 < 14 by omega)]
    simp only [Option.bind_some, Option.toList_some, List.cons_append, List.nil_append]
    rw [e_208_94 (Kg_Sh k3 hs2), show (if (0 : Int32) < ni f - 1 then ni f - 1 else 0) = ni (f - 1) from ni_mx0 (b := 1) (by omega) (by omega), show lwf (sD s) (sD s 22 3) 13 = lwF s 13 from rfl, ni_mul, ni_add, show (99 : Int32) = ni 99 from rfl, ni_mn (by omega) (by omega)]
    unfold wgt
    rw [y, if_pos rfl]
def wx (s : Sg) (t r : Nat) : Int32 := if anyb (uF s t) r = true then ni (gc (uF s t) (gs s t) r) else -ni 1
theorem L210 {h : am_H} (hs : Sh h) (V : Vs s) (c : MS h s) (hby : hI h 261 43 = fI (sD s 22 3)) (ht : t < sS s) {o4 : Option am_V} : ∀ m r, r + m = sD s 10 t → am_E 210 (7, [some (vr (some 261)), some (vi (ni t)), some (vi (wx s t r)), some (vi (ni (8 * t + r))), o4], [], h) = am_E 210 (7, [some (vr (some 261)), some (vi (ni t)), some (vi (wx s t (sD s 10 t))), some (vi (ni (8 * t + sD s 10 t))), o4], [], h) := by
  have vS' := vS V
  have vF := V.2.1
  have vN' := vN V ht
  intro m
  induction m with
  | zero =>
    intro r hr
    have e : r = sD s 10 t := by omega
    subst e; rfl
  | succ m ih =>
    intro r hr
    have hr' : r < sD s 10 t := by omega
    have gl := gc_le (u := uF s t) (gs_le (s := s) (t := t)) r
    have g9 := gs_le (s := s) (t := t) r
    have d168 : am_D 168 [vr (some 261), vi (ni (8 * t + r))] h = some (some (vi (bi (uF s t r))), h) := D168 hs V c vF hby ht hr'
    have d165 : am_D 165 [vr (some 261), vi (ni (8 * t + r))] h = some (some (vi (ni (gs s t r))), h) := D165 hs V c vF hby ht hr'
    have nx := ih (r + 1) (by omega)
    unfold wx at nx
    rw [gc_s, anyb_s] at nx
    refine (e_210_7 hs).trans ?_
    rw [ixb _ (show t < 8 by omega) (by omega), mN c ht, show (8 : Int32) * ni t + ni (sD s 10 t) = ni (8 * t + sD s 10 t) by rw [show (8 : Int32) = ni 8 from rfl, ni_mul, ni_add], if_neg (show ¬ ni (8 * t + sD s 10 t) ≤ ni (8 * t + r) by rw [ni_le (by omega) (by omega)]; omega), d168]
    simp only [Option.bind_some, Option.toList_some, List.cons_append, List.nil_append]
    rw [e_210_27 hs]
    cases u : uF s t r
    · rw [u, Bool.or_false, if_neg (show ¬ false = true by decide)] at nx
      rw [if_pos (show bi false = 0 from rfl), e_210_45 hs, ni_add1]
      exact nx
    · rw [u, Bool.or_true, if_pos rfl, if_pos rfl] at nx
      rw [if_neg (show ¬ bi true = 0 by decide), d165]
      simp only [Option.bind_some, Option.toList_some, List.cons_append, List.nil_append]
      rw [e_210_35 hs]
      unfold wx
      cases y : anyb (uF s t) r
      · rw [gc_0 y, show mx 0 (gs s t r) = gs s t r by unfold mx; split <;> omega] at nx
        rw [if_neg (show ¬ false = true by decide), if_neg (show ¬ ni (gs s t r) ≤ -ni 1 by rw [ng_le' (by omega) (by omega) (by omega)]; exact id), d165]
        simp only [Option.bind_some, Option.toList_some, List.cons_append, List.nil_append]
        rw [e_210_44 hs, e_210_45 hs, ni_add1]
        exact nx
      · rw [if_pos rfl]
        by_cases z : gs s t r ≤ gc (uF s t) (gs s t) r
        · rw [show mx (gc (uF s t) (gs s t) r) (gs s t r) = gc (uF s t) (gs s t) r by unfold mx; split <;> omega] at nx
          rw [if_pos (show ni (gs s t r) ≤ ni (gc (uF s t) (gs s t) r) by rw [ni_le (by omega) (by omega)]; exact z), e_210_45 hs, ni_add1]
          exact nx
        · rw [show mx (gc (uF s t) (gs s t) r) (gs s t r) = gs s t r by unfold mx; split <;> omega] at nx
          rw [if_neg (show ¬ ni (gs s t r) ≤ ni (gc (uF s t) (gs s t) r) by rw [ni_le (by omega) (by omega)]; exact z), d165]
          simp only [Option.bind_some, Option.toList_some, List.cons_append, List.nil_append]
          rw [e_210_44 hs, e_210_45 hs, ni_add1]
          exact nx
theorem D210 {h : am_H} (hs : Sh h) (V : Vs s) (c : MS h s) (hby : hI h 261 43 = fI (sD s 22 3)) (ht : t < sS s) {f : Nat} (mf : Mxf (cNt (nB s t) (nA s t) (fun _ => 1)) (2 * nT s t) f) (f24 : f ≤ 24) : ∃ h1, am_D 210 [vr (some 261), vi (ni t)] h = some (some (vi (ni (wgt s t f))), h1) ∧ Kg scS h h1 := by
  have vS' := vS V
  have vF := V.2.1
  have vN' := vN V ht
  have gl := gc_le (u := uF s t) (gs_le (s := s) (t := t)) (sD s 10 t)
  have l13 := lw_le V vF (j := 13) (by omega)
  have l13' : lwF s 13 ≤ 99 := l13
  have lf : lwF s 13 * (f - 1) ≤ 99 * 24 := Nat.mul_le_mul l13' (by omega)
  have b0 : am_D 210 [vr (some 261), vi (ni t)] h = am_E 210 (7, [some (vr (some 261)), some (vi (ni t)), some (vi (wx s t (sD s 10 t))), some (vi (ni (8 * t + sD s 10 t))), none], [], h) := by
    rw [d_210 hs]
    have := L210 hs V c hby ht (o4 := none) (sD s 10 t) 0 (by omega)
    rw [← this, show (8 : Int32) * ni t = ni (8 * t + 0) by rw [show (8 : Int32) = ni 8 from rfl, ni_mul]; rfl]
    rfl
  rw [e_210_7 hs, ixb _ (show t < 8 by omega) (by omega), mN c ht, show (8 : Int32) * ni t + ni (sD s 10 t) = ni (8 * t + sD s 10 t) by rw [show (8 : Int32) = ni 8 from rfl, ni_mul, ni_add], if_pos (show ni (8 * t + sD s 10 t) ≤ ni (8 * t + sD s 10 t) by rw [ni_le (by omega) (by omega)]; omega)] at b0
  unfold wx at b0
  cases y : anyb (uF s t) (sD s 10 t)
  · refine ⟨h, ?_, Kg_refl h⟩
    rw [y, if_neg (show ¬ false = true by decide), if_pos (show -ni 1 = -1 from rfl)] at b0
    rw [b0]
    unfold wgt
    rw [y, if_neg (by decide)]; rfl
  · obtain ⟨h1, f', d1, k1, mx', l', _⟩ := D190 V ht hs c hby
    have e : f' = f := Mxf_u mx' mf
    subst e
    have hs1 := Kg_Sh k1 hs
    have c1 := (Mok_q V c (Kg_mono (fun a k z => by unfold scS at z; unfold scm; omega) k1)).1
    have hby1 : hI h1 261 43 = fI (sD s 22 3) := by rw [k1.2.2.2.2.1 261 43 (by unfold scS; omega)]; exact hby
    rw [y, if_pos rfl, if_neg (show ¬ ni (gc (uF s t) (gs s t) (sD s 10 t)) = -1 by rw [show (-1 : Int32) = -ni 1 from rfl, ng_eq (by omega) (by omega) (by omega)]; exact id), d1] at b0
    simp only [Option.bind_some, Option.toList_some, List.cons_append, List.nil_append] at b0
    rw [e_210_63 hs1] at b0
    refine ⟨h1, ?_, k1⟩
    have fin : ∀ X, X ≤ 10000 → (if ni X ≤ 99 then some (some (vi (ni X)), h1) else some (some (vi 99), h1)) = some (some (vi (ni (mn X 99))), h1) := fun X hX => by
      unfold mn
      by_cases z : X < 99
      · rw [if_pos z, if_pos (show ni X ≤ 99 by rw [show (99 : Int32) = ni 99 from rfl, ni_le (by omega) (by omega)]; omega)]
      · rw [if_neg z]
        by_cases w : X = 99
        · rw [if_pos (show ni X ≤ 99 by rw [show (99 : Int32) = ni 99 from rfl, ni_le (by omega) (by omega)]; omega), w]
        · rw [if_neg (show ¬ ni X ≤ 99 by rw [show (99 : Int32) = ni 99 from rfl, ni_le (by omega) (by omega)]; omega)]; rfl
    unfold wgt
    rw [y, if_pos rfl, b0]
    by_cases z : f' ≤ 1
    · rw [if_pos (show ni f' ≤ 1 by rw [show (1 : Int32) = ni 1 from rfl, ni_le (by omega) (by omega)]; exact z), e_210_85 hs1, show f' - 1 = 0 by omega, Nat.mul_zero, Nat.add_zero]
      exact fin _ (by omega)
    · rw [if_neg (show ¬ ni f' ≤ 1 by rw [show (1 : Int32) = ni 1 from rfl, ni_le (by omega) (by omega)]; exact z), show (13 : Int32) = ni 13 from rfl, D142 hs1 V c1 vF hby1 (by omega)]
      simp only [Option.bind_some, Option.toList_some, List.cons_append, List.nil_append]
      rw [e_210_76 hs1, e_210_85 hs1, show lwf (sD s) (sD s 22 3) 13 = lwF s 13 from rfl, show ni f' - 1 = ni (f' - 1) from ni_sub (b := 1) (by omega), ni_mul, ni_add]
      exact fin _ (by omega)
end WGT
theorem A33 : ∀ a1, Alike 209 211 [vi a1] := fun a1 => by
  intro h s hs V c m
  have R : ∃ (v : Int32) (s' : Sg), Vs s' ∧ HC 209 [vi a1] s (vi v) s' ∧ HM 211 [vi a1] s (vi v) s' := by
    rcases rg a1 (sS s) with ⟨t, ht, rfl⟩ | hn
    · obtain ⟨f, mf, f24⟩ := mx_ex V ht hs m
      refine ⟨ni (wgt s t f), s, V, HC_q V fun h hs c => ?_, HM_q V fun h hs c => ?_⟩
      · obtain ⟨h1, d, k⟩ := D208 hs V c ht mf f24
        refine ⟨h1, ?_, Kg_mono (fun a k z => z.1) k⟩
        rw [d_209 hs, D23t hs V c ht]
        simp only [Option.bind_some, Option.toList_some, List.cons_append, List.nil_append]
        rw [e_209_8 hs, if_neg (show ¬ ni 1 = 0 by decide), d]
        simp only [Option.bind_some, Option.toList_some, List.cons_append, List.nil_append]
        exact e_209_22 (Kg_Sh k hs)
      · obtain ⟨h1, d, k⟩ := D210 (hb_S hs) V (hb_M V c) hb_43 ht mf f24
        refine ⟨h1, ?_, Kg_trans hb_K (Kg_mono (fun a k z => by unfold scS at z; unfold scm; omega) k)⟩
        rw [d_211 hs, D26t hs V c ht]
        simp only [Option.bind_some, Option.toList_some, List.cons_append, List.nil_append]
        rw [e_211_5 hs, if_neg (show ¬ ni 1 = 0 by decide), hb_e c, d]
        simp only [Option.bind_some, Option.toList_some, List.cons_append, List.nil_append]
        exact e_211_27 (Kg_Sh k (hb_S hs))
    · exact refg V 1 (by omega) (fun h hs c => by
        rw [d_209 hs, D23f hs V c hn]; simp (disch := first | assumption | omega | (simp only [Sh_pI, Sh_pL, Sh_pIs, Sh_pLs]; assumption)) only [↓ixb, Option.bind_some, Option.bind_none, Option.toList_some, Option.toList_none, List.cons_append, List.nil_append, ni_lit, ni_of, ni_add, ni_mul, ni_sub, ni_div, ni_lt, ni_le, ni_eq, ng_lt, ng_le, ng_lt', ng_le', ng_eq, ng_eq', ng_ng, Int32.neg_neg, ix_ni, if_pos, if_neg, reduceIte, e_209_8, D7, e_209_16]) (fun h hs c => by
        rw [d_211 hs, D26f hs V c hn]; simp (disch := first | assumption | omega | (simp only [Sh_pI, Sh_pL, Sh_pIs, Sh_pLs]; assumption)) only [↓ixb, Option.bind_some, Option.bind_none, Option.toList_some, Option.toList_none, List.cons_append, List.nil_append, ni_lit, ni_of, ni_add, ni_mul, ni_sub, ni_div, ni_lt, ni_le, ni_eq, ng_lt, ng_le, ng_lt', ng_le', ng_eq, ng_eq', ng_ng, Int32.neg_neg, ix_ni, if_pos, if_neg, reduceIte, e_211_5, D10, e_211_13])
  obtain ⟨v, s', V', a, b⟩ := R
  obtain ⟨h1, h2, q⟩ := glue9 hs V c m V' a b
  exact ⟨v, h1, h2, s', q⟩
