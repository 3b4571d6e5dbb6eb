/-! WHAT A METHOD DOES, AS A PARTIAL FUNCTION: the abstract machine's run without its fuel -/
theorem am_more {P : Nat → Nat → Option am_I} {fm : Nat → am_M} : ∀ (n k y : Nat) (f : am_F) (x : Option am_V × am_H), am_run P fm n y f = some x → am_run P fm (n + k) y f = some x := by
  intro n
  induction n with
  | zero => intro k y f x h; cases h
  | succ n ih =>
    intro k y f x h
    rw [show n + 1 + k = (n + k) + 1 by omega]
    unfold am_run at h ⊢
    cases hp : P y f.1 with
    | none => rw [hp] at h; cases h
    | some i =>
      rw [hp] at h
      dsimp only at h ⊢
      cases hi : i f with
      | none => rw [hi] at h; cases h
      | some o =>
        rw [hi] at h
        rcases o with f' | ⟨z, as, f'⟩ | r
        · exact ih k y f' x h
        · dsimp only at h ⊢
          split at h
          · rename_i hl
            rw [if_pos hl]
            cases hc : am_run P fm n z (0, am_init (fm z).2.2.1 as, [], f'.2.2.2) with
            | none => rw [hc] at h; cases h
            | some q =>
              rw [hc] at h
              rw [ih k z _ q hc]
              exact ih k y _ x h
          · cases h
        · exact h
noncomputable def am_E (y : Nat) (f : am_F) : Option (Option am_V × am_H) := @dite _ (∃ n, (am_run am_P am_fm n y f).isSome = true) (Classical.propDecidable _) (fun h => am_run am_P am_fm h.choose y f) (fun _ => none)
/-- a method's answer and its heap, from its arguments and a heap -/
noncomputable def am_D (y : Nat) (as : List am_V) (h : am_H) : Option (Option am_V × am_H) := am_E y (0, am_init (am_fm y).2.2.1 as, [], h)
theorem E_iff {y : Nat} {f : am_F} {x : Option am_V × am_H} : am_E y f = some x ↔ ∃ n, am_run am_P am_fm n y f = some x := by
  unfold am_E
  constructor
  · intro h
    by_cases hc : ∃ n, (am_run am_P am_fm n y f).isSome = true
    · rw [dif_pos hc] at h
      exact ⟨_, h⟩
    · rw [dif_neg hc] at h
      cases h
  · rintro ⟨n, hn⟩
    have hc : ∃ n, (am_run am_P am_fm n y f).isSome = true := ⟨n, by rw [hn]; rfl⟩
    rw [dif_pos hc]
    have h2 := hc.choose_spec
    cases hq : am_run am_P am_fm hc.choose y f with
    | none => rw [hq] at h2; cases h2
    | some q =>
      have a1 := am_more _ n y f q hq
      have a2 := am_more _ hc.choose y f x hn
      rw [Nat.add_comm, a2] at a1
      cases a1
      rfl
theorem E_ext {y z : Nat} {f g : am_F} (h : ∀ x, (∃ n, am_run am_P am_fm n y f = some x) ↔ ∃ n, am_run am_P am_fm n z g = some x) : am_E y f = am_E z g := by
  apply Option.ext
  intro x
  rw [E_iff, E_iff]
  exact h x
theorem E_s {y : Nat} {f f' : am_F} {i : am_I} (hP : am_P y f.1 = some i) (hi : i f = some (.inl f')) : am_E y f = am_E y f' := by
  apply E_ext
  intro x
  constructor
  · rintro ⟨n, hn⟩
    cases n with
    | zero => cases hn
    | succ n =>
      unfold am_run at hn
      rw [hP] at hn
      dsimp only at hn
      rw [hi] at hn
      exact ⟨n, hn⟩
  · rintro ⟨n, hn⟩
    refine ⟨n + 1, ?_⟩
    unfold am_run
    rw [hP]
    dsimp only
    rw [hi]
    exact hn
theorem E_r {y : Nat} {f : am_F} {i : am_I} {r : Option am_V × am_H} (hP : am_P y f.1 = some i) (hi : i f = some (.inr (.inr r))) : am_E y f = some r := by
  rw [E_iff]
  refine ⟨1, ?_⟩
  unfold am_run
  rw [hP]
  dsimp only
  rw [hi]
theorem E_n {y : Nat} {f : am_F} {i : am_I} (hP : am_P y f.1 = some i) (hi : i f = none) : am_E y f = none := by
  cases h : am_E y f with
  | none => rfl
  | some x =>
    rw [E_iff] at h
    obtain ⟨n, hn⟩ := h
    cases n with
    | zero => cases hn
    | succ n =>
      unfold am_run at hn
      rw [hP] at hn
      dsimp only at hn
      rw [hi] at hn
      cases hn
theorem E_c {y z : Nat} {f f' : am_F} {i : am_I} {as : List am_V} (hP : am_P y f.1 = some i) (hi : i f = some (.inr (.inl (z, as, f')))) (hl : (am_in0 as).length ≤ (am_fm z).2.2.1) : am_E y f = (am_D z as f'.2.2.2).bind fun x => am_E y (f'.1, f'.2.1, x.1.toList ++ f'.2.2.1, x.2) := by
  apply Option.ext
  intro x
  rw [E_iff, Option.bind_eq_some_iff]
  constructor
  · rintro ⟨n, hn⟩
    cases n with
    | zero => cases hn
    | succ n =>
      unfold am_run at hn
      rw [hP] at hn
      dsimp only at hn
      rw [hi] at hn
      dsimp only at hn
      rw [if_pos hl] at hn
      cases hc : am_run am_P am_fm n z (0, am_init (am_fm z).2.2.1 as, [], f'.2.2.2) with
      | none => rw [hc] at hn; cases hn
      | some q =>
        rw [hc] at hn
        exact ⟨q, E_iff.mpr ⟨n, hc⟩, E_iff.mpr ⟨n, hn⟩⟩
  · rintro ⟨q, h1, h2⟩
    obtain ⟨n1, h1⟩ := E_iff.mp h1
    obtain ⟨n2, h2⟩ := E_iff.mp h2
    refine ⟨n1 + n2 + 1, ?_⟩
    unfold am_run
    rw [hP]
    dsimp only
    rw [hi]
    dsimp only
    rw [if_pos hl, am_more n1 n2 z _ q h1]
    have := am_more n2 n1 y _ x h2
    rw [Nat.add_comm] at this
    exact this
-- one instruction after another
section AMX
variable {y pc pc' : Nat} {L : am_L} {st : List am_V} {h : am_H} {t : Option (Option am_V × am_H)}
theorem x_s {i : am_I} (f' : am_F) (hP : am_P y pc = some i) (hi : i (pc, L, st, h) = some (.inl f')) (k : am_E y f' = t) : am_E y (pc, L, st, h) = t := (E_s hP hi).trans k
theorem x_r {i : am_I} (r : Option am_V × am_H) (hP : am_P y pc = some i) (hi : i (pc, L, st, h) = some (.inr (.inr r))) : am_E y (pc, L, st, h) = some r := E_r hP hi
theorem x_if {i : am_I} {c : Prop} [Decidable c] {t1 t2 : Option (Option am_V × am_H)} (f1 f2 : am_F) (hP : am_P y pc = some i) (hi : i (pc, L, st, h) = some (.inl (if c then f1 else f2))) (k1 : am_E y f1 = t1) (k2 : am_E y f2 = t2) : am_E y (pc, L, st, h) = if c then t1 else t2 := by
  rw [E_s hP hi]
  split
  · exact k1
  · exact k2
theorem x_nif {i : am_I} {c : Prop} [Decidable c] {t1 t2 : Option (Option am_V × am_H)} (f1 f2 : am_F) (hP : am_P y pc = some i) (hi : i (pc, L, st, h) = some (.inl (if ¬ c then f2 else f1))) (k1 : am_E y f1 = t1) (k2 : am_E y f2 = t2) : am_E y (pc, L, st, h) = if c then t1 else t2 := by
  rw [E_s hP hi]
  by_cases hc : c
  · rw [if_pos hc, if_neg (fun z => z hc)]; exact k1
  · rw [if_neg hc, if_pos hc]; exact k2
theorem x_zret {x : Int32} (hP : am_P y pc = some i_zret) : am_E y (pc, L, [vi x], h) = if x = 0 ∨ x = 1 then some (some (vi x), h) else none := by
  by_cases hc : x = 0 ∨ x = 1
  · rw [if_pos hc]; exact E_r hP (by unfold i_zret; exact if_pos hc)
  · rw [if_neg hc]; exact E_n hP (by unfold i_zret; exact if_neg hc)
theorem x_cond {i : am_I} {c : Prop} [Decidable c] (f' : am_F) (hP : am_P y pc = some i) (hi : i (pc, L, st, h) = if c then some (.inl f') else none) (k : c → am_E y f' = t) : am_E y (pc, L, st, h) = if c then t else none := by
  by_cases hc : c
  · rw [if_pos hc] at hi ⊢; exact (E_s hP hi).trans (k hc)
  · rw [if_neg hc] at hi ⊢; exact E_n hP hi
theorem x_bind {i : am_I} {α : Type} {o : Option α} {u : α → Option (Option am_V × am_H)} (g : α → am_F) (hP : am_P y pc = some i) (hi : i (pc, L, st, h) = o.bind fun j => some (.inl (g j))) (k : ∀ j, o = some j → am_E y (g j) = u j) : am_E y (pc, L, st, h) = o.bind u := by
  cases o with
  | none => exact E_n hP hi
  | some j => exact (E_s hP hi).trans (k j rfl)
/-- a reference that may be null -/
theorem x_drf {i : am_I} {o : Option Nat} {u : Nat → Option (Option am_V × am_H)} (g : Option Nat → am_F) (hP : am_P y (g none).1 = some i) (hn : i (g none) = none) (k : ∀ a, o = some a → am_E y (g (some a)) = u a) : am_E y (g o) = o.bind u := by
  cases o with
  | none => exact E_n hP hn
  | some a => exact k a rfl
theorem x_call {z : Nat} {i : am_I} {as : List am_V} {st' : List am_V} (hP : am_P y pc = some i) (hi : i (pc, L, st, h) = some (.inr (.inl (z, as, (pc', L, st', h))))) (hl : (am_in0 as).length ≤ (am_fm z).2.2.1) : am_E y (pc, L, st, h) = (am_D z as h).bind fun x => am_E y (pc', L, x.1.toList ++ st', x.2) := E_c hP hi hl
theorem x_vcall {i : am_I} {as : List am_V} {st' : List am_V} {tb : List (Nat × Nat)} {kd : Nat} (hP : am_P y pc = some i) (hi : i (pc, L, st, h) = (am_lk tb kd).bind fun z => some (.inr (.inl (z, as, (pc', L, st', h))))) (hl : (tb.all fun q => Nat.ble (am_in0 as).length (am_fm q.2).2.2.1) = true) : am_E y (pc, L, st, h) = (am_lk tb kd).bind fun z => (am_D z as h).bind fun x => am_E y (pc', L, x.1.toList ++ st', x.2) := by
  cases hk : am_lk tb kd with
  | none => rw [hk] at hi; exact E_n hP hi
  | some z => rw [hk] at hi; exact E_c hP hi (Nat.le_of_ble_eq_true (List.all_eq_true.mp hl _ (am_lk_mem hk)))
end AMX
-- instructions whose answer hangs on what is known of the cells
section AMY1
variable {pc na : Nat} {L : am_L} {st rest9 : List am_V} {h : am_H} {a n j k : Nat} {kd : Nat × Nat} {cs : List Nat} {x i : Int32} {v : Int64} {r : Option Nat}
theorem v_idv {g : Int32 → Int32 → Int32} {y : Int32} (hz : ¬ y = 0) : i_idv g (pc, L, vi y :: vi x :: st, h) = some (.inl (pc + 1, L, vi (g x y) :: st, h)) := if_neg hz
theorem v_gI (hk : hK h a = kd) (hm : kd.1 ∈ cs) : i_gI cs k (pc, L, vr (some a) :: st, h) = some (.inl (pc + 3, L, vi (hI h a k) :: st, h)) := by
  subst hk; exact if_pos hm
theorem v_gL (hk : hK h a = kd) (hm : kd.1 ∈ cs) : i_gL cs k (pc, L, vr (some a) :: st, h) = some (.inl (pc + 3, L, vl (hL h a k) :: st, h)) := by
  subst hk; exact if_pos hm
theorem v_gR (hk : hK h a = kd) (hm : kd.1 ∈ cs) : i_gR cs k (pc, L, vr (some a) :: st, h) = some (.inl (pc + 3, L, vr (hR h a k) :: st, h)) := by
  subst hk; exact if_pos hm
theorem v_gRs (hk : hK h a = kd) (hm : kd.1 ∈ cs) (hr : hR h a k = r) : i_gR cs k (pc, L, vr (some a) :: st, h) = some (.inl (pc + 3, L, vr r :: st, h)) := by
  subst hk hr; exact if_pos hm
theorem v_gId : i_gI cs k (pc, L, vr (some a) :: st, h) = if (hK h a).1 ∈ cs then some (.inl (pc + 3, L, vi (hI h a k) :: st, h)) else none := rfl
theorem v_gRd : i_gR cs k (pc, L, vr (some a) :: st, h) = if (hK h a).1 ∈ cs then some (.inl (pc + 3, L, vr (hR h a k) :: st, h)) else none := rfl
theorem v_gIw (hm : (hK h a).1 ∈ cs) : i_gI cs k (pc, L, vr (some a) :: st, h) = some (.inl (pc + 3, L, vi (hI h a k) :: st, h)) := if_pos hm
theorem v_gRw (hm : (hK h a).1 ∈ cs) (hr : hR h a k = r) : i_gR cs k (pc, L, vr (some a) :: st, h) = some (.inl (pc + 3, L, vr r :: st, h)) := by
  subst hr; exact if_pos hm
theorem v_pI (hk : hK h a = kd) (hm : kd.1 ∈ cs) : i_pI cs k (pc, L, vi x :: vr (some a) :: st, h) = some (.inl (pc + 3, L, st, pI h a k x)) := by
  subst hk; exact if_pos hm
theorem v_pZ (hk : hK h a = kd) (hm : kd.1 ∈ cs) (hx : x = 0 ∨ x = 1) : i_pZ cs k (pc, L, vi x :: vr (some a) :: st, h) = some (.inl (pc + 3, L, st, pI h a k x)) := by
  subst hk; exact if_pos ⟨hm, hx⟩
theorem v_pR (hk : hK h a = kd) (hm : kd.1 ∈ cs) : i_pR cs k (pc, L, vr r :: vr (some a) :: st, h) = some (.inl (pc + 3, L, st, pR h a k r)) := by
  subst hk; exact if_pos hm
theorem v_pId : i_pI cs k (pc, L, vi x :: vr (some a) :: st, h) = if (hK h a).1 ∈ cs then some (.inl (pc + 3, L, st, pI h a k x)) else none := rfl
theorem v_pRd : i_pR cs k (pc, L, vr r :: vr (some a) :: st, h) = if (hK h a).1 ∈ cs then some (.inl (pc + 3, L, st, pR h a k r)) else none := rfl
theorem v_mix {α β : Type} {o : Option α} {f : α → β} : (match o with | some j => some (f j) | none => none) = o.bind fun j => some (f j) := by cases o <;> rfl
theorem v_iald (hk : hK h a = (100, n)) : i_iald (pc, L, vi i :: vr (some a) :: st, h) = (am_ix i n).bind fun j => some (.inl (pc + 1, L, vi (hI h a j) :: st, h)) := by
  show (if (hK h a).1 = 100 then (match am_ix i (hK h a).2 with | some j => _ | none => none) else none) = _
  rw [hk, if_pos rfl]; cases am_ix i n <;> rfl
theorem v_ialdl (hk : hK h a = (100, n)) (hx : am_ix i n = some j) : i_iald (pc, L, vi i :: vr (some a) :: st, h) = some (.inl (pc + 1, L, vi (hI h a j) :: st, h)) := by
  rw [v_iald hk, hx]; rfl
theorem v_ialdd : i_iald (pc, L, vi i :: vr (some a) :: st, h) = (if (hK h a).1 = 100 then am_ix i (hK h a).2 else none).bind fun j => some (.inl (pc + 1, L, vi (hI h a j) :: st, h)) := by
  show (if (hK h a).1 = 100 then (match am_ix i (hK h a).2 with | some j => _ | none => none) else none) = _
  split
  · cases am_ix i (hK h a).2 <;> rfl
  · rfl
theorem v_lald (hk : hK h a = (101, n)) : i_lald (pc, L, vi i :: vr (some a) :: st, h) = (am_ix i n).bind fun j => some (.inl (pc + 1, L, vl (hL h a j) :: st, h)) := by
  show (if (hK h a).1 = 101 then (match am_ix i (hK h a).2 with | some j => _ | none => none) else none) = _
  rw [hk, if_pos rfl]; cases am_ix i n <;> rfl
theorem v_laldl (hk : hK h a = (101, n)) (hx : am_ix i n = some j) : i_lald (pc, L, vi i :: vr (some a) :: st, h) = some (.inl (pc + 1, L, vl (hL h a j) :: st, h)) := by
  rw [v_lald hk, hx]; rfl
theorem v_laldd : i_lald (pc, L, vi i :: vr (some a) :: st, h) = (if (hK h a).1 = 101 then am_ix i (hK h a).2 else none).bind fun j => some (.inl (pc + 1, L, vl (hL h a j) :: st, h)) := by
  show (if (hK h a).1 = 101 then (match am_ix i (hK h a).2 with | some j => _ | none => none) else none) = _
  split
  · cases am_ix i (hK h a).2 <;> rfl
  · rfl
theorem v_aald {q : Nat × FieldType} (hk : hK h a = kd) (hq : am_rt kd.1 = some q) : i_aald (pc, L, vi i :: vr (some a) :: st, h) = (am_ix i kd.2).bind fun j => some (.inl (pc + 1, L, vr (hR h a j) :: st, h)) := by
  show (match am_rt (hK h a).1 with | some _ => (match am_ix i (hK h a).2 with | some j => _ | none => none) | none => none) = _
  rw [hk, hq]; dsimp only; cases am_ix i kd.2 <;> rfl
theorem v_aaldl {q : Nat × FieldType} (hk : hK h a = kd) (hq : am_rt kd.1 = some q) (hx : am_ix i kd.2 = some j) (hr : hR h a j = r) : i_aald (pc, L, vi i :: vr (some a) :: st, h) = some (.inl (pc + 1, L, vr r :: st, h)) := by
  rw [v_aald hk hq, hx]; subst hr; rfl
theorem v_aaldd {q : Nat × FieldType} {y : Nat} {u : Nat → Option (Option am_V × am_H)} (g : Nat → Nat) (hk : hK h a = kd) (hq : am_rt kd.1 = some q) (hP : am_P y pc = some i_aald) (hg : ∀ j, j < kd.2 → hR h a j = some (g j)) (k : ∀ j, am_ix i kd.2 = some j → j < kd.2 → am_E y (pc + 1, L, vr (some (g j)) :: st, h) = u j) : am_E y (pc, L, vi i :: vr (some a) :: st, h) = (am_ix i kd.2).bind u :=
  x_bind (fun j => (pc + 1, L, vr (hR h a j) :: st, h)) hP (v_aald hk hq) (fun j hj => by
    have hlt : j < kd.2 := by
      unfold am_ix at hj
      split at hj
      · cases hj
      · split at hj
        · cases hj; assumption
        · cases hj
    rw [hg j hlt]; exact k j hj hlt)
theorem v_alen (hk : hK h a = kd) (hm : kd.1 = 100 ∨ kd.1 = 101) : i_alen (pc, L, vr (some a) :: st, h) = some (.inl (pc + 1, L, vi (Int32.ofNat kd.2) :: st, h)) := by
  subst hk; exact if_pos hm
theorem v_alend : i_alen (pc, L, vr (some a) :: st, h) = if (hK h a).1 = 100 ∨ (hK h a).1 = 101 then some (.inl (pc + 1, L, vi (Int32.ofNat (hK h a).2) :: st, h)) else none := rfl
theorem v_iast (hk : hK h a = (100, n)) (ha : 16 ≤ a) : i_iast (pc, L, vi x :: vi i :: vr (some a) :: st, h) = (am_ix i n).bind fun j => some (.inl (pc + 1, L, st, pI h a j x)) := by
  show (if (hK h a).1 = 100 ∧ 16 ≤ a then (match am_ix i (hK h a).2 with | some j => _ | none => none) else none) = _
  rw [hk, if_pos ⟨rfl, ha⟩]; cases am_ix i n <;> rfl
theorem v_iastl (hk : hK h a = (100, n)) (ha : 16 ≤ a) (hx : am_ix i n = some j) : i_iast (pc, L, vi x :: vi i :: vr (some a) :: st, h) = some (.inl (pc + 1, L, st, pI h a j x)) := by
  rw [v_iast hk ha, hx]; rfl
theorem v_iastd : i_iast (pc, L, vi x :: vi i :: vr (some a) :: st, h) = (if (hK h a).1 = 100 ∧ 16 ≤ a then am_ix i (hK h a).2 else none).bind fun j => some (.inl (pc + 1, L, st, pI h a j x)) := by
  show (if (hK h a).1 = 100 ∧ 16 ≤ a then (match am_ix i (hK h a).2 with | some j => _ | none => none) else none) = _
  split
  · cases am_ix i (hK h a).2 <;> rfl
  · rfl
theorem v_last (hk : hK h a = (101, n)) : i_last (pc, L, vl v :: vi i :: vr (some a) :: st, h) = (am_ix i n).bind fun j => some (.inl (pc + 1, L, st, pL h a j v)) := by
  show (if (hK h a).1 = 101 then (match am_ix i (hK h a).2 with | some j => _ | none => none) else none) = _
  rw [hk, if_pos rfl]; cases am_ix i n <;> rfl
theorem v_lastl (hk : hK h a = (101, n)) (hx : am_ix i n = some j) : i_last (pc, L, vl v :: vi i :: vr (some a) :: st, h) = some (.inl (pc + 1, L, st, pL h a j v)) := by
  rw [v_last hk, hx]; rfl
theorem v_lastd : i_last (pc, L, vl v :: vi i :: vr (some a) :: st, h) = (if (hK h a).1 = 101 then am_ix i (hK h a).2 else none).bind fun j => some (.inl (pc + 1, L, st, pL h a j v)) := by
  show (if (hK h a).1 = 101 then (match am_ix i (hK h a).2 with | some j => _ | none => none) else none) = _
  split
  · cases am_ix i (hK h a).2 <;> rfl
  · rfl
theorem v_aast {t : Nat} (hk : hK h a = (t, n)) : i_aast t cs (pc, L, vr r :: vi i :: vr (some a) :: st, h) = (if am_okr h r cs = true then am_ix i n else none).bind fun j => some (.inl (pc + 1, L, st, pR h a j r)) := by
  show (if (hK h a).1 = t ∧ am_okr h r cs = true then (match am_ix i (hK h a).2 with | some j => _ | none => none) else none) = _
  rw [hk]
  by_cases hc : am_okr h r cs = true
  · rw [if_pos ⟨rfl, hc⟩, if_pos hc]; dsimp only; cases am_ix i n <;> rfl
  · rw [if_neg (fun z => hc z.2), if_neg hc]; rfl
theorem v_cv {tb : List (Nat × Nat)} {z : Nat} {as : List am_V} (hk : hK h a = kd) (hz : am_lk tb kd.1 = some z) (hd : st.drop na = vr (some a) :: rest9) (hc : am_cats rest9 ≤ 8) (has : vr (some a) :: (st.take na).reverse = as) : i_cv tb na (pc, L, st, h) = some (.inr (.inl (z, as, (pc + 3, L, rest9, h)))) := by
  show (match st.drop na with | .inr (.inr (some a)) :: rest => (match am_lk tb (hK h a).1 with | some y => if am_cats rest ≤ 8 then _ else none | none => none) | _ => none) = _
  rw [hd]
  dsimp only
  rw [hk, hz]
  dsimp only
  rw [if_pos hc, has]
theorem v_cvd {tb : List (Nat × Nat)} {as : List am_V} (hd : st.drop na = vr (some a) :: rest9) (hc : am_cats rest9 ≤ 8) (has : vr (some a) :: (st.take na).reverse = as) : i_cv tb na (pc, L, st, h) = (am_lk tb (hK h a).1).bind fun z => some (.inr (.inl (z, as, (pc + 3, L, rest9, h)))) := by
  show (match st.drop na with | .inr (.inr (some a)) :: rest => (match am_lk tb (hK h a).1 with | some y => if am_cats rest ≤ 8 then _ else none | none => none) | _ => none) = _
  rw [hd]
  dsimp only
  cases am_lk tb (hK h a).1 with
  | none => rfl
  | some z =>
    dsimp only
    rw [if_pos hc, has]
    rfl
theorem v_su {z : Nat} {as : List am_V} (hm : (hK h a).1 ∈ cs) (hd : st.drop na = vr (some a) :: rest9) (hc : am_cats rest9 ≤ 8) (has : vr (some a) :: (st.take na).reverse = as) : i_su z na cs (pc, L, st, h) = some (.inr (.inl (z, as, (pc + 3, L, rest9, h)))) := by
  show (match st.drop na with | .inr (.inr (some a)) :: rest => if (hK h a).1 ∈ cs ∧ am_cats rest ≤ 8 then _ else none | _ => none) = _
  rw [hd]
  dsimp only
  rw [if_pos ⟨hm, hc⟩, has]
theorem v_acI {d nd : Nat} {sp dp m : Int32} (hk : hK h a = (100, n)) (hk2 : hK h d = (100, nd)) (hd : 16 ≤ d) (hc : am_cats st ≤ 8) : i_acI (pc, L, vi m :: vi dp :: vr (some d) :: vi sp :: vr (some a) :: st, h) = if ¬ sp < 0 ∧ ¬ dp < 0 ∧ ¬ m < 0 ∧ sp.toNatClampNeg + m.toNatClampNeg ≤ n ∧ dp.toNatClampNeg + m.toNatClampNeg ≤ nd then some (.inl (pc + 3, L, st, pIs h d (va_cpy (hI h a) (hI h d) sp.toNatClampNeg dp.toNatClampNeg m.toNatClampNeg))) else none := by
  show (if (hK h a).1 = 100 ∧ (hK h d).1 = 100 ∧ 16 ≤ d ∧ am_cats st ≤ 8 ∧ (¬ sp < 0 ∧ ¬ dp < 0 ∧ ¬ m < 0 ∧ sp.toNatClampNeg + m.toNatClampNeg ≤ (hK h a).2 ∧ dp.toNatClampNeg + m.toNatClampNeg ≤ (hK h d).2) then _ else none) = _
  rw [hk, hk2]
  dsimp only
  congr 1
  exact propext ⟨fun z => z.2.2.2.2, fun z => ⟨rfl, rfl, hd, hc, z⟩⟩
theorem v_acId {d : Nat} {sp dp m : Int32} : i_acI (pc, L, vi m :: vi dp :: vr (some d) :: vi sp :: vr (some a) :: st, h) = if (hK h a).1 = 100 ∧ (hK h d).1 = 100 ∧ 16 ≤ d ∧ am_cats st ≤ 8 ∧ (¬ sp < 0 ∧ ¬ dp < 0 ∧ ¬ m < 0 ∧ sp.toNatClampNeg + m.toNatClampNeg ≤ (hK h a).2 ∧ dp.toNatClampNeg + m.toNatClampNeg ≤ (hK h d).2) then some (.inl (pc + 3, L, st, pIs h d (va_cpy (hI h a) (hI h d) sp.toNatClampNeg dp.toNatClampNeg m.toNatClampNeg))) else none := rfl
theorem v_acL {d nd : Nat} {sp dp m : Int32} (hk : hK h a = (101, n)) (hk2 : hK h d = (101, nd)) (hc : am_cats st ≤ 8) : i_acL (pc, L, vi m :: vi dp :: vr (some d) :: vi sp :: vr (some a) :: st, h) = if ¬ sp < 0 ∧ ¬ dp < 0 ∧ ¬ m < 0 ∧ sp.toNatClampNeg + m.toNatClampNeg ≤ n ∧ dp.toNatClampNeg + m.toNatClampNeg ≤ nd then some (.inl (pc + 3, L, st, pLs h d (va_cpy (hL h a) (hL h d) sp.toNatClampNeg dp.toNatClampNeg m.toNatClampNeg))) else none := by
  show (if (hK h a).1 = 101 ∧ (hK h d).1 = 101 ∧ am_cats st ≤ 8 ∧ (¬ sp < 0 ∧ ¬ dp < 0 ∧ ¬ m < 0 ∧ sp.toNatClampNeg + m.toNatClampNeg ≤ (hK h a).2 ∧ dp.toNatClampNeg + m.toNatClampNeg ≤ (hK h d).2) then _ else none) = _
  rw [hk, hk2]
  dsimp only
  congr 1
  exact propext ⟨fun z => z.2.2.2, fun z => ⟨rfl, rfl, hc, z⟩⟩
end AMY1
theorem x_na {y pc : Nat} {L : am_L} {st : List am_V} {h : am_H} {t : Option (Option am_V × am_H)} {i : am_I} {n : Int32} (f' : am_F) (hP : am_P y pc = some i) (hi : i (pc, L, st, h) = if n < 0 then none else if n.toNatClampNeg ≤ 10000 then some (.inl f') else none) (k : am_E y f' = t) : am_E y (pc, L, st, h) = if n < 0 then none else if n.toNatClampNeg ≤ 10000 then t else none := by
  by_cases h1 : n < 0
  · rw [if_pos h1] at hi ⊢; exact E_n hP hi
  · rw [if_neg h1] at hi ⊢
    by_cases h2 : n.toNatClampNeg ≤ 10000
    · rw [if_pos h2] at hi ⊢; exact (E_s hP hi).trans k
    · rw [if_neg h2] at hi ⊢; exact E_n hP hi
theorem x_inst {y pc : Nat} {L : am_L} {st : List am_V} {h : am_H} {t1 t2 : Option (Option am_V × am_H)} {i : am_I} {q : Nat} {cy cn : List Nat} (f1 f2 : am_F) (hP : am_P y pc = some i) (hi : i (pc, L, st, h) = if q ∈ cy then some (.inl f1) else if q ∈ cn then some (.inl f2) else none) (k1 : am_E y f1 = t1) (k2 : am_E y f2 = t2) : am_E y (pc, L, st, h) = if q ∈ cy then t1 else if q ∈ cn then t2 else none := by
  by_cases h1 : q ∈ cy
  · rw [if_pos h1] at hi ⊢; exact (E_s hP hi).trans k1
  · rw [if_neg h1] at hi ⊢
    by_cases h2 : q ∈ cn
    · rw [if_pos h2] at hi ⊢; exact (E_s hP hi).trans k2
    · rw [if_neg h2] at hi ⊢; exact E_n hP hi
theorem x_nret {y pc : Nat} {L : am_L} {h : am_H} {ty : FieldType} {x : Int32} (hP : am_P y pc = some (i_nret ty)) : am_E y (pc, L, [vi x], h) = if narrow ty (.int x) = .int x then some (some (vi x), h) else none := by
  by_cases hc : narrow ty (.int x) = .int x
  · rw [if_pos hc]; exact E_r hP (by unfold i_nret; exact if_pos hc)
  · rw [if_neg hc]; exact E_n hP (by unfold i_nret; exact if_neg hc)
theorem x_su {y pc pc' z q : Nat} {L : am_L} {st st' : List am_V} {h : am_H} {i : am_I} {as : List am_V} {cs : List Nat} (hP : am_P y pc = some i) (hi : q ∈ cs → i (pc, L, st, h) = some (.inr (.inl (z, as, (pc', L, st', h))))) (hn : ¬ q ∈ cs → i (pc, L, st, h) = none) (hl : (am_in0 as).length ≤ (am_fm z).2.2.1) : am_E y (pc, L, st, h) = if q ∈ cs then (am_D z as h).bind fun x => am_E y (pc', L, x.1.toList ++ st', x.2) else none := by
  by_cases hc : q ∈ cs
  · rw [if_pos hc]; exact E_c hP (hi hc) hl
  · rw [if_neg hc]; exact E_n hP (hn hc)
section AMY2
variable {pc na : Nat} {L : am_L} {st rest9 : List am_V} {h : am_H} {a n j k : Nat} {kd : Nat × Nat} {cs : List Nat} {x i : Int32} {v : Int64} {r : Option Nat}
theorem v_sun {z : Nat} (hm : ¬ (hK h a).1 ∈ cs) (hd : st.drop na = vr (some a) :: rest9) : i_su z na cs (pc, L, st, h) = none := by
  show (match st.drop na with | .inr (.inr (some a)) :: rest => if (hK h a).1 ∈ cs ∧ am_cats rest ≤ 8 then _ else none | _ => none) = _
  rw [hd]
  dsimp only
  rw [if_neg (fun z => hm z.1)]
theorem v_cS {z : Nat} {as : List am_V} (ha : 2 ≤ a ∧ a < 7) (hd : st.drop na = vr (some a) :: rest9) (hc : am_cats rest9 ≤ 8) (has : vr (some a) :: (st.take na).reverse = as) : i_cS z na (pc, L, st, h) = some (.inr (.inl (z, as, (pc + 3, L, rest9, h)))) := by
  show (match st.drop na with | .inr (.inr (some a)) :: rest => if (2 ≤ a ∧ a < 7) ∧ am_cats rest ≤ 8 then _ else none | _ => none) = _
  rw [hd]
  dsimp only
  rw [if_pos ⟨ha, hc⟩, has]
theorem v_gsv (ha : 2 ≤ a ∧ a < 7) : i_gsv (pc, L, vr (some a) :: st, h) = some (.inl (pc + 3, L, vr (some (a + 5)) :: st, h)) := if_pos ha
theorem v_gsc (ha : 2 ≤ a ∧ a < 7) : i_gsc (pc, L, vr (some a) :: st, h) = some (.inl (pc + 3, L, vi 0 :: st, h)) := if_pos ha
theorem v_bln (ha : 7 ≤ a ∧ a < 12) : i_bln (pc, L, vr (some a) :: st, h) = some (.inl (pc + 1, L, vi (Int32.ofNat (am_byt (a - 7)).length) :: st, h)) := if_pos ha
theorem v_bln5 (ha : 2 ≤ a ∧ a < 7) : i_bln (pc, L, vr (some (a + 5)) :: st, h) = some (.inl (pc + 1, L, vi (Int32.ofNat (am_byt (a - 2)).length) :: st, h)) := by
  have e : a + 5 - 7 = a - 2 := by omega
  have := v_bln (pc := pc) (L := L) (st := st) (h := h) (a := a + 5) (by omega)
  rw [e] at this
  exact this
theorem v_bld (ha : 7 ≤ a ∧ a < 12) : i_bld (pc, L, vi i :: vr (some a) :: st, h) = (am_ix i (am_byt (a - 7)).length).bind fun j => some (.inl (pc + 1, L, vi ((am_byt (a - 7)).getD j 0) :: st, h)) := by
  show (if 7 ≤ a ∧ a < 12 then (match am_ix i (am_byt (a - 7)).length with | some j => _ | none => none) else none) = _
  rw [if_pos ha]; cases am_ix i (am_byt (a - 7)).length <;> rfl
theorem v_cln (hk : hK h a = (100, n)) (ha : 16 ≤ a) (hc : am_cats st ≤ 8) : i_cln (pc, L, vr (some a) :: st, h) = some (.inl (pc + 3, L, vr (some (hN h)) :: st, pIs (al h (100, n) n) (hN h) (hI h a))) := by
  show (if (hK h a).1 = 100 ∧ 16 ≤ a ∧ am_cats st ≤ 8 then _ else none) = _
  rw [hk, if_pos ⟨rfl, ha, hc⟩]
end AMY2
