/-! cut -/
theorem lg_eq {x y : Int64} (h : lg_cmp x y = 0) : x = y := by
  unfold lg_cmp at h
  split at h
  · exact absurd h (by decide)
  · split at h
    · assumption
    · exact absurd h (by decide)
/-- nothing of adj leads out of S -/
def cl (adj : Nat → Nat → Bool) (S : Nat → Bool) : Prop := ∀ a b, a < 49 → b < 49 → adj a b = true → S (nu a) = true → S (nu b) = true
def adO (adj : Nat → Nat → Bool) (m : Nat) : Nat → Nat → Bool := fun a b => adj a b || ((a == m) && (b == 24 + m))
theorem cl_O {adj : Nat → Nat → Bool} {m : Nat} (hm : m < 24) {S : Nat → Bool} : cl (adO adj m) S ↔ cl adj S ∧ Xs S m = false := by
  constructor
  · intro h
    refine ⟨fun a b ha hb e => h a b ha hb (by unfold adO; rw [e]; rfl), ?_⟩
    cases y : Xs S m
    · rfl
    · obtain ⟨y1, y2⟩ := Xs_t.mp y
      have := h m (24 + m) (by omega) (by omega) (by unfold adO; rw [beq_self_eq_true, beq_self_eq_true]; cases adj m (24 + m) <;> rfl) (by rw [nu_i hm]; exact y1)
      rw [nu_o hm, y2] at this; cases this
  · rintro ⟨h, x⟩ a b ha hb e s
    unfold adO at e
    rw [Bool.or_eq_true, Bool.and_eq_true] at e
    rcases e with e | ⟨e1, e2⟩
    · exact h a b ha hb e s
    · rw [beq_iff_eq.mp e1, nu_i hm] at s
      rw [beq_iff_eq.mp e2, nu_o hm]
      cases y : S (2 * m + 1)
      · rw [Xs_t.mpr ⟨s, y⟩] at x; cases x
      · rfl
section CTC
theorem RB_O {h : am_H} {adj : Nat → Nat → Bool} {m : Nat} (hm : m < 24) (r : RB h adj) : RB (pL h 256 m (hL h 256 m ||| ((1 : Int64) <<< ((ni (24 + m)).toInt64 &&& 63)))) (adO adj m) := fun u hu k hk => by
  rw [hL_pL]
  unfold adO
  by_cases y : u = m
  · rw [if_pos ⟨rfl, y⟩, bl_or, r m (by omega) k hk, bl_one (24 + m) (by omega) k hk, y, beq_self_eq_true, Bool.true_and]
    by_cases z : k = 24 + m
    · rw [decide_eq_true z, beq_iff_eq.mpr z, decide_eq_true (show k < 49 by omega), Bool.or_true, Bool.or_true]; rfl
    · rw [decide_eq_false z, beq_eq_false_iff_ne.mpr z, Bool.or_false, Bool.or_false]
  · rw [if_neg (fun w => y w.2), beq_eq_false_iff_ne.mpr y, Bool.false_and, Bool.or_false]
    exact r u hu k hk
theorem D192 {h : am_H} {adj : Nat → Nat → Bool} {T m : Nat} (hT : T < 24) (hm : m < 24) (hs : Sh h) (h0 : hI h 254 0 = ni T) (r : RB h adj) (ex : ∃ S, Cut (2 * T) S ∧ cl adj S) : ∃ h1 b adj1, am_D 192 [vr (some 254), vi (ni m)] h = some (some (vi (bi b)), h1) ∧ Kg (fun a _ => a = 256 ∨ a = 257) h h1 ∧ RB h1 adj1 ∧ (b = false → (∃ S, Cut (2 * T) S ∧ cl adj S ∧ Xs S m = false) ∧ ∀ S, cl adj1 S ↔ cl adj S ∧ Xs S m = false) ∧ (b = true → (∀ S, Cut (2 * T) S → cl adj S → Xs S m = true) ∧ ∀ S, cl adj1 S ↔ cl adj S) := by
  have b0 := d_192 (x1 := ni m) hs
  rw [ixb _ (show m < 49 by omega) (by omega), ixb _ (show m < 49 by omega) (by omega), ixb _ (show m < 49 by omega) (by omega), ixb _ (show m < 49 by omega) (by omega), show (24 : Int32) + ni m = ni (24 + m) by rw [show (24 : Int32) = ni 24 from rfl, ni_add]] at b0
  have r1 := RB_O hm r
  have k1 : Kg (fun a _ => a = 256 ∨ a = 257) h (pL h 256 m (hL h 256 m ||| ((1 : Int64) <<< ((ni (24 + m)).toInt64 &&& 63)))) := Kg_pL (Or.inl rfl) (Kg_refl h)
  have hs1 := Kg_Sh k1 hs
  by_cases e : lg_cmp (hL (pL h 256 m (hL h 256 m ||| ((1 : Int64) <<< ((ni (24 + m)).toInt64 &&& 63)))) 256 m) (hL h 256 m) = 0
  · rw [if_pos e] at b0
    refine ⟨_, false, adO adj m, b0, k1, r1, fun _ => ⟨?_, fun S => cl_O hm⟩, fun z => by cases z⟩
    obtain ⟨S, u, c⟩ := ex
    refine ⟨S, u, c, ?_⟩
    have e2 := lg_eq e
    have a1 := r m (by omega) (24 + m) (by omega)
    have a2 := r1 m (by omega) (24 + m) (by omega)
    rw [e2, a1] at a2
    have a3 : adO adj m m (24 + m) = true := by
      unfold adO
      rw [beq_self_eq_true, beq_self_eq_true]; cases adj m (24 + m) <;> rfl
    rw [a3, decide_eq_true (show 24 + m < 49 by omega), Bool.true_and, Bool.true_and] at a2
    cases y : Xs S m
    · rfl
    · obtain ⟨y1, y2⟩ := Xs_t.mp y
      have := c m (24 + m) (by omega) (by omega) a2 (by rw [nu_i hm]; exact y1)
      rw [nu_o hm, y2] at this; cases this
  · rw [if_neg e] at b0
    obtain ⟨h2, par, rk, sn, d2, k2, f1, f2, f3, f4, f5⟩ := D181 (adj := adO adj m) hT hs1 r1 (by rw [k1.2.2.2.2.1 254 0 (by omega)]; exact h0)
    have hs2 := Kg_Sh k2 hs1
    have kk2 : Kg (fun a _ => a = 256 ∨ a = 257) h h2 := Kg_trans k1 (Kg_mono (fun a k z => Or.inr z) k2)
    rw [d2] at b0
    simp only [Option.bind_some, Option.toList_some, List.cons_append, List.nil_append] at b0
    rw [e_192_37 hs2] at b0
    cases sT : sn T
    · rw [sT, if_pos (show bi false = 0 from rfl)] at b0
      refine ⟨h2, false, adO adj m, b0, kk2, RB_fr (fun k => by omega) k2 r1, fun _ => ⟨?_, fun S => cl_O hm⟩, fun z => by cases z⟩
      have c1 : cl (adO adj m) (fun y => sn (psi y)) := fun a b ha hb e s => by
        have s' : sn (psi (nu a)) = true := s
        show sn (psi (nu b)) = true
        rw [psi_nu ha] at s'
        rw [psi_nu hb]
        exact f3 a b hb s' e
      have c2 := (cl_O hm).mp c1
      refine ⟨fun y => sn (psi y), ⟨f5, ?_⟩, c2.1, c2.2⟩
      show sn (psi (2 * T)) = false
      rw [← nu_i hT, psi_nu (by omega)]; exact sT
    · rw [sT, if_neg (show ¬ bi true = 0 by decide), ixb _ (show m < 49 by omega) (by omega)] at b0
      refine ⟨_, true, adj, b0, Kg_pL (Or.inl rfl) kk2, fun u hu k hk => ?_, fun z => (by cases z), fun _ => ⟨fun S u c => ?_, fun S => Iff.rfl⟩⟩
      · rw [hL_pL]
        by_cases y : u = m
        · rw [if_pos ⟨rfl, y⟩, y]; exact r m (by omega) k hk
        · rw [if_neg (fun w => y w.2), k2.2.2.2.2.2 _ _ (by omega), hL_pL, if_neg (fun w => y w.2)]
          exact r u hu k hk
      · cases y : Xs S m
        · exfalso
          have c' := (cl_O hm).mpr ⟨c, y⟩
          have key : ∀ n x, rk x ≤ n → sn x = true → S (nu x) = true := by
            intro n
            induction n with
            | zero =>
              intro x hx sx
              by_cases z : x = 48
              · rw [z]; exact u.1
              · obtain ⟨t1, t2, t3, t4, t5⟩ := f2 x sx z
                omega
            | succ n ih =>
              intro x hx sx
              by_cases z : x = 48
              · rw [z]; exact u.1
              · obtain ⟨t1, t2, t3, t4, t5⟩ := f2 x sx z
                have t2' : sn (par x) = true := t2
                refine c' (par x) x t3 t1 ?_ (ih (par x) (by omega) t2')
                unfold adN at t5
                cases w : adO adj m (par x) x
                · rw [w, if_neg (by decide)] at t5; omega
                · rfl
          have := key (rk T) T (Nat.le_refl _) sT
          rw [nu_i hT, u.2] at this; cases this
        · rfl
variable {B : Nat → Bool} {A : Nat → Nat → Bool} {T f : Nat}
def xk (k : Nat) : Int32 := if k < 24 then ni (23 - k) else -ni 1
theorem xk_s {k : Nat} (hk : k < 24) : ni (23 - k) + (-1) = xk (k + 1) := by
  unfold xk
  by_cases z : k + 1 < 24
  · rw [if_pos z, show (-1 : Int32) = -ni 1 from rfl, ni_addn (by omega), show 23 - k - 1 = 23 - (k + 1) by omega]
  · rw [if_neg z, show k = 23 by omega]; rfl
theorem cch_or {k : Nat} (hk : k < 24) (p : ∀ S, Fm B A T f (cch B A T f k) k S → Xs S (23 - k) = true) : sb (cch B A T f k) 24 ||| ((1 : Int32) <<< (ni (23 - k) &&& 31)) = sb (cch B A T f (k + 1)) 24 := (sb_or (by omega) (show 23 - k < 24 by omega)).trans (sb_congr fun o _ => (cch_t p o).symm)
theorem cch_ot {k : Nat} (p : ¬ ∀ S, Fm B A T f (cch B A T f k) k S → Xs S (23 - k) = true) : sb (cch B A T f k) 24 = sb (cch B A T f (k + 1)) 24 := sb_congr fun o _ => (cch_f p o).symm
theorem L193 (hT : T < 24) (mf : Mxf (cNt B A (fun _ => 1)) (2 * T) f) : ∀ mm k {h : am_H} {adj : Nat → Nat → Bool}, k + mm = 24 → Sh h → hI h 254 0 = ni T → RB h adj → (∀ S, Fm B A T f (cch B A T f k) k S ↔ Cut (2 * T) S ∧ cl adj S) → ∃ h1, am_E 193 (10, [some (vr (some 254)), some (vi (sb (cch B A T f k) 24)), some (vi (xk k))], [], h) = some (some (vi (sb (cch B A T f 24) 24)), h1) ∧ Kg (fun a _ => a = 256 ∨ a = 257) h h1 := by
  intro mm
  induction mm with
  | zero =>
    intro k h adj hk hs h0 r inv
    have e : k = 24 := by omega
    subst e
    refine ⟨h, ?_, Kg_refl h⟩
    rw [e_193_10 hs, if_pos (show xk 24 < 0 by decide)]
  | succ mm ih =>
    intro k h adj hk hs h0 r inv
    have k24 : k < 24 := by omega
    have m24 : 23 - k < 24 := by omega
    have exk : xk k = ni (23 - k) := if_pos k24
    obtain ⟨⟨S0, a0⟩, _⟩ := cch_inv mf k (by omega)
    have ex : ∃ S, Cut (2 * T) S ∧ cl adj S := ⟨S0, (inv S0).mp a0⟩
    have b0 := e_193_10 (x1 := sb (cch B A T f k) 24) (x2 := ni (23 - k)) hs
    rw [if_neg (show ¬ ni (23 - k) < 0 by rw [show (0 : Int32) = ni 0 from rfl, ni_lt (by omega) (by omega)]; omega), h0] at b0
    rw [exk]
    by_cases z : 23 - k = T
    · rw [if_pos (show ni (23 - k) = ni T by rw [z]), e_193_36 hs, xk_s k24] at b0
      have no : ∀ S, Cut (2 * T) S → Xs S (23 - k) = false := fun S u => by
        rw [z]
        cases y : Xs S T
        · rfl
        · have := (Xs_t.mp y).1
          rw [u.2] at this; cases this
      have p : ¬ ∀ S, Fm B A T f (cch B A T f k) k S → Xs S (23 - k) = true := fun p => by
        have := p S0 a0
        rw [no S0 a0.1] at this; cases this
      obtain ⟨h1, d, kg⟩ := ih (k + 1) (h := h) (adj := adj) (by omega) hs h0 r (fun S => by
        rw [Fm_f k24 p S, inv S]
        exact ⟨fun w => w.1, fun w => ⟨w, no S w.1⟩⟩)
      refine ⟨h1, b0.trans ?_, kg⟩
      rw [cch_ot p]; exact d
    · rw [if_neg (show ¬ ni (23 - k) = ni T by rw [ni_eq (by omega) (by omega)]; exact z)] at b0
      obtain ⟨h1, b, adj1, d1, k1, r1, q1, q2⟩ := D192 hT m24 hs h0 r ex
      have hs1 := Kg_Sh k1 hs
      have h01 : hI h1 254 0 = ni T := by rw [k1.2.2.2.2.1 254 0 (by omega)]; exact h0
      rw [d1] at b0
      simp only [Option.bind_some, Option.toList_some, List.cons_append, List.nil_append] at b0
      rw [e_193_27 hs1] at b0
      cases b
      · obtain ⟨⟨S, u, c, x⟩, c1⟩ := q1 rfl
        have p : ¬ ∀ S, Fm B A T f (cch B A T f k) k S → Xs S (23 - k) = true := fun p => by
          have := p S ((inv S).mpr ⟨u, c⟩)
          rw [x] at this; cases this
        rw [if_pos (show bi false = 0 from rfl), e_193_36 hs1, xk_s k24] at b0
        obtain ⟨h2, d, kg⟩ := ih (k + 1) (h := h1) (adj := adj1) (by omega) hs1 h01 r1 (fun S => by
          rw [Fm_f k24 p S, inv S, c1 S]
          exact ⟨fun w => ⟨w.1.1, w.1.2, w.2⟩, fun w => ⟨⟨w.1, w.2.1⟩, w.2.2⟩⟩)
        refine ⟨h2, b0.trans ?_, Kg_trans k1 kg⟩
        rw [cch_ot p]; exact d
      · obtain ⟨al, c1⟩ := q2 rfl
        have p : ∀ S, Fm B A T f (cch B A T f k) k S → Xs S (23 - k) = true := fun S hS => by
          have := (inv S).mp hS
          exact al S this.1 this.2
        rw [if_neg (show ¬ bi true = 0 by decide), e_193_36 hs1, xk_s k24, cch_or k24 p] at b0
        obtain ⟨h2, d, kg⟩ := ih (k + 1) (h := h1) (adj := adj1) (by omega) hs1 h01 r1 (fun S => by
          rw [Fm_t k24 p S, inv S, c1 S])
        exact ⟨h2, b0.trans d, Kg_trans k1 kg⟩
/-- closed in the class's last net: the least cuts -/
theorem Fm_0 {p1 : Nat → Nat → Nat} (hT : T < 24) (r : Rsd (cC B A T) p1 T f) (S : Nat → Bool) : Fm B A T f (cch B A T f 0) 0 S ↔ Cut (2 * T) S ∧ cl (bp p1) S := by
  have val : Cut (2 * T) S → cs p1 (fun x => S (nu x)) = cs (cNt B A (fun _ => 1)) S - (f : Int) := fun u => by
    have e := r.1 (fun x => S (nu x))
    have n48 : nu 48 = 48 := rfl
    have c1 : chi (fun x => S (nu x)) T = 0 := by
      unfold chi
      rw [if_neg (show ¬ S (nu T) = true by rw [nu_i hT, u.2]; decide)]
    have c2 : chi (fun x => S (nu x)) 48 = 1 := by
      unfold chi
      rw [if_pos (show S (nu 48) = true by rw [n48]; exact u.1)]
    rw [c1, c2] at e
    rw [cs_nu S u.2]
    omega
  constructor
  · rintro ⟨u, e, _⟩
    refine ⟨u, fun a b ha hb ad sa => ?_⟩
    have v := val u
    cases y : S (nu b)
    · have z := cs_z (p := p1) (S := fun x => S (nu x)) (by omega) a b ha hb sa y
      unfold bp at ad
      rw [z] at ad
      exact absurd ad (by decide)
    · rfl
  · rintro ⟨u, c⟩
    refine ⟨u, ?_, fun o h1 h2 _ => by omega⟩
    have v := val u
    have e : cs p1 (fun x => S (nu x)) = 0 := by
      have e : cs p1 (fun x => S (nu x)) = su (fun _ => 0) 49 := su_eq fun a ha => by
        have e2 : su (fun b => if S (nu a) = true ∧ S (nu b) = false then (p1 a b : Int) else 0) 49 = su (fun _ => 0) 49 := su_eq fun b hb => by
          by_cases y : S (nu a) = true ∧ S (nu b) = false
          · rw [if_pos y]
            by_cases z : 1 ≤ p1 a b
            · have := c a b ha hb (decide_eq_true z) y.1
              rw [y.2] at this; cases this
            · rw [show p1 a b = 0 by omega]; rfl
          · rw [if_neg y]
        exact e2.trans (su_0 49)
      rw [e, su_0]
    omega
variable {s : Sg} {t : Nat}
noncomputable def ctq (s : Sg) (t f : Nat) : Nat → Nat → Bool := cch (nB s t) (nA s t) (nT s t) f
theorem D193 {h : am_H} (V : Vs s) (ht : t < sS s) (hs : Sh h) (n : NC h s t (sD s 10 t)) (mf : Mxf (cNt (nB s t) (nA s t) (fun _ => 1)) (2 * nT s t) f) (f24 : f ≤ 24) : ∃ h1, am_D 193 [vr (some 254)] h = some (some (vi (sb (ctq s t f 24) 24)), h1) ∧ Kg (fun a _ => a = 256 ∨ a = 257) h h1 := by
  have hT := nT_24 V ht
  obtain ⟨h1, f', p1, d1, k1, r1, s1, b1, f24', fin⟩ := D184 (B := nB s t) (A := nA s t) (T := nT s t) hT (fun x _ => nxt_irr V ht x _ (Nat.le_refl _)) hs n.1 n.2.1 n.2.2
  have e : f = f' := same_f hT mf f24 s1 fin
  subst e
  have hs1 := Kg_Sh k1 hs
  have h01 : hI h1 254 0 = ni (nT s t) := by rw [k1.2.2.2.2.1 254 0 (by omega)]; exact n.1
  obtain ⟨h2, d2, k2⟩ := L193 hT mf 24 0 (h := h1) (adj := bp p1) rfl hs1 h01 r1 (Fm_0 hT s1)
  refine ⟨h2, ?_, Kg_trans k1 k2⟩
  rw [d_193 hs, d1]
  simp only [Option.bind_some, Option.toList_some, List.cons_append, List.nil_append]
  rw [e_193_4 hs1]
  rw [show sb (cch (nB s t) (nA s t) (nT s t) f 0) 24 = 0 from (sb_0 (by omega)).mpr fun k _ => rfl] at d2
  exact d2
theorem cnI_or {k : Nat} (hk : k < 24) (p : ∀ S, Fm B A T f (cch B A T f k) k S → Xs S (23 - k) = true) : cnI (cch B A T f (k + 1)) = cnI (cch B A T f k) + 1 := by
  have e : cnI (cch B A T f k) + 1 = su (fun o => (if cch B A T f k o = true then (1 : Int) else 0) + if o = 23 - k then 1 else 0) 24 := by
    rw [su_add, su_1, if_pos (show 23 - k < 24 by omega)]; rfl
  rw [e]
  refine su_eq fun o ho => ?_
  rw [cch_t p o]
  by_cases z : o = 23 - k
  · have c : cch B A T f k o = false := by
      cases y : cch B A T f k o
      · rfl
      · have := cch_in k (by omega) o y
        omega
    rw [c, if_pos z, beq_iff_eq.mpr z.symm]; rfl
  · rw [if_neg z, beq_eq_false_iff_ne.mpr (fun w => z w.symm), Bool.or_false]; omega
theorem cnI_ot {k : Nat} (p : ¬ ∀ S, Fm B A T f (cch B A T f k) k S → Xs S (23 - k) = true) : cnI (cch B A T f (k + 1)) = cnI (cch B A T f k) := su_eq fun o _ => by rw [cch_f p o]
theorem L195 (V : Vs s) (ht : t < sS s) (mf : Mxf (cNt (nB s t) (nA s t) (fun _ => 1)) (2 * nT s t) f) (f24 : f ≤ 24) : ∀ mm k (n : Nat) (o1 : Option am_V) {h : am_H}, k + mm = 24 → Sh h → NO h s t (sD s 10 t) → (∀ x, x < 24 → hI h 295 x = ni (capk (gng s t (sD s 10 t)) (ctq s t f k) k x)) → (n : Int) = (f : Int) - cnI (ctq s t f k) → ∃ h1, am_E 195 (38, [some (vr (some 261)), o1, some (vi (ni n)), some (vi (sb (ctq s t f k) 24)), some (vi (xk k))], [], h) = some (some (vi (sb (ctq s t f 24) 24)), h1) ∧ Kg scT h h1 := by
  have hG : ∀ m, m < 24 → gng s t (sD s 10 t) m = false → ∀ o, o < 24 → nA s t m o = false := fun m _ g o _ => by
    cases w : nA s t m o
    · rfl
    · have := nxt_o _ w
      rw [g] at this; cases this
  intro mm
  induction mm with
  | zero =>
    intro k n o1 h hk hs no c295 hn
    have e : k = 24 := by omega
    subst e
    refine ⟨h, ?_, Kg_refl h⟩
    rw [e_195_38 hs, if_pos (show xk 24 < 0 by decide)]
  | succ mm ih =>
    intro k n o1 h hk hs no c295 hn
    have k24 : k < 24 := by omega
    have m24 : 23 - k < 24 := by omega
    have exk : xk k = ni (23 - k) := if_pos k24
    have cn0 : 0 ≤ cnI (ctq s t f k) := su_nn fun o _ => by split <;> omega
    have b0 := e_195_38 (o1 := o1) (x2 := ni n) (x3 := sb (ctq s t f k) 24) (x4 := ni (23 - k)) hs
    rw [if_neg (show ¬ ni (23 - k) < 0 by rw [show (0 : Int32) = ni 0 from rfl, ni_lt (by omega) (by omega)]; omega)] at b0
    rw [exk]
    by_cases n0 : n = 0
    · refine ⟨h, ?_, Kg_refl h⟩
      rw [if_pos (show ni n ≤ 0 by rw [show (0 : Int32) = ni 0 from rfl, ni_le (by omega) (by omega)]; omega)] at b0
      rw [b0]
      have e : sb (ctq s t f k) 24 = sb (ctq s t f 24) 24 := sb_congr fun o _ => by
        have := cch_end mf f24 (k := k) (show cnI (ctq s t f k) = (f : Int) by omega) (24 - k) (by omega) o
        rw [show k + (24 - k) = 24 by omega] at this
        exact this.symm
      rw [e]
    · rw [if_neg (show ¬ ni n ≤ 0 by rw [show (0 : Int32) = ni 0 from rfl, ni_le (by omega) (by omega)]; omega), no.2.1, bt_up (by omega) (show 23 - k < 32 by omega), decide_eq_true m24, Bool.true_and] at b0
      cases g : gng s t (sD s 10 t) (23 - k)
      · rw [g, if_pos (show bi false = 0 from rfl), e_195_100 hs, xk_s k24] at b0
        have p : ¬ ∀ S, Fm (nB s t) (nA s t) (nT s t) f (ctq s t f k) k S → Xs S (23 - k) = true := fun p => by
          obtain ⟨⟨S0, a0⟩, _⟩ := cch_inv mf k (by omega)
          have := p S0 a0
          rw [X_net m24 (hG _ m24 g) mf a0.1 a0.2.1] at this; cases this
        obtain ⟨h1, d, kg⟩ := ih (k + 1) n o1 (h := h) (by omega) hs no (fun x hx => by
          rw [c295 x hx]
          unfold capk
          have e : ctq s t f (k + 1) x = ctq s t f k x := cch_f p x
          rw [e]
          by_cases z : x = 23 - k
          · rw [z, g, Bool.false_and, Bool.false_and]
          · have : decide (24 - k ≤ x) = decide (24 - (k + 1) ≤ x) := decide_eq_decide.mpr (by omega)
            rw [this]) (by rw [hn]; exact congrArg (fun z => (f : Int) - z) (cnI_ot p).symm)
        refine ⟨h1, b0.trans ?_, kg⟩
        have e := cch_ot p
        have e' : sb (ctq s t f k) 24 = sb (ctq s t f (k + 1)) 24 := e
        rw [e']; exact d
      · have kg1 : Kg scT h (pI h 295 (23 - k) 99) := Kg_pI (by unfold scT; omega) (Kg_refl h)
        have hs1 := Kg_Sh kg1 hs
        have c1 : ∀ x, x < 24 → hI (pI h 295 (23 - k) 99) 295 x = ni (if x = 23 - k then 99 else capk (gng s t (sD s 10 t)) (ctq s t f k) k x) := fun x hx => by
          rw [hI_pI]
          by_cases z : x = 23 - k
          · rw [if_pos ⟨rfl, z⟩, if_pos z]; rfl
          · rw [if_neg (fun w => z w.2), if_neg z]; exact c295 x hx
        obtain ⟨h2, k1, d2, k2, l2, m2⟩ := D189t (cap := fun x => if x = 23 - k then 99 else capk (gng s t (sD s 10 t)) (ctq s t f k) k x) (L := n + 1) V ht hs1 (NO_T kg1 no) (fun m => by
          have := capk_99 (G := gng s t (sD s 10 t)) (C := ctq s t f k) (k := k) (x := m)
          split <;> omega) c1 (by omega)
        have kk2 : Kg scT h h2 := Kg_trans kg1 (Kg_mono (fun a k z => by unfold scQ at z; unfold scT; omega) k2)
        have hs2 := Kg_Sh kk2 hs
        have c2 : ∀ x, x < 24 → hI h2 295 x = ni (if x = 23 - k then 99 else capk (gng s t (sD s 10 t)) (ctq s t f k) k x) := fun x hx => by
          rw [k2.2.2.2.2.1 295 x (by unfold scQ; omega)]; exact c1 x hx
        rw [g, if_neg (show ¬ bi true = 0 by decide), ixb _ m24 (by omega), ni_add1, d2] at b0
        simp only [Option.bind_some, Option.toList_some, List.cons_append, List.nil_append] at b0
        rw [e_195_78 hs2] at b0
        have rs : ∃ p, Rsd (cNt (nB s t) (nA s t) (fun x => if x = 23 - k then 99 else capk (gng s t (sD s 10 t)) (ctq s t f k) k x)) p (2 * nT s t) k1 := by
          rcases m2 with m2 | ⟨e, p1, r⟩
          · exact Mxf_r m2
          · rw [e]; exact ⟨p1, r⟩
        by_cases z : k1 ≤ n
        · have mx : Mxf (cNt (nB s t) (nA s t) (fun x => if x = 23 - k then 99 else capk (gng s t (sD s 10 t)) (ctq s t f k) k x)) (2 * nT s t) k1 := by
            rcases m2 with m2 | ⟨e, _⟩
            · exact m2
            · omega
          have p : ¬ ∀ S, Fm (nB s t) (nA s t) (nT s t) f (ctq s t f k) k S → Xs S (23 - k) = true := fun p => by
            obtain ⟨q, S, r, u, zz⟩ := mx
            have e := Rsd_eq r u zz
            have le : cs (cNt (nB s t) (nA s t) (fun x => if x = 23 - k then 99 else capk (gng s t (sD s 10 t)) (ctq s t f k) k x)) S ≤ (f : Int) - cnI (ctq s t f k) := by rw [← e]; omega
            have y := flow_yes hG k24 mf f24 u le
            have := p S y.1
            rw [y.2] at this; cases this
          rw [if_pos (show ni k1 ≤ ni n by rw [ni_le (by omega) (by omega)]; exact z), e_195_100 hs2, xk_s k24] at b0
          obtain ⟨h3, d, kg⟩ := ih (k + 1) n o1 (h := h2) (by omega) hs2 (NO_T kk2 no) (fun x hx => by
            rw [c2 x hx]
            unfold capk
            have e : ctq s t f (k + 1) x = ctq s t f k x := cch_f p x
            rw [e]
            by_cases z : x = 23 - k
            · have c : ¬ ctq s t f k x = true := fun y => by
                have := cch_in k (by omega) x y
                omega
              rw [if_pos z, z, g, decide_eq_true (show 24 - (k + 1) ≤ 23 - k by omega), if_pos (show (true && true) = true from rfl), ← z, if_neg c]
            · have : decide (24 - k ≤ x) = decide (24 - (k + 1) ≤ x) := decide_eq_decide.mpr (by omega)
              rw [if_neg z, this]) (by rw [hn]; exact congrArg (fun z => (f : Int) - z) (cnI_ot p).symm)
          refine ⟨h3, b0.trans ?_, Kg_trans kk2 kg⟩
          have e := cch_ot p
          have e' : sb (ctq s t f k) 24 = sb (ctq s t f (k + 1)) 24 := e
          rw [e']; exact d
        · have p : ∀ S, Fm (nB s t) (nA s t) (nT s t) f (ctq s t f k) k S → Xs S (23 - k) = true := fun S hS => by
            cases y : Xs S (23 - k)
            · have e := flow_no hG k24 mf f24 hS y
              obtain ⟨q, r⟩ := rs
              have l := Rsd_le r hS.1
              have : cnI (cch (nB s t) (nA s t) (nT s t) f k) = cnI (ctq s t f k) := rfl
              have e' : cs (cNt (nB s t) (nA s t) (fun x => if x = 23 - k then 99 else capk (gng s t (sD s 10 t)) (ctq s t f k) k x)) S = (f : Int) - cnI (ctq s t f k) := e
              omega
            · rfl
          have cn : cnI (ctq s t f (k + 1)) = cnI (ctq s t f k) + 1 := cnI_or k24 p
          have fe : cnI (ctq s t f (k + 1)) ≤ (f : Int) := cch_fe mf f24 (by omega)
          rw [if_neg (show ¬ ni k1 ≤ ni n by rw [ni_le (by omega) (by omega)]; exact z), ixb _ m24 (by omega), show ni n + (-1) = ni (n - 1) by rw [show (-1 : Int32) = -ni 1 from rfl, ni_addn (by omega)], show sb (ctq s t f k) 24 ||| ((1 : Int32) <<< (ni (23 - k) &&& 31)) = sb (ctq s t f (k + 1)) 24 from cch_or k24 p] at b0
          have kk3 : Kg scT h (pI h2 295 (23 - k) 0) := Kg_pI (by unfold scT; omega) kk2
          have hs3 := Kg_Sh kk3 hs
          rw [e_195_100 hs3, xk_s k24] at b0
          obtain ⟨h3, d, kg⟩ := ih (k + 1) (n - 1) (am_nl o1) (h := pI h2 295 (23 - k) 0) (by omega) hs3 (NO_T kk3 no) (fun x hx => by
            rw [hI_pI]
            unfold capk
            have e : ctq s t f (k + 1) x = (ctq s t f k x || (23 - k == x)) := cch_t p x
            rw [e]
            by_cases z : x = 23 - k
            · rw [if_pos ⟨rfl, z⟩, z, g, decide_eq_true (show 24 - (k + 1) ≤ 23 - k by omega), if_pos (show (true && true) = true from rfl), beq_self_eq_true, Bool.or_true, if_pos rfl]; rfl
            · rw [if_neg (fun w => z w.2), c2 x hx, if_neg z, beq_eq_false_iff_ne.mpr (fun w => z w.symm), Bool.or_false]
              unfold capk
              have : decide (24 - k ≤ x) = decide (24 - (k + 1) ≤ x) := decide_eq_decide.mpr (by omega)
              rw [this]) (by omega)
          exact ⟨h3, b0.trans d, Kg_trans kk3 kg⟩
end CTC
theorem A29 : ∀ a1, Alike 194 195 [vi a1] := fun a1 => by
  intro h s hs V c m
  have R : ∃ (v : Int32) (s' : Sg), Vs s' ∧ HC 194 [vi a1] s (vi v) s' ∧ HM 195 [vi a1] s (vi v) s' := by
    rcases rg a1 (sS s) with ⟨t, ht, rfl⟩ | hn
    · obtain ⟨f, mf, f24⟩ := mx_ex V ht hs m
      refine ⟨sb (ctq s t f 24) 24, s, V, HC_q V fun h hs c => ?_, HM_q V fun h hs c => ?_⟩
      · obtain ⟨h1, d1, k1, n1⟩ := D178 V ht hs c
        have hs1 := Kg_Sh k1 hs
        obtain ⟨h2, d2, k2⟩ := D193 V ht hs1 n1 mf f24
        have kk : Kg sc h h2 := Kg_trans k1 (Kg_mono (fun a k z => by unfold sc; omega) k2)
        refine ⟨h2, ?_, kk⟩
        rw [d_194 hs, D23t hs V c ht]
        simp only [Option.bind_some, Option.toList_some, List.cons_append, List.nil_append]
        rw [e_194_8 hs, if_neg (show ¬ ni 1 = 0 by decide), d1]
        simp only [Option.bind_some, Option.toList_none, List.nil_append]
        rw [e_194_22 hs1, d2]
        simp only [Option.bind_some, Option.toList_some, List.cons_append, List.nil_append]
        exact e_194_29 (Kg_Sh kk hs)
      · obtain ⟨h1, f', d1, k1, mx', l', n1⟩ := D190 V ht (hb_S hs) (hb_M V c) hb_43
        have e : f' = f := Mxf_u mx' mf
        subst e
        have hs1 := Kg_Sh k1 (hb_S hs)
        obtain ⟨h2, d2, k2, g2⟩ := D187 hs1
        have hs2 := Kg_Sh k2 hs1
        have kT : Kg scT h1 h2 := Kg_mono (fun a k z => by unfold scT; omega) k2
        obtain ⟨h3, d3, k3⟩ := L195 V ht mf f24 24 0 f' (am_nl (some (vi (ni t)))) (h := h2) rfl hs2 (NO_T kT n1) (fun x hx => by
          rw [g2 x hx]
          unfold capk
          rw [decide_eq_false (show ¬ 24 - 0 ≤ x by omega), Bool.and_false, if_neg (by decide)]) (by
          have : cnI (ctq s t f' 0) = 0 := su_0 24
          omega)
        refine ⟨h3, ?_, Kg_trans hb_K (Kg_trans (Kg_mono (fun a k z => by unfold scS at z; unfold scm; omega) k1) (Kg_mono (fun a k z => by unfold scT at z; unfold scm; omega) (Kg_trans kT k3)))⟩
        rw [d_195 hs, D26t hs V c ht]
        simp only [Option.bind_some, Option.toList_some, List.cons_append, List.nil_append]
        rw [e_195_5 hs, if_neg (show ¬ ni 1 = 0 by decide), hb_e c, d1]
        simp only [Option.bind_some, Option.toList_some, List.cons_append, List.nil_append]
        rw [e_195_27 hs1, d2]
        simp only [Option.bind_some, Option.toList_none, List.nil_append]
        rw [e_195_34 hs2]
        rw [show sb (ctq s t f' 0) 24 = 0 from (sb_0 (by omega)).mpr fun k _ => rfl] at d3
        exact d3
    · exact refg V 1 (by omega) (fun h hs c => by
        rw [d_194 hs, D23f hs V c hn]; simp (disch := first | assumption | omega | (simp only [Sh_pI, Sh_pL, Sh_pIs, Sh_pLs]; assumption)) only [↓ixb, Option.bind_some, Option.bind_none, Option.toList_some, Option.toList_none, List.cons_append, List.nil_append, ni_lit, ni_of, ni_add, ni_mul, ni_sub, ni_div, ni_lt, ni_le, ni_eq, ng_lt, ng_le, ng_lt', ng_le', ng_eq, ng_eq', ng_ng, Int32.neg_neg, ix_ni, if_pos, if_neg, reduceIte, e_194_8, D7, e_194_16]) (fun h hs c => by
        rw [d_195 hs, D26f hs V c hn]; simp (disch := first | assumption | omega | (simp only [Sh_pI, Sh_pL, Sh_pIs, Sh_pLs]; assumption)) only [↓ixb, Option.bind_some, Option.bind_none, Option.toList_some, Option.toList_none, List.cons_append, List.nil_append, ni_lit, ni_of, ni_add, ni_mul, ni_sub, ni_div, ni_lt, ni_le, ni_eq, ng_lt, ng_le, ng_lt', ng_le', ng_eq, ng_eq', ng_ng, Int32.neg_neg, ix_ni, if_pos, if_neg, reduceIte, e_195_5, D10, e_195_13])
  obtain ⟨v, s', V', a, b⟩ := R
  obtain ⟨h1, h2, q⟩ := glue9 hs V c m V' a b
  exact ⟨v, h1, h2, s', q⟩
