/-! knots, alone -/
/-- a cut that nothing leaves -/
def zc (c : Nat → Nat → Nat) (t : Nat) : Prop := ∃ S : Nat → Bool, Cut t S ∧ ∀ a b, a < 49 → b < 49 → S a = true → S b = false → c a b = 0
noncomputable def zcB (c : Nat → Nat → Nat) (t : Nat) : Bool := @decide (zc c t) (Classical.propDecidable _)
theorem zcB_t {c : Nat → Nat → Nat} {t : Nat} : zcB c t = true ↔ zc c t := by unfold zcB; exact @decide_eq_true_iff (zc c t) (Classical.propDecidable _)
theorem zcB_f {c : Nat → Nat → Nat} {t : Nat} : zcB c t = false ↔ ¬ zc c t := by unfold zcB; exact @decide_eq_false_iff_not (zc c t) (Classical.propDecidable _)
theorem su_z {f : Nat → Int} : ∀ {n}, (∀ k, k < n → 0 ≤ f k) → su f n = 0 → ∀ k, k < n → f k = 0
  | 0, _, _, k, hk => by omega
  | n + 1, h, e, k, hk => by
    have a : su (fun _ => 0) n ≤ su f n := su_le fun k hk => h k (by omega)
    rw [su_0] at a
    have b := h n (by omega)
    rw [su_s] at e
    by_cases z : k = n
    · rw [z]; omega
    · exact su_z (n := n) (fun k hk => h k (by omega)) (by omega) k (by omega)
theorem su_nn {f : Nat → Int} {n : Nat} (h : ∀ k, k < n → 0 ≤ f k) : 0 ≤ su f n := by
  have a : su (fun _ => 0) n ≤ su f n := su_le h
  rw [su_0] at a
  exact a
theorem cs_z {p : Nat → Nat → Nat} {S : Nat → Bool} (e : cs p S = 0) (a b : Nat) (ha : a < 49) (hb : b < 49) (sa : S a = true) (sb : S b = false) : p a b = 0 := by
  have n2 : ∀ u v, 0 ≤ (if S u = true ∧ S v = false then (p u v : Int) else 0) := fun u v => by split <;> omega
  have e1 := su_z (f := fun u => su (fun v => if S u = true ∧ S v = false then (p u v : Int) else 0) 49) (fun u _ => su_nn fun v _ => n2 u v) e a ha
  have e2 := su_z (f := fun v => if S a = true ∧ S v = false then (p a v : Int) else 0) (fun v _ => n2 a v) e1 b hb
  have e3 : (if S a = true ∧ S b = false then (p a b : Int) else 0) = 0 := e2
  rw [if_pos ⟨sa, sb⟩] at e3
  omega
theorem zc_0 {c : Nat → Nat → Nat} {t : Nat} (m : Mxf c t 0) : zc c t := by
  obtain ⟨p, S, r, u, z⟩ := m
  have e := Rsd_eq r u z
  exact ⟨S, u, fun a b ha hb sa sb => cs_z (show cs c S = 0 by omega) a b ha hb sa sb⟩
theorem zc_k {c p : Nat → Nat → Nat} {t k : Nat} (z : zc c t) (r : Rsd c p t k) : k = 0 := by
  obtain ⟨S, u, e⟩ := z
  have l := Rsd_le r u
  have e2 := Rsd_eq (Rsd_0 c t) u e
  have e3 : ((0 : Nat) : Int) = 0 := rfl
  omega
theorem Mxf_r {c : Nat → Nat → Nat} {t k : Nat} (m : Mxf c t k) : ∃ p, Rsd c p t k := by
  obtain ⟨p, _, r, _, _⟩ := m
  exact ⟨p, r⟩
/-- a set of men whom one comes to, those in x left out -/
def Cls (B : Nat → Bool) (A : Nat → Nat → Bool) (x P : Nat → Bool) : Prop := (∀ m, m < 24 → B m = true → x m = false → P m = true) ∧ ∀ m o, m < 24 → o < 24 → P m = true → A m o = true → x o = false → P o = true
def Lst (B : Nat → Bool) (A : Nat → Nat → Bool) (x R : Nat → Bool) : Prop := Cls B A x R ∧ ∀ P, Cls B A x P → ∀ m, m < 24 → R m = true → P m = true
def cpx (x : Nat → Bool) (m : Nat) : Nat := if x m = true then 0 else 1
theorem zc_R {B : Nat → Bool} {A : Nat → Nat → Bool} {x R : Nat → Bool} {T : Nat} (hT : T < 24) (xT : x T = false) (l : Lst B A x R) : R T = !zcB (cNt B A (cpx x)) (2 * T) := by
  cases y : R T
  · have z : zc (cNt B A (cpx x)) (2 * T) := by
      refine ⟨fun d => if d = 48 then true else if d % 2 = 0 then R (d / 2) || x (d / 2) else R (d / 2), ⟨if_pos rfl, ?_⟩, fun a b ha hb sa sb => ?_⟩
      · show (if 2 * T = 48 then true else if 2 * T % 2 = 0 then R (2 * T / 2) || x (2 * T / 2) else R (2 * T / 2)) = false
        rw [if_neg (by omega), if_pos (by omega), show 2 * T / 2 = T by omega, y, xT]; rfl
      · have sa' : (if a = 48 then true else if a % 2 = 0 then R (a / 2) || x (a / 2) else R (a / 2)) = true := sa
        have sb' : (if b = 48 then true else if b % 2 = 0 then R (b / 2) || x (b / 2) else R (b / 2)) = false := sb
        have b48 : ¬ b = 48 := fun z => by rw [if_pos z] at sb'; cases sb'
        rw [if_neg b48] at sb'
        unfold cNt
        by_cases h1 : a < 48 ∧ a % 2 = 0
        · rw [if_pos h1]
          by_cases h2 : b = a + 1
          · rw [if_neg (show ¬ b % 2 = 0 by omega), show b / 2 = a / 2 by omega] at sb'
            rw [if_neg (show ¬ a = 48 by omega), if_pos h1.2, sb', Bool.false_or] at sa'
            rw [if_pos h2]
            unfold cpx
            rw [if_pos sa']
          · rw [if_neg h2]
        · rw [if_neg h1]
          by_cases h2 : a < 48
          · rw [if_pos h2]
            by_cases h3 : b % 2 = 0 ∧ b < 48 ∧ A (a / 2) (b / 2) = true
            · rw [if_pos h3.1, Bool.or_eq_false_iff] at sb'
              rw [if_neg (show ¬ a = 48 by omega), if_neg (fun z => h1 ⟨h2, z⟩)] at sa'
              have := l.1.2 (a / 2) (b / 2) (by omega) (by omega) sa' h3.2.2 sb'.2
              rw [sb'.1] at this; cases this
            · rw [if_neg h3]
          · rw [if_neg h2]
            by_cases h3 : a = 48 ∧ b % 2 = 0 ∧ b < 48 ∧ B (b / 2) = true
            · rw [if_pos h3.2.1, Bool.or_eq_false_iff] at sb'
              have := l.1.1 (b / 2) (by omega) h3.2.2.2 sb'.2
              rw [sb'.1] at this; cases this
            · rw [if_neg h3]
    rw [zcB_t.mpr z]; rfl
  · have z : ¬ zc (cNt B A (cpx x)) (2 * T) := fun ⟨S, u, e⟩ => by
      have inn : ∀ m, m < 24 → x m = false → S (2 * m) = true → S (2 * m + 1) = true := fun m hm xm s1 => by
        cases s2 : S (2 * m + 1)
        · have := e (2 * m) (2 * m + 1) (by omega) (by omega) s1 s2
          unfold cNt at this
          rw [if_pos (show 2 * m < 48 ∧ 2 * m % 2 = 0 by omega), if_pos rfl, show 2 * m / 2 = m by omega] at this
          unfold cpx at this
          rw [if_neg (show ¬ x m = true by rw [xm]; decide)] at this
          cases this
        · rfl
      have c : Cls B A x (fun m => S (2 * m) && S (2 * m + 1)) := by
        refine ⟨fun m hm bm xm => ?_, fun m o hm ho pm am xo => ?_⟩
        · have s1 : S (2 * m) = true := by
            cases s2 : S (2 * m)
            · have := e 48 (2 * m) (by omega) (by omega) u.1 s2
              unfold cNt at this
              rw [if_neg (by omega), if_neg (by omega), if_pos (show 48 = 48 ∧ 2 * m % 2 = 0 ∧ 2 * m < 48 ∧ B (2 * m / 2) = true from ⟨rfl, by omega, by omega, by rw [show 2 * m / 2 = m by omega]; exact bm⟩)] at this
              cases this
            · rfl
          show (S (2 * m) && S (2 * m + 1)) = true
          rw [s1, inn m hm xm s1]; rfl
        · have pm' : (S (2 * m) && S (2 * m + 1)) = true := pm
          rw [Bool.and_eq_true] at pm'
          have s1 : S (2 * o) = true := by
            cases s2 : S (2 * o)
            · have := e (2 * m + 1) (2 * o) (by omega) (by omega) pm'.2 s2
              unfold cNt at this
              rw [if_neg (by omega), if_pos (by omega), if_pos (show 2 * o % 2 = 0 ∧ 2 * o < 48 ∧ A ((2 * m + 1) / 2) (2 * o / 2) = true from ⟨by omega, by omega, by rw [show (2 * m + 1) / 2 = m by omega, show 2 * o / 2 = o by omega]; exact am⟩)] at this
              cases this
            · rfl
          show (S (2 * o) && S (2 * o + 1)) = true
          rw [s1, inn o ho xo s1]; rfl
      have := l.2 _ c T hT y
      rw [Bool.and_eq_true, u.2] at this
      exact absurd this.1 (by decide)
    rw [zcB_f.mpr z]; rfl
section KNC
def rch (fr : Nat → Bool) (A : Nat → Nat → Bool) (i o : Nat) : Bool := anyb (fun m => fr m && A m o) i
theorem rch_s {fr : Nat → Bool} {A : Nat → Nat → Bool} {i o : Nat} : rch fr A (i + 1) o = (rch fr A i o || (fr i && A i o)) := rfl
theorem L196i {h : am_H} (hs : Sh h) {A : Nat → Nat → Bool} (hA : ∀ x, x < 24 → hI h 255 x = sb (A x) 24) {fr : Nat → Bool} {x1 x2 : Int32} {x4 : Int32} : ∀ m i, i + m = 24 → am_E 196 (31, [some (vr (some 254)), some (vi x1), some (vi x2), some (vi (sb fr 24)), some (vi x4), some (vi (sb (rch fr A i) 24)), some (vi (ni i))], [], h) = am_E 196 (31, [some (vr (some 254)), some (vi x1), some (vi x2), some (vi (sb fr 24)), some (vi x4), some (vi (sb (rch fr A 24) 24)), some (vi (ni 24))], [], h) := by
  intro m
  induction m with
  | zero =>
    intro i hi
    have e : i = 24 := by omega
    subst e; rfl
  | succ m ih =>
    intro i hi
    have i24 : i < 24 := by omega
    have nx := ih (i + 1) (by omega)
    refine (e_196_31 hs).trans ?_
    rw [if_neg (show ¬ (24 : Int32) ≤ ni i by rw [show (24 : Int32) = ni 24 from rfl, ni_le (by omega) (by omega)]; omega), bt_up (by omega) (show i < 32 by omega), decide_eq_true i24, Bool.true_and]
    cases y : fr i
    · rw [if_pos (show bi false = 0 from rfl), e_196_59 hs, ni_add1, show sb (rch fr A i) 24 = sb (rch fr A (i + 1)) 24 from sb_congr fun o _ => by rw [rch_s, y, Bool.false_and, Bool.or_false]]
      exact nx
    · rw [if_neg (show ¬ bi true = 0 by decide), ixb _ i24 (by omega), hA i i24, e_196_59 hs, ni_add1, show sb (rch fr A i) 24 ||| sb (A i) 24 = sb (rch fr A (i + 1)) 24 from sb_ext (by omega) fun k hk => by
        rw [bt_or, bt_sb 24 (by omega) k hk, bt_sb 24 (by omega) k hk, rch_s, y, Bool.true_and]
        cases decide (k < 24) <;> rfl]
      exact nx
theorem ctb_mono {f g : Nat → Bool} : ∀ {n}, (∀ k, k < n → f k = true → g k = true) → ctb f n ≤ ctb g n
  | 0, _ => Nat.le_refl _
  | n + 1, h => by
    have a := ctb_mono (f := f) (g := g) (n := n) (fun k hk => h k (by omega))
    have b := h n (by omega)
    rw [ctb_s, ctb_s]
    by_cases z : f n = true
    · rw [if_pos z, if_pos (b z)]; omega
    · rw [if_neg z]; split <;> omega
theorem ctb_more {f g : Nat → Bool} : ∀ {n}, (∀ k, k < n → f k = true → g k = true) → ∀ x, x < n → f x = false → g x = true → ctb f n + 1 ≤ ctb g n
  | 0, _, x, hx, _, _ => by omega
  | n + 1, h, x, hx, fx, gx => by
    have b := h n (by omega)
    rw [ctb_s, ctb_s]
    by_cases z : x = n
    · have a := ctb_mono (f := f) (g := g) (n := n) (fun k hk => h k (by omega))
      rw [← z, fx, gx, if_neg (by decide), if_pos rfl, z]; omega
    · have a := ctb_more (f := f) (g := g) (n := n) (fun k hk => h k (by omega)) x (by omega) fx gx
      by_cases w : f n = true
      · rw [if_pos w, if_pos (b w)]; omega
      · rw [if_neg w]; split <;> omega
theorem ctb_1 {f : Nat → Bool} {x n : Nat} (hx : x < n) (h : f x = true) : 1 ≤ ctb f n := by
  have a : ctb (fun _ => false) n + 1 ≤ ctb f n := ctb_more (fun k _ z => by cases z) x hx rfl h
  omega
def Fw (B : Nat → Bool) (A : Nat → Nat → Bool) (x sn fr : Nat → Bool) (i : Nat) : Prop := (∀ m, m < 24 → fr m = true → sn m = true) ∧ (∀ m, m < 24 → B m = true → x m = false → sn m = true) ∧ (∀ m o, m < 24 → o < 24 → sn m = true → fr m = false → A m o = true → x o = false → sn o = true) ∧ (∀ P, Cls B A x P → ∀ m, m < 24 → sn m = true → P m = true) ∧ ∀ m, m < 24 → fr m = true → i + 1 ≤ ctb sn 24
theorem Fw_0 {B : Nat → Bool} {A : Nat → Nat → Bool} {x : Nat → Bool} : Fw B A x (fun m => B m && !x m) (fun m => B m && !x m) 0 := by
  refine ⟨fun m _ z => z, fun m hm b xm => ?_, fun m o hm ho s f => ?_, fun P c m hm s => ?_, fun m hm f => ctb_1 hm f⟩
  · show (B m && !x m) = true
    rw [b, xm]; rfl
  · rw [s] at f; cases f
  · have s' : (B m && !x m) = true := s
    rw [Bool.and_eq_true, Bool.not_eq_true'] at s'
    exact c.1 m hm s'.1 s'.2
theorem Fw_s {B : Nat → Bool} {A : Nat → Nat → Bool} {x sn fr : Nat → Bool} {i : Nat} (f : Fw B A x sn fr i) : Fw B A x (fun o => sn o || (rch fr A 24 o && !x o && !sn o)) (fun o => rch fr A 24 o && !x o && !sn o) (i + 1) := by
  obtain ⟨f1, f2, f3, f4, f5⟩ := f
  refine ⟨fun m hm z => ?_, fun m hm b xm => ?_, fun m o hm ho s g a xo => ?_, fun P c m hm s => ?_, fun m hm g => ?_⟩
  · have z' : (rch fr A 24 m && !x m && !sn m) = true := z
    show (sn m || (rch fr A 24 m && !x m && !sn m)) = true
    rw [z', Bool.or_true]
  · show (sn m || _) = true
    rw [f2 m hm b xm]; rfl
  · have s' : (sn m || (rch fr A 24 m && !x m && !sn m)) = true := s
    have g' : (rch fr A 24 m && !x m && !sn m) = false := g
    rw [g', Bool.or_false] at s'
    show (sn o || (rch fr A 24 o && !x o && !sn o)) = true
    cases y : fr m
    · rw [f3 m o hm ho s' y a xo]; rfl
    · have : rch fr A 24 o = true := (anyb_iff 24).mpr ⟨m, hm, by rw [y, a]; rfl⟩
      rw [this, xo]
      cases sn o <;> rfl
  · have s' : (sn m || (rch fr A 24 m && !x m && !sn m)) = true := s
    rw [Bool.or_eq_true] at s'
    rcases s' with s' | s'
    · exact f4 P c m hm s'
    · rw [Bool.and_eq_true, Bool.and_eq_true, Bool.not_eq_true'] at s'
      obtain ⟨k, hk, e⟩ := (anyb_iff 24).mp s'.1.1
      have e' : (fr k && A k m) = true := e
      rw [Bool.and_eq_true] at e'
      exact c.2 k m hk hm (f4 P c k hk (f1 k hk e'.1)) e'.2 s'.1.2
  · have g' : (rch fr A 24 m && !x m && !sn m) = true := g
    rw [Bool.and_eq_true, Bool.and_eq_true, Bool.not_eq_true', Bool.not_eq_true'] at g'
    obtain ⟨k, hk, e⟩ := (anyb_iff 24).mp g'.1.1
    have e' : (fr k && A k m) = true := e
    rw [Bool.and_eq_true] at e'
    have a := f5 k hk e'.1
    have b : ctb sn 24 + 1 ≤ ctb (fun o => sn o || (rch fr A 24 o && !x o && !sn o)) 24 := ctb_more (fun k _ z => by rw [z]; rfl) m hm g'.2 (by rw [g'.1.1, g'.1.2, g'.2]; rfl)
    omega
theorem L196 {h : am_H} (hs : Sh h) {B : Nat → Bool} {A : Nat → Nat → Bool} {T : Nat} (hT : T < 24) (h0 : hI h 254 0 = ni T) (hA : ∀ x, x < 24 → hI h 255 x = sb (A x) 24) {y : Int32} {x : Nat → Bool} (hx : ∀ k, k < 32 → bt y k = x k) : ∀ m i {sn fr : Nat → Bool} (o5 o6 : Option am_V), i + m = 24 → Fw B A x sn fr i → ∃ R, am_E 196 (14, [some (vr (some 254)), some (vi y), some (vi (sb sn 24)), some (vi (sb fr 24)), some (vi (ni i)), o5, o6], [], h) = some (some (vi (bi (R T))), h) ∧ Lst B A x R := by
  have nT : ¬ ni T = -1 := by rw [show (-1 : Int32) = -ni 1 from rfl, ng_eq (by omega) (by omega) (by omega)]; exact id
  have fin : ∀ {sn fr : Nat → Bool} {i : Nat} {x3 x4 : Int32} (o5 o6 : Option am_V), Fw B A x sn fr i → (∀ k, k < 24 → fr k = false) → ∃ R, am_E 196 (86, [some (vr (some 254)), some (vi y), some (vi (sb sn 24)), some (vi x3), some (vi x4), o5, o6], [], h) = some (some (vi (bi (R T))), h) ∧ Lst B A x R := fun {sn fr i x3 x4} o5 o6 f z => by
    refine ⟨sn, ?_, ⟨f.2.1, fun m o hm ho s a xo => f.2.2.1 m o hm ho s (z m hm) a xo⟩, f.2.2.2.1⟩
    rw [e_196_86 hs, h0, if_neg nT, bt_up (by omega) (show T < 32 by omega), decide_eq_true hT, Bool.true_and]
    cases sn T <;> rfl
  intro m
  induction m with
  | zero =>
    intro i sn fr o5 o6 hi f
    have e : i = 24 := by omega
    subst e
    rw [e_196_14 hs, if_pos (show (24 : Int32) ≤ ni 24 by decide)]
    refine fin o5 o6 f (fun k hk => ?_)
    cases z : fr k
    · rfl
    · have a := f.2.2.2.2 k hk z
      have b := ctb_le (f := sn) 24
      omega
  | succ m ih =>
    intro i sn fr o5 o6 hi f
    rw [e_196_14 hs, if_neg (show ¬ (24 : Int32) ≤ ni i by rw [show (24 : Int32) = ni 24 from rfl, ni_le (by omega) (by omega)]; omega)]
    by_cases z : sb fr 24 = 0
    · rw [if_pos z]
      exact fin o5 o6 f ((sb_0 (by omega)).mp (show sb fr 24 = ni 0 from z))
    · rw [if_neg z]
      have l := L196i hs hA (fr := fr) (x1 := y) (x2 := sb sn 24) (x4 := ni i) 24 0 rfl
      rw [show sb (rch fr A 0) 24 = 0 from (sb_0 (by omega)).mpr fun k _ => rfl] at l
      have l' := l.trans (e_196_31 hs)
      rw [if_pos (show (24 : Int32) ≤ ni 24 by decide), ni_add1, show (sb (rch fr A 24) 24 &&& (y ^^^ (-1))) &&& (sb sn 24 ^^^ (-1)) = sb (fun o => rch fr A 24 o && !x o && !sn o) 24 from sb_ext (by omega) fun k hk => by
        rw [bt_and, bt_and, show (-1 : Int32) = -ni 1 from rfl, bt_not _ hk, bt_not _ hk, bt_sb 24 (by omega) k hk, bt_sb 24 (by omega) k hk, hx k hk]
        cases decide (k < 24) <;> cases rch fr A 24 k <;> cases x k <;> cases sn k <;> rfl, show sb sn 24 ||| sb (fun o => rch fr A 24 o && !x o && !sn o) 24 = sb (fun o => sn o || (rch fr A 24 o && !x o && !sn o)) 24 from sb_ext (by omega) fun k hk => by
        rw [bt_or, bt_sb 24 (by omega) k hk, bt_sb 24 (by omega) k hk]
        cases decide (k < 24) <;> rfl] at l'
      obtain ⟨R, d, g⟩ := ih (i + 1) _ _ (by omega) (Fw_s f)
      exact ⟨R, l'.trans d, g⟩
theorem D196 {h : am_H} (hs : Sh h) {B : Nat → Bool} {A : Nat → Nat → Bool} {T : Nat} (hT : T < 24) (h0 : hI h 254 0 = ni T) (h1 : hI h 254 1 = sb B 24) (hA : ∀ x, x < 24 → hI h 255 x = sb (A x) 24) {y : Int32} {x : Nat → Bool} (hx : ∀ k, k < 32 → bt y k = x k) : ∃ R, am_D 196 [vr (some 254), vi y] h = some (some (vi (bi (R T))), h) ∧ Lst B A x R := by
  rw [d_196 hs, h1, show sb B 24 &&& (y ^^^ (-1)) = sb (fun m => B m && !x m) 24 from sb_ext (by omega) fun k hk => by
    rw [bt_and, show (-1 : Int32) = -ni 1 from rfl, bt_not _ hk, bt_sb 24 (by omega) k hk, hx k hk]
    cases decide (k < 24) <;> rfl]
  exact L196 hs hT h0 hA hx 24 0 none none rfl Fw_0
noncomputable def knb (B : Nat → Bool) (A : Nat → Nat → Bool) (T m : Nat) : Bool := !(m == T) && (!zcB (cNt B A (fun _ => 1)) (2 * T) && zcB (cNt B A (cpx fun k => k == m)) (2 * T))
theorem cpx_0 : cpx (fun _ => false) = fun _ => 1 := funext fun m => if_neg (show ¬ false = true by decide)
theorem D197 {h : am_H} (hs : Sh h) {B : Nat → Bool} {A : Nat → Nat → Bool} {T m : Nat} (hT : T < 24) (hm : m < 24) (h0 : hI h 254 0 = ni T) (h1 : hI h 254 1 = sb B 24) (hA : ∀ x, x < 24 → hI h 255 x = sb (A x) 24) : am_D 197 [vr (some 254), vi (ni m)] h = some (some (vi (bi (knb B A T m))), h) := by
  unfold knb
  rw [d_197 hs, h0]
  by_cases e : m = T
  · rw [if_pos (show ni m = ni T by rw [e]), beq_iff_eq.mpr e]; rfl
  · obtain ⟨R0, d0, l0⟩ := D196 hs hT h0 h1 hA (y := 0) (x := fun _ => false) (fun k _ => bt_0 k)
    obtain ⟨R1, d1, l1⟩ := D196 hs hT h0 h1 hA (y := (1 : Int32) <<< (ni m &&& 31)) (x := fun k => k == m) (fun k hk => (bt_one m (by omega) k hk).trans (by
      by_cases z : k = m
      · rw [decide_eq_true z, beq_iff_eq.mpr z]
      · rw [decide_eq_false z, beq_eq_false_iff_ne.mpr z]))
    have z0 := zc_R hT rfl l0
    rw [cpx_0] at z0
    have z1 := zc_R hT (show (T == m) = false from beq_eq_false_iff_ne.mpr (fun z => e z.symm)) l1
    rw [if_neg (show ¬ ni m = ni T by rw [ni_eq (by omega) (by omega)]; exact e), d0, beq_eq_false_iff_ne.mpr e]
    simp only [Option.bind_some, Option.toList_some, List.cons_append, List.nil_append]
    rw [e_197_13 hs, z0]
    cases y : zcB (cNt B A (fun _ => 1)) (2 * T)
    · rw [if_neg (show ¬ bi (!false) = 0 by decide), d1]
      simp only [Option.bind_some, Option.toList_some, List.cons_append, List.nil_append]
      rw [e_197_23 hs, z1]
      cases zcB (cNt B A (cpx fun k => k == m)) (2 * T) <;> rfl
    · rw [if_pos (show bi (!true) = 0 from rfl)]; rfl
variable {s : Sg} {t : Nat}
noncomputable def knq (s : Sg) (t : Nat) : Nat → Bool := knb (nB s t) (nA s t) (nT s t)
theorem D197s {h : am_H} (V : Vs s) (ht : t < sS s) (hs : Sh h) (n : NC h s t (sD s 10 t)) {m : Nat} (hm : m < 24) : am_D 197 [vr (some 254), vi (ni m)] h = some (some (vi (bi (knq s t m))), h) := D197 (B := nB s t) (A := nA s t) (T := nT s t) hs (nT_24 V ht) hm n.1 n.2.1 n.2.2
theorem L198 {h : am_H} (V : Vs s) (ht : t < sS s) (hs : Sh h) (c : CS h s) (n : NC h s t (sD s 10 t)) : ∀ m i (o1 : Option am_V), i + m = sM s → am_E 198 (26, [some (vr (some 16)), o1, some (vi (sb (knq s t) i)), some (vi (ni i))], [], h) = some (some (vi (sb (knq s t) (sM s))), h) := by
  have vM' := vM V
  intro m
  induction m with
  | zero =>
    intro i o1 hi
    have e : i = sM s := by omega
    rw [e_198_26 hs, cM c, if_pos (show ni (sM s) ≤ ni i by rw [ni_le (by omega) (by omega)]; omega), e]
  | succ m ih =>
    intro i o1 hi
    rw [e_198_26 hs, cM c, if_neg (show ¬ ni (sM s) ≤ ni i by rw [ni_le (by omega) (by omega)]; omega), D197s V ht hs n (show i < 24 by omega)]
    simp only [Option.bind_some, Option.toList_some, List.cons_append, List.nil_append]
    rw [e_198_45 hs]
    cases y : knq s t i
    · have nx := ih (i + 1) o1 (by omega)
      rw [sb_f y] at nx
      rw [if_pos (show bi false = 0 from rfl), e_198_54 hs, ni_add1]
      exact nx
    · have nx := ih (i + 1) (am_nl o1) (by omega)
      rw [sb_t y] at nx
      rw [if_neg (show ¬ bi true = 0 by decide), e_198_54 hs, ni_add1]
      exact nx
-- the model
theorem gng_T (V : Vs s) (ht : t < sS s) : ∀ n, n ≤ sD s 10 t → gng s t n (nT s t) = false
  | 0, _ => rfl
  | n + 1, hn => by
    have v := vq V ht (show n < sD s 10 t by omega)
    have z2 : 2 ≤ sD s 12 (8 * t + n) := v.2.1
    rw [gng_s, gng_T V ht n (by omega), Bool.false_or]
    cases y : inN s t n
    · rfl
    · rw [Bool.true_and]
      have e : lst (sD s) (8 * t + n) = lst (sD s) (8 * t) := by
        unfold inN at y
        rw [Bool.and_eq_true, Bool.and_eq_true] at y
        exact beq_iff_eq.mp y.2.2
      have key : ∀ m i, i + m < sD s 12 (8 * t + n) → ako (sD s) (8 * t + n) m i (nT s t) = false := by
        intro m
        induction m with
        | zero => intro i _; rfl
        | succ m ih =>
          intro i hi
          rw [ako_s, ih (i + 1) (by omega), Bool.or_false]
          refine beq_eq_false_iff_ne.mpr fun z => ?_
          have z' : sD s 14 (8 * (8 * t + n) + i) = sD s 14 (8 * (8 * t + n) + (sD s 12 (8 * t + n) - 1)) := z.trans e.symm
          exact v.2.2.2.2.2.1 i (sD s 12 (8 * t + n) - 1) (by omega) (by omega) z'
      exact key _ _ (by omega)
theorem ark_o {D : Nat → Nat → Nat} {q a b : Nat} : ∀ m i, ark D q m i a b = true → ako D q m i a = true
  | 0, _, h => by cases h
  | m + 1, i, h => by
    rw [ark_s, Bool.or_eq_true, Bool.and_eq_true] at h
    rw [ako_s, Bool.or_eq_true]
    rcases h with h | h
    · exact Or.inl h.1
    · exact Or.inr (ark_o m (i + 1) h)
theorem nxt_o {a b : Nat} : ∀ n, nxt s t n a b = true → gng s t n a = true
  | 0, h => by cases h
  | n + 1, h => by
    rw [nxt_s, Bool.or_eq_true, Bool.and_eq_true] at h
    rw [gng_s, Bool.or_eq_true, Bool.and_eq_true]
    rcases h with h | h
    · exact Or.inl (nxt_o n h)
    · exact Or.inr ⟨h.1, ark_o _ _ h.2⟩
/-- who goes on to nobody is no knot -/
theorem zc_go {B : Nat → Bool} {A : Nat → Nat → Bool} {T m : Nat} (hm : m < 24) (ne : m ≠ T) (hA : ∀ o, o < 24 → A m o = false) (z : zc (cNt B A (cpx fun k => k == m)) (2 * T)) : zc (cNt B A (fun _ => 1)) (2 * T) := by
  obtain ⟨S, u, e⟩ := z
  refine ⟨fun d => if d = 2 * m + 1 then true else S d, ⟨?_, ?_⟩, fun a b ha hb sa sb => ?_⟩
  · show (if 48 = 2 * m + 1 then true else S 48) = true
    rw [u.1]; split <;> rfl
  · show (if 2 * T = 2 * m + 1 then true else S (2 * T)) = false
    rw [if_neg (by omega)]; exact u.2
  · have sa' : (if a = 2 * m + 1 then true else S a) = true := sa
    have sb' : (if b = 2 * m + 1 then true else S b) = false := sb
    have bn : ¬ b = 2 * m + 1 := fun z => by rw [if_pos z] at sb'; cases sb'
    rw [if_neg bn] at sb'
    by_cases h1 : a = 2 * m + 1
    · unfold cNt
      rw [if_neg (by omega), if_pos (by omega), if_neg (fun z => by
        rw [show a / 2 = m by omega, hA _ (by omega)] at z
        exact absurd z.2.2 (by decide))]
    · rw [if_neg h1] at sa'
      have := e a b ha hb sa' sb'
      unfold cNt at this ⊢
      by_cases h2 : a < 48 ∧ a % 2 = 0
      · rw [if_pos h2] at this ⊢
        by_cases h3 : b = a + 1
        · rw [if_pos h3] at this ⊢
          unfold cpx at this
          have : ¬ a / 2 = m := by omega
          rw [if_neg (show ¬ (a / 2 == m) = true by rw [beq_iff_eq]; exact this)] at *
          assumption
        · rw [if_neg h3]
      · rw [if_neg h2] at this ⊢
        exact this
def scT (a _k : Nat) : Prop := a = 294 ∨ a = 295 ∨ a = 298 ∨ a = 299
theorem NO_T {h h1 : am_H} {n : Nat} (k : Kg scT h h1) (c : NO h s t n) : NO h1 s t n := by
  have q : ∀ a j, ¬ scT a j → hI h1 a j = hI h a j := fun a j ne => k.2.2.2.2.1 a j ne
  refine ⟨?_, ?_, fun x hx => ⟨?_, ?_⟩⟩
  · rw [q _ _ (by unfold scT; omega)]; exact c.1
  · rw [q _ _ (by unfold scT; omega)]; exact c.2.1
  · rw [q _ _ (by unfold scT; omega)]; exact (c.2.2 x hx).1
  · rw [q _ _ (by unfold scT; omega)]; exact (c.2.2 x hx).2
/-- the model's flow over its own net, one man's room set -/
theorem D189t {h : am_H} (V : Vs s) (ht : t < sS s) (hs : Sh h) (n : NO h s t (sD s 10 t)) {cap : Nat → Nat} (hcap : ∀ m, cap m ≤ 99) (hc : ∀ x, x < 24 → hI h 295 x = ni (cap x)) {L : Nat} (hL : L < 1000) : ∃ h1 k1, am_D 189 [vr (some 261), vi (ni L)] h = some (some (vi (ni k1)), h1) ∧ Kg scQ h h1 ∧ k1 ≤ L ∧ (Mxf (cNt (nB s t) (nA s t) cap) (2 * nT s t) k1 ∨ (k1 = L ∧ ∃ p1, Rsd (cNt (nB s t) (nA s t) cap) p1 (2 * nT s t) L)) := D189 (B := nB s t) (A := nA s t) (cap := cap) (T := nT s t) hs (nT_24 V ht) hcap hL n.1 (fun x hx => ⟨hc x hx, n.2.2 x hx⟩)
theorem L199 (V : Vs s) (ht : t < sS s) (nz : ¬ zc (cNt (nB s t) (nA s t) (fun _ => 1)) (2 * nT s t)) : ∀ m i (o1 : Option am_V) {h : am_H}, i + m = sM s → Sh h → hI h 261 0 = ni (sM s) → NO h s t (sD s 10 t) → ∃ h1, am_E 199 (14, [some (vr (some 261)), o1, some (vi (sb (knq s t) i)), some (vi (ni i))], [], h) = some (some (vi (sb (knq s t) (sM s))), h1) ∧ Kg scT h h1 := by
  have vM' := vM V
  intro m
  induction m with
  | zero =>
    intro i o1 h hi hs h0 n
    have e : i = sM s := by omega
    refine ⟨h, ?_, Kg_refl h⟩
    rw [e_199_14 hs, h0, if_pos (show ni (sM s) ≤ ni i by rw [ni_le (by omega) (by omega)]; omega), e]
  | succ m ih =>
    intro i o1 h hi hs h0 n
    have i24 : i < 24 := by omega
    have b0 := e_199_14 (o1 := o1) (x2 := sb (knq s t) i) (x3 := ni i) hs
    rw [h0, if_neg (show ¬ ni (sM s) ≤ ni i by rw [ni_le (by omega) (by omega)]; omega), n.2.1, bt_up (by omega) (show i < 32 by omega), decide_eq_true i24, Bool.true_and] at b0
    cases y : gng s t (sD s 10 t) i
    · have kf : knq s t i = false := by
        cases z : knq s t i
        · rfl
        · unfold knq knb at z
          rw [Bool.and_eq_true, Bool.and_eq_true, Bool.not_eq_true'] at z
          refine absurd (zc_go i24 (beq_eq_false_iff_ne.mp z.1) (fun o ho => ?_) (zcB_t.mp z.2.2)) nz
          cases w : nA s t i o
          · rfl
          · have := nxt_o _ w
            rw [y] at this; cases this
      obtain ⟨h1, d, k⟩ := ih (i + 1) o1 (h := h) (by omega) hs h0 n
      rw [sb_f kf] at d
      refine ⟨h1, ?_, k⟩
      rw [y, if_pos (show bi false = 0 from rfl), e_199_61 hs, ni_add1] at b0
      exact b0.trans d
    · have iT : ¬ i = nT s t := fun z => by
        have := gng_T V ht _ (Nat.le_refl _)
        rw [← z, y] at this; cases this
      obtain ⟨h1, d1, k1, g1⟩ := D187 hs
      have hs1 := Kg_Sh k1 hs
      have kk1 : Kg scT h h1 := Kg_mono (fun a k z => by unfold scT; omega) k1
      have kk2 : Kg scT h (pI h1 295 i 0) := Kg_pI (by unfold scT; omega) kk1
      have hs2 := Kg_Sh kk2 hs
      obtain ⟨h3, f, d3, k3, l3, m3⟩ := D189t (cap := cpx fun k => k == i) (L := 1) V ht hs2 (NO_T kk2 n) (fun m => by unfold cpx; split <;> omega) (fun x hx => by
        unfold cpx
        rw [hI_pI]
        by_cases z : x = i
        · rw [if_pos ⟨rfl, z⟩, if_pos (show (x == i) = true from beq_iff_eq.mpr z)]; rfl
        · rw [if_neg (fun w => z w.2), if_neg (show ¬ (x == i) = true by rw [beq_iff_eq]; exact z)]; exact g1 x hx) (by omega)
      have kk3 : Kg scT h h3 := Kg_trans kk2 (Kg_mono (fun a k z => by unfold scQ at z; unfold scT; omega) k3)
      have hs3 := Kg_Sh kk3 hs
      rw [y, if_neg (show ¬ bi true = 0 by decide), d1] at b0
      simp only [Option.bind_some, Option.toList_none, List.nil_append] at b0
      rw [e_199_40 hs1, ixb _ i24 (by omega), show (1 : Int32) = ni 1 from rfl, d3] at b0
      simp only [Option.bind_some, Option.toList_some, List.cons_append, List.nil_append] at b0
      rw [e_199_52 hs3] at b0
      have nx : ∀ o, ∃ h1, am_E 199 (14, [some (vr (some 261)), o, some (vi (sb (knq s t) (i + 1))), some (vi (ni (i + 1)))], [], h3) = some (some (vi (sb (knq s t) (sM s))), h1) ∧ Kg scT h3 h1 := fun o => ih (i + 1) o (h := h3) (by omega) hs3 (by rw [kk3.2.2.2.2.1 261 0 (by unfold scT; omega)]; exact h0) (NO_T kk3 n)
      by_cases z : f = 0
      · have zz : zc (cNt (nB s t) (nA s t) (cpx fun k => k == i)) (2 * nT s t) := by
          rcases m3 with m3 | ⟨e, _⟩
          · rw [z] at m3; exact zc_0 m3
          · omega
        have kt : knq s t i = true := by
          unfold knq knb
          rw [beq_eq_false_iff_ne.mpr iT, zcB_f.mpr nz, zcB_t.mpr zz]; rfl
        obtain ⟨h4, d4, k4⟩ := nx (am_nl o1)
        refine ⟨h4, ?_, Kg_trans kk3 k4⟩
        rw [sb_t kt] at d4
        rw [if_pos (show ni f = 0 by rw [z]; rfl), e_199_61 hs3, ni_add1] at b0
        exact b0.trans d4
      · have zz : ¬ zc (cNt (nB s t) (nA s t) (cpx fun k => k == i)) (2 * nT s t) := fun w => by
          rcases m3 with m3 | ⟨e, p1, r⟩
          · obtain ⟨p, r⟩ := Mxf_r m3
            exact z (zc_k w r)
          · have := zc_k w r
            omega
        have kf : knq s t i = false := by
          unfold knq knb
          rw [zcB_f.mpr zz, Bool.and_false, Bool.and_false]
        obtain ⟨h4, d4, k4⟩ := nx o1
        refine ⟨h4, ?_, Kg_trans kk3 k4⟩
        rw [sb_f kf] at d4
        rw [if_neg (show ¬ ni f = 0 by rw [show (0 : Int32) = ni 0 from rfl, ni_eq (by omega) (by omega)]; exact z), e_199_61 hs3, ni_add1] at b0
        exact b0.trans d4
theorem D199 {h : am_H} (V : Vs s) (ht : t < sS s) (hs : Sh h) (c : MS h s) (hb : hI h 261 43 = fI (sD s 22 3)) : ∃ h1, am_D 199 [vr (some 261), vi (ni t)] h = some (some (vi (sb (knq s t) (sM s))), h1) ∧ Kg scS h h1 := by
  have vM' := vM V
  obtain ⟨h1, f, d1, k1, mx', l', n1⟩ := D190 V ht hs c hb
  have hs1 := Kg_Sh k1 hs
  obtain ⟨p, r⟩ := Mxf_r mx'
  have b0 : am_D 199 [vr (some 261), vi (ni t)] h = am_E 199 (5, [some (vr (some 261)), some (vi (ni t)), none, none], [vi (ni f)], h1) := by
    rw [d_199 hs, d1]
    simp only [Option.bind_some, Option.toList_some, List.cons_append, List.nil_append]
  rw [e_199_5 hs1] at b0
  by_cases z : f = 0
  · refine ⟨h1, ?_, k1⟩
    rw [b0, if_pos (show ni f = 0 by rw [z]; rfl)]
    rw [z] at mx'
    have zz := zc_0 mx'
    rw [show sb (knq s t) (sM s) = 0 from (sb_0 (by omega)).mpr fun k _ => by
      unfold knq knb
      rw [zcB_t.mpr zz, Bool.not_true, Bool.false_and, Bool.and_false]]
  · have nz : ¬ zc (cNt (nB s t) (nA s t) (fun _ => 1)) (2 * nT s t) := fun w => z (zc_k w r)
    obtain ⟨h2, d2, k2⟩ := L199 V ht nz (sM s) 0 (am_nl (some (vi (ni t)))) (h := h1) (by omega) hs1 (by rw [k1.2.2.2.2.1 261 0 (by unfold scS; omega)]; exact mM c) n1
    refine ⟨h2, ?_, Kg_trans k1 (Kg_mono (fun a k z => by unfold scT at z; unfold scS; omega) k2)⟩
    rw [b0, if_neg (show ¬ ni f = 0 by rw [show (0 : Int32) = ni 0 from rfl, ni_eq (by omega) (by omega)]; exact z)]
    exact d2
theorem L201 (V : Vs s) {m : Nat} (hm : m < 24) : ∀ k t {h : am_H}, t + k = sS s → Sh h → CS h s → ∃ h1, am_E 201 (21, [some (vr (some 16)), some (vi (ni m)), some (vi (sb (fun t => knq s t m) t)), some (vi (ni t))], [], h) = some (some (vi (sb (fun t => knq s t m) (sS s))), h1) ∧ Kg sc h h1 := by
  have vS' := vS V
  intro k
  induction k with
  | zero =>
    intro t h e hs c
    refine ⟨h, ?_, Kg_refl h⟩
    rw [e_201_21 hs, cS c, if_pos (show ni (sS s) ≤ ni t by rw [ni_le (by omega) (by omega)]; omega), show t = sS s by omega]
  | succ k ih =>
    intro t h e hs c
    have ht : t < sS s := by omega
    obtain ⟨h1, d1, k1, n1⟩ := D178 V ht hs c
    have hs1 := Kg_Sh k1 hs
    obtain ⟨h2, d2, k2⟩ := ih (t + 1) (h := h1) (by omega) hs1 (CS_fr (fun _ _ z => Or.inl z) k1 V c)
    refine ⟨h2, ?_, Kg_trans k1 k2⟩
    rw [e_201_21 hs, cS c, if_neg (show ¬ ni (sS s) ≤ ni t by rw [ni_le (by omega) (by omega)]; omega), d1]
    simp only [Option.bind_some, Option.toList_none, List.nil_append]
    rw [e_201_37 hs1, D197s V ht hs1 n1 hm]
    simp only [Option.bind_some, Option.toList_some, List.cons_append, List.nil_append]
    rw [e_201_45 hs1]
    cases y : knq s t m
    · rw [sb_f (f := fun t => knq s t m) y] at d2
      rw [if_pos (show bi false = 0 from rfl), e_201_54 hs1, ni_add1]
      exact d2
    · rw [sb_t (f := fun t => knq s t m) y] at d2
      rw [if_neg (show ¬ bi true = 0 by decide), e_201_54 hs1, ni_add1]
      exact d2
theorem L202 (V : Vs s) {m : Nat} (hm : m < sM s) : ∀ k t {h : am_H}, t + k = sS s → Sh h → MS h s → hI h 261 43 = fI (sD s 22 3) → ∃ h1, am_E 202 (26, [some (vr (some 261)), some (vi (ni m)), some (vi (sb (fun t => knq s t m) t)), some (vi (ni t))], [], h) = some (some (vi (sb (fun t => knq s t m) (sS s))), h1) ∧ Kg scS h h1 := by
  have vS' := vS V
  have vM' := vM V
  intro k
  induction k with
  | zero =>
    intro t h e hs c hby
    refine ⟨h, ?_, Kg_refl h⟩
    rw [e_202_26 hs, mS c, if_pos (show ni (sS s) ≤ ni t by rw [ni_le (by omega) (by omega)]; omega), show t = sS s by omega]
  | succ k ih =>
    intro t h e hs c hby
    have ht : t < sS s := by omega
    obtain ⟨h1, d1, k1⟩ := D199 V ht hs c hby
    have hs1 := Kg_Sh k1 hs
    obtain ⟨h2, d2, k2⟩ := ih (t + 1) (h := h1) (by omega) hs1 (Mok_q V c (Kg_mono (fun a k z => by unfold scS at z; unfold scm; omega) k1)).1 (by rw [k1.2.2.2.2.1 261 43 (by unfold scS; omega)]; exact hby)
    refine ⟨h2, ?_, Kg_trans k1 k2⟩
    rw [e_202_26 hs, mS c, if_neg (show ¬ ni (sS s) ≤ ni t by rw [ni_le (by omega) (by omega)]; omega), d1]
    simp only [Option.bind_some, Option.toList_some, List.cons_append, List.nil_append]
    rw [e_202_39 hs1, bt_up (by omega) (show m < 32 by omega), decide_eq_true hm, Bool.true_and]
    cases y : knq s t m
    · rw [sb_f (f := fun t => knq s t m) y] at d2
      rw [if_neg (show ¬ bi false = 1 by decide), e_202_53 hs1, ni_add1]
      exact d2
    · rw [sb_t (f := fun t => knq s t m) y] at d2
      rw [if_pos (show bi true = 1 from rfl), e_202_53 hs1, ni_add1]
      exact d2
end KNC
theorem A30 : ∀ a1, Alike 198 200 [vi a1] := fun a1 => glue fun s V => by
  rcases rg a1 (sS s) with ⟨t, ht, rfl⟩ | hn
  · refine ⟨sb (knq s t) (sM s), s, V, HC_q V fun h hs c => ?_, HM_q V fun h hs c => ?_⟩
    · obtain ⟨h1, d, k, n⟩ := D178 V ht hs c
      have hs1 := Kg_Sh k hs
      refine ⟨h1, ?_, k⟩
      rw [d_198 hs, D23t hs V c ht]
      simp only [Option.bind_some, Option.toList_some, List.cons_append, List.nil_append]
      rw [e_198_8 hs, if_neg (show ¬ ni 1 = 0 by decide), d]
      simp only [Option.bind_some, Option.toList_none, List.nil_append]
      rw [e_198_22 hs1]
      exact L198 V ht hs1 (CS_fr (fun _ _ z => Or.inl z) k V c) n (sM s) 0 _ (by omega)
    · obtain ⟨h1, d, k⟩ := D199 V ht (hb_S hs) (hb_M V c) hb_43
      refine ⟨h1, ?_, Kg_trans hb_K (Kg_mono (fun a k z => by unfold scS at z; unfold scm; omega) k)⟩
      rw [d_200 hs, D26t hs V c ht]
      simp only [Option.bind_some, Option.toList_some, List.cons_append, List.nil_append]
      rw [e_200_5 hs, if_neg (show ¬ ni 1 = 0 by decide), hb_e c, d]
      simp only [Option.bind_some, Option.toList_some, List.cons_append, List.nil_append]
      exact e_200_27 (Kg_Sh k (hb_S hs))
  · exact refg V 1 (by omega) (fun h hs c => by
      rw [d_198 hs, D23f hs V c hn]; simp (disch := first | assumption | omega | (simp only [Sh_pI, Sh_pL, Sh_pIs, Sh_pLs]; assumption)) only [↓ixb, Option.bind_some, Option.bind_none, Option.toList_some, Option.toList_none, List.cons_append, List.nil_append, ni_lit, ni_of, ni_add, ni_mul, ni_sub, ni_div, ni_lt, ni_le, ni_eq, ng_lt, ng_le, ng_lt', ng_le', ng_eq, ng_eq', ng_ng, Int32.neg_neg, ix_ni, if_pos, if_neg, reduceIte, e_198_8, D7, e_198_16]) (fun h hs c => by
      rw [d_200 hs, D26f hs V c hn]; simp (disch := first | assumption | omega | (simp only [Sh_pI, Sh_pL, Sh_pIs, Sh_pLs]; assumption)) only [↓ixb, Option.bind_some, Option.bind_none, Option.toList_some, Option.toList_none, List.cons_append, List.nil_append, ni_lit, ni_of, ni_add, ni_mul, ni_sub, ni_div, ni_lt, ni_le, ni_eq, ng_lt, ng_le, ng_lt', ng_le', ng_eq, ng_eq', ng_ng, Int32.neg_neg, ix_ni, if_pos, if_neg, reduceIte, e_200_5, D10, e_200_13])
theorem A31 : ∀ a1, Alike 201 202 [vi a1] := fun a1 => glue fun s V => by
  have vM' := vM V
  rcases rg a1 (sM s) with ⟨m, hm, rfl⟩ | hn
  · refine ⟨sb (fun t => knq s t m) (sS s), s, V, HC_q V fun h hs c => ?_, HM_q V fun h hs c => ?_⟩
    · obtain ⟨h1, d, k⟩ := L201 V (show m < 24 by omega) (sS s) 0 (h := h) (by omega) hs c
      refine ⟨h1, ?_, k⟩
      rw [d_201 hs, D53t hs V c hm]
      simp only [Option.bind_some, Option.toList_some, List.cons_append, List.nil_append]
      rw [e_201_8 hs, if_neg (show ¬ ni 1 = 0 by decide)]
      exact d
    · obtain ⟨h1, d, k⟩ := L202 V hm (sS s) 0 (h := hb h s) (by omega) (hb_S hs) (hb_M V c) hb_43
      refine ⟨h1, ?_, Kg_trans hb_K (Kg_mono (fun a k z => by unfold scS at z; unfold scm; omega) k)⟩
      rw [d_202 hs, D56t hs V c hm]
      simp only [Option.bind_some, Option.toList_some, List.cons_append, List.nil_append]
      rw [e_202_5 hs, if_neg (show ¬ ni 1 = 0 by decide), hb_e c]
      exact d
  · exact refg V 1 (by omega) (fun h hs c => by
      rw [d_201 hs, D53f hs V c hn]; simp (disch := first | assumption | omega | (simp only [Sh_pI, Sh_pL, Sh_pIs, Sh_pLs]; assumption)) only [↓ixb, Option.bind_some, Option.bind_none, Option.toList_some, Option.toList_none, List.cons_append, List.nil_append, ni_lit, ni_of, ni_add, ni_mul, ni_sub, ni_div, ni_lt, ni_le, ni_eq, ng_lt, ng_le, ng_lt', ng_le', ng_eq, ng_eq', ng_ng, Int32.neg_neg, ix_ni, if_pos, if_neg, reduceIte, e_201_8, D7, e_201_16]) (fun h hs c => by
      rw [d_202 hs, D56f hs V c hn]; simp (disch := first | assumption | omega | (simp only [Sh_pI, Sh_pL, Sh_pIs, Sh_pLs]; assumption)) only [↓ixb, Option.bind_some, Option.bind_none, Option.toList_some, Option.toList_none, List.cons_append, List.nil_append, ni_lit, ni_of, ni_add, ni_mul, ni_sub, ni_div, ni_lt, ni_le, ni_eq, ng_lt, ng_le, ng_lt', ng_le', ng_eq, ng_eq', ng_ng, Int32.neg_neg, ix_ni, if_pos, if_neg, reduceIte, e_202_5, D10, e_202_13])
