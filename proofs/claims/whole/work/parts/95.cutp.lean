/-! the least cuts, the least as bits -/
def Xs (S : Nat → Bool) (m : Nat) : Bool := S (2 * m) && !S (2 * m + 1)
theorem Xs_t {S : Nat → Bool} {m : Nat} : Xs S m = true ↔ S (2 * m) = true ∧ S (2 * m + 1) = false := by
  unfold Xs
  rw [Bool.and_eq_true, Bool.not_eq_true']
theorem su_ge {f : Nat → Int} : ∀ {n}, (∀ k, k < n → 0 ≤ f k) → ∀ k, k < n → f k ≤ su f n
  | 0, _, k, hk => by omega
  | n + 1, h, k, hk => by
    have a := su_nn (f := f) (n := n) (fun k hk => h k (by omega))
    have b := h n (by omega)
    rw [su_s]
    by_cases z : k = n
    · rw [z]; omega
    · have := su_ge (f := f) (n := n) (fun k hk => h k (by omega)) k (by omega)
      omega
theorem cNt_cap {B : Nat → Bool} {A : Nat → Nat → Bool} {cap : Nat → Nat} {a b : Nat} : (cNt B A cap a b : Int) = cNt B A (fun _ => 0) a b + (if a < 48 ∧ a % 2 = 0 ∧ b = a + 1 then (cap (a / 2) : Int) else 0) := by
  unfold cNt
  by_cases h1 : a < 48 ∧ a % 2 = 0
  · rw [if_pos h1, if_pos h1]
    by_cases h2 : b = a + 1
    · rw [if_pos h2, if_pos h2, if_pos ⟨h1.1, h1.2, h2⟩]; show (cap (a / 2) : Int) = ((0 : Nat) : Int) + (cap (a / 2) : Int); omega
    · rw [if_neg h2, if_neg h2, if_neg (fun z => h2 z.2.2)]; rfl
  · rw [if_neg h1, if_neg h1, if_neg (show ¬ (a < 48 ∧ a % 2 = 0 ∧ b = a + 1) from fun z => h1 ⟨z.1, z.2.1⟩)]; omega
theorem cs_cap {B : Nat → Bool} {A : Nat → Nat → Bool} {cap : Nat → Nat} {S : Nat → Bool} : cs (cNt B A cap) S = cs (cNt B A (fun _ => 0)) S + su (fun m => if Xs S m = true then (cap m : Int) else 0) 24 := by
  have e : cs (cNt B A cap) S = su (fun a => su (fun b => if S a = true ∧ S b = false then (cNt B A (fun _ => 0) a b : Int) else 0) 49 + (if a < 48 ∧ a % 2 = 0 then (if S a = true ∧ S (a + 1) = false then (cap (a / 2) : Int) else 0) else 0)) 49 := by
    unfold cs
    refine su_eq fun a ha => ?_
    have e2 : su (fun v => if S a = true ∧ S v = false then (cNt B A cap a v : Int) else 0) 49 = su (fun v => (if S a = true ∧ S v = false then (cNt B A (fun _ => 0) a v : Int) else 0) + (if v = a + 1 then (if a < 48 ∧ a % 2 = 0 then (if S a = true ∧ S (a + 1) = false then (cap (a / 2) : Int) else 0) else 0) else 0)) 49 := su_eq fun v hv => by
      rw [cNt_cap]
      by_cases h1 : S a = true ∧ S v = false
      · rw [if_pos h1, if_pos h1]
        by_cases h2 : v = a + 1
        · rw [if_pos h2, ← h2, if_pos h1]
          by_cases h3 : a < 48 ∧ a % 2 = 0
          · rw [if_pos h3, if_pos ⟨h3.1, h3.2, rfl⟩]
          · rw [if_neg h3, if_neg (fun z => h3 ⟨z.1, z.2.1⟩)]
        · rw [if_neg h2, if_neg (fun z => h2 z.2.2)]
      · rw [if_neg h1, if_neg h1]
        by_cases h2 : v = a + 1
        · rw [if_pos h2, ← h2, if_neg h1]
          split <;> rfl
        · rw [if_neg h2]; rfl
    rw [e2, su_add, su_1]
    by_cases h : a + 1 < 49
    · rw [if_pos h]
    · rw [if_neg h, if_neg (show ¬ (a < 48 ∧ a % 2 = 0) by omega)]
  rw [e, su_add]
  have g : su (fun a => if a < 48 ∧ a % 2 = 0 then (if S a = true ∧ S (a + 1) = false then (cap (a / 2) : Int) else 0) else 0) 49 = su (fun m => if Xs S m = true then (cap m : Int) else 0) 24 := by
    rw [show (49 : Nat) = 48 + 1 from rfl, su_s, show (48 : Nat) = 2 * 24 from rfl, su_2, if_neg (by omega)]
    have e3 : su (fun m => (if 2 * m < 2 * 24 ∧ 2 * m % 2 = 0 then (if S (2 * m) = true ∧ S (2 * m + 1) = false then (cap (2 * m / 2) : Int) else 0) else 0) + (if 2 * m + 1 < 2 * 24 ∧ (2 * m + 1) % 2 = 0 then (if S (2 * m + 1) = true ∧ S (2 * m + 1 + 1) = false then (cap ((2 * m + 1) / 2) : Int) else 0) else 0)) 24 = su (fun m => if Xs S m = true then (cap m : Int) else 0) 24 := su_eq fun m hm => by
      rw [if_pos (show 2 * m < 2 * 24 ∧ 2 * m % 2 = 0 by omega), if_neg (show ¬ (2 * m + 1 < 2 * 24 ∧ (2 * m + 1) % 2 = 0) by omega), show 2 * m / 2 = m by omega]
      by_cases h : S (2 * m) = true ∧ S (2 * m + 1) = false
      · rw [if_pos h, if_pos (Xs_t.mpr h)]; omega
      · rw [if_neg h, if_neg (fun z => h (Xs_t.mp z))]; rfl
    rw [e3]; omega
  rw [g]; rfl
theorem cs_inf {B : Nat → Bool} {A : Nat → Nat → Bool} {S : Nat → Bool} (h : cs (cNt B A (fun _ => 0)) S < 99) : cs (cNt B A (fun _ => 0)) S = 0 := by
  have n2 : ∀ u v, 0 ≤ (if S u = true ∧ S v = false then (cNt B A (fun _ => 0) u v : Int) else 0) := fun u v => by split <;> omega
  have all : ∀ a b, a < 49 → b < 49 → (if S a = true ∧ S b = false then (cNt B A (fun _ => 0) a b : Int) else 0) = 0 := fun a b ha hb => by
    by_cases y : S a = true ∧ S b = false
    · rw [if_pos y]
      have v : cNt B A (fun _ => 0) a b = 0 ∨ cNt B A (fun _ => 0) a b = 99 := by
        unfold cNt
        split
        · split
          · exact Or.inl rfl
          · exact Or.inl rfl
        · split
          · split
            · exact Or.inr rfl
            · exact Or.inl rfl
          · split
            · exact Or.inr rfl
            · exact Or.inl rfl
      rcases v with v | v
      · rw [v]; rfl
      · have g1 := su_ge (f := fun v => if S a = true ∧ S v = false then (cNt B A (fun _ => 0) a v : Int) else 0) (n := 49) (fun k _ => n2 a k) b hb
        have g2 := su_ge (f := fun u => su (fun v => if S u = true ∧ S v = false then (cNt B A (fun _ => 0) u v : Int) else 0) 49) (n := 49) (fun k _ => su_nn fun j _ => n2 k j) a ha
        have g1' : (if S a = true ∧ S b = false then (cNt B A (fun _ => 0) a b : Int) else 0) ≤ su (fun v => if S a = true ∧ S v = false then (cNt B A (fun _ => 0) a v : Int) else 0) 49 := g1
        have g2' : su (fun v => if S a = true ∧ S v = false then (cNt B A (fun _ => 0) a v : Int) else 0) 49 ≤ cs (cNt B A (fun _ => 0)) S := g2
        rw [if_pos y, v] at g1'
        omega
    · rw [if_neg y]
  unfold cs
  have e : su (fun u => su (fun v => if S u = true ∧ S v = false then (cNt B A (fun _ => 0) u v : Int) else 0) 49) 49 = su (fun _ => 0) 49 := su_eq fun a ha => by
    have e2 : su (fun v => if S a = true ∧ S v = false then (cNt B A (fun _ => 0) a v : Int) else 0) 49 = su (fun _ => 0) 49 := su_eq fun b hb => all a b ha hb
    rw [e2, su_0]
  rw [e, su_0]
/-- the least cuts that leave out who was thrown out -/
def Fm (B : Nat → Bool) (A : Nat → Nat → Bool) (T f : Nat) (C : Nat → Bool) (k : Nat) (S : Nat → Bool) : Prop := Cut (2 * T) S ∧ cs (cNt B A (fun _ => 1)) S = (f : Int) ∧ ∀ o, 24 - k ≤ o → o < 24 → C o = false → Xs S o = false
noncomputable def pdec (p : Prop) : Bool := @decide p (Classical.propDecidable p)
theorem pdec_t {p : Prop} : pdec p = true ↔ p := by unfold pdec; exact @decide_eq_true_iff p (Classical.propDecidable _)
theorem pdec_f {p : Prop} : pdec p = false ↔ ¬ p := by unfold pdec; exact @decide_eq_false_iff_not p (Classical.propDecidable _)
noncomputable def cch (B : Nat → Bool) (A : Nat → Nat → Bool) (T f : Nat) : Nat → Nat → Bool
  | 0 => fun _ => false
  | k + 1 => fun o => cch B A T f k o || ((23 - k == o) && pdec (∀ S, Fm B A T f (cch B A T f k) k S → Xs S (23 - k) = true))
section CTP
variable {B : Nat → Bool} {A : Nat → Nat → Bool} {T f : Nat}
theorem cch_t {k : Nat} (p : ∀ S, Fm B A T f (cch B A T f k) k S → Xs S (23 - k) = true) (o : Nat) : cch B A T f (k + 1) o = (cch B A T f k o || (23 - k == o)) := by
  show (cch B A T f k o || ((23 - k == o) && pdec (∀ S, Fm B A T f (cch B A T f k) k S → Xs S (23 - k) = true))) = _
  rw [pdec_t.mpr p, Bool.and_true]
theorem cch_f {k : Nat} (p : ¬ ∀ S, Fm B A T f (cch B A T f k) k S → Xs S (23 - k) = true) (o : Nat) : cch B A T f (k + 1) o = cch B A T f k o := by
  show (cch B A T f k o || ((23 - k == o) && pdec (∀ S, Fm B A T f (cch B A T f k) k S → Xs S (23 - k) = true))) = _
  rw [pdec_f.mpr p, Bool.and_false, Bool.or_false]
theorem cch_in : ∀ k, k ≤ 24 → ∀ o, cch B A T f k o = true → 24 - k ≤ o ∧ o < 24
  | 0, _, o, h => by cases h
  | k + 1, hk, o, h => by
    have h' : (cch B A T f k o || ((23 - k == o) && pdec (∀ S, Fm B A T f (cch B A T f k) k S → Xs S (23 - k) = true))) = true := h
    rw [Bool.or_eq_true, Bool.and_eq_true] at h'
    rcases h' with h' | h'
    · have := cch_in k (by omega) o h'
      omega
    · have := beq_iff_eq.mp h'.1
      omega
theorem Fm_t {k : Nat} (hk : k < 24) (p : ∀ S, Fm B A T f (cch B A T f k) k S → Xs S (23 - k) = true) (S : Nat → Bool) : Fm B A T f (cch B A T f (k + 1)) (k + 1) S ↔ Fm B A T f (cch B A T f k) k S := by
  constructor
  · rintro ⟨a, b, c⟩
    refine ⟨a, b, fun o h1 h2 h3 => c o (by omega) h2 ?_⟩
    rw [cch_t p, h3, beq_eq_false_iff_ne.mpr (show 23 - k ≠ o by omega)]; rfl
  · rintro ⟨a, b, c⟩
    refine ⟨a, b, fun o h1 h2 h3 => ?_⟩
    rw [cch_t p, Bool.or_eq_false_iff] at h3
    have ne := beq_eq_false_iff_ne.mp h3.2
    exact c o (by omega) h2 h3.1
theorem Fm_f {k : Nat} (hk : k < 24) (p : ¬ ∀ S, Fm B A T f (cch B A T f k) k S → Xs S (23 - k) = true) (S : Nat → Bool) : Fm B A T f (cch B A T f (k + 1)) (k + 1) S ↔ Fm B A T f (cch B A T f k) k S ∧ Xs S (23 - k) = false := by
  constructor
  · rintro ⟨a, b, c⟩
    refine ⟨⟨a, b, fun o h1 h2 h3 => c o (by omega) h2 (by rw [cch_f p]; exact h3)⟩, c (23 - k) (by omega) (by omega) ?_⟩
    rw [cch_f p]
    cases y : cch B A T f k (23 - k)
    · rfl
    · have := cch_in k (by omega) _ y
      omega
  · rintro ⟨⟨a, b, c⟩, d⟩
    refine ⟨a, b, fun o h1 h2 h3 => ?_⟩
    rw [cch_f p] at h3
    by_cases z : o = 23 - k
    · rw [z]; exact d
    · exact c o (by omega) h2 h3
theorem cch_inv (mf : Mxf (cNt B A (fun _ => 1)) (2 * T) f) : ∀ k, k ≤ 24 → (∃ S, Fm B A T f (cch B A T f k) k S) ∧ ∀ S, Fm B A T f (cch B A T f k) k S → ∀ o, cch B A T f k o = true → Xs S o = true
  | 0, _ => by
    refine ⟨?_, fun S _ o h => by cases h⟩
    obtain ⟨p, S, r, u, z⟩ := mf
    exact ⟨S, u, (Rsd_eq r u z).symm, fun o h1 h2 _ => by omega⟩
  | k + 1, hk => by
    obtain ⟨⟨S0, a0⟩, b0⟩ := cch_inv mf k (by omega)
    by_cases p : ∀ S, Fm B A T f (cch B A T f k) k S → Xs S (23 - k) = true
    · refine ⟨⟨S0, (Fm_t (by omega) p S0).mpr a0⟩, fun S hS o ho => ?_⟩
      have hS' := (Fm_t (by omega) p S).mp hS
      rw [cch_t p, Bool.or_eq_true] at ho
      rcases ho with ho | ho
      · exact b0 S hS' o ho
      · rw [← beq_iff_eq.mp ho]; exact p S hS'
    · refine ⟨?_, fun S hS o ho => ?_⟩
      · have q : ∃ S, Fm B A T f (cch B A T f k) k S ∧ Xs S (23 - k) = false := by
          refine Classical.byContradiction fun n => p fun S hS => ?_
          cases y : Xs S (23 - k)
          · exact absurd ⟨S, hS, y⟩ n
          · rfl
        obtain ⟨S, hS, x⟩ := q
        exact ⟨S, (Fm_f (by omega) p S).mpr ⟨hS, x⟩⟩
      · rw [cch_f p] at ho
        exact b0 S ((Fm_f (by omega) p S).mp hS).1 o ho
/-- how many are thrown out -/
def cnI (C : Nat → Bool) : Int := su (fun o => if C o = true then 1 else 0) 24
theorem cs_1 {S : Nat → Bool} {f : Nat} (f24 : f ≤ 24) (h : cs (cNt B A (fun _ => 1)) S = (f : Int)) : cs (cNt B A (fun _ => 0)) S = 0 ∧ cnI (Xs S) = (f : Int) := by
  have e := cs_cap (B := B) (A := A) (cap := fun _ => 1) (S := S)
  have n : 0 ≤ su (fun m => if Xs S m = true then ((1 : Nat) : Int) else 0) 24 := su_nn fun k _ => by split <;> omega
  have i := cs_inf (B := B) (A := A) (S := S) (by omega)
  refine ⟨i, ?_⟩
  have e2 : su (fun m => if Xs S m = true then ((1 : Nat) : Int) else 0) 24 = cnI (Xs S) := rfl
  rw [e2] at e
  omega
theorem cn_le {C D : Nat → Bool} (h : ∀ o, o < 24 → C o = true → D o = true) : cnI C ≤ cnI D := su_le fun o ho => by
  by_cases z : C o = true
  · rw [if_pos z, if_pos (h o ho z)]; omega
  · rw [if_neg z]; split <;> omega
theorem cn_lt {C D : Nat → Bool} (h : ∀ o, o < 24 → C o = true → D o = true) {x : Nat} (hx : x < 24) (c : C x = false) (d : D x = true) : cnI C + 1 ≤ cnI D := by
  have e : cnI C + 1 = su (fun o => (if C o = true then (1 : Int) else 0) + if o = x then 1 else 0) 24 := by
    rw [su_add, su_1, if_pos hx]; rfl
  rw [e]
  refine su_le fun o ho => ?_
  by_cases z : o = x
  · rw [z, c, d, if_neg (by decide), if_pos rfl, if_pos rfl]; omega
  · rw [if_neg z]
    by_cases y : C o = true
    · rw [if_pos y, if_pos (h o ho y)]; omega
    · rw [if_neg y]; split <;> omega
theorem cch_no {k : Nat} (mf : Mxf (cNt B A (fun _ => 1)) (2 * T) f) (f24 : f ≤ 24) (hk : k < 24) (e : cnI (cch B A T f k) = (f : Int)) : ¬ ∀ S, Fm B A T f (cch B A T f k) k S → Xs S (23 - k) = true := fun p => by
  obtain ⟨⟨S, a⟩, b⟩ := cch_inv mf k (by omega)
  have c := (cs_1 f24 a.2.1).2
  have y : cch B A T f k (23 - k) = false := by
    cases y : cch B A T f k (23 - k)
    · rfl
    · have := cch_in k (by omega) _ y
      omega
  have := cn_lt (fun o _ => b S a o) (show 23 - k < 24 by omega) y (p S a)
  omega
theorem cch_end {k : Nat} (mf : Mxf (cNt B A (fun _ => 1)) (2 * T) f) (f24 : f ≤ 24) (e : cnI (cch B A T f k) = (f : Int)) : ∀ j, k + j ≤ 24 → ∀ o, cch B A T f (k + j) o = cch B A T f k o
  | 0, _, o => rfl
  | j + 1, h, o => by
    have ih := cch_end mf f24 e j (by omega)
    have e' : cnI (cch B A T f (k + j)) = (f : Int) := by
      rw [← e]; exact su_eq fun o _ => by rw [ih o]
    rw [show k + (j + 1) = k + j + 1 by omega, cch_f (cch_no mf f24 (by omega) e'), ih o]
theorem cch_fe {k : Nat} (mf : Mxf (cNt B A (fun _ => 1)) (2 * T) f) (f24 : f ≤ 24) (hk : k ≤ 24) : cnI (cch B A T f k) ≤ (f : Int) := by
  obtain ⟨⟨S, a⟩, b⟩ := cch_inv mf k hk
  have c := (cs_1 f24 a.2.1).2
  have := cn_le (C := cch B A T f k) (D := Xs S) (fun o _ => b S a o)
  omega
/-- who goes on to nobody is in no least cut -/
theorem X_net {m : Nat} (hm : m < 24) (hA : ∀ o, o < 24 → A m o = false) (mf : Mxf (cNt B A (fun _ => 1)) (2 * T) f) {S : Nat → Bool} (u : Cut (2 * T) S) (e : cs (cNt B A (fun _ => 1)) S = (f : Int)) : Xs S m = false := by
  cases y : Xs S m
  · rfl
  · obtain ⟨y1, y2⟩ := Xs_t.mp y
    have u' : Cut (2 * T) (fun d => if d = 2 * m + 1 then true else S d) := by
      refine ⟨?_, ?_⟩
      · show (if 48 = 2 * m + 1 then true else S 48) = true
        rw [u.1]; split <;> rfl
      · show (if 2 * T = 2 * m + 1 then true else S (2 * T)) = false
        rw [if_neg (by omega)]; exact u.2
    obtain ⟨p, r⟩ := Mxf_r mf
    have l := Rsd_le r u'
    have e1 : cs (cNt B A (fun _ => 1)) (fun d => if d = 2 * m + 1 then true else S d) + 1 = su (fun a => su (fun b => (if (if a = 2 * m + 1 then true else S a) = true ∧ (if b = 2 * m + 1 then true else S b) = false then (cNt B A (fun _ => 1) a b : Int) else 0) + (if a = 2 * m ∧ b = 2 * m + 1 then 1 else 0)) 49) 49 := by
      have e2 : su (fun a => su (fun b => (if (if a = 2 * m + 1 then true else S a) = true ∧ (if b = 2 * m + 1 then true else S b) = false then (cNt B A (fun _ => 1) a b : Int) else 0) + (if a = 2 * m ∧ b = 2 * m + 1 then 1 else 0)) 49) 49 = su (fun a => su (fun b => (if (if a = 2 * m + 1 then true else S a) = true ∧ (if b = 2 * m + 1 then true else S b) = false then (cNt B A (fun _ => 1) a b : Int) else 0)) 49 + su (fun b => if a = 2 * m ∧ b = 2 * m + 1 then (1 : Int) else 0) 49) 49 := su_eq fun a _ => su_add 49
      rw [e2, su_add, su_11 (by omega) (by omega)]; rfl
    have e3 : su (fun a => su (fun b => (if (if a = 2 * m + 1 then true else S a) = true ∧ (if b = 2 * m + 1 then true else S b) = false then (cNt B A (fun _ => 1) a b : Int) else 0) + (if a = 2 * m ∧ b = 2 * m + 1 then 1 else 0)) 49) 49 ≤ cs (cNt B A (fun _ => 1)) S := by
      unfold cs
      refine su_le fun a ha => su_le fun b hb => ?_
      by_cases h1 : a = 2 * m ∧ b = 2 * m + 1
      · rw [if_pos h1, h1.1, h1.2, if_pos (show 2 * m + 1 = 2 * m + 1 from rfl), if_neg (show ¬ (_ ∧ true = false) from fun z => absurd z.2 (by decide)), if_pos ⟨y1, y2⟩]
        unfold cNt
        rw [if_pos (show 2 * m < 48 ∧ 2 * m % 2 = 0 by omega), if_pos rfl]; show (0 : Int) + 1 ≤ ((1 : Nat) : Int); decide
      · rw [if_neg h1]
        by_cases h2 : b = 2 * m + 1
        · rw [if_pos h2, if_neg (show ¬ (_ ∧ true = false) from fun z => absurd z.2 (by decide))]
          split <;> omega
        · rw [if_neg h2]
          by_cases h3 : a = 2 * m + 1
          · have z0 : cNt B A (fun _ => 1) a b = 0 := by
              unfold cNt
              rw [if_neg (by omega), if_pos (by omega), if_neg (fun z => by
                rw [show a / 2 = m by omega, hA _ (by omega)] at z
                exact absurd z.2.2 (by decide))]
            rw [z0]
            split <;> split <;> omega
          · rw [if_neg h3]; omega
    omega
/-- the model's rooms after k men -/
def capk (G : Nat → Bool) (C : Nat → Bool) (k x : Nat) : Nat := if (G x && decide (24 - k ≤ x)) = true then (if C x = true then 0 else 99) else 1
theorem capk_99 {G C : Nat → Bool} {k x : Nat} : capk G C k x ≤ 99 := by unfold capk; split <;> (try split) <;> omega
theorem flow_no {G : Nat → Bool} {k : Nat} (hG : ∀ m, m < 24 → G m = false → ∀ o, o < 24 → A m o = false) (hk : k < 24) (mf : Mxf (cNt B A (fun _ => 1)) (2 * T) f) (f24 : f ≤ 24) {S : Nat → Bool} (hS : Fm B A T f (cch B A T f k) k S) (x : Xs S (23 - k) = false) : cs (cNt B A (fun y => if y = 23 - k then 99 else capk G (cch B A T f k) k y)) S = (f : Int) - cnI (cch B A T f k) := by
  obtain ⟨_, b⟩ := cch_inv mf k (by omega)
  obtain ⟨i0, cX⟩ := cs_1 f24 hS.2.1
  have e1 : su (fun m => if Xs S m = true then ((if m = 23 - k then 99 else capk G (cch B A T f k) k m : Nat) : Int) else 0) 24 + cnI (cch B A T f k) = cnI (Xs S) := by
    unfold cnI
    rw [← su_add]
    refine su_eq fun o ho => ?_
    show (if Xs S o = true then ((if o = 23 - k then 99 else capk G (cch B A T f k) k o : Nat) : Int) else 0) + (if cch B A T f k o = true then 1 else 0) = if Xs S o = true then 1 else 0
    by_cases y : Xs S o = true
    · rw [if_pos y, if_pos y]
      by_cases z : o = 23 - k
      · rw [z, x] at y; cases y
      · rw [if_neg z]
        unfold capk
        by_cases w : 24 - k ≤ o
        · have co : cch B A T f k o = true := by
            cases q : cch B A T f k o
            · rw [hS.2.2 o w ho q] at y; cases y
            · rfl
          have g : G o = true := by
            cases q : G o
            · rw [X_net ho (hG o ho q) mf hS.1 hS.2.1] at y; cases y
            · rfl
          rw [g, decide_eq_true w, co, if_pos (by decide), if_pos rfl, if_pos rfl]; rfl
        · have co : ¬ cch B A T f k o = true := fun q => by have := cch_in k (by omega) o q; omega
          rw [decide_eq_false w, Bool.and_false, if_neg (by decide), if_neg co]; rfl
    · have co : ¬ cch B A T f k o = true := fun q => y (b S hS o q)
      rw [if_neg y, if_neg y, if_neg co]; rfl
  rw [cs_cap, i0]
  have e2 : su (fun m => if Xs S m = true then ((if m = 23 - k then 99 else capk G (cch B A T f k) k m : Nat) : Int) else 0) 24 = (f : Int) - cnI (cch B A T f k) := by omega
  rw [e2]; omega
theorem flow_yes {G : Nat → Bool} {k : Nat} (hG : ∀ m, m < 24 → G m = false → ∀ o, o < 24 → A m o = false) (hk : k < 24) (mf : Mxf (cNt B A (fun _ => 1)) (2 * T) f) (f24 : f ≤ 24) {S : Nat → Bool} (u : Cut (2 * T) S) (l : cs (cNt B A (fun y => if y = 23 - k then 99 else capk G (cch B A T f k) k y)) S ≤ (f : Int) - cnI (cch B A T f k)) : Fm B A T f (cch B A T f k) k S ∧ Xs S (23 - k) = false := by
  have cn0 : 0 ≤ cnI (cch B A T f k) := su_nn fun o _ => by split <;> omega
  have nn : ∀ m, m < 24 → 0 ≤ (if Xs S m = true then ((if m = 23 - k then 99 else capk G (cch B A T f k) k m : Nat) : Int) else 0) := fun m _ => by split <;> omega
  have e := cs_cap (B := B) (A := A) (cap := fun y => if y = 23 - k then 99 else capk G (cch B A T f k) k y) (S := S)
  have e' : cs (cNt B A (fun y => if y = 23 - k then 99 else capk G (cch B A T f k) k y)) S = cs (cNt B A (fun _ => 0)) S + su (fun m => if Xs S m = true then ((if m = 23 - k then 99 else capk G (cch B A T f k) k m : Nat) : Int) else 0) 24 := e
  have s0 := su_nn nn
  have i0 := cs_inf (B := B) (A := A) (S := S) (by omega)
  have small : ∀ m, m < 24 → Xs S m = true → (if m = 23 - k then 99 else capk G (cch B A T f k) k m) < 99 := fun m hm x => by
    have g := su_ge nn m hm
    rw [if_pos x] at g
    omega
  have x0 : Xs S (23 - k) = false := by
    cases y : Xs S (23 - k)
    · rfl
    · have := small (23 - k) (by omega) y
      rw [if_pos rfl] at this
      omega
  have le : cnI (Xs S) ≤ su (fun m => if Xs S m = true then ((if m = 23 - k then 99 else capk G (cch B A T f k) k m : Nat) : Int) else 0) 24 + cnI (cch B A T f k) := by
    unfold cnI
    rw [← su_add]
    refine su_le fun o ho => ?_
    show (if Xs S o = true then (1 : Int) else 0) ≤ (if Xs S o = true then ((if o = 23 - k then 99 else capk G (cch B A T f k) k o : Nat) : Int) else 0) + (if cch B A T f k o = true then 1 else 0)
    by_cases y : Xs S o = true
    · have sm := small o ho y
      rw [if_pos y, if_pos y]
      by_cases z : o = 23 - k
      · rw [z, x0] at y; cases y
      · rw [if_neg z] at sm ⊢
        unfold capk at sm ⊢
        by_cases w : (G o && decide (24 - k ≤ o)) = true
        · rw [if_pos w] at sm ⊢
          by_cases c : cch B A T f k o = true
          · rw [if_pos c, if_pos c]; decide
          · rw [if_neg c] at sm; omega
        · rw [if_neg w]
          split <;> decide
    · rw [if_neg y, if_neg y]
      split <;> decide
  have e1 : cs (cNt B A (fun _ => 1)) S = cs (cNt B A (fun _ => 0)) S + cnI (Xs S) := cs_cap
  obtain ⟨p, r⟩ := Mxf_r mf
  have ge := Rsd_le r u
  have eq : cs (cNt B A (fun _ => 1)) S = (f : Int) := by omega
  refine ⟨⟨u, eq, fun o h1 h2 h3 => ?_⟩, x0⟩
  cases y : Xs S o
  · rfl
  · have sm := small o h2 y
    rw [if_neg (show ¬ o = 23 - k by omega)] at sm
    unfold capk at sm
    cases g : G o
    · rw [X_net h2 (hG o h2 g) mf u eq] at y; cases y
    · rw [g, decide_eq_true h1, if_pos (by decide), h3, if_neg (by decide)] at sm
      omega
end CTP
