/-! flows: residual nets, cuts -/
def su (f : Nat → Int) : Nat → Int
  | 0 => 0
  | n + 1 => su f n + f n
theorem su_s {f : Nat → Int} {n : Nat} : su f (n + 1) = su f n + f n := rfl
theorem su_eq {f g : Nat → Int} : ∀ {n : Nat}, (∀ k, k < n → f k = g k) → su f n = su g n
  | 0, _ => rfl
  | n + 1, h => by rw [su_s, su_s, su_eq (n := n) (fun k hk => h k (by omega)), h n (by omega)]
theorem su_add {f g : Nat → Int} : ∀ n, su (fun k => f k + g k) n = su f n + su g n
  | 0 => rfl
  | n + 1 => by rw [su_s, su_s, su_s, su_add n]; omega
theorem su_0 : ∀ n, su (fun _ => 0) n = 0
  | 0 => rfl
  | n + 1 => by rw [su_s, su_0 n]; rfl
theorem su_1 {v : Nat} {x : Int} : ∀ {n : Nat}, su (fun k => if k = v then x else 0) n = if v < n then x else 0
  | 0 => by rw [if_neg (by omega)]; rfl
  | n + 1 => by
    rw [su_s, su_1]
    by_cases h : n = v
    · rw [if_neg (by omega), if_pos h, if_pos (by omega)]; omega
    · by_cases h2 : v < n
      · rw [if_pos h2, if_neg h, if_pos (by omega)]; omega
      · rw [if_neg h2, if_neg h, if_neg (by omega)]; omega
theorem su_le {f g : Nat → Int} : ∀ {n : Nat}, (∀ k, k < n → f k ≤ g k) → su f n ≤ su g n
  | 0, _ => Int.le_refl _
  | n + 1, h => by
    have a := su_le (f := f) (g := g) (n := n) (fun k hk => h k (by omega))
    have b := h n (by omega)
    rw [su_s, su_s]; omega
def chi (S : Nat → Bool) (x : Nat) : Int := if S x = true then 1 else 0
/-- what leads out of S -/
def cs (p : Nat → Nat → Nat) (S : Nat → Bool) : Int := su (fun u => su (fun v => if S u = true ∧ S v = false then (p u v : Int) else 0) 49) 49
/-- one more from u to v -/
def agN (p : Nat → Nat → Nat) (u v : Nat) : Nat → Nat → Nat := fun a b => if a = u ∧ b = v then p a b - 1 else if a = v ∧ b = u then p a b + 1 else p a b
theorem su_11 {u v n : Nat} {x : Int} (hu : u < n) (hv : v < n) : su (fun a => su (fun b => if a = u ∧ b = v then x else 0) n) n = x := by
  have e : su (fun a => su (fun b => if a = u ∧ b = v then x else 0) n) n = su (fun a => if a = u then x else 0) n := su_eq fun a _ => by
    by_cases h : a = u
    · rw [if_pos h]
      have e2 : su (fun b => if a = u ∧ b = v then x else 0) n = su (fun b => if b = v then x else 0) n := su_eq fun b _ => by
        by_cases h2 : b = v
        · rw [if_pos ⟨h, h2⟩, if_pos h2]
        · rw [if_neg (fun z => h2 z.2), if_neg h2]
      rw [e2, su_1, if_pos hv]
    · rw [if_neg h]
      have e2 : su (fun b => if a = u ∧ b = v then x else 0) n = su (fun _ => 0) n := su_eq fun b _ => if_neg (fun z => h z.1)
      rw [e2, su_0]
  rw [e, su_1, if_pos hu]
theorem cs_ag {p : Nat → Nat → Nat} {u v : Nat} (S : Nat → Bool) (hu : u < 49) (hv : v < 49) (ne : u ≠ v) (h1 : 1 ≤ p u v) : cs (agN p u v) S = cs p S + (chi S v - chi S u) := by
  have e : cs (agN p u v) S = su (fun a => su (fun b => if S a = true ∧ S b = false then (p a b : Int) else 0) 49 + (su (fun b => if a = u ∧ b = v then (if S u = true ∧ S v = false then -1 else 0) else 0) 49 + su (fun b => if a = v ∧ b = u then (if S v = true ∧ S u = false then 1 else 0) else 0) 49)) 49 := by
    unfold cs
    refine su_eq fun a _ => ?_
    rw [← su_add, ← su_add]
    refine su_eq fun b _ => ?_
    unfold agN
    by_cases x1 : a = u ∧ b = v
    · obtain ⟨rfl, rfl⟩ := x1
      have x2 : ¬ (a = b ∧ b = a) := fun z => ne z.1
      rw [if_pos (show a = a ∧ b = b from ⟨rfl, rfl⟩), if_pos (show a = a ∧ b = b from ⟨rfl, rfl⟩), if_neg x2]
      by_cases y : S a = true ∧ S b = false
      · rw [if_pos y, if_pos y, if_pos y]; omega
      · rw [if_neg y, if_neg y, if_neg y]; rfl
    · rw [if_neg x1, if_neg x1]
      by_cases x2 : a = v ∧ b = u
      · rw [if_pos x2, if_pos x2, x2.1, x2.2]
        by_cases y : S v = true ∧ S u = false
        · rw [if_pos y, if_pos y, if_pos y]; omega
        · rw [if_neg y, if_neg y, if_neg y]; rfl
      · rw [if_neg x2, if_neg x2]; omega
  rw [e, su_add, su_add, su_11 hu hv, su_11 hv hu]
  show cs p S + _ = _
  unfold chi
  cases S u <;> cases S v <;> simp
/-- back along the ways in, from x -/
def trc (par : Nat → Nat) : Nat → (Nat → Nat → Nat) → Nat → (Nat → Nat → Nat)
  | 0, p, _ => p
  | n + 1, p, x => if x = 48 then p else trc par n (agN p (par x) x) (par x)
theorem trc_s {par : Nat → Nat} {n x : Nat} {p : Nat → Nat → Nat} : trc par (n + 1) p x = if x = 48 then p else trc par n (agN p (par x) x) (par x) := rfl
/-- ways in: every node that is seen, but 48, was seen from one that was seen before it -/
def Tree (seen : Nat → Prop) (par rk : Nat → Nat) (p : Nat → Nat → Nat) : Prop := ∀ x, seen x → x ≠ 48 → x < 49 ∧ seen (par x) ∧ par x < 49 ∧ rk (par x) < rk x ∧ 1 ≤ p (par x) x
theorem trc_cs {seen : Nat → Prop} {par rk : Nat → Nat} {p0 : Nat → Nat → Nat} (T : Tree seen par rk p0) (S : Nat → Bool) : ∀ n p x, seen x → rk x ≤ n → rk x < n ∨ x = 48 → (∀ a b, rk a ≤ rk x → rk b ≤ rk x → p a b = p0 a b) → cs (trc par n p x) S = cs p S + (chi S x - chi S 48)
  | 0, p, x, hx, h1, h2, h3 => by
    rcases h2 with h2 | h2
    · omega
    · rw [h2]; show cs p S = _; omega
  | n + 1, p, x, hx, h1, h2, h3 => by
    rw [trc_s]
    by_cases z : x = 48
    · rw [if_pos z, z]; omega
    · obtain ⟨t1, t2, t3, t4, t5⟩ := T x hx z
      have ne : par x ≠ x := fun y => by rw [y] at t4; omega
      have e1 : p (par x) x = p0 (par x) x := h3 _ _ (by omega) (Nat.le_refl _)
      rw [if_neg z, trc_cs T S n (agN p (par x) x) (par x) t2 (by omega) (Or.inl (by omega)) (fun a b ha hb => by
        unfold agN
        rw [if_neg (fun y => by rw [y.2] at hb; omega), if_neg (fun y => by rw [y.1] at ha; omega)]
        exact h3 a b (by omega) (by omega)), cs_ag S t3 t1 ne (by omega)]
      omega
/-- a residual net after k ways -/
def Rsd (c p : Nat → Nat → Nat) (T k : Nat) : Prop := (∀ S, cs p S = cs c S + (k : Int) * (chi S T - chi S 48)) ∧ ∀ a b, p a b + p b a = c a b + c b a
theorem Rsd_0 (c : Nat → Nat → Nat) (T : Nat) : Rsd c c T 0 := ⟨fun S => by omega, fun a b => rfl⟩
theorem ag_pair {p : Nat → Nat → Nat} {u v : Nat} (ne : u ≠ v) (h1 : 1 ≤ p u v) (a b : Nat) : agN p u v a b + agN p u v b a = p a b + p b a := by
  unfold agN
  by_cases x1 : a = u ∧ b = v
  · obtain ⟨rfl, rfl⟩ := x1
    rw [if_pos ⟨rfl, rfl⟩, if_neg (fun z => ne z.1.symm), if_pos ⟨rfl, rfl⟩]; omega
  · by_cases x2 : a = v ∧ b = u
    · obtain ⟨rfl, rfl⟩ := x2
      rw [if_neg x1, if_pos ⟨rfl, rfl⟩, if_pos ⟨rfl, rfl⟩]; omega
    · rw [if_neg x1, if_neg x2, if_neg (fun z => x2 ⟨z.2, z.1⟩), if_neg (fun z => x1 ⟨z.2, z.1⟩)]
theorem trc_pair {seen : Nat → Prop} {par rk : Nat → Nat} {p0 : Nat → Nat → Nat} (T : Tree seen par rk p0) (a b : Nat) : ∀ n p x, seen x → (∀ a b, rk a ≤ rk x → rk b ≤ rk x → p a b = p0 a b) → trc par n p x a b + trc par n p x b a = p a b + p b a
  | 0, p, x, hx, h3 => rfl
  | n + 1, p, x, hx, h3 => by
    rw [trc_s]
    by_cases z : x = 48
    · rw [if_pos z]
    · obtain ⟨t1, t2, t3, t4, t5⟩ := T x hx z
      have ne : par x ≠ x := fun y => by rw [y] at t4; omega
      have e1 : p (par x) x = p0 (par x) x := h3 _ _ (by omega) (Nat.le_refl _)
      rw [if_neg z, trc_pair T a b n (agN p (par x) x) (par x) t2 (fun a b ha hb => by
        unfold agN
        rw [if_neg (fun y => by rw [y.2] at hb; omega), if_neg (fun y => by rw [y.1] at ha; omega)]
        exact h3 a b (by omega) (by omega)), ag_pair ne (by omega)]
theorem Rsd_s {c p : Nat → Nat → Nat} {t k : Nat} (r : Rsd c p t k) {seen : Nat → Prop} {par rk : Nat → Nat} (T : Tree seen par rk p) {n : Nat} (ht : seen t) (hn : rk t < n) : Rsd c (trc par n p t) t (k + 1) := by
  refine ⟨fun S => ?_, fun a b => ?_⟩
  · rw [trc_cs T S n p t ht (by omega) (Or.inl hn) (fun _ _ _ _ => rfl), r.1 S]
    have : ((k + 1 : Nat) : Int) * (chi S t - chi S 48) = (k : Int) * (chi S t - chi S 48) + (chi S t - chi S 48) := by
      rw [Int.natCast_add, Int.add_mul]; show _ + 1 * _ = _; rw [Int.one_mul]
    rw [this]; omega
  · rw [trc_pair T a b n p t ht (fun _ _ _ _ => rfl)]; exact r.2 a b
theorem cs_nn (p : Nat → Nat → Nat) (S : Nat → Bool) : 0 ≤ cs p S := by
  have a : su (fun _ => 0) 49 ≤ cs p S := su_le fun u _ => by
    have b : su (fun _ => 0) 49 ≤ su (fun v => if S u = true ∧ S v = false then (p u v : Int) else 0) 49 := su_le fun v _ => by
      split <;> omega
    rw [su_0] at b
    exact b
  rw [su_0] at a
  exact a
/-- a set with 48 in it and t out of it -/
def Cut (t : Nat) (S : Nat → Bool) : Prop := S 48 = true ∧ S t = false
theorem Rsd_le {c p : Nat → Nat → Nat} {t k : Nat} (r : Rsd c p t k) {S : Nat → Bool} (u : Cut t S) : (k : Int) ≤ cs c S := by
  have a := r.1 S
  have b := cs_nn p S
  unfold chi at a
  rw [u.1, u.2, if_neg (by decide), if_pos rfl] at a
  omega
theorem Rsd_eq {c p : Nat → Nat → Nat} {t k : Nat} (r : Rsd c p t k) {S : Nat → Bool} (u : Cut t S) (z : ∀ a b, a < 49 → b < 49 → S a = true → S b = false → p a b = 0) : (k : Int) = cs c S := by
  have a := r.1 S
  have b : cs p S = 0 := by
    have e : cs p S = su (fun _ => 0) 49 := su_eq fun a ha => by
      have e2 : su (fun v => if S a = true ∧ S v = false then (p a v : Int) else 0) 49 = su (fun _ => 0) 49 := su_eq fun b hb => by
        by_cases y : S a = true ∧ S b = false
        · rw [if_pos y, z a b ha hb y.1 y.2]; rfl
        · rw [if_neg y]
      rw [e2, su_0]
    rw [e, su_0]
  unfold chi at a
  rw [u.1, u.2, if_neg (by decide), if_pos rfl] at a
  omega
/-- two residual nets of one net, none with a way more: as many ways -/
theorem Rsd_two {c p p' : Nat → Nat → Nat} {t k k' : Nat} (r : Rsd c p t k) (r' : Rsd c p' t k') {S S' : Nat → Bool} (u : Cut t S) (u' : Cut t S') (z : ∀ a b, a < 49 → b < 49 → S a = true → S b = false → p a b = 0) (z' : ∀ a b, a < 49 → b < 49 → S' a = true → S' b = false → p' a b = 0) : k = k' := by
  have e1 := Rsd_eq r u z
  have e2 := Rsd_eq r' u' z'
  have l1 := Rsd_le r u'
  have l2 := Rsd_le r' u
  omega
