/-! the two nets are one -/
def nu (x : Nat) : Nat := if x < 24 then 2 * x else if x < 48 then 2 * (x - 24) + 1 else 48
theorem nu_i {x : Nat} (h : x < 24) : nu x = 2 * x := if_pos h
theorem nu_o {x : Nat} (h : x < 24) : nu (24 + x) = 2 * x + 1 := by unfold nu; rw [if_neg (by omega), if_pos (by omega)]; omega
theorem su_2 {f : Nat → Int} : ∀ n, su f (2 * n) = su (fun m => f (2 * m) + f (2 * m + 1)) n
  | 0 => rfl
  | n + 1 => by
    rw [show 2 * (n + 1) = 2 * n + 1 + 1 by omega, su_s, su_s, su_s, su_2 n]; omega
theorem su_sp {f : Nat → Int} (n : Nat) : ∀ k, su f (n + k) = su f n + su (fun m => f (n + m)) k
  | 0 => by show su f n = su f n + 0; omega
  | k + 1 => by
    rw [show n + (k + 1) = n + k + 1 by omega, su_s, su_s, su_sp n k]; omega
theorem su_nu (f : Nat → Int) : su (fun x => f (nu x)) 49 = su f 49 := by
  have a : su f 49 = su (fun m => f (2 * m) + f (2 * m + 1)) 24 + f 48 := by
    rw [show (49 : Nat) = 48 + 1 from rfl, su_s, show (48 : Nat) = 2 * 24 from rfl, su_2]
  have b : su (fun x => f (nu x)) 49 = su (fun m => f (nu m)) 24 + su (fun m => f (nu (24 + m))) 24 + f 48 := by
    rw [show (49 : Nat) = 48 + 1 from rfl, su_s, show (48 : Nat) = 24 + 24 from rfl, su_sp 24 24]; rfl
  rw [a, b, ← su_add]
  have e1 : su (fun m => f (nu m)) 24 = su (fun m => f (2 * m)) 24 := su_eq fun m hm => by rw [nu_i hm]
  have e2 : su (fun m => f (nu (24 + m))) 24 = su (fun m => f (2 * m + 1)) 24 := su_eq fun m hm => by rw [nu_o hm]
  rw [su_add, su_add, e1, e2]
theorem cs_nu {B : Nat → Bool} {A : Nat → Nat → Bool} {T : Nat} (S : Nat → Bool) (hS : S (2 * T) = false) : cs (cNt B A (fun _ => 1)) S = cs (cC B A T) (fun x => S (nu x)) := by
  unfold cs
  rw [← su_nu]
  refine su_eq fun u hu => ?_
  rw [← su_nu]
  refine su_eq fun v hv => ?_
  show (if S (nu u) = true ∧ S (nu v) = false then (cNt B A (fun _ => 1) (nu u) (nu v) : Int) else 0) = if S (nu u) = true ∧ S (nu v) = false then (cC B A T u v : Int) else 0
  by_cases y : S (nu u) = true ∧ S (nu v) = false
  · rw [if_pos y, if_pos y]
    congr 1
    have ev : (nu v % 2 = 0 ∧ nu v < 48 ↔ v < 24) ∧ (v < 24 → nu v / 2 = v) := by
      unfold nu
      split
      · omega
      · split <;> omega
    have key : ∀ P : Nat → Bool, (if nu v % 2 = 0 ∧ nu v < 48 ∧ P (nu v / 2) = true then 99 else 0) = if v < 24 ∧ P v = true then 99 else 0 := fun P => by
      by_cases w : v < 24
      · have e1 := ev.1.mpr w
        rw [ev.2 w]
        by_cases z : P v = true
        · rw [if_pos ⟨e1.1, e1.2, z⟩, if_pos ⟨w, z⟩]
        · rw [if_neg (fun q => z q.2.2), if_neg (fun q => z q.2)]
      · rw [if_neg (fun q => w (ev.1.mp ⟨q.1, q.2.1⟩)), if_neg (fun q => w q.1)]
    by_cases u24 : u < 24
    · have uT : u ≠ T := fun z => by
        have y1 := y.1
        rw [nu_i u24, z, hS] at y1; cases y1
      rw [cC_in u24, nu_i u24]
      unfold cNt
      rw [if_pos (show 2 * u < 48 ∧ 2 * u % 2 = 0 by omega)]
      by_cases z : v = 24 + u
      · rw [if_pos (show v = 24 + u ∧ u ≠ T from ⟨z, uT⟩), if_pos (show nu v = 2 * u + 1 by rw [z, nu_o u24])]
      · rw [if_neg (show ¬ (v = 24 + u ∧ u ≠ T) from fun q => z q.1), if_neg (show ¬ nu v = 2 * u + 1 from fun q => by
          unfold nu at q
          split at q
          · omega
          · split at q <;> omega)]
    · by_cases u48 : u < 48
      · have e : nu u = 2 * (u - 24) + 1 := by unfold nu; rw [if_neg u24, if_pos u48]
        rw [cC_out u24 u48, e]
        unfold cNt
        rw [if_neg (by omega), if_pos (show 2 * (u - 24) + 1 < 48 by omega), show (2 * (u - 24) + 1) / 2 = u - 24 by omega]
        exact key (A (u - 24))
      · have e : nu u = 48 := by unfold nu; rw [if_neg u24, if_neg u48]
        rw [cC_48 u48, e]
        unfold cNt
        rw [if_neg (by omega), if_neg (by omega)]
        refine Eq.trans ?_ (key B)
        by_cases q : nu v % 2 = 0 ∧ nu v < 48 ∧ B (nu v / 2) = true
        · rw [if_pos q]
          exact if_pos ⟨rfl, q⟩
        · rw [if_neg q]
          exact if_neg (fun x => q x.2)
  · rw [if_neg y, if_neg y]
