/-! both count as many ways -/
def psi (y : Nat) : Nat := if y = 48 then 48 else if y % 2 = 0 then y / 2 else 24 + y / 2
theorem psi_nu {x : Nat} (h : x < 49) : psi (nu x) = x := by
  unfold psi nu
  split <;> split <;> (try split) <;> (try split) <;> omega
theorem same_f {B : Nat → Bool} {A : Nat → Nat → Bool} {T f f' : Nat} {p1 : Nat → Nat → Nat} (hT : T < 24) (m : Mxf (cNt B A (fun _ => 1)) (2 * T) f) (f24 : f ≤ 24) (r1 : Rsd (cC B A T) p1 T f') (c1 : f' = 24 ∨ ∃ S : Nat → Bool, Cut T S ∧ ∀ a b, a < 49 → b < 49 → S a = true → S b = false → p1 a b = 0) : f = f' := by
  obtain ⟨p, S, r, u, z⟩ := m
  have e := Rsd_eq r u z
  have n48 : nu 48 = 48 := rfl
  have nT : nu T = 2 * T := nu_i hT
  have u1 : Cut T (fun x => S (nu x)) := ⟨by show S (nu 48) = true; rw [n48]; exact u.1, by show S (nu T) = false; rw [nT]; exact u.2⟩
  have l1 := Rsd_le r1 u1
  have e1 := cs_nu (B := B) (A := A) (T := T) S u.2
  rcases c1 with c1 | ⟨S', u', z'⟩
  · omega
  · have e' := Rsd_eq r1 u' z'
    have s48 : psi 48 = 48 := rfl
    have sT : psi (2 * T) = T := by rw [← nT]; exact psi_nu (by omega)
    have u2 : Cut (2 * T) (fun y => S' (psi y)) := ⟨by show S' (psi 48) = true; rw [s48]; exact u'.1, by show S' (psi (2 * T)) = false; rw [sT]; exact u'.2⟩
    have l2 := Rsd_le r u2
    have e2 := cs_nu (B := B) (A := A) (T := T) (fun y => S' (psi y)) u2.2
    have e3 : cs (cC B A T) (fun x => S' (psi (nu x))) = cs (cC B A T) S' := by
      unfold cs
      refine su_eq fun a ha => su_eq fun b hb => ?_
      show (if S' (psi (nu a)) = true ∧ S' (psi (nu b)) = false then (cC B A T a b : Int) else 0) = _
      rw [psi_nu ha, psi_nu hb]
    have e4 : cs (cNt B A (fun _ => 1)) (fun y => S' (psi y)) = cs (cC B A T) S' := e2.trans e3
    omega
