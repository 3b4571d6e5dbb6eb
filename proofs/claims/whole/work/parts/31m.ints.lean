/-! ints as whole numbers -/
def ii (z : Int) : Int32 := Int32.ofInt z
theorem ii_lit (n : Nat) : (@OfNat.ofNat Int32 n Int32.instOfNat) = ii (@OfNat.ofNat Int n instOfNat) := (Int32.ofInt_eq_ofNat (n := n)).symm
theorem ii_add (a b : Int) : ii a + ii b = ii (a + b) := (Int32.ofInt_add a b).symm
theorem ii_sub (a b : Int) : ii a - ii b = ii (a - b) := (Int32.ofInt_sub a b).symm
theorem ii_mul (a b : Int) : ii a * ii b = ii (a * b) := (Int32.ofInt_mul a b).symm
theorem ii_neg (a : Int) : -ii a = ii (-a) := Int32.neg_ofInt
theorem ii_toInt {z : Int} (h : -2147483648 ≤ z ∧ z < 2147483648) : (ii z).toInt = z := Int32.toInt_ofInt_of_le h.1 h.2
theorem ii_of (x : Int32) : x = ii x.toInt := (Int32.ofInt_toInt x).symm
theorem ii_rng (x : Int32) : -2147483648 ≤ x.toInt ∧ x.toInt < 2147483648 := ⟨Int32.le_toInt x, Int32.toInt_lt x⟩
theorem ii_ex (x : Int32) : ∃ z : Int, x = ii z ∧ -2147483648 ≤ z ∧ z < 2147483648 := ⟨x.toInt, ii_of x, ii_rng x⟩
theorem ii_lt {a b : Int} (ha : -2147483648 ≤ a ∧ a < 2147483648) (hb : -2147483648 ≤ b ∧ b < 2147483648) : (ii a < ii b) = (a < b) := by
  rw [Int32.lt_iff_toInt_lt, ii_toInt ha, ii_toInt hb]
theorem ii_le {a b : Int} (ha : -2147483648 ≤ a ∧ a < 2147483648) (hb : -2147483648 ≤ b ∧ b < 2147483648) : (ii a ≤ ii b) = (a ≤ b) := by
  rw [Int32.le_iff_toInt_le, ii_toInt ha, ii_toInt hb]
theorem ii_eq {a b : Int} (ha : -2147483648 ≤ a ∧ a < 2147483648) (hb : -2147483648 ≤ b ∧ b < 2147483648) : (ii a = ii b) = (a = b) := by
  rw [← Int32.toInt_inj, ii_toInt ha, ii_toInt hb]
theorem ii_nn {z : Int} (h : -2147483648 ≤ z ∧ z < 2147483648) : (ii z).toNatClampNeg = z.toNat := by
  show (ii z).toInt.toNat = z.toNat
  rw [ii_toInt h]
theorem ix_at {z : Int} {n : Nat} (k : Nat) (hz : z = (k : Int)) (hk : k < n) (hn : k < 2147483648) : am_ix (ii z) n = some k := by
  subst hz
  have h0 : ¬ (ii (k : Int) < 0) := by
    rw [show (0 : Int32) = ii 0 from rfl, ii_lt ⟨by omega, by omega⟩ ⟨by omega, by omega⟩]; omega
  unfold am_ix
  rw [if_neg h0, ii_nn ⟨by omega, by omega⟩, Int.toNat_natCast, if_pos hk]
theorem ix_some {x : Int32} {n j : Nat} (h : am_ix x n = some j) : j < n ∧ x = ii (j : Int) ∧ j < 2147483648 := by
  unfold am_ix at h
  split at h
  · cases h
  · rename_i h0
    split at h
    · rename_i h1
      cases h
      have hx : 0 ≤ x.toInt := by
        rw [Int32.lt_iff_toInt_lt] at h0
        exact Int.not_lt.mp h0
      have e : (x.toNatClampNeg : Int) = x.toInt := by
        show (x.toInt.toNat : Int) = x.toInt
        exact Int.toNat_of_nonneg hx
      have := (ii_rng x).2
      exact ⟨h1, by rw [e]; exact ii_of x, by omega⟩
    · cases h
theorem vi_inj {x y : Int32} : (vi x = vi y) = (x = y) := propext ⟨fun h => by cases h; rfl, fun h => by rw [h]⟩
theorem if_t {α : Sort _} {c : Prop} [Decidable c] (h : c) (a b : α) : (if c then a else b) = a := if_pos h
-- the shape stays, whatever is written
theorem Sh_pI {h : am_H} {a j : Nat} {v : Int32} : Sh (pI h a j v) = Sh h := rfl
theorem Sh_pL {h : am_H} {a j : Nat} {v : Int64} : Sh (pL h a j v) = Sh h := rfl
theorem Sh_pIs {h : am_H} {a : Nat} {g : Nat → Int32} : Sh (pIs h a g) = Sh h := rfl
theorem Sh_pLs {h : am_H} {a : Nat} {g : Nat → Int64} : Sh (pLs h a g) = Sh h := rfl
theorem hI_pI {h : am_H} {a j b k : Nat} {v : Int32} : hI (pI h a j v) b k = if b = a ∧ k = j then v else hI h b k := rfl
theorem hI_pL {h : am_H} {a j : Nat} {v : Int64} : hI (pL h a j v) = hI h := rfl
theorem hI_pR {h : am_H} {a j : Nat} {v : Option Nat} : hI (pR h a j v) = hI h := rfl
theorem hI_pIs {h : am_H} {a b k : Nat} {g : Nat → Int32} : hI (pIs h a g) b k = if b = a then g k else hI h b k := rfl
theorem hI_pLs {h : am_H} {a : Nat} {g : Nat → Int64} : hI (pLs h a g) = hI h := rfl
theorem hL_pI {h : am_H} {a j : Nat} {v : Int32} : hL (pI h a j v) = hL h := rfl
theorem hL_pL {h : am_H} {a j b k : Nat} {v : Int64} : hL (pL h a j v) b k = if b = a ∧ k = j then v else hL h b k := rfl
theorem hL_pR {h : am_H} {a j : Nat} {v : Option Nat} : hL (pR h a j v) = hL h := rfl
theorem hL_pIs {h : am_H} {a : Nat} {g : Nat → Int32} : hL (pIs h a g) = hL h := rfl
theorem hL_pLs {h : am_H} {a b k : Nat} {g : Nat → Int64} : hL (pLs h a g) b k = if b = a then g k else hL h b k := rfl
theorem hR_pI {h : am_H} {a j : Nat} {v : Int32} : hR (pI h a j v) = hR h := rfl
theorem hR_pL {h : am_H} {a j : Nat} {v : Int64} : hR (pL h a j v) = hR h := rfl
theorem hR_pIs {h : am_H} {a : Nat} {g : Nat → Int32} : hR (pIs h a g) = hR h := rfl
theorem hR_pLs {h : am_H} {a : Nat} {g : Nat → Int64} : hR (pLs h a g) = hR h := rfl
theorem hR_pR {h : am_H} {a j b k : Nat} {v : Option Nat} : hR (pR h a j v) b k = if b = a ∧ k = j then v else hR h b k := rfl
theorem hK_pI {h : am_H} {a j : Nat} {v : Int32} : hK (pI h a j v) = hK h := rfl
theorem hK_pL {h : am_H} {a j : Nat} {v : Int64} : hK (pL h a j v) = hK h := rfl
theorem hK_pR {h : am_H} {a j : Nat} {v : Option Nat} : hK (pR h a j v) = hK h := rfl
theorem hK_pIs {h : am_H} {a : Nat} {g : Nat → Int32} : hK (pIs h a g) = hK h := rfl
theorem hK_pLs {h : am_H} {a : Nat} {g : Nat → Int64} : hK (pLs h a g) = hK h := rfl
theorem Rw_pI {h : am_H} {a j b w l n : Nat} {v : Int32} : Rw (pI h a j v) b w l n = Rw h b w l n := rfl
