/-! ints that are whole numbers: ni k; the shape of the cells under writes -/
def ni (k : Nat) : Int32 := Int32.ofNat k
theorem ni_lit (n : Nat) : (@OfNat.ofNat Int32 n Int32.instOfNat) = ni (@OfNat.ofNat Nat n (instOfNatNat n)) := rfl
theorem ni_of (k : Nat) : Int32.ofNat k = ni k := rfl
theorem ni_add (a b : Nat) : ni a + ni b = ni (a + b) := (Int32.ofNat_add a b).symm
theorem ni_mul (a b : Nat) : ni a * ni b = ni (a * b) := (Int32.ofNat_mul a b).symm
theorem ni_sub {a b : Nat} (h : b ≤ a) : ni a - ni b = ni (a - b) := (Int32.ofNat_sub a b h).symm
theorem ni_addn {a b : Nat} (h : b ≤ a) : ni a + -ni b = ni (a - b) := by
  rw [← ni_sub h]; exact (Int32.sub_eq_add_neg _ _).symm
theorem ni_toInt {k : Nat} (h : k < 2147483648) : (ni k).toInt = k := Int32.toInt_ofNat_of_lt h
theorem ni_nn {k : Nat} (h : k < 2147483648) : (ni k).toNatClampNeg = k := Int32.toNatClampNeg_ofNat_of_lt h
theorem ni_lt {a b : Nat} (ha : a < 2147483648) (hb : b < 2147483648) : (ni a < ni b) = (a < b) := by
  rw [Int32.lt_iff_toInt_lt, ni_toInt ha, ni_toInt hb]; exact propext Int.ofNat_lt
theorem ni_le {a b : Nat} (ha : a < 2147483648) (hb : b < 2147483648) : (ni a ≤ ni b) = (a ≤ b) := by
  rw [Int32.le_iff_toInt_le, ni_toInt ha, ni_toInt hb]; exact propext Int.ofNat_le
theorem ni_eq {a b : Nat} (ha : a < 2147483648) (hb : b < 2147483648) : (ni a = ni b) = (a = b) := by
  rw [← Int32.toInt_inj, ni_toInt ha, ni_toInt hb]; exact propext Int.ofNat_inj
theorem ng_toInt {k : Nat} (h : k < 2147483648) : (-ni k).toInt = -(k : Int) := by
  unfold ni
  rw [Int32.neg_ofNat, Int32.toInt_ofInt_of_le (by omega) (by omega)]
theorem ng_lt {a b : Nat} (ha : a < 2147483648) (hb : b < 2147483648) (h : 0 < a + b) : (-ni a < ni b) = True := by
  rw [Int32.lt_iff_toInt_lt, ng_toInt ha, ni_toInt hb]; exact eq_true (by omega)
theorem ng_le {a b : Nat} (ha : a < 2147483648) (hb : b < 2147483648) : (-ni a ≤ ni b) = True := by
  rw [Int32.le_iff_toInt_le, ng_toInt ha, ni_toInt hb]; exact eq_true (by omega)
theorem ng_lt' {a b : Nat} (ha : a < 2147483648) (hb : b < 2147483648) : (ni a < -ni b) = False := by
  rw [Int32.lt_iff_toInt_lt, ng_toInt hb, ni_toInt ha]; exact eq_false (by omega)
theorem ng_le' {a b : Nat} (ha : a < 2147483648) (hb : b < 2147483648) (h : 0 < a + b) : (ni a ≤ -ni b) = False := by
  rw [Int32.le_iff_toInt_le, ng_toInt hb, ni_toInt ha]; exact eq_false (by omega)
theorem ng_eq {a b : Nat} (ha : a < 2147483648) (hb : b < 2147483648) (h : 0 < a + b) : (ni a = -ni b) = False := by
  rw [← Int32.toInt_inj, ng_toInt hb, ni_toInt ha]; exact eq_false (by omega)
theorem ng_eq' {a b : Nat} (ha : a < 2147483648) (hb : b < 2147483648) (h : 0 < a + b) : (-ni a = ni b) = False := by
  rw [← Int32.toInt_inj, ng_toInt ha, ni_toInt hb]; exact eq_false (by omega)
theorem ng_ng {a b : Nat} (ha : a < 2147483648) (hb : b < 2147483648) : (-ni a = -ni b) = (a = b) := by
  rw [← Int32.toInt_inj, ng_toInt ha, ng_toInt hb]; exact propext (by omega)
theorem ni_cases (x : Int32) : (x < 0 ∧ ∃ k, k ≤ 2147483648 ∧ x = -ni k) ∨ ∃ k, k < 2147483648 ∧ x = ni k := by
  have h1 := Int32.le_toInt x
  have h2 := Int32.toInt_lt x
  by_cases h : x.toInt < 0
  · refine Or.inl ⟨by rw [Int32.lt_iff_toInt_lt]; exact h, (-x.toInt).toNat, by omega, ?_⟩
    unfold ni
    rw [Int32.neg_ofNat, show -(((-x.toInt).toNat : Nat) : Int) = x.toInt by omega]
    exact (Int32.ofInt_toInt x).symm
  · refine Or.inr ⟨x.toInt.toNat, by omega, ?_⟩
    unfold ni
    rw [← Int32.ofInt_eq_ofNat, show ((x.toInt.toNat : Nat) : Int) = x.toInt by omega]
    exact (Int32.ofInt_toInt x).symm
theorem ni_lo {x : Int32} (h : x < 0) : ∀ k, k < 2147483648 → x ≠ ni k := by
  intro k hk e
  rw [e, Int32.lt_iff_toInt_lt, ni_toInt hk] at h
  exact absurd h (by show ¬ (k : Int) < 0; omega)
theorem ix_ni {k n : Nat} (h : k < n) (hk : k < 2147483648) : am_ix (ni k) n = some k := by
  have h0 : ¬ (ni k < 0) := by
    rw [show (0 : Int32) = ni 0 from rfl, ni_lt hk (by omega)]; omega
  unfold am_ix
  rw [if_neg h0, ni_nn hk, if_pos h]
theorem ix_inv {x : Int32} {n j : Nat} (h : am_ix x n = some j) : j < n ∧ x = ni j ∧ j < 2147483648 := by
  unfold am_ix at h
  split at h
  · cases h
  · rename_i h0
    split at h
    · rename_i h1
      cases h
      rcases ni_cases x with ⟨z, -⟩ | ⟨k, hk, rfl⟩
      · exact absurd z h0
      · rw [ni_nn hk] at h1 ⊢
        exact ⟨h1, rfl, hk⟩
    · cases h
theorem ni_div {a b : Nat} (ha : a < 2147483648) (hb : b < 2147483648) : ni a / ni b = ni (a / b) := (Int32.ofNat_div ha hb).symm
theorem ni_add1 (a : Nat) : ni a + 1 = ni (a + 1) := ni_add a 1
