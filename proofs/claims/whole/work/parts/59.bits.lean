/-! bits -/
/-- bit k -/
def bt (x : Int32) (k : Nat) : Bool := x.toBitVec.getLsbD k
theorem bt_ext {x y : Int32} (h : ∀ k, k < 32 → bt x k = bt y k) : x = y := Int32.toBitVec_inj.1 (BitVec.eq_of_getLsbD_eq h)
theorem bt_or (x y : Int32) (k : Nat) : bt (x ||| y) k = (bt x k || bt y k) := by unfold bt; rw [Int32.toBitVec_or, BitVec.getLsbD_or]
theorem bt_and (x y : Int32) (k : Nat) : bt (x &&& y) k = (bt x k && bt y k) := by unfold bt; rw [Int32.toBitVec_and, BitVec.getLsbD_and]
theorem bt_xor (x y : Int32) (k : Nat) : bt (x ^^^ y) k = Bool.xor (bt x k) (bt y k) := by unfold bt; rw [Int32.toBitVec_xor, BitVec.getLsbD_xor]
theorem bt_m1 : ∀ k, k < 32 → bt (-ni 1) k = true := by decide +kernel
theorem bt_not (x : Int32) {k : Nat} (hk : k < 32) : bt (x ^^^ -ni 1) k = !bt x k := by rw [bt_xor, bt_m1 k hk, Bool.xor_true]
theorem bt_0 (k : Nat) : bt (ni 0) k = false := by
  show (BitVec.ofNat 32 0).getLsbD k = false
  exact BitVec.getLsbD_zero
theorem bt_one : ∀ n, n < 32 → ∀ k, k < 32 → bt (ni 1 <<< (ni n &&& ni 31)) k = decide (k = n) := by decide +kernel
theorem bt_1 : ∀ k, k < 32 → bt (ni 1) k = decide (k = 0) := by decide +kernel
theorem sm32 : ∀ k, k < 32 → ((ni k &&& ni 31).toBitVec.smod 32#32) = BitVec.ofNat 32 k := by decide +kernel
theorem bt_shr (x : Int32) {k : Nat} (hk : k < 32) : ((x >>> (ni k &&& ni 31)) &&& ni 1) = bi (bt x k) := by
  apply bt_ext
  intro j hj
  rw [bt_and, bt_1 j hj]
  by_cases z : j = 0
  · subst z
    rw [decide_eq_true rfl, Bool.and_true]
    have e : bt (x >>> (ni k &&& ni 31)) 0 = bt x k := by
      unfold bt
      rw [Int32.toBitVec_shiftRight]
      rw [show ((ni k &&& ni 31).toBitVec.smod (32 : BitVec 32)) = BitVec.ofNat 32 k from sm32 k hk, BitVec.sshiftRight'_ofNat_eq_sshiftRight, Nat.mod_eq_of_lt (by omega), BitVec.getLsbD_sshiftRight]
      rw [Nat.add_zero, if_pos hk]
      simp
    rw [e]
    cases bt x k <;> rfl
  · rw [decide_eq_false z, Bool.and_false]
    cases bt x k
    · exact (bt_0 j).symm
    · show false = bt (ni 1) j
      rw [bt_1 j hj, decide_eq_false z]
theorem bi1 (b : Bool) : (bi b = ni 1) = (b = true) := by cases b <;> simp [bi, ni]
theorem bt_sb {f : Nat → Bool} : ∀ n, n ≤ 32 → ∀ k, k < 32 → bt (sb f n) k = (decide (k < n) && f k)
  | 0, _, k, _ => by
    rw [show sb f 0 = ni 0 from rfl, bt_0, decide_eq_false (by omega)]; rfl
  | n + 1, hn, k, hk => by
    have ih := bt_sb (f := f) n (by omega) k hk
    cases e : f n
    · rw [sb_f e, ih]
      by_cases z : k = n
      · subst z; rw [e, Bool.and_false, Bool.and_false]
      · congr 1
        exact decide_eq_decide.mpr (by omega)
    · rw [sb_t e, bt_or, ih, bt_one n (by omega) k hk]
      by_cases z : k = n
      · subst z; rw [e, decide_eq_true (show k = k from rfl), decide_eq_true (show k < k + 1 by omega)]; simp
      · rw [decide_eq_false z, Bool.or_false]
        congr 1
        exact decide_eq_decide.mpr (by omega)
theorem sb_ext {x : Int32} {f : Nat → Bool} {n : Nat} (hn : n ≤ 32) (h : ∀ k, k < 32 → bt x k = (decide (k < n) && f k)) : x = sb f n := bt_ext fun k hk => by rw [h k hk, bt_sb n hn k hk]
theorem sb_congr {f g : Nat → Bool} {n : Nat} (h : ∀ k, k < n → f k = g k) : sb f n = sb g n := by
  induction n with
  | zero => rfl
  | succ n ih =>
    have i := ih fun k hk => h k (by omega)
    have e := h n (by omega)
    cases x : f n
    · rw [sb_f x, sb_f (by rw [← e]; exact x), i]
    · rw [sb_t x, sb_t (by rw [← e]; exact x), i]
/-- no bit -/
theorem sb_0 {f : Nat → Bool} {n : Nat} (hn : n ≤ 32) : (sb f n = ni 0) = ∀ k, k < n → f k = false := by
  apply propext
  constructor
  · intro h k hk
    have := bt_sb (f := f) n hn k (by omega)
    rw [h, bt_0, decide_eq_true hk, Bool.true_and] at this
    exact this.symm
  · intro h
    apply bt_ext
    intro k hk
    rw [bt_sb n hn k hk, bt_0]
    by_cases z : k < n
    · rw [h k z, Bool.and_false]
    · rw [decide_eq_false z]; rfl
theorem sb_and {f g : Nat → Bool} {n m : Nat} (hn : n ≤ 32) (hm : m ≤ 32) : sb f n &&& sb g m = sb (fun k => f k && (decide (k < m) && g k)) n := sb_ext hn fun k hk => by
  rw [bt_and, bt_sb n hn k hk, bt_sb m hm k hk]
  cases decide (k < n) <;> simp
theorem sb_mono {f : Nat → Bool} {n m : Nat} (hn : n ≤ m) (hm : m ≤ 32) : sb f n = sb (fun k => decide (k < n) && f k) m := sb_ext hm fun k hk => by
  rw [bt_sb n (by omega) k hk]
  by_cases z : k < n
  · rw [decide_eq_true (show k < m by omega), Bool.true_and]
  · rw [decide_eq_false z]; simp
-- 64 bits
def bl (x : Int64) (k : Nat) : Bool := x.toBitVec.getLsbD k
theorem bl_ext {x y : Int64} (h : ∀ k, k < 64 → bl x k = bl y k) : x = y := Int64.toBitVec_inj.1 (BitVec.eq_of_getLsbD_eq h)
theorem bl_or (x y : Int64) (k : Nat) : bl (x ||| y) k = (bl x k || bl y k) := by unfold bl; rw [Int64.toBitVec_or, BitVec.getLsbD_or]
theorem bl_and (x y : Int64) (k : Nat) : bl (x &&& y) k = (bl x k && bl y k) := by unfold bl; rw [Int64.toBitVec_and, BitVec.getLsbD_and]
theorem bl_xor (x y : Int64) (k : Nat) : bl (x ^^^ y) k = Bool.xor (bl x k) (bl y k) := by unfold bl; rw [Int64.toBitVec_xor, BitVec.getLsbD_xor]
theorem bl_m1 : ∀ k, k < 64 → bl (-1) k = true := by decide +kernel
theorem bl_not (x : Int64) {k : Nat} (hk : k < 64) : bl (x ^^^ -1) k = !bl x k := by rw [bl_xor, bl_m1 k hk, Bool.xor_true]
theorem bl_0 (k : Nat) : bl 0 k = false := by
  show (BitVec.ofNat 64 0).getLsbD k = false
  exact BitVec.getLsbD_zero
theorem bl_one : ∀ n, n < 50 → ∀ k, k < 64 → bl ((1 : Int64) <<< ((ni n).toInt64 &&& 63)) k = decide (k = n) := by decide +kernel
theorem bl_1 : ∀ k, k < 64 → bl 1 k = decide (k = 0) := by decide +kernel
theorem sm64 : ∀ k, k < 64 → (((ni k).toInt64 &&& 63).toBitVec.smod 64#64) = BitVec.ofNat 64 k := by decide +kernel
theorem bl_shr (x : Int64) {k : Nat} (hk : k < 64) : ((x >>> ((ni k).toInt64 &&& 63)) &&& 1) = cond (bl x k) 1 0 := by
  apply bl_ext
  intro j hj
  rw [bl_and, bl_1 j hj]
  by_cases z : j = 0
  · subst z
    rw [decide_eq_true rfl, Bool.and_true]
    have e : bl (x >>> ((ni k).toInt64 &&& 63)) 0 = bl x k := by
      unfold bl
      rw [Int64.toBitVec_shiftRight]
      rw [show (((ni k).toInt64 &&& 63).toBitVec.smod (64 : BitVec 64)) = BitVec.ofNat 64 k from sm64 k hk, BitVec.sshiftRight'_ofNat_eq_sshiftRight, Nat.mod_eq_of_lt (by omega), BitVec.getLsbD_sshiftRight]
      rw [Nat.add_zero, if_pos hk]
      simp
    rw [e]
    cases bl x k <;> rfl
  · rw [decide_eq_false z, Bool.and_false]
    cases bl x k
    · exact (bl_0 j).symm
    · show false = bl 1 j
      rw [bl_1 j hj, decide_eq_false z]
theorem lg_0 (x : Int64) : (lg_cmp x 0 = 0) = (x = 0) := by
  unfold lg_cmp
  apply propext
  constructor
  · intro h
    split at h
    · exact absurd h (by decide)
    · split at h
      · assumption
      · exact absurd h (by decide)
  · intro h
    rw [h]; rfl
theorem lg_b (b : Bool) : (lg_cmp (cond b 1 0) 0 = 0) = (b = false) := by
  rw [lg_0]; cases b <;> simp
/-- how many bits -/
theorem bl_low : ∀ n, n < 49 → (((1 : Int64) <<< ((ni n).toInt64 &&& 63)) - 1).toBitVec = BitVec.ofNat 64 (2 ^ n - 1) := by decide +kernel
