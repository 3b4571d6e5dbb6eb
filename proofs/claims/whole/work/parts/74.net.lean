/-! the net of a saying -/
theorem sb_or {f : Nat → Bool} {n m : Nat} (hn : n ≤ 32) (hm : m < n) : sb f n ||| ((1 : Int32) <<< (ni m &&& 31)) = sb (fun k => f k || (m == k)) n := sb_ext hn fun k hk => by
  rw [bt_or, bt_sb n hn k hk, show bt ((1 : Int32) <<< (ni m &&& 31)) k = decide (k = m) from bt_one m (by omega) k hk]
  by_cases z : k = m
  · rw [decide_eq_true z, z, beq_self_eq_true, decide_eq_true hm, Bool.or_true, Bool.or_true]; rfl
  · rw [decide_eq_false z, Bool.or_false, beq_eq_false_iff_ne.mpr (fun y => z y.symm), Bool.or_false]
def lst (D : Nat → Nat → Nat) (q : Nat) : Nat := D 14 (8 * q + (D 12 q - 1))
def inN (s : Sg) (t r : Nat) : Bool := uF s t r && (!(sD s 11 (8 * t + r) == 4) && (lst (sD s) (8 * t + r) == lst (sD s) (8 * t)))
def bgn (s : Sg) (t : Nat) : Nat → Nat → Bool
  | 0, _ => false
  | r + 1, m => bgn s t r m || (inN s t r && (rwm (sD s) (8 * t + r) 0 == m))
def ark (D : Nat → Nat → Nat) (q : Nat) : Nat → Nat → Nat → Nat → Bool
  | 0, _, _, _ => false
  | m + 1, i, a, b => ((rwm D q i == a) && (rwm D q (i + 1) == b)) || ark D q m (i + 1) a b
def ako (D : Nat → Nat → Nat) (q : Nat) : Nat → Nat → Nat → Bool
  | 0, _, _ => false
  | m + 1, i, a => (rwm D q i == a) || ako D q m (i + 1) a
def nxt (s : Sg) (t : Nat) : Nat → Nat → Nat → Bool
  | 0, _, _ => false
  | r + 1, a, b => nxt s t r a b || (inN s t r && ark (sD s) (8 * t + r) (sD s 12 (8 * t + r) - 1) 0 a b)
def gng (s : Sg) (t : Nat) : Nat → Nat → Bool
  | 0, _ => false
  | r + 1, a => gng s t r a || (inN s t r && ako (sD s) (8 * t + r) (sD s 12 (8 * t + r) - 1) 0 a)
theorem bgn_s {s : Sg} {t r m : Nat} : bgn s t (r + 1) m = (bgn s t r m || (inN s t r && (rwm (sD s) (8 * t + r) 0 == m))) := rfl
theorem nxt_s {s : Sg} {t r a b : Nat} : nxt s t (r + 1) a b = (nxt s t r a b || (inN s t r && ark (sD s) (8 * t + r) (sD s 12 (8 * t + r) - 1) 0 a b)) := rfl
theorem gng_s {s : Sg} {t r a : Nat} : gng s t (r + 1) a = (gng s t r a || (inN s t r && ako (sD s) (8 * t + r) (sD s 12 (8 * t + r) - 1) 0 a)) := rfl
theorem ark_s {D : Nat → Nat → Nat} {q m i a b : Nat} : ark D q (m + 1) i a b = (((rwm D q i == a) && (rwm D q (i + 1) == b)) || ark D q m (i + 1) a b) := rfl
theorem ako_s {D : Nat → Nat → Nat} {q m i a : Nat} : ako D q (m + 1) i a = ((rwm D q i == a) || ako D q m (i + 1) a) := rfl
section NTS
variable {s : Sg}
theorem L176 {D : Nat → Nat → Nat} {q r a w l M : Nat} (hM : M ≤ 24) (v : Vq D M q) : ∀ m {h : am_H} i {g : Nat → Nat → Bool}, i + m + 1 = D 12 q → Sh h → CQ h D q r a w l → (∀ x, x < 24 → hI h 255 x = sb (g x) 24) → ∃ h1, am_E 176 (42, [some (vr (some 254)), some (vr (some a)), some (vi (ni i))], [], h) = some (none, h1) ∧ Kg (fun c _ => c = 255) h h1 ∧ ∀ x, x < 24 → hI h1 255 x = sb (fun b => g x b || ark D q m i x b) 24 := by
  have z8 := vqZ v
  intro m
  induction m with
  | zero =>
    intro h i g hi hs c hg
    refine ⟨h, ?_, Kg_refl h, fun x hx => ?_⟩
    · rw [e_176_42 hs (qR c), qZ c, show ni (D 12 q) - 1 = ni (D 12 q - 1) from ni_sub (b := 1) (by omega), if_pos (show ni (D 12 q - 1) ≤ ni i by rw [ni_le (by omega) (by omega)]; omega)]
    · rw [hg x hx]
      exact sb_congr fun b _ => by show _ = (g x b || false); rw [Bool.or_false]
  | succ m ih =>
    intro h i g hi hs c hg
    have i1 : i < D 12 q := by omega
    have i2 : i + 1 < D 12 q := by omega
    have m1 := vqM v i1
    have m2 := vqM v i2
    have kg : Kg (fun c _ => c = 255) h (pI h 255 (rwm D q i) (sb (fun b => g (rwm D q i) b || (rwm D q (i + 1) == b)) 24)) := Kg_pI rfl (Kg_refl h)
    obtain ⟨h1, d, k, g1⟩ := ih (h := pI h 255 (rwm D q i) (sb (fun b => g (rwm D q i) b || (rwm D q (i + 1) == b)) 24)) (i + 1) (g := fun x b => g x b || ((rwm D q i == x) && (rwm D q (i + 1) == b))) (by omega) hs (CQ_fr (fun a k z => by omega) kg c) (fun x hx => by
      rw [hI_pI]
      by_cases y : x = rwm D q i
      · subst y
        rw [if_pos ⟨rfl, rfl⟩]
        exact sb_congr fun b _ => by rw [beq_self_eq_true, Bool.true_and]
      · rw [if_neg (fun z => y z.2), hg x hx]
        exact sb_congr fun b _ => by rw [beq_eq_false_iff_ne.mpr (fun z => y z.symm), Bool.false_and, Bool.or_false])
    refine ⟨h1, ?_, Kg_trans kg k, fun x hx => ?_⟩
    · have e2 : hI h w (i + 1) = ni (rwm D q (i + 1)) := qWr c i2
      rw [e_176_42 hs (qR c), qZ c, show ni (D 12 q) - 1 = ni (D 12 q - 1) from ni_sub (b := 1) (by omega), if_neg (show ¬ ni (D 12 q - 1) ≤ ni i by rw [ni_le (by omega) (by omega)]; omega), ixb _ i1 (by omega), qWr c i1, ixb _ (show rwm D q i < 24 by omega) (by omega), ni_add1, ixb _ i2 (by omega), e2, ixb _ (show rwm D q i < 24 by omega) (by omega), hg _ (show rwm D q i < 24 by omega), sb_or (by omega) (show rwm D q (i + 1) < 24 by omega)]
      exact d
    · rw [g1 x hx]
      exact sb_congr fun b _ => by rw [ark_s, Bool.or_assoc]
/-- the class's net, as far as row n -/
def NC (h : am_H) (s : Sg) (t n : Nat) : Prop := hI h 254 0 = ni (lst (sD s) (8 * t)) ∧ hI h 254 1 = sb (bgn s t n) 24 ∧ ∀ x, x < 24 → hI h 255 x = sb (nxt s t n x) 24
theorem kt_4 : ∀ k, k < 7 → ((kt k ∈ ([2] : List Nat)) ↔ k = 4) ∧ (k ≠ 4 → kt k ∈ ([0, 1, 3, 6, 7, 9] : List Nat)) := by decide
theorem NC_no {h : am_H} {t n : Nat} (c : NC h s t n) (z : inN s t n = false) : NC h s t (n + 1) := by
  obtain ⟨c1, c2, c3⟩ := c
  refine ⟨c1, c2.trans (sb_congr fun m _ => ?_), fun x hx => (c3 x hx).trans (sb_congr fun b _ => ?_)⟩
  · rw [bgn_s, z, Bool.false_and, Bool.or_false]
  · rw [nxt_s, z, Bool.false_and, Bool.or_false]
theorem D176 {h : am_H} (V : Vs s) (hs : Sh h) {t r a w l : Nat} (ht : t < sS s) (hr : r < sD s 10 t) (q : CQ h (sD s) (8 * t + r) r a w l) (up : uF s t r = true) (c : NC h s t r) : ∃ h1, am_D 176 [vr (some 254), vr (some a)] h = some (none, h1) ∧ Kg (fun c k => (c = 254 ∧ k = 1) ∨ c = 255) h h1 ∧ NC h1 s t (r + 1) := by
  have hM := vM V
  have v := vq V ht hr
  have z2 : 2 ≤ sD s 12 (8 * t + r) := v.2.1
  have z8 := vqZ v
  have κ := v.1
  have K4 := kt_4 (sD s 11 (8 * t + r)) (by omega)
  have lM : lst (sD s) (8 * t + r) < sM s := v.2.2.2.2.1 _ (by omega)
  have v0 := vq V ht (r := 0) (by have := (V.1.2.2.2.2.2 t ht).1.1; omega)
  have z20 : 2 ≤ sD s 12 (8 * t + 0) := v0.2.1
  have lM0 : lst (sD s) (8 * t) < sM s := v0.2.2.2.2.1 (sD s 12 (8 * t + 0) - 1) (by omega)
  by_cases k4 : sD s 11 (8 * t + r) = 4
  · refine ⟨h, ?_, Kg_refl h, NC_no c (by unfold inN; rw [k4]; simp)⟩
    have mem : (hK h a).1 ∈ ([2] : List Nat) := by rw [qK q]; exact K4.1.mpr k4
    rw [d_176 hs (qR q), if_pos mem, if_neg (show ¬ (1 : Int32) = 0 by decide)]
  · have nm : ¬ (hK h a).1 ∈ ([2] : List Nat) := by rw [qK q]; exact fun z => k4 (K4.1.mp z)
    have mem : (hK h a).1 ∈ ([0, 1, 3, 6, 7, 9] : List Nat) := by rw [qK q]; exact K4.2 k4
    have e0 : am_D 176 [vr (some 254), vr (some a)] h = am_E 176 (15, [some (vr (some 254)), some (vr (some a)), none], [vi (ni (lst (sD s) (8 * t + r)))], h) := by
      rw [d_176 hs (qR q), if_neg nm, if_pos mem, if_pos rfl, lk_all q]
      simp only [Option.bind_some]
      rw [D33 hs q v]
      rfl
    by_cases eq : lst (sD s) (8 * t + r) = lst (sD s) (8 * t)
    · have hin : inN s t r = true := by
        unfold inN
        rw [up, beq_eq_false_iff_ne.mpr k4, beq_iff_eq.mpr eq]; rfl
      have i0 : 0 < sD s 12 (8 * t + r) := by omega
      have m0 := vqM v i0
      have e1 : hI h w 0 = ni (rwm (sD s) (8 * t + r) 0) := qWr q i0
      have kg : Kg (fun c k => (c = 254 ∧ k = 1) ∨ c = 255) h (pI h 254 1 (sb (fun k => bgn s t r k || (rwm (sD s) (8 * t + r) 0 == k)) 24)) := Kg_pI (Or.inl ⟨rfl, rfl⟩) (Kg_refl h)
      obtain ⟨h1, d, k, g⟩ := L176 hM v (sD s 12 (8 * t + r) - 1) (h := pI h 254 1 (sb (fun k => bgn s t r k || (rwm (sD s) (8 * t + r) 0 == k)) 24)) 0 (g := nxt s t r) (by omega) hs (CQ_fr (fun a k z => by omega) kg q) (fun x hx => by rw [hI_pI, if_neg (by omega)]; exact c.2.2 x hx)
      refine ⟨h1, ?_, Kg_trans kg (Kg_mono (fun c k z => Or.inr z) k), ?_, ?_, fun x hx => ?_⟩
      · rw [e0, e_176_15 hs (qR q), c.1, if_pos (show ni (lst (sD s) (8 * t + r)) = ni (lst (sD s) (8 * t)) by rw [eq]), show (0 : Int32) = ni 0 from rfl, ixb _ i0 (by omega), e1, c.2.1, sb_or (by omega) (show rwm (sD s) (8 * t + r) 0 < 24 by omega)]
        exact d
      · rw [k.2.2.2.2.1 254 0 (by omega), hI_pI, if_neg (by omega)]; exact c.1
      · rw [k.2.2.2.2.1 254 1 (by omega), pe]
        exact sb_congr fun m _ => by rw [bgn_s, hin, Bool.true_and]
      · rw [g x hx]
        exact sb_congr fun b _ => by rw [nxt_s, hin, Bool.true_and]
    · refine ⟨h, ?_, Kg_refl h, NC_no c (by unfold inN; rw [beq_eq_false_iff_ne.mpr eq, Bool.and_false, Bool.and_false])⟩
      rw [e0, e_176_15 hs (qR q), c.1, if_neg (show ¬ ni (lst (sD s) (8 * t + r)) = ni (lst (sD s) (8 * t)) by rw [ni_eq (by omega) (by omega)]; exact eq)]
end NTS
