/-! the net of a saying, both sides -/
section NT2
variable {s : Sg} {t : Nat}
theorem vlst (V : Vs s) (ht : t < sS s) {r : Nat} (hr : r < sD s 10 t) : lst (sD s) (8 * t + r) < sM s := by
  have v := vq V ht hr
  have z2 : 2 ≤ sD s 12 (8 * t + r) := v.2.1
  exact v.2.2.2.2.1 _ (by omega)
theorem vN1 (V : Vs s) (ht : t < sS s) : 0 < sD s 10 t := by have := (V.1.2.2.2.2.2 t ht).1.1; omega
theorem bt_up {r n : Nat} (hn : n ≤ 32) (hr : r < 32) (f : Nat → Bool) : ((sb f n >>> (ni r &&& (31 : Int32))) &&& 1) = bi (decide (r < n) && f r) := by
  have e := bt_shr (sb f n) hr
  rw [bt_sb n hn r hr] at e
  exact e
def scN (a k : Nat) : Prop := (a = 254 ∧ k ≤ 1) ∨ a = 255
theorem L177a : ∀ m {h : am_H} i {x2 x3 : Int32}, i + m = 24 → Sh h → (∀ x, x < i → hI h 255 x = 0) → ∃ h1, am_E 177 (17, [some (vr (some 254)), some (vr (some 28)), some (vi x2), some (vi x3), some (vi (ni i))], [], h) = am_E 177 (41, [some (vr (some 254)), some (vr (some 28)), some (vi x2), some (vi x3), some (vi 0)], [], h1) ∧ Kg (fun c _ => c = 255) h h1 ∧ ∀ x, x < 24 → hI h1 255 x = 0 := by
  intro m
  induction m with
  | zero =>
    intro h i x2 x3 hi hs g
    refine ⟨h, ?_, Kg_refl h, fun x hx => g x (by omega)⟩
    rw [e_177_17 hs, if_pos (show (24 : Int32) ≤ ni i by rw [show (24 : Int32) = ni 24 from rfl, ni_le (by omega) (by omega)]; omega)]
  | succ m ih =>
    intro h i x2 x3 hi hs g
    obtain ⟨h1, d, k, g1⟩ := ih (h := pI h 255 i 0) (i + 1) (x2 := x2) (x3 := x3) (by omega) hs (fun x hx => by
      rw [hI_pI]
      by_cases y : x = i
      · rw [if_pos ⟨rfl, y⟩]
      · rw [if_neg (fun z => y z.2)]; exact g x (by omega))
    refine ⟨h1, ?_, Kg_trans (Kg_pI rfl (Kg_refl h)) k, g1⟩
    rw [e_177_17 hs, if_neg (show ¬ (24 : Int32) ≤ ni i by rw [show (24 : Int32) = ni 24 from rfl, ni_le (by omega) (by omega)]; omega), ixb _ (show i < 24 by omega) (by omega), ni_add1]
    exact d
theorem L177b {h : am_H} (V : Vs s) (ht : t < sS s) (hs : Sh h) {x2 : Int32} : ∀ m r, r + m = 8 → sD s 10 t ≤ r → am_E 177 (41, [some (vr (some 254)), some (vr (some 28)), some (vi x2), some (vi (sb (uF s t) (sD s 10 t))), some (vi (ni r))], [], h) = some (none, h) := by
  have v10 := vN V ht
  intro m
  induction m with
  | zero =>
    intro r hr hN
    rw [e_177_41 hs, if_pos (show (8 : Int32) ≤ ni r by rw [show (8 : Int32) = ni 8 from rfl, ni_le (by omega) (by omega)]; omega)]
  | succ m ih =>
    intro r hr hN
    rw [e_177_41 hs, if_neg (show ¬ (8 : Int32) ≤ ni r by rw [show (8 : Int32) = ni 8 from rfl, ni_le (by omega) (by omega)]; omega), bt_up (by omega) (by omega), decide_eq_false (by omega), Bool.false_and, if_pos (show bi false = 0 from rfl), e_177_68 hs, ni_add1]
    exact ih (r + 1) (by omega) (by omega)
theorem L177 (V : Vs s) (ht : t < sS s) : ∀ m {h : am_H} r, r + m = sD s 10 t → Sh h → CS h s → NC h s t r → ∃ h1, am_E 177 (41, [some (vr (some 254)), some (vr (some 28)), some (vi (ni t)), some (vi (sb (uF s t) (sD s 10 t))), some (vi (ni r))], [], h) = some (none, h1) ∧ Kg scN h h1 ∧ NC h1 s t (sD s 10 t) := by
  have v10 := vN V ht
  have vS' := vS V
  intro m
  induction m with
  | zero =>
    intro h r hr hs c n
    have e : r = sD s 10 t := by omega
    subst e
    exact ⟨h, L177b V ht hs (8 - sD s 10 t) _ (by omega) (by omega), Kg_refl h, n⟩
  | succ m ih =>
    intro h r hr hs c n
    have hr' : r < sD s 10 t := by omega
    obtain ⟨a, w, l, q1, q⟩ := cRow c ht hr'
    have st : ∀ (h1 : am_H), Sh h1 → am_E 177 (68, [some (vr (some 254)), some (vr (some 28)), some (vi (ni t)), some (vi (sb (uF s t) (sD s 10 t))), some (vi (ni r))], [], h1) = am_E 177 (41, [some (vr (some 254)), some (vr (some 28)), some (vi (ni t)), some (vi (sb (uF s t) (sD s 10 t))), some (vi (ni (r + 1)))], [], h1) := fun h1 hs1 => by
      rw [e_177_68 hs1, ni_add1]
    have b0 : am_E 177 (41, [some (vr (some 254)), some (vr (some 28)), some (vi (ni t)), some (vi (sb (uF s t) (sD s 10 t))), some (vi (ni r))], [], h) = if bi (uF s t r) = 0 then am_E 177 (68, [some (vr (some 254)), some (vr (some 28)), some (vi (ni t)), some (vi (sb (uF s t) (sD s 10 t))), some (vi (ni r))], [], h) else (am_D 176 [vr (some 254), vr (some a)] h).bind fun q9 => am_E 177 (68, [some (vr (some 254)), some (vr (some 28)), some (vi (ni t)), some (vi (sb (uF s t) (sD s 10 t))), some (vi (ni r))], q9.1.toList ++ [], q9.2) := by
      rw [e_177_41 hs, if_neg (show ¬ (8 : Int32) ≤ ni r by rw [show (8 : Int32) = ni 8 from rfl, ni_le (by omega) (by omega)]; omega), bt_up (by omega) (by omega), decide_eq_true hr', Bool.true_and, D24t hs V c ht hr', q1]
      simp only [Option.bind_some, Option.toList_some, List.cons_append, List.nil_append]
      rw [e_177_65_1 hs (qR q)]
    cases u : uF s t r
    · obtain ⟨h1, d, k, g⟩ := ih (r + 1) (by omega) hs c (NC_no n (by unfold inN; rw [u, Bool.false_and]))
      refine ⟨h1, ?_, k, g⟩
      rw [b0, u, if_pos (show bi false = 0 from rfl), st h hs]
      exact d
    · obtain ⟨h2, d2, k2, n2⟩ := D176 V hs ht hr' q u n
      have k2' : Kg scN h h2 := Kg_mono (fun c k z => by unfold scN; omega) k2
      have hs2 := Kg_Sh k2 hs
      have c2 : CS h2 s := CS_fr (fun a k z => by unfold sc; omega) k2 V c
      obtain ⟨h1, d, k, g⟩ := ih (r + 1) (by omega) hs2 c2 n2
      refine ⟨h1, ?_, Kg_trans k2' k, g⟩
      rw [b0, u, if_neg (show ¬ bi true = 0 by decide), d2]
      simp only [Option.bind_some, Option.toList_none, List.nil_append]
      rw [st h2 hs2]
      exact d
theorem D177 {h : am_H} (V : Vs s) (ht : t < sS s) (hs : Sh h) (c : CS h s) : ∃ h1, am_D 177 [vr (some 254), vr (some 28), vi (ni t), vi (sb (uF s t) (sD s 10 t))] h = some (none, h1) ∧ Kg scN h h1 ∧ NC h1 s t (sD s 10 t) := by
  have n1 := vN1 V ht
  obtain ⟨a, w, l, q1, q⟩ := cRow c ht n1
  have v := vq V ht n1
  have d175 : am_D 175 [vr (some 28), vi (ni t)] h = some (some (vi (ni (lst (sD s) (8 * t)))), h) := by
    rw [d_175 hs, show (0 : Int32) = ni 0 from rfl, D24t hs V c ht n1, q1]
    simp only [Option.bind_some, Option.toList_some, List.cons_append, List.nil_append]
    rw [e_175_6_1 hs (qR q), lk_all q]
    simp only [Option.bind_some]
    rw [D33 hs q v]
    simp only [Option.bind_some, Option.toList_some, List.cons_append, List.nil_append]
    rw [e_175_19 hs]
    rfl
  have k0 : Kg scN h (pI (pI h 254 0 (ni (lst (sD s) (8 * t)))) 254 1 0) := Kg_pI (by unfold scN; omega) (Kg_pI (by unfold scN; omega) (Kg_refl h))
  have hs0 : Sh (pI (pI h 254 0 (ni (lst (sD s) (8 * t)))) 254 1 0) := hs
  obtain ⟨h1, d1, k1, g1⟩ := L177a 24 (h := pI (pI h 254 0 (ni (lst (sD s) (8 * t)))) 254 1 0) 0 (x2 := ni t) (x3 := sb (uF s t) (sD s 10 t)) (by omega) hs0 (fun x hx => by omega)
  have k01 : Kg scN h h1 := Kg_trans k0 (Kg_mono (fun c k z => Or.inr z) k1)
  have c1 : CS h1 s := CS_fr (fun a k z => by unfold scN at z; unfold sc; omega) k01 V c
  have n0 : NC h1 s t 0 := by
    refine ⟨?_, ?_, fun x hx => ?_⟩
    · rw [k1.2.2.2.2.1 254 0 (by omega), hI_pI, if_neg (by omega), pe]
    · rw [k1.2.2.2.2.1 254 1 (by omega), pe]
      exact ((sb_0 (by omega)).mpr fun k _ => rfl).symm
    · rw [g1 x hx]
      exact ((sb_0 (by omega)).mpr fun k _ => rfl).symm
  obtain ⟨h2, d2, k2, g2⟩ := L177 V ht (sD s 10 t) 0 (by omega) (Kg_Sh k01 hs) c1 n0
  refine ⟨h2, ?_, Kg_trans k01 k2, g2⟩
  rw [d_177 hs, d175]
  simp only [Option.bind_some, Option.toList_some, List.cons_append, List.nil_append]
  rw [e_177_6 hs]
  exact d1.trans d2
theorem D178 {h : am_H} (V : Vs s) (ht : t < sS s) (hs : Sh h) (c : CS h s) : ∃ h1, am_D 178 [vr (some 16), vi (ni t)] h = some (none, h1) ∧ Kg sc h h1 ∧ NC h1 s t (sD s 10 t) := by
  have vR' := vR V
  have vF := V.2.1
  obtain ⟨h1, d1, k1, _⟩ := D172 hs V c vF ht
  have c1 : CS h1 s := CS_fr (fun _ _ z => Or.inl z) k1 V c
  have hs1 := Kg_Sh k1 hs
  obtain ⟨h2, d2, k2, n2⟩ := D177 V ht hs1 c1
  refine ⟨h2, ?_, Kg_trans k1 (Kg_mono (fun a k z => by unfold scN at z; unfold sc; omega) k2), n2⟩
  have d1' : am_D 172 [vr (some 28), vi (ni t), vr (some (nfa (sD s 22 3)))] h = some (some (vi (sb (uF s t) (sD s 10 t))), h1) := d1
  rw [d_178 hs, D137 hs V c]
  simp only [Option.bind_some, Option.toList_some, List.cons_append, List.nil_append]
  rw [e_178_21 hs (nfK hs (show sD s 22 3 ≤ 6 by omega)), d1']
  simp only [Option.bind_some, Option.toList_some, List.cons_append, List.nil_append]
  rw [e_178_24 hs1, d2]
  simp only [Option.bind_some, Option.toList_none, List.nil_append]
  exact e_178_27 (Kg_Sh k2 hs1)
-- the model
def scO (a k : Nat) : Prop := (a = 261 ∧ 50 ≤ k ∧ k ≤ 51) ∨ (296 ≤ a ∧ a ≤ 297)
def NO (h : am_H) (s : Sg) (t n : Nat) : Prop := hI h 261 50 = ni (lst (sD s) (8 * t)) ∧ hI h 261 51 = sb (gng s t n) 24 ∧ ∀ x, x < 24 → hI h 296 x = bi (bgn s t n x) ∧ hI h 297 x = sb (nxt s t n x) 24
theorem NO_no {h : am_H} {n : Nat} (c : NO h s t n) (z : inN s t n = false) : NO h s t (n + 1) := by
  obtain ⟨c1, c2, c3⟩ := c
  refine ⟨c1, c2.trans (sb_congr fun m _ => ?_), fun x hx => ⟨(c3 x hx).1.trans ?_, (c3 x hx).2.trans (sb_congr fun b _ => ?_)⟩⟩
  · rw [gng_s, z, Bool.false_and, Bool.or_false]
  · rw [bgn_s, z, Bool.false_and, Bool.or_false]
  · rw [nxt_s, z, Bool.false_and, Bool.or_false]
theorem Mqr_fr {W : Nat → Nat → Prop} {h h1 : am_H} {D : Nat → Nat → Nat} {q : Nat} (hw : ∀ k, ¬ W 276 k ∧ ¬ W 278 k) (k : Kg W h h1) (c : Mqr h D q) : Mqr h1 D q := ⟨c.1, by rw [k.2.2.2.2.1 _ _ (hw _).1]; exact c.2.1, fun i hi => by rw [k.2.2.2.2.1 _ _ (hw _).2]; exact c.2.2 i hi⟩
theorem L186i {D : Nat → Nat → Nat} {q M : Nat} (hM : M ≤ 24) (v : Vq D M q) {x1 x2 : Int32} : ∀ m {h : am_H} i {g : Nat → Nat → Bool} {G : Nat → Bool}, i + m + 1 = D 12 q → Sh h → Mqr h D q → (∀ x, x < 24 → hI h 297 x = sb (g x) 24) → hI h 261 51 = sb G 24 → ∃ h1, am_E 186 (138, [some (vr (some 261)), some (vi x1), some (vi x2), some (vi (ni q)), some (vi (ni i))], [], h) = am_E 186 (216, [some (vr (some 261)), some (vi x1), some (vi x2), some (vi (ni q)), some (vi (ni (D 12 q - 1)))], [], h1) ∧ Kg (fun c k => c = 297 ∨ (c = 261 ∧ k = 51)) h h1 ∧ (∀ x, x < 24 → hI h1 297 x = sb (fun b => g x b || ark D q m i x b) 24) ∧ hI h1 261 51 = sb (fun a => G a || ako D q m i a) 24 := by
  have z8 := vqZ v
  intro m
  induction m with
  | zero =>
    intro h i g G hi hs c hg hG
    have q64 := c.1
    refine ⟨h, ?_, Kg_refl h, fun x hx => ?_, ?_⟩
    · rw [e_186_138 hs, ixb _ c.1 (by omega), c.2.1, ni_add1, if_pos (show ni (D 12 q) ≤ ni (i + 1) by rw [ni_le (by omega) (by omega)]; omega), show i = D 12 q - 1 by omega]
    · rw [hg x hx]
      exact sb_congr fun b _ => by show _ = (g x b || false); rw [Bool.or_false]
    · rw [hG]
      exact sb_congr fun b _ => by show _ = (G b || false); rw [Bool.or_false]
  | succ m ih =>
    intro h i g G hi hs c hg hG
    have q64 := c.1
    have i1 : i < D 12 q := by omega
    have i2 : i + 1 < D 12 q := by omega
    have m1 := vqM v i1
    have m2 := vqM v i2
    have kg : Kg (fun c k => c = 297 ∨ (c = 261 ∧ k = 51)) h (pI (pI h 297 (rwm D q i) (sb (fun b => g (rwm D q i) b || (rwm D q (i + 1) == b)) 24)) 261 51 (sb (fun a => G a || (rwm D q i == a)) 24)) := Kg_pI (by omega) (Kg_pI (by omega) (Kg_refl h))
    have hs' : Sh (pI (pI h 297 (rwm D q i) (sb (fun b => g (rwm D q i) b || (rwm D q (i + 1) == b)) 24)) 261 51 (sb (fun a => G a || (rwm D q i == a)) 24)) := hs
    obtain ⟨h1, d, k, g1, G1⟩ := ih (h := pI (pI h 297 (rwm D q i) (sb (fun b => g (rwm D q i) b || (rwm D q (i + 1) == b)) 24)) 261 51 (sb (fun a => G a || (rwm D q i == a)) 24)) (i + 1) (g := fun x b => g x b || ((rwm D q i == x) && (rwm D q (i + 1) == b))) (G := fun a => G a || (rwm D q i == a)) (by omega) hs' (Mqr_fr (fun k => ⟨by omega, by omega⟩) kg c) (fun x hx => by
      rw [hI_pI, if_neg (by omega), hI_pI]
      by_cases y : x = rwm D q i
      · subst y
        rw [if_pos ⟨rfl, rfl⟩]
        exact sb_congr fun b _ => by rw [beq_self_eq_true, Bool.true_and]
      · rw [if_neg (fun z => y z.2), hg x hx]
        exact sb_congr fun b _ => by rw [beq_eq_false_iff_ne.mpr (fun z => y z.symm), Bool.false_and, Bool.or_false]) pe
    refine ⟨h1, ?_, Kg_trans kg k, fun x hx => ?_, ?_⟩
    · have e1 : hI h 278 (8 * q + i) = ni (rwm D q i) := c.2.2 i i1
      have e2 : hI h 278 (8 * q + i + 1) = ni (rwm D q (i + 1)) := c.2.2 (i + 1) i2
      have n1 : (8 : Int32) * ni q + ni i = ni (8 * q + i) := by rw [show (8 : Int32) = ni 8 from rfl, ni_mul, ni_add]
      rw [e_186_138 hs, ixb _ c.1 (by omega), c.2.1, ni_add1, if_neg (show ¬ ni (D 12 q) ≤ ni (i + 1) by rw [ni_le (by omega) (by omega)]; omega), n1, ni_add1, ixb _ (show 8 * q + i < 512 by omega) (by omega), e1, ixb _ (show rwm D q i < 24 by omega) (by omega), ixb _ (show 8 * q + i + 1 < 512 by omega) (by omega), e2, ixb _ (show rwm D q i < 24 by omega) (by omega), ixb _ (show 8 * q + i < 512 by omega) (by omega), hg _ (show rwm D q i < 24 by omega), sb_or (by omega) (show rwm D q (i + 1) < 24 by omega), hI_pI, if_neg (by omega), hG, hI_pI, if_neg (by omega), e1, sb_or (by omega) (show rwm D q i < 24 by omega)]
      exact d
    · rw [g1 x hx]
      exact sb_congr fun b _ => by rw [ark_s, Bool.or_assoc]
    · rw [G1]
      exact sb_congr fun b _ => by rw [ako_s, Bool.or_assoc]
theorem L186 (V : Vs s) (ht : t < sS s) : ∀ m {h : am_H} r (o4 : Option am_V), r + m = sD s 10 t → Sh h → MS h s → hI h 261 43 = fI (sD s 22 3) → NO h s t r → ∃ h1, am_E 186 (62, [some (vr (some 261)), some (vi (ni t)), some (vi (ni (8 * t))), some (vi (ni (8 * t + r))), o4], [], h) = some (none, h1) ∧ Kg scO h h1 ∧ NO h1 s t (sD s 10 t) := by
  have hM := vM V
  have v10 := vN V ht
  have vS' := vS V
  have vF := V.2.1
  have l0 := vlst V ht (vN1 V ht)
  have l0' : lst (sD s) (8 * t) < sM s := l0
  intro m
  induction m with
  | zero =>
    intro h r o4 hr hs c hb n
    have e : r = sD s 10 t := by omega
    subst e
    refine ⟨h, ?_, Kg_refl h, n⟩
    rw [e_186_62 hs, ixb _ (show t < 8 by omega) (by omega), mN c ht, ni_add, if_pos (show ni (8 * t + sD s 10 t) ≤ ni (8 * t + sD s 10 t) by rw [ni_le (by omega) (by omega)]; omega)]
  | succ m ih =>
    intro h r o4 hr hs c hb n
    have hr' : r < sD s 10 t := by omega
    have v := vq V ht hr'
    have z2 : 2 ≤ sD s 12 (8 * t + r) := v.2.1
    have z8 := vqZ v
    have κ := v.1
    have q := Mqr_of V c ht hr'
    have q64 := q.1
    have lr := vlst V ht hr'
    have st : ∀ (h1 : am_H) (o : Option am_V), Sh h1 → am_E 186 (216, [some (vr (some 261)), some (vi (ni t)), some (vi (ni (8 * t))), some (vi (ni (8 * t + r))), o], [], h1) = am_E 186 (62, [some (vr (some 261)), some (vi (ni t)), some (vi (ni (8 * t))), some (vi (ni (8 * t + (r + 1)))), o], [], h1) := fun h1 o hs1 => by
      rw [e_186_216 hs1, ni_add1]; rfl
    have skip : inN s t r = false → am_E 186 (62, [some (vr (some 261)), some (vi (ni t)), some (vi (ni (8 * t))), some (vi (ni (8 * t + r))), o4], [], h) = am_E 186 (216, [some (vr (some 261)), some (vi (ni t)), some (vi (ni (8 * t))), some (vi (ni (8 * t + r))), o4], [], h) → ∃ h1, am_E 186 (62, [some (vr (some 261)), some (vi (ni t)), some (vi (ni (8 * t))), some (vi (ni (8 * t + r))), o4], [], h) = some (none, h1) ∧ Kg scO h h1 ∧ NO h1 s t (sD s 10 t) := fun z e => by
      obtain ⟨h1, d, k, g⟩ := ih (r + 1) o4 (by omega) hs c hb (NO_no n z)
      refine ⟨h1, ?_, k, g⟩
      rw [e, st h o4 hs]
      exact d
    have b0 := e_186_62 (x1 := ni t) (x2 := ni (8 * t)) (x3 := ni (8 * t + r)) (o4 := o4) hs
    have ix : (8 : Int32) * ni (8 * t + r) + ni (sD s 12 (8 * t + r)) - 1 = ni (8 * (8 * t + r) + (sD s 12 (8 * t + r) - 1)) := by
      rw [show (8 : Int32) = ni 8 from rfl, ni_mul, ni_add, show (1 : Int32) = ni 1 from rfl, ni_sub (by omega)]
      congr 1; omega
    have el : hI h 278 (8 * (8 * t + r) + (sD s 12 (8 * t + r) - 1)) = ni (lst (sD s) (8 * t + r)) := q.2.2 _ (by omega)
    rw [ixb _ (show t < 8 by omega) (by omega), mN c ht, ni_add, if_neg (show ¬ ni (8 * t + sD s 10 t) ≤ ni (8 * t + r) by rw [ni_le (by omega) (by omega)]; omega), ixb _ q64 (by omega), mK c ht hr'] at b0
    by_cases k4 : sD s 11 (8 * t + r) = 4
    · rw [if_pos (show ni (sD s 11 (8 * t + r)) = 4 by rw [k4]; rfl)] at b0
      exact skip (by unfold inN; rw [k4]; simp) b0
    · rw [if_neg (show ¬ ni (sD s 11 (8 * t + r)) = 4 by rw [show (4 : Int32) = ni 4 from rfl, ni_eq (by omega) (by omega)]; exact k4), ixb _ q64 (by omega), q.2.1, ix, ixb _ (show 8 * (8 * t + r) + (sD s 12 (8 * t + r) - 1) < 512 by omega) (by omega), el, n.1] at b0
      by_cases eq : lst (sD s) (8 * t + r) = lst (sD s) (8 * t)
      · rw [if_pos (show ni (lst (sD s) (8 * t + r)) = ni (lst (sD s) (8 * t)) by rw [eq]), D168 hs V c vF hb ht hr'] at b0
        simp only [Option.bind_some, Option.toList_some, List.cons_append, List.nil_append] at b0
        rw [e_186_114 hs] at b0
        have uu : upq (sD s) (lwf (sD s) (sD s 22 3)) (8 * t + r) = uF s t r := rfl
        rw [uu] at b0
        cases u : uF s t r
        · rw [u, if_pos (show bi false = 0 from rfl)] at b0
          exact skip (by unfold inN; rw [u, Bool.false_and]) b0
        · have hin : inN s t r = true := by
            unfold inN
            rw [u, beq_eq_false_iff_ne.mpr k4, beq_iff_eq.mpr eq]; rfl
          have i0 : 0 < sD s 12 (8 * t + r) := by omega
          have m0 := vqM v i0
          have e1 : hI h 278 (8 * (8 * t + r)) = ni (rwm (sD s) (8 * t + r) 0) := q.2.2 0 i0
          rw [u, if_neg (show ¬ bi true = 0 by decide), show (8 : Int32) * ni (8 * t + r) = ni (8 * (8 * t + r)) by rw [show (8 : Int32) = ni 8 from rfl, ni_mul], ixb _ (show 8 * (8 * t + r) < 512 by omega) (by omega), e1, ixb _ (show rwm (sD s) (8 * t + r) 0 < 24 by omega) (by omega)] at b0
          have kg : Kg scO h (pI h 296 (rwm (sD s) (8 * t + r) 0) 1) := Kg_pI (by unfold scO; omega) (Kg_refl h)
          obtain ⟨h2, d2, k2, g2, G2⟩ := L186i hM v (sD s 12 (8 * t + r) - 1) (h := pI h 296 (rwm (sD s) (8 * t + r) 0) 1) 0 (g := nxt s t r) (G := gng s t r) (x1 := ni t) (x2 := ni (8 * t)) (by omega) hs (Mqr_fr (fun k => ⟨by unfold scO; omega, by unfold scO; omega⟩) kg q) (fun x hx => by rw [hI_pI, if_neg (by omega)]; exact (n.2.2 x hx).2) (by rw [hI_pI, if_neg (by omega)]; exact n.2.1)
          have k2' : Kg scO h h2 := Kg_trans kg (Kg_mono (fun c k z => by unfold scO; omega) k2)
          have hs2 := Kg_Sh k2' hs
          have k2m : Kg scm h h2 := Kg_mono (fun c k z => by unfold scO at z; unfold scm; omega) k2'
          have c2 : MS h2 s := (Mok_q V c k2m).1
          have n2 : NO h2 s t (r + 1) := by
            refine ⟨?_, ?_, fun x hx => ⟨?_, ?_⟩⟩
            · rw [k2.2.2.2.2.1 261 50 (by omega), hI_pI, if_neg (by omega)]; exact n.1
            · rw [G2]
              exact sb_congr fun m _ => by rw [gng_s, hin, Bool.true_and]
            · rw [k2.2.2.2.2.1 296 x (by omega), hI_pI, bgn_s, hin, Bool.true_and]
              by_cases y : x = rwm (sD s) (8 * t + r) 0
              · rw [if_pos ⟨rfl, y⟩, ← y, beq_self_eq_true, Bool.or_true]; rfl
              · rw [if_neg (fun z => y z.2), (n.2.2 x hx).1, beq_eq_false_iff_ne.mpr (fun z => y z.symm), Bool.or_false]
            · rw [g2 x hx]
              exact sb_congr fun b _ => by rw [nxt_s, hin, Bool.true_and]
          obtain ⟨h1, d, k, g⟩ := ih (r + 1) (some (vi (ni (sD s 12 (8 * t + r) - 1)))) (by omega) hs2 c2 (by rw [k2'.2.2.2.2.1 261 43 (by unfold scO; omega)]; exact hb) n2
          refine ⟨h1, ?_, Kg_trans k2' k, g⟩
          rw [b0]
          refine d2.trans ?_
          rw [st h2 _ hs2]
          exact d
      · rw [if_neg (show ¬ ni (lst (sD s) (8 * t + r)) = ni (lst (sD s) (8 * t)) by rw [ni_eq (by omega) (by omega)]; exact eq)] at b0
        exact skip (by unfold inN; rw [beq_eq_false_iff_ne.mpr eq, Bool.and_false, Bool.and_false]) b0
theorem L186a : ∀ m {h : am_H} i {x1 x2 : Int32} {o4 : Option am_V}, i + m = 24 → Sh h → (∀ x, x < i → hI h 296 x = 0 ∧ hI h 297 x = 0) → ∃ h1, am_E 186 (34, [some (vr (some 261)), some (vi x1), some (vi x2), some (vi (ni i)), o4], [], h) = am_E 186 (62, [some (vr (some 261)), some (vi x1), some (vi x2), some (vi x2), o4], [], h1) ∧ Kg (fun c _ => 296 ≤ c ∧ c ≤ 297) h h1 ∧ ∀ x, x < 24 → hI h1 296 x = 0 ∧ hI h1 297 x = 0 := by
  intro m
  induction m with
  | zero =>
    intro h i x1 x2 o4 hi hs g
    refine ⟨h, ?_, Kg_refl h, fun x hx => g x (by omega)⟩
    rw [e_186_34 hs, if_pos (show (24 : Int32) ≤ ni i by rw [show (24 : Int32) = ni 24 from rfl, ni_le (by omega) (by omega)]; omega)]
  | succ m ih =>
    intro h i x1 x2 o4 hi hs g
    have hs' : Sh (pI (pI h 296 i 0) 297 i 0) := hs
    obtain ⟨h1, d, k, g1⟩ := ih (h := pI (pI h 296 i 0) 297 i 0) (i + 1) (x1 := x1) (x2 := x2) (o4 := o4) (by omega) hs' (fun x hx => by
      rw [hI_pI, if_neg (by omega), hI_pI, hI_pI]
      by_cases y : x = i
      · rw [if_pos ⟨rfl, y⟩, if_pos ⟨rfl, y⟩]; exact ⟨rfl, rfl⟩
      · rw [if_neg (fun z => y z.2), if_neg (fun z => y z.2), hI_pI, if_neg (by omega)]; exact g x (by omega))
    refine ⟨h1, ?_, Kg_trans (Kg_pI (by omega) (Kg_pI (by omega) (Kg_refl h))) k, g1⟩
    rw [e_186_34 hs, if_neg (show ¬ (24 : Int32) ≤ ni i by rw [show (24 : Int32) = ni 24 from rfl, ni_le (by omega) (by omega)]; omega), ixb _ (show i < 24 by omega) (by omega), ixb _ (show i < 24 by omega) (by omega), ni_add1]
    exact d
theorem D186 {h : am_H} (V : Vs s) (ht : t < sS s) (hs : Sh h) (c : MS h s) (hb : hI h 261 43 = fI (sD s 22 3)) : ∃ h1, am_D 186 [vr (some 261), vi (ni t)] h = some (none, h1) ∧ Kg scO h h1 ∧ NO h1 s t (sD s 10 t) := by
  have vS' := vS V
  have n1 := vN1 V ht
  have q := Mqr_of V c ht n1
  have v := vq V ht n1
  have z2 : 2 ≤ sD s 12 (8 * t + 0) := v.2.1
  have z8 := vqZ v
  have hs0 : Sh (pI (pI h 261 50 (ni (lst (sD s) (8 * t)))) 261 51 0) := hs
  have k0 : Kg scO h (pI (pI h 261 50 (ni (lst (sD s) (8 * t)))) 261 51 0) := Kg_pI (by unfold scO; omega) (Kg_pI (by unfold scO; omega) (Kg_refl h))
  obtain ⟨h1, d1, k1, g1⟩ := L186a 24 (h := pI (pI h 261 50 (ni (lst (sD s) (8 * t)))) 261 51 0) 0 (x1 := ni t) (x2 := ni (8 * t)) (o4 := none) (by omega) hs0 (fun x hx => by omega)
  have k01 : Kg scO h h1 := Kg_trans k0 (Kg_mono (fun c k z => Or.inr z) k1)
  have c1 : MS h1 s := (Mok_q V c (Kg_mono (fun c k z => by unfold scO at z; unfold scm; omega) k01)).1
  have n0 : NO h1 s t 0 := by
    refine ⟨?_, ?_, fun x hx => ⟨(g1 x hx).1, ?_⟩⟩
    · rw [k1.2.2.2.2.1 261 50 (by omega), hI_pI, if_neg (by omega), pe]
    · rw [k1.2.2.2.2.1 261 51 (by omega), pe]
      exact ((sb_0 (by omega)).mpr fun k _ => rfl).symm
    · rw [(g1 x hx).2]
      exact ((sb_0 (by omega)).mpr fun k _ => rfl).symm
  obtain ⟨h2, d2, k2, g2⟩ := L186 V ht (sD s 10 t) 0 none (by omega) (Kg_Sh k01 hs) c1 (by rw [k01.2.2.2.2.1 261 43 (by unfold scO; omega)]; exact hb) n0
  refine ⟨h2, ?_, Kg_trans k01 k2, g2⟩
  have e1 : hI h 278 (8 * (8 * t) + (sD s 12 (8 * t) - 1)) = ni (lst (sD s) (8 * t)) := q.2.2 (sD s 12 (8 * t + 0) - 1) (by omega)
  have e2 : hI h 276 (8 * t) = ni (sD s 12 (8 * t)) := q.2.1
  have z2' : 2 ≤ sD s 12 (8 * t) := z2
  have z8' : sD s 12 (8 * t) ≤ 8 := z8
  have ix : ni (8 * (8 * t)) + ni (sD s 12 (8 * t)) - 1 = ni (8 * (8 * t) + (sD s 12 (8 * t) - 1)) := by
    rw [ni_add, show (1 : Int32) = ni 1 from rfl, ni_sub (by omega)]
    congr 1; omega
  rw [d_186 hs, show (8 : Int32) * ni t = ni (8 * t) by rw [show (8 : Int32) = ni 8 from rfl, ni_mul], ixb _ (show 8 * t < 64 by omega) (by omega), e2, show (8 : Int32) * ni (8 * t) = ni (8 * (8 * t)) by rw [show (8 : Int32) = ni 8 from rfl, ni_mul], ix, ixb _ (show 8 * (8 * t) + (sD s 12 (8 * t) - 1) < 512 by omega) (by omega), e1]
  exact d1.trans d2
end NT2
