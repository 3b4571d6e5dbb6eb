/-! wordings, mouths, beside -/
def uF (s : Sg) (t r : Nat) : Bool := upq (sD s) (lwF s) (8 * t + r)
def wom (s : Sg) (t : Nat) : Nat → Int32
  | 0 => ni 0
  | r + 1 => if uF s t r = true then wom s t r ||| (ni 1 <<< (ni (sD s 13 (8 * t + r)) &&& ni 31)) else wom s t r
theorem bt_wom {s : Sg} {t : Nat} (hw : ∀ r, r < sD s 10 t → sD s 13 (8 * t + r) < 8) : ∀ r, r ≤ sD s 10 t → ∀ k, k < 32 → bt (wom s t r) k = anyb (fun r => uF s t r && (sD s 13 (8 * t + r) == k)) r
  | 0, _, k, _ => bt_0 k
  | r + 1, hr, k, hk => by
    have w := hw r (by omega)
    have ih := bt_wom hw r (by omega) k hk
    rw [show wom s t (r + 1) = if uF s t r = true then wom s t r ||| (ni 1 <<< (ni (sD s 13 (8 * t + r)) &&& ni 31)) else wom s t r from rfl, anyb_s]
    cases x : uF s t r
    · rw [if_neg (by decide), ih, Bool.false_and, Bool.or_false]
    · rw [if_pos rfl, bt_or, ih, bt_one _ (by omega) k hk, Bool.true_and]
      congr 1
      by_cases z : sD s 13 (8 * t + r) = k
      · rw [beq_iff_eq.mpr z, decide_eq_true z.symm]
      · rw [beq_eq_false_iff_ne.mpr z, decide_eq_false (fun x => z x.symm)]
section WOR
variable {h : am_H} {s : Sg} {t : Nat}
theorem wom_8 (V : Vs s) (ht : t < sS s) : wom s t (sD s 10 t) = sb (wdb s t (uF s t)) 8 := sb_ext (by omega) fun k hk => by
  have hw : ∀ r, r < sD s 10 t → sD s 13 (8 * t + r) < 8 := fun r hr => (vq V ht hr).2.2.2.1
  rw [bt_wom hw _ (Nat.le_refl _) k hk]
  by_cases z : k < 8
  · rw [decide_eq_true z, Bool.true_and]; rfl
  · rw [decide_eq_false z, Bool.false_and, anyb_f]
    intro r hr
    have := hw r hr
    rw [beq_eq_false_iff_ne.mpr (by omega), Bool.and_false]
theorem L215 (hs : Sh h) (V : Vs s) (c : MS h s) (hby : hI h 261 43 = fI (sD s 22 3)) (ht : t < sS s) : ∀ k r, r + k = sD s 10 t → am_E 215 (7, [some (vr (some 261)), some (vi (ni t)), some (vi (wom s t r)), some (vi (ni (8 * t + r)))], [], h) = some (some (vi (wom s t (sD s 10 t))), h) := by
  have vS' := vS V
  have vN' := vN V ht
  have vF := V.2.1
  intro k
  induction k with
  | zero =>
    intro r e
    rw [e_215_7 hs]
    simp (disch := first | assumption | omega | (simp only [Sh_pI, Sh_pL, Sh_pIs, Sh_pLs]; assumption)) only [↓ixb, Option.bind_some, Option.bind_none, Option.toList_some, Option.toList_none, List.cons_append, List.nil_append, ni_lit, ni_of, ni_add, ni_mul, ni_sub, ni_div, ni_lt, ni_le, ni_eq, ng_lt, ng_le, ng_lt', ng_le', ng_eq, ng_eq', ng_ng, Int32.neg_neg, ix_ni, if_pos, if_neg, reduceIte, mN c ht]
    rw [show r = sD s 10 t by omega]
  | succ k ih =>
    intro r e
    have hr : r < sD s 10 t := by omega
    have fin := ih (r + 1) (by omega)
    rw [show wom s t (r + 1) = if uF s t r = true then wom s t r ||| (ni 1 <<< (ni (sD s 13 (8 * t + r)) &&& ni 31)) else wom s t r from rfl] at fin
    rw [e_215_7 hs]
    simp (disch := first | assumption | omega | (simp only [Sh_pI, Sh_pL, Sh_pIs, Sh_pLs]; assumption)) only [↓ixb, Option.bind_some, Option.bind_none, Option.toList_some, Option.toList_none, List.cons_append, List.nil_append, ni_lit, ni_of, ni_add, ni_mul, ni_sub, ni_div, ni_lt, ni_le, ni_eq, ng_lt, ng_le, ng_lt', ng_le', ng_eq, ng_eq', ng_ng, Int32.neg_neg, ix_ni, if_pos, if_neg, reduceIte, mN c ht, D168 hs V c vF hby ht hr]
    rw [e_215_27 hs, show upq (sD s) (lwf (sD s) (sD s 22 3)) (8 * t + r) = uF s t r from rfl]
    cases x : uF s t r
    · rw [x, if_neg (by decide)] at fin
      rw [if_pos (show bi false = 0 from rfl), e_215_41 hs, ni_add1]; exact fin
    · rw [x, if_pos rfl] at fin
      rw [if_neg (show ¬ bi true = 0 by decide), ixb _ (show 8 * t + r < 64 by omega) (by omega), mWd c ht hr, e_215_41 hs, ni_add1]; exact fin
theorem D215 (hs : Sh h) (V : Vs s) (c : MS h s) (hby : hI h 261 43 = fI (sD s 22 3)) (ht : t < sS s) : am_D 215 [vr (some 261), vi (ni t)] h = some (some (vi (sb (wdb s t (uF s t)) 8)), h) := by
  have vS' := vS V
  rw [d_215 hs, show (8 : Int32) * ni t = ni (8 * t + 0) by rw [show (8 : Int32) = ni 8 from rfl, ni_mul]; rfl, ← wom_8 V ht]
  exact L215 hs V c hby ht (sD s 10 t) 0 (by omega)
end WOR
theorem A34 : ∀ a1, Alike 214 216 [vi a1] := fun a1 => glue fun s V => by
  have vR' := vR V
  have vF := V.2.1
  rcases rg a1 (sS s) with ⟨t, ht, rfl⟩ | hn
  · refine ⟨sb (wdb s t (uF s t)) 8, s, V, HC_q V fun h hs c => ?_, HM_q V fun h hs c => ⟨hb h s, ?_, hb_K⟩⟩
    · obtain ⟨h1, d, kg, g⟩ := D172 hs V c vF ht
      have hs1 := Kg_Sh kg hs
      have c1 := CS_fr (fun _ _ z => Or.inl z) kg V c
      refine ⟨h1, ?_, kg⟩
      rw [d_214 hs, D23t hs V c ht]; simp (disch := first | assumption | omega | (simp only [Sh_pI, Sh_pL, Sh_pIs, Sh_pLs]; assumption)) only [↓ixb, Option.bind_some, Option.bind_none, Option.toList_some, Option.toList_none, List.cons_append, List.nil_append, ni_lit, ni_of, ni_add, ni_mul, ni_sub, ni_div, ni_lt, ni_le, ni_eq, ng_lt, ng_le, ng_lt', ng_le', ng_eq, ng_eq', ng_ng, Int32.neg_neg, ix_ni, if_pos, if_neg, reduceIte, e_214_8, D137 hs V c]
      rw [e_214_34 hs (nfK hs (show sD s 22 3 ≤ 6 by omega)), d]
      simp only [Option.bind_some, Option.toList_some, List.cons_append, List.nil_append]
      rw [e_214_37 hs1, D213 hs1 V c1 ht (fun r => upq (sD s) (lwf (sD s) (sD s 22 3)) (8 * t + r))]
      simp only [Option.bind_some, Option.toList_some, List.cons_append, List.nil_append]
      exact e_214_40 hs1
    · rw [d_216 hs, D26t hs V c ht]; simp (disch := first | assumption | omega | (simp only [Sh_pI, Sh_pL, Sh_pIs, Sh_pLs]; assumption)) only [↓ixb, Option.bind_some, Option.bind_none, Option.toList_some, Option.toList_none, List.cons_append, List.nil_append, ni_lit, ni_of, ni_add, ni_mul, ni_sub, ni_div, ni_lt, ni_le, ni_eq, ng_lt, ng_le, ng_lt', ng_le', ng_eq, ng_eq', ng_ng, Int32.neg_neg, ix_ni, if_pos, if_neg, reduceIte, e_216_5, hb_e c]
      rw [D215 (hb_S hs) V (hb_M V c) hb_43 ht]
      simp only [Option.bind_some, Option.toList_some, List.cons_append, List.nil_append]
      exact e_216_27 (hb_S hs)
  · refine refg V 1 (by omega) (fun h hs c => ?_) (fun h hs c => ?_)
    · rw [d_214 hs, D23f hs V c hn]; simp (disch := first | assumption | omega | (simp only [Sh_pI, Sh_pL, Sh_pIs, Sh_pLs]; assumption)) only [↓ixb, Option.bind_some, Option.bind_none, Option.toList_some, Option.toList_none, List.cons_append, List.nil_append, ni_lit, ni_of, ni_add, ni_mul, ni_sub, ni_div, ni_lt, ni_le, ni_eq, ng_lt, ng_le, ng_lt', ng_le', ng_eq, ng_eq', ng_ng, Int32.neg_neg, ix_ni, if_pos, if_neg, reduceIte, e_214_8, D7, e_214_16]
    · rw [d_216 hs, D26f hs V c hn]; simp (disch := first | assumption | omega | (simp only [Sh_pI, Sh_pL, Sh_pIs, Sh_pLs]; assumption)) only [↓ixb, Option.bind_some, Option.bind_none, Option.toList_some, Option.toList_none, List.cons_append, List.nil_append, ni_lit, ni_of, ni_add, ni_mul, ni_sub, ni_div, ni_lt, ni_le, ni_eq, ng_lt, ng_le, ng_lt', ng_le', ng_eq, ng_eq', ng_ng, Int32.neg_neg, ix_ni, if_pos, if_neg, reduceIte, e_216_5, D10, e_216_13]
-- how many bits
def bcF (x : Int32) : Int32 :=
  let b1 := x - (((x.toUInt32 >>> ((1 : Int32).toUInt32 &&& Int32.toUInt32 31)).toInt32) &&& 1431655765)
  let b2 := (b1 &&& 858993459) + (((b1.toUInt32 >>> ((2 : Int32).toUInt32 &&& Int32.toUInt32 31)).toInt32) &&& 858993459)
  let b3 := (b2 + ((b2.toUInt32 >>> ((4 : Int32).toUInt32 &&& Int32.toUInt32 31)).toInt32)) &&& 252645135
  let b4 := b3 + ((b3.toUInt32 >>> ((8 : Int32).toUInt32 &&& Int32.toUInt32 31)).toInt32)
  let b5 := b4 + ((b4.toUInt32 >>> ((16 : Int32).toUInt32 &&& Int32.toUInt32 31)).toInt32)
  b5 &&& 63
theorem D217 {h : am_H} (hs : Sh h) (x : Int32) : am_D 217 [vi x] h = some (some (vi (bcF x)), h) := by
  rw [d_217 hs, e_217_10 hs, e_217_24 hs, e_217_34 hs, e_217_41 hs, e_217_48 hs]; rfl
def pcn : Nat → Int32 → Nat
  | 0, _ => 0
  | m + 1, x => if x = 0 then 0 else pcn m (x &&& (x - 1)) + 1
def rz : Nat → Int32 → Bool
  | 0, x => x == 0
  | m + 1, x => x == 0 || rz m (x &&& (x - 1))
theorem bc_8 : ∀ j, j < 256 → bcF (ni j) = ni (pcn 9 (ni j)) := by decide +kernel
theorem rz_8 : ∀ j, j < 256 → rz 8 (ni j) = true := by decide +kernel
theorem pc_le : ∀ m x, pcn m x ≤ m
  | 0, _ => Nat.le_refl _
  | m + 1, x => by
    have := pc_le m (x &&& (x - 1))
    show (if x = 0 then 0 else pcn m (x &&& (x - 1)) + 1) ≤ m + 1
    split <;> omega
theorem L220 {h : am_H} (hs : Sh h) : ∀ m x c (o0 o1 : Option am_V), rz m x = true → am_E 220 (4, [o0, o1, some (vi (ni c)), some (vi x)], [], h) = some (some (vi (ni (c + pcn (m + 1) x))), h) := by
  intro m
  induction m with
  | zero =>
    intro x c o0 o1 z
    have z' : x = 0 := beq_iff_eq.mp z
    rw [e_220_4 hs, if_pos z', show pcn (0 + 1) x = if x = 0 then 0 else pcn 0 (x &&& (x - 1)) + 1 from rfl, if_pos z']; rfl
  | succ m ih =>
    intro x c o0 o1 z
    rw [e_220_4 hs, show pcn (m + 1 + 1) x = if x = 0 then 0 else pcn (m + 1) (x &&& (x - 1)) + 1 from rfl]
    by_cases y : x = 0
    · rw [if_pos y, if_pos y]; rfl
    · rw [if_neg y, if_neg y, ni_add1]
      have z2 : rz m (x &&& (x - 1)) = true := by
        have z' : (x == 0 || rz m (x &&& (x - 1))) = true := z
        rw [beq_eq_false_iff_ne.mpr y, Bool.false_or] at z'
        exact z'
      rw [ih _ (c + 1) _ _ z2]
      exact congrArg (fun z => some (some (vi (ni z)), h)) (by omega)
theorem D220 {h : am_H} (hs : Sh h) {j : Nat} (hj : j < 256) {z : Option Nat} : am_D 220 [vr z, vi (ni j)] h = some (some (vi (ni (pcn 9 (ni j)))), h) := by
  have f := L220 hs 8 (ni j) 0 (some (vr z)) (some (vi (ni j))) (rz_8 j hj)
  rw [Nat.zero_add] at f
  rw [d_220 hs]
  exact f
theorem sb_8 (f : Nat → Bool) : ∃ j, j < 256 ∧ sb f 8 = ni j := by
  refine ⟨(sb f 8).toBitVec.toNat, ?_, ?_⟩
  · refine Nat.lt_pow_two_of_testBit (n := 8) _ (fun i hi => ?_)
    by_cases z : i < 32
    · have b := bt_sb (f := f) 8 (by omega) i z
      rw [decide_eq_false (by omega), Bool.false_and] at b
      exact b
    · exact Nat.testBit_lt_two_pow (Nat.lt_of_lt_of_le (sb f 8).toBitVec.isLt (Nat.pow_le_pow_right (by omega) (by omega)))
  · apply Int32.toBitVec_inj.1
    apply BitVec.eq_of_toNat_eq
    show _ = (BitVec.ofNat 32 (sb f 8).toBitVec.toNat).toNat
    rw [BitVec.toNat_ofNat, Nat.mod_eq_of_lt (sb f 8).toBitVec.isLt]
-- mouths
theorem sb_eqand {f g u : Nat → Bool} {n : Nat} (hn : n ≤ 32) : (sb f n &&& sb u n = sb g n &&& sb u n) = (anyb (fun r => u r && (Bool.xor (g r) (f r))) n = false) := by
  apply propext
  rw [anyb_f]
  constructor
  · intro h k hk
    have e : bt (sb f n &&& sb u n) k = bt (sb g n &&& sb u n) k := by rw [h]
    rw [bt_and, bt_and, bt_sb n hn k (by omega), bt_sb n hn k (by omega), bt_sb n hn k (by omega), decide_eq_true hk] at e
    simp only [Bool.true_and] at e
    cases x : f k <;> cases y : g k <;> cases z : u k <;> rw [x, y, z] at e <;> first | rfl | cases e
  · intro h
    apply bt_ext
    intro k hk
    rw [bt_and, bt_and, bt_sb n hn k hk, bt_sb n hn k hk, bt_sb n hn k hk]
    by_cases z : k < n
    · have e := h k z
      rw [decide_eq_true z]
      cases x : f k <;> cases y : g k <;> cases w : u k <;> rw [x, y, w] at e <;> first | rfl | cases e
    · rw [decide_eq_false z]; rfl
def unl (s : Sg) (t w k : Nat) (r : Nat) : Bool := uF s t r && Bool.xor (sD s 13 (8 * t + r) == w) (hasq (sD s) (8 * t + r) k)
def imw (s : Sg) (t k w : Nat) : Bool := anyb (fun r => uF s t r && hasq (sD s) (8 * t + r) k) (sD s 10 t) && !anyb (unl s t w k) (sD s 10 t)
def imq (s : Sg) (t k : Nat) : Bool := anyb (imw s t k) 8
section MOU
variable {h : am_H} {s : Sg} {t k : Nat}
theorem L218 (hs : Sh h) (V : Vs s) (c : CS h s) (ht : t < sS s) (hk : k < 2147483648) {o2 : Option am_V} : ∀ m w, w + m = 8 → anyb (imw s t k) w = false → am_E 218 (16, [some (vr (some 16)), some (vi (ni t)), o2, some (vi (sb (uF s t) (sD s 10 t))), some (vi (sb (fun r => hasq (sD s) (8 * t + r) k) (sD s 10 t) &&& sb (uF s t) (sD s 10 t))), some (vi (ni w))], [], h) = some (some (vi (bi (imq s t k))), h) := by
  have vN' := vN V ht
  intro m
  induction m with
  | zero =>
    intro w e f
    rw [e_218_16 hs]
    simp (disch := first | assumption | omega | (simp only [Sh_pI, Sh_pL, Sh_pIs, Sh_pLs]; assumption)) only [↓ixb, Option.bind_some, Option.bind_none, Option.toList_some, Option.toList_none, List.cons_append, List.nil_append, ni_lit, ni_of, ni_add, ni_mul, ni_sub, ni_div, ni_lt, ni_le, ni_eq, ng_lt, ng_le, ng_lt', ng_le', ng_eq, ng_eq', ng_ng, Int32.neg_neg, ix_ni, if_pos, if_neg, reduceIte]
    unfold imq
    rw [show (8 : Nat) = w by omega, f]; rfl
  | succ m ih =>
    intro w e f
    have s47 : imw s t k w = false → am_E 218 (47, [some (vr (some 16)), some (vi (ni t)), o2, some (vi (sb (uF s t) (sD s 10 t))), some (vi (sb (fun r => hasq (sD s) (8 * t + r) k) (sD s 10 t) &&& sb (uF s t) (sD s 10 t))), some (vi (ni w))], [], h) = some (some (vi (bi (imq s t k))), h) := by
      intro g
      rw [e_218_47 hs, ni_add1]
      exact ih (w + 1) (by omega) (by rw [anyb_s, f, g]; rfl)
    rw [e_218_16 hs, if_neg (show ¬ (8 : Int32) ≤ ni w from by rw [show (8 : Int32) = ni 8 from rfl, ni_le (by omega) (by omega)]; omega)]
    have a1 := sb_an0 (f := fun r => hasq (sD s) (8 * t + r) k) (g := uF s t) (n := sD s 10 t) (by omega)
    cases x : anyb (fun r => uF s t r && hasq (sD s) (8 * t + r) k) (sD s 10 t)
    · refine (if_pos (a1.mpr x)).trans ?_
      exact s47 (by unfold imw; rw [x]; rfl)
    · refine (if_neg (fun z => Bool.noConfusion (x.symm.trans (a1.mp z)))).trans ?_
      rw [D212 hs V c ht (show w < 2147483648 by omega)]
      simp only [Option.bind_some, Option.toList_some, List.cons_append, List.nil_append]
      rw [e_218_40 hs]
      have a2 := sb_eqand (f := fun r => hasq (sD s) (8 * t + r) k) (g := fun r => sD s 13 (8 * t + r) == w) (u := uF s t) (n := sD s 10 t) (by omega)
      cases y : anyb (unl s t w k) (sD s 10 t)
      · refine (if_pos (a2.mpr y)).trans ?_
        have : imq s t k = true := (anyb_iff _).mpr ⟨w, by omega, by unfold imw; rw [x, y]; rfl⟩
        rw [this]; rfl
      · refine (if_neg (fun z => Bool.noConfusion (y.symm.trans (a2.mp z)))).trans ?_
        exact s47 (by unfold imw; rw [x, y]; rfl)
theorem D218 (hs : Sh h) (V : Vs s) (c : CS h s) (ht : t < sS s) (hk : k < 2147483648) : am_D 218 [vr (some 16), vi (ni t), vi (ni k), vi (sb (uF s t) (sD s 10 t))] h = some (some (vi (bi (imq s t k))), h) := by
  rw [d_218 hs, D204 hs V c ht hk]
  simp only [Option.bind_some, Option.toList_some, List.cons_append, List.nil_append]
  rw [e_218_9 hs]
  exact L218 hs V c ht hk 8 0 (by omega) rfl
theorem L219 (hs : Sh h) (V : Vs s) (c : CS h s) (ht : t < sS s) : ∀ m i, i + m = sM s → am_E 219 (56, [some (vr (some 16)), some (vi (ni t)), some (vi (sb (uF s t) (sD s 10 t))), some (vi (sb (imq s t) i)), some (vi (ni i))], [], h) = some (some (vi (sb (imq s t) (sM s))), h) := by
  have vM' := vM V
  intro m
  induction m with
  | zero =>
    intro i e
    rw [e_219_56 hs, cM c]
    simp (disch := first | assumption | omega | (simp only [Sh_pI, Sh_pL, Sh_pIs, Sh_pLs]; assumption)) only [↓ixb, Option.bind_some, Option.bind_none, Option.toList_some, Option.toList_none, List.cons_append, List.nil_append, ni_lit, ni_of, ni_add, ni_mul, ni_sub, ni_div, ni_lt, ni_le, ni_eq, ng_lt, ng_le, ng_lt', ng_le', ng_eq, ng_eq', ng_ng, Int32.neg_neg, ix_ni, if_pos, if_neg, reduceIte]
    rw [show i = sM s by omega]
  | succ m ih =>
    intro i e
    have fin := ih (i + 1) (by omega)
    rw [e_219_56 hs, cM c, if_neg (show ¬ ni (sM s) ≤ ni i by rw [ni_le (by omega) (by omega)]; omega), D218 hs V c ht (by omega)]
    simp only [Option.bind_some, Option.toList_some, List.cons_append, List.nil_append]
    rw [e_219_76 hs, e_219_86 hs, e_219_86 hs, ni_add1]
    cases x : imq s t i
    · rw [sb_f x] at fin
      rw [if_pos (show bi false = 0 from rfl)]; exact fin
    · rw [sb_t x] at fin
      rw [if_neg (show ¬ bi true = 0 by decide)]; exact fin
-- the model
def alr (s : Sg) (t w : Nat) : Nat → Int32
  | 0 => -ni 1
  | r + 1 => if uF s t r = true then alr s t w r &&& (if sD s 13 (8 * t + r) = w then moq (sD s) (8 * t + r) (sD s 12 (8 * t + r)) else moq (sD s) (8 * t + r) (sD s 12 (8 * t + r)) ^^^ -ni 1) else alr s t w r
theorem alr_s {w r : Nat} : alr s t w (r + 1) = if uF s t r = true then alr s t w r &&& (if sD s 13 (8 * t + r) = w then moq (sD s) (8 * t + r) (sD s 12 (8 * t + r)) else moq (sD s) (8 * t + r) (sD s 12 (8 * t + r)) ^^^ -ni 1) else alr s t w r := rfl
theorem bt_alr (V : Vs s) (ht : t < sS s) {w : Nat} : ∀ r, r ≤ sD s 10 t → ∀ k, k < 32 → bt (alr s t w r) k = !anyb (unl s t w k) r
  | 0, _, k, hk => bt_m1 k hk
  | r + 1, hr, k, hk => by
    have ih := bt_alr V ht (w := w) r (by omega) k hk
    have b := bt_mo V ht (show r < sD s 10 t by omega) hk
    rw [alr_s, anyb_s]
    unfold unl at ih ⊢
    cases x : uF s t r
    · rw [if_neg (by decide), ih, Bool.false_and, Bool.or_false]
    · rw [if_pos rfl, bt_and, ih, Bool.true_and, Bool.not_or]
      congr 1
      by_cases z : sD s 13 (8 * t + r) = w
      · rw [if_pos z, b, beq_iff_eq.mpr z]; cases hasq (sD s) (8 * t + r) k <;> rfl
      · rw [if_neg z, bt_not _ hk, b, beq_eq_false_iff_ne.mpr z]; cases hasq (sD s) (8 * t + r) k <;> rfl
def mst (s : Sg) (t : Nat) : Nat → Int32
  | 0 => ni 0
  | w + 1 => if wdb s t (uF s t) w = true then mst s t w ||| alr s t w (sD s 10 t) else mst s t w
theorem mst_s {w : Nat} : mst s t (w + 1) = if wdb s t (uF s t) w = true then mst s t w ||| alr s t w (sD s 10 t) else mst s t w := rfl
theorem bt_mst (V : Vs s) (ht : t < sS s) : ∀ w, ∀ k, k < 32 → bt (mst s t w) k = anyb (fun w => wdb s t (uF s t) w && !anyb (unl s t w k) (sD s 10 t)) w
  | 0, k, hk => bt_0 k
  | w + 1, k, hk => by
    have ih := bt_mst V ht w k hk
    rw [mst_s, anyb_s]
    cases x : wdb s t (uF s t) w
    · rw [if_neg (by decide), ih, Bool.false_and, Bool.or_false]
    · rw [if_pos rfl, bt_or, ih, bt_alr V ht _ (Nat.le_refl _) k hk, Bool.true_and]
theorem hasq_M (V : Vs s) (ht : t < sS s) {r : Nat} (hr : r < sD s 10 t) {k : Nat} (hk : sM s ≤ k) : hasq (sD s) (8 * t + r) k = false := by
  have v := vq V ht hr
  refine anyb_f.mpr fun i hi => ?_
  have := v.2.2.2.2.1 i hi
  exact beq_eq_false_iff_ne.mpr (by omega)
theorem mst_8 (V : Vs s) (ht : t < sS s) : mst s t 8 = sb (imq s t) (sM s) := by
  have vM' := vM V
  refine sb_ext (by omega) fun k hk => ?_
  rw [bt_mst V ht 8 k hk]
  have key : ∀ w, anyb (unl s t w k) (sD s 10 t) = false → (anyb (fun r => uF s t r && hasq (sD s) (8 * t + r) k) (sD s 10 t) = wdb s t (uF s t) w) := by
    intro w f
    rw [anyb_f] at f
    apply Bool.eq_iff_iff.mpr
    unfold wdb
    rw [anyb_iff, anyb_iff]
    constructor
    · rintro ⟨r, hr, g⟩
      refine ⟨r, hr, ?_⟩
      have e := f r hr
      unfold unl at e
      rw [Bool.and_eq_true] at g
      rw [g.1, g.2] at e
      cases z : (sD s 13 (8 * t + r) == w)
      · rw [z] at e; cases e
      · rw [g.1]; rfl
    · rintro ⟨r, hr, g⟩
      refine ⟨r, hr, ?_⟩
      have e := f r hr
      unfold unl at e
      rw [Bool.and_eq_true] at g
      rw [g.1, g.2] at e
      cases z : hasq (sD s) (8 * t + r) k
      · rw [z] at e; cases e
      · rw [g.1]; rfl
  by_cases z : k < sM s
  · rw [decide_eq_true z, Bool.true_and]
    unfold imq
    apply Bool.eq_iff_iff.mpr
    rw [anyb_iff, anyb_iff]
    constructor
    · rintro ⟨w, hw, g⟩
      refine ⟨w, hw, ?_⟩
      unfold imw
      rw [Bool.and_eq_true] at g ⊢
      have g2 := g.2
      rw [Bool.not_eq_true'] at g2
      exact ⟨(key w g2).trans g.1, g.2⟩
    · rintro ⟨w, hw, g⟩
      refine ⟨w, hw, ?_⟩
      unfold imw at g
      rw [Bool.and_eq_true] at g ⊢
      have g2 := g.2
      rw [Bool.not_eq_true'] at g2
      exact ⟨(key w g2).symm.trans g.1, g.2⟩
  · rw [decide_eq_false z, Bool.false_and, anyb_f]
    intro w hw
    cases x : wdb s t (uF s t) w
    · rfl
    · cases y : anyb (unl s t w k) (sD s 10 t)
      · have := key w y
        rw [x] at this
        obtain ⟨r, hr, g⟩ := (anyb_iff _).mp this
        rw [hasq_M V ht hr (by omega), Bool.and_false] at g
        cases g
      · rfl
theorem L221r (hs : Sh h) (V : Vs s) (c : MS h s) (hby : hI h 261 43 = fI (sD s 22 3)) (ht : t < sS s) {w : Nat} (hw : w < 8) {x2 x3 : Int32} : ∀ m r, r + m = sD s 10 t → ∃ o5 o6, am_E 221 (72, [some (vr (some 261)), some (vi (ni t)), some (vi x2), some (vi x3), some (vi (ni w)), some (vi (alr s t w r)), some (vi (ni (8 * t + r)))], [], h) = am_E 221 (44, [some (vr (some 261)), some (vi (ni t)), some (vi x2), some (vi (x3 ||| alr s t w (sD s 10 t))), some (vi (ni (w + 1))), o5, o6], [], h) := by
  have vS' := vS V
  have vN' := vN V ht
  have vF := V.2.1
  intro m
  induction m with
  | zero =>
    intro r e
    refine ⟨some (vi (alr s t w r)), some (vi (ni (8 * t + r))), ?_⟩
    rw [e_221_72 hs]
    simp (disch := first | assumption | omega | (simp only [Sh_pI, Sh_pL, Sh_pIs, Sh_pLs]; assumption)) only [↓ixb, Option.bind_some, Option.bind_none, Option.toList_some, Option.toList_none, List.cons_append, List.nil_append, ni_lit, ni_of, ni_add, ni_mul, ni_sub, ni_div, ni_lt, ni_le, ni_eq, ng_lt, ng_le, ng_lt', ng_le', ng_eq, ng_eq', ng_ng, Int32.neg_neg, ix_ni, if_pos, if_neg, reduceIte, mN c ht, e_221_142]
    rw [show r = sD s 10 t by omega]
  | succ m ih =>
    intro r e
    have hr : r < sD s 10 t := by omega
    have v13 := (vq V ht hr).2.2.2.1
    obtain ⟨o5, o6, fin⟩ := ih (r + 1) (by omega)
    refine ⟨o5, o6, Eq.trans ?_ fin⟩
    rw [alr_s, e_221_72 hs]
    simp (disch := first | assumption | omega | (simp only [Sh_pI, Sh_pL, Sh_pIs, Sh_pLs]; assumption)) only [ixb, ni_lit, ni_mul, mN c ht, ni_add, ni_le, if_neg, D168 hs V c vF hby ht hr, ↓ixb, Option.bind_some, Option.toList_some, Option.toList_none, List.cons_append, List.nil_append]
    rw [e_221_94 hs, show upq (sD s) (lwf (sD s) (sD s 22 3)) (8 * t + r) = uF s t r from rfl]
    cases x : uF s t r
    · rw [if_pos (show bi false = 0 from rfl), if_neg (by decide), e_221_131 hs, ni_add1]; rfl
    · rw [if_neg (show ¬ bi true = 0 by decide), if_pos rfl, ixb _ (show 8 * t + r < 64 by omega) (by omega), mWd c ht hr, D206 hs V c ht hr]
      simp only [Option.bind_some, Option.toList_some, List.cons_append, List.nil_append]
      rw [e_221_117 hs, e_221_126 hs, e_221_128 hs, e_221_128 hs, e_221_131 hs, e_221_131 hs, ni_add1]
      by_cases z : sD s 13 (8 * t + r) = w
      · rw [if_pos (by rw [z]), if_pos z]; rfl
      · rw [if_neg (by rw [ni_eq (by omega) (by omega)]; exact z), if_neg z]; rfl
theorem L221 (hs : Sh h) (V : Vs s) (c : MS h s) (hby : hI h 261 43 = fI (sD s 22 3)) (ht : t < sS s) : ∀ m w (o5 o6 : Option am_V), w + m = 8 → am_E 221 (44, [some (vr (some 261)), some (vi (ni t)), some (vi (sb (wdb s t (uF s t)) 8)), some (vi (mst s t w)), some (vi (ni w)), o5, o6], [], h) = some (some (vi (mst s t 8)), h) := by
  have vS' := vS V
  intro m
  induction m with
  | zero =>
    intro w o5 o6 e
    rw [e_221_44 hs]
    simp (disch := first | assumption | omega | (simp only [Sh_pI, Sh_pL, Sh_pIs, Sh_pLs]; assumption)) only [↓ixb, Option.bind_some, Option.bind_none, Option.toList_some, Option.toList_none, List.cons_append, List.nil_append, ni_lit, ni_of, ni_add, ni_mul, ni_sub, ni_div, ni_lt, ni_le, ni_eq, ng_lt, ng_le, ng_lt', ng_le', ng_eq, ng_eq', ng_ng, Int32.neg_neg, ix_ni, if_pos, if_neg, reduceIte]
    rw [show w = 8 by omega]
  | succ m ih =>
    intro w o5 o6 e
    have b := bt_shr (sb (wdb s t (uF s t)) 8) (show w < 32 by omega)
    rw [bt_sb 8 (by omega) w (by omega), decide_eq_true (show w < 8 by omega), Bool.true_and] at b
    rw [e_221_44 hs, if_neg (show ¬ (8 : Int32) ≤ ni w from by rw [show (8 : Int32) = ni 8 from rfl, ni_le (by omega) (by omega)]; omega)]
    cases x : wdb s t (uF s t) w
    · rw [x] at b
      refine (if_pos (show (sb (wdb s t (uF s t)) 8 >>> (ni w &&& ni 31) &&& ni 1) = ni 0 by rw [b]; rfl)).trans ?_
      have fin := ih (w + 1) o5 o6 (by omega)
      rw [mst_s, x, if_neg (by decide)] at fin
      rw [e_221_142 hs, ni_add1]; exact fin
    · rw [x] at b
      refine (if_neg (show ¬ (sb (wdb s t (uF s t)) 8 >>> (ni w &&& ni 31) &&& ni 1) = ni 0 by rw [b]; decide)).trans ?_
      obtain ⟨o5', o6', f⟩ := L221r (w := w) (x2 := sb (wdb s t (uF s t)) 8) (x3 := mst s t w) hs V c hby ht (by omega) (sD s 10 t) 0 (by omega)
      have fin := ih (w + 1) o5' o6' (by omega)
      rw [mst_s, x, if_pos rfl] at fin
      rw [show (8 : Int32) * ni t = ni (8 * t + 0) by rw [show (8 : Int32) = ni 8 from rfl, ni_mul]; rfl]
      exact f.trans fin
end MOU
theorem A35 : ∀ a1, Alike 219 221 [vi a1] := fun a1 => glue fun s V => by
  have vR' := vR V
  have vF := V.2.1
  rcases rg a1 (sS s) with ⟨t, ht, rfl⟩ | hn
  · obtain ⟨j, hj, ej⟩ := sb_8 (wdb s t (uF s t))
    have pl := pc_le 9 (ni j)
    refine ⟨if pcn 9 (ni j) < 2 then ni 0 else sb (imq s t) (sM s), s, V, HC_q V fun h hs c => ?_, HM_q V fun h hs c => ⟨hb h s, ?_, hb_K⟩⟩
    · obtain ⟨h1, d, kg, g⟩ := D172 hs V c vF ht
      have hs1 := Kg_Sh kg hs
      have c1 := CS_fr (fun _ _ z => Or.inl z) kg V c
      refine ⟨h1, ?_, kg⟩
      rw [d_219 hs, D23t hs V c ht]; simp (disch := first | assumption | omega | (simp only [Sh_pI, Sh_pL, Sh_pIs, Sh_pLs]; assumption)) only [↓ixb, Option.bind_some, Option.bind_none, Option.toList_some, Option.toList_none, List.cons_append, List.nil_append, ni_lit, ni_of, ni_add, ni_mul, ni_sub, ni_div, ni_lt, ni_le, ni_eq, ng_lt, ng_le, ng_lt', ng_le', ng_eq, ng_eq', ng_ng, Int32.neg_neg, ix_ni, if_pos, if_neg, reduceIte, e_219_8, D137 hs V c]
      rw [e_219_29 hs (nfK hs (show sD s 22 3 ≤ 6 by omega)), d]
      simp only [Option.bind_some, Option.toList_some, List.cons_append, List.nil_append]
      rw [e_219_32 hs1, show sb (fun r => upq (sD s) (lwf (sD s) (sD s 22 3)) (8 * t + r)) (sD s 10 t) = sb (uF s t) (sD s 10 t) from rfl, D213 hs1 V c1 ht (uF s t)]
      simp only [Option.bind_some, Option.toList_some, List.cons_append, List.nil_append]
      rw [e_219_42 hs1, ej, D217 hs1, bc_8 j hj]
      simp only [Option.bind_some, Option.toList_some, List.cons_append, List.nil_append]
      rw [e_219_45 hs1]
      by_cases x : pcn 9 (ni j) < 2
      · rw [if_pos x]
        exact if_neg (by rw [show (1 : Int32) = ni 1 from rfl, ni_lt (by omega) (by omega)]; omega)
      · rw [if_neg x]
        refine (if_pos (by rw [show (1 : Int32) = ni 1 from rfl, ni_lt (by omega) (by omega)]; omega)).trans ?_
        exact L219 hs1 V c1 ht (sM s) 0 (by omega)
    · rw [d_221 hs, D26t hs V c ht]; simp (disch := first | assumption | omega | (simp only [Sh_pI, Sh_pL, Sh_pIs, Sh_pLs]; assumption)) only [↓ixb, Option.bind_some, Option.bind_none, Option.toList_some, Option.toList_none, List.cons_append, List.nil_append, ni_lit, ni_of, ni_add, ni_mul, ni_sub, ni_div, ni_lt, ni_le, ni_eq, ng_lt, ng_le, ng_lt', ng_le', ng_eq, ng_eq', ng_ng, Int32.neg_neg, ix_ni, if_pos, if_neg, reduceIte, e_221_5, hb_e c]
      rw [D215 (hb_S hs) V (hb_M V c) hb_43 ht]
      simp only [Option.bind_some, Option.toList_some, List.cons_append, List.nil_append]
      have d220 := D220 (h := hb h s) (hb_S hs) hj (z := some 261)
      rw [← ej] at d220
      rw [e_221_27 (hb_S hs), d220]
      simp only [Option.bind_some, Option.toList_some, List.cons_append, List.nil_append]
      rw [ej, e_221_35 (hb_S hs)]
      by_cases x : pcn 9 (ni j) < 2
      · rw [if_pos x]
        exact if_neg (by rw [show (2 : Int32) = ni 2 from rfl, ni_le (by omega) (by omega)]; omega)
      · rw [if_neg x]
        refine (if_pos (by rw [show (2 : Int32) = ni 2 from rfl, ni_le (by omega) (by omega)]; omega)).trans ?_
        have f := L221 (hb_S hs) V (hb_M V c) hb_43 ht 8 0 none none (by omega)
        rw [mst_8 V ht, ej] at f
        exact f
  · refine refg V 1 (by omega) (fun h hs c => ?_) (fun h hs c => ?_)
    · rw [d_219 hs, D23f hs V c hn]; simp (disch := first | assumption | omega | (simp only [Sh_pI, Sh_pL, Sh_pIs, Sh_pLs]; assumption)) only [↓ixb, Option.bind_some, Option.bind_none, Option.toList_some, Option.toList_none, List.cons_append, List.nil_append, ni_lit, ni_of, ni_add, ni_mul, ni_sub, ni_div, ni_lt, ni_le, ni_eq, ng_lt, ng_le, ng_lt', ng_le', ng_eq, ng_eq', ng_ng, Int32.neg_neg, ix_ni, if_pos, if_neg, reduceIte, e_219_8, D7, e_219_16]
    · rw [d_221 hs, D26f hs V c hn]; simp (disch := first | assumption | omega | (simp only [Sh_pI, Sh_pL, Sh_pIs, Sh_pLs]; assumption)) only [↓ixb, Option.bind_some, Option.bind_none, Option.toList_some, Option.toList_none, List.cons_append, List.nil_append, ni_lit, ni_of, ni_add, ni_mul, ni_sub, ni_div, ni_lt, ni_le, ni_eq, ng_lt, ng_le, ng_lt', ng_le', ng_eq, ng_eq', ng_ng, Int32.neg_neg, ix_ni, if_pos, if_neg, reduceIte, e_221_5, D10, e_221_13]
