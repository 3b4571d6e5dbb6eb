/-! doubt, out of the weights of the sayings -/
theorem pw_ni : ∀ S, S < 9 → (1 : Int32) <<< (ni S &&& 31) = ni (2 ^ S) := by decide +kernel
section DBT
variable {s : Sg} (w : Nat → Nat)
def okt (s : Sg) (j t : Nat) : Bool := j.testBit t || decide ((ni (sD s 16 t) &&& (ni j ^^^ (-1))) = 0)
def okd (s : Sg) (j : Nat) : Nat → Nat → Bool
  | 0, _ => true
  | m + 1, t => okt s j t && okd s j m (t + 1)
theorem okd_s {j m t : Nat} : okd s j (m + 1) t = (okt s j t && okd s j m (t + 1)) := rfl
def smw (j : Nat) : Nat → Nat → Nat
  | 0, _ => 0
  | m + 1, t => (if j.testBit t then w t else 0) + smw j m (t + 1)
theorem smw_s {j m t : Nat} : smw w j (m + 1) t = (if j.testBit t then w t else 0) + smw w j m (t + 1) := rfl
theorem smw_le (hw : ∀ t, w t ≤ 99) {j : Nat} : ∀ m t, smw w j m t ≤ 99 * m
  | 0, _ => Nat.le_refl _
  | m + 1, t => by
    have a := smw_le hw (j := j) m (t + 1)
    have b := hw t
    rw [smw_s]
    split <;> omega
theorem smw_0 {j : Nat} : ∀ m t, (∀ i, t ≤ i → j.testBit i = false) → smw w j m t = 0
  | 0, _, _ => rfl
  | m + 1, t, h => by
    rw [smw_s, smw_0 m (t + 1) (fun i hi => h i (by omega)), h t (Nat.le_refl _)]
    rfl
theorem smw_ad {j b : Nat} : ∀ a t, smw w j (a + b) t = smw w j a t + smw w j b (t + a)
  | 0, t => by rw [Nat.zero_add]; exact (Nat.zero_add _).symm
  | a + 1, t => by
    rw [show a + 1 + b = (a + b) + 1 by omega, smw_s, smw_s, smw_ad a (t + 1), show t + 1 + a = t + (a + 1) by omega, Nat.add_assoc]
theorem smw_8 {j S : Nat} (hS : S ≤ 8) (hj : j < 2 ^ S) : smw w j 8 0 = smw w j S 0 := by
  have e := smw_ad w (j := j) (b := 8 - S) S 0
  rw [show S + (8 - S) = 8 by omega, smw_0 w (8 - S) (0 + S) (fun i hi => Nat.testBit_lt_two_pow (Nat.lt_of_lt_of_le hj (Nat.pow_le_pow_right (by omega) (by omega)))), Nat.add_zero] at e
  exact e
theorem bt_nj {j t : Nat} (ht : t < 32) : ((ni j >>> (ni t &&& (31 : Int32))) &&& 1) = bi (j.testBit t) := by
  have e := bt_shr (ni j) ht
  rw [bt_ni _ ht] at e
  exact e
variable {h : am_H}
theorem L226 (hs : Sh h) (V : Vs s) (c : CS h s) {j : Nat} : ∀ m t, t + m = sS s → am_E 226 (2, [some (vr (some 28)), some (vi (ni j)), some (vi (ni t))], [], h) = some (some (vi (bi (okd s j m t))), h) := by
  have vS' := vS V
  intro m
  induction m with
  | zero =>
    intro t ht
    rw [e_226_2 hs, cS c, if_pos (show ni (sS s) ≤ ni t by rw [ni_le (by omega) (by omega)]; omega)]; rfl
  | succ m ih =>
    intro t ht
    have c39 : hI h 39 t = ni (sD s 16 t) := cCl c (show t < sS s by omega)
    rw [e_226_2 hs, cS c, if_neg (show ¬ ni (sS s) ≤ ni t by rw [ni_le (by omega) (by omega)]; omega), bt_nj (by omega), okd_s]
    unfold okt
    cases x : j.testBit t
    · rw [if_pos (show bi false = 0 from rfl), ixb _ (show t < 8 by omega) (by omega), c39, Bool.false_or]
      by_cases y : (ni (sD s 16 t) &&& (ni j ^^^ (-1))) = 0
      · rw [if_pos y, decide_eq_true y, Bool.true_and, e_226_33 hs, ni_add1]
        exact ih (t + 1) (by omega)
      · rw [if_neg y, decide_eq_false y]; rfl
    · rw [if_neg (show ¬ bi true = 0 by decide), Bool.true_or, Bool.true_and, e_226_33 hs, ni_add1]
      exact ih (t + 1) (by omega)
theorem L227 (hs : Sh h) {j S : Nat} (hS : S ≤ 8) (hj : j < 2 ^ S) (hw : ∀ t, w t ≤ 99) (g : ∀ t, t < S → hI h 258 t = ni (w t)) : ∀ m t x, t + m = 8 → am_E 227 (4, [some (vr (some 16)), some (vi (ni j)), some (vi (ni x)), some (vi (ni t))], [], h) = some (some (vi (ni (x + smw w j m t))), h) := by
  intro m
  induction m with
  | zero =>
    intro t x ht
    rw [e_227_4 hs, if_pos (show (8 : Int32) ≤ ni t by rw [show (8 : Int32) = ni 8 from rfl, ni_le (by omega) (by omega)]; omega)]; rfl
  | succ m ih =>
    intro t x ht
    rw [e_227_4 hs, if_neg (show ¬ (8 : Int32) ≤ ni t by rw [show (8 : Int32) = ni 8 from rfl, ni_le (by omega) (by omega)]; omega), bt_nj (by omega), smw_s]
    cases y : j.testBit t
    · rw [if_pos (show bi false = 0 from rfl), e_227_27 hs, ni_add1, ih (t + 1) x (by omega), if_neg (by decide), Nat.zero_add]
    · have tS : t < S := by
        by_cases z : t < S
        · exact z
        · have := Nat.testBit_lt_two_pow (x := j) (i := t) (Nat.lt_of_lt_of_le hj (Nat.pow_le_pow_right (by omega) (by omega)))
          rw [y] at this; cases this
      rw [if_neg (show ¬ bi true = 0 by decide), ixb _ (show t < 8 by omega) (by omega), g t tS, ni_add, e_227_27 hs, ni_add1, ih (t + 1) (x + w t) (by omega), if_pos rfl, Nat.add_assoc]
/-- the search over the sets -/
def dbs (s : Sg) (x : Nat) : Nat → Nat → Nat → Option Nat → Nat → Int32
  | 0, _, b, v, c => if x = 0 then ni b else if x = 1 then oI v else ni c
  | m + 1, j, b, v, c => if okd s j (sS s) 0 = true then (match v with
      | none => dbs s x m (j + 1) j (some (smw w j (sS s) 0)) 1
      | some v => if smw w j (sS s) 0 < v then dbs s x m (j + 1) j (some (smw w j (sS s) 0)) 1 else if smw w j (sS s) 0 = v then dbs s x m (j + 1) b (some v) (c + 1) else dbs s x m (j + 1) b (some v) c)
    else dbs s x m (j + 1) b v c
theorem dbs_s {x m j b c : Nat} {v : Option Nat} : dbs w s x (m + 1) j b v c = if okd s j (sS s) 0 = true then (match v with
      | none => dbs w s x m (j + 1) j (some (smw w j (sS s) 0)) 1
      | some v => if smw w j (sS s) 0 < v then dbs w s x m (j + 1) j (some (smw w j (sS s) 0)) 1 else if smw w j (sS s) 0 = v then dbs w s x m (j + 1) b (some v) (c + 1) else dbs w s x m (j + 1) b (some v) c)
    else dbs w s x m (j + 1) b v c := rfl
theorem pw_le {S : Nat} (hS : S ≤ 8) : 2 ^ S ≤ 256 := by
  have := Nat.pow_le_pow_right (n := 2) (by omega) hS
  omega
theorem L228 (hs : Sh h) (V : Vs s) (c : CS h s) (hw : ∀ t, w t ≤ 99) (g : ∀ t, t < sS s → hI h 258 t = ni (w t)) {x : Nat} (hx : x < 3) : ∀ m j b v n (o6 : Option am_V), j + m = 2 ^ sS s → (∀ y, v = some y → y ≤ 1000) → n ≤ j → am_E 228 (56, [some (vr (some 16)), some (vi (ni x)), some (vi (ni b)), some (vi (oI v)), some (vi (ni n)), some (vi (ni j)), o6], [], h) = some (some (vi (dbs w s x m j b v n)), h) := by
  have vS' := vS V
  have p8 := pw_le vS'
  intro m
  induction m with
  | zero =>
    intro j b v n o6 hj hv hn
    rw [e_228_56 hs, cS c, pw_ni _ (by omega), if_pos (show ni (2 ^ sS s) ≤ ni j by rw [ni_le (by omega) (by omega)]; omega)]
    show _ = some (some (vi (if x = 0 then ni b else if x = 1 then oI v else ni n)), h)
    by_cases x0 : x = 0
    · rw [if_pos (show ni x = 0 by rw [x0]; rfl), if_pos x0]
    · rw [if_neg (show ¬ ni x = 0 by rw [show (0 : Int32) = ni 0 from rfl, ni_eq (by omega) (by omega)]; exact x0), if_neg x0]
      by_cases x1 : x = 1
      · rw [if_pos (show ni x = 1 by rw [x1]; rfl), if_pos x1]
      · rw [if_neg (show ¬ ni x = 1 by rw [show (1 : Int32) = ni 1 from rfl, ni_eq (by omega) (by omega)]; exact x1), if_neg x1]
  | succ m ih =>
    intro j b v n o6 hj hv hn
    have d226 : am_D 226 [vr (some 28), vi (ni j)] h = some (some (vi (bi (okd s j (sS s) 0))), h) := by
      rw [d_226 hs]; exact L226 hs V c (sS s) 0 (by omega)
    have sl := smw_le w hw (j := j) (sS s) 0
    rw [e_228_56 hs, cS c, pw_ni _ (by omega), if_neg (show ¬ ni (2 ^ sS s) ≤ ni j by rw [ni_le (by omega) (by omega)]; omega), d226]
    simp only [Option.bind_some, Option.toList_some, List.cons_append, List.nil_append]
    rw [e_228_79 hs, dbs_s]
    cases y : okd s j (sS s) 0
    · rw [if_pos (show bi false = 0 from rfl), if_neg (by decide), e_228_92 hs, if_pos rfl, e_228_123 hs, if_pos rfl, e_228_138 hs, ni_add1]
      exact ih (j + 1) b v n _ (by omega) hv (by omega)
    · have d227 : am_D 227 [vr (some 16), vi (ni j)] h = some (some (vi (ni (smw w j (sS s) 0))), h) := by
        have e := L227 w hs (S := sS s) vS' (show j < 2 ^ sS s by omega) hw g 8 0 0 (by omega)
        rw [Nat.zero_add, smw_8 w vS' (show j < 2 ^ sS s by omega)] at e
        rw [d_227 hs]; exact e
      have nm : ¬ ni (smw w j (sS s) 0) = -1 := by
        rw [show (-1 : Int32) = -ni 1 from rfl, ng_eq (by omega) (by omega) (by omega)]; exact id
      rw [if_neg (show ¬ bi true = 0 by decide), if_pos rfl, d227]
      simp only [Option.bind_some, Option.toList_some, List.cons_append, List.nil_append]
      rw [e_228_88 hs, e_228_92 hs, if_neg nm]
      cases v with
      | none =>
        rw [if_pos (show oI none = -1 from rfl), e_228_111 hs, e_228_138 hs, ni_add1]
        exact ih (j + 1) j (some (smw w j (sS s) 0)) 1 _ (by omega) (fun y hy => by cases hy; omega) (by omega)
      | some v =>
        have hv' := hv v rfl
        show (if oI (some v) = -1 then _ else _) = some (some (vi (if smw w j (sS s) 0 < v then dbs w s x m (j + 1) j (some (smw w j (sS s) 0)) 1 else if smw w j (sS s) 0 = v then dbs w s x m (j + 1) b (some v) (n + 1) else dbs w s x m (j + 1) b (some v) n)), h)
        rw [if_neg (show ¬ oI (some v) = -1 by rw [show (-1 : Int32) = -ni 1 from rfl]; show ¬ ni v = -ni 1; rw [ng_eq (by omega) (by omega) (by omega)]; exact id)]
        by_cases lt : smw w j (sS s) 0 < v
        · rw [if_neg (show ¬ oI (some v) ≤ ni (smw w j (sS s) 0) by show ¬ ni v ≤ _; rw [ni_le (by omega) (by omega)]; omega), if_pos lt, e_228_111 hs, e_228_138 hs, ni_add1]
          exact ih (j + 1) j (some (smw w j (sS s) 0)) 1 _ (by omega) (fun y hy => by cases hy; omega) (by omega)
        · rw [if_pos (show oI (some v) ≤ ni (smw w j (sS s) 0) by show ni v ≤ _; rw [ni_le (by omega) (by omega)]; omega), if_neg lt, e_228_123 hs, if_neg nm]
          by_cases eq : smw w j (sS s) 0 = v
          · rw [if_pos (show ni (smw w j (sS s) 0) = oI (some v) by rw [eq]; rfl), if_pos eq, e_228_138 hs, ni_add1, ni_add1]
            exact ih (j + 1) b (some v) (n + 1) _ (by omega) hv (by omega)
          · rw [if_neg (show ¬ ni (smw w j (sS s) 0) = oI (some v) by show ¬ _ = ni v; rw [ni_eq (by omega) (by omega)]; exact eq), if_neg eq, e_228_138 hs, ni_add1]
            exact ih (j + 1) b (some v) n _ (by omega) hv (by omega)
theorem L229i (hs : Sh h) (V : Vs s) (c : MS h s) (hw : ∀ t, w t ≤ 99) (g : ∀ t, t < sS s → hI h 300 t = ni (w t)) {j : Nat} {p1 p2 p3 p4 : Int32} : ∀ m t x (f : Bool), t + m = sS s → am_E 229 (81, [some (vr (some 261)), some (vi p1), some (vi p2), some (vi p3), some (vi p4), some (vi (ni j)), some (vi (ni x)), some (vi (bi f)), some (vi (ni t))], [], h) = am_E 229 (81, [some (vr (some 261)), some (vi p1), some (vi p2), some (vi p3), some (vi p4), some (vi (ni j)), some (vi (ni (x + smw w j m t))), some (vi (bi (f && okd s j m t))), some (vi (ni (sS s)))], [], h) := by
  have vS' := vS V
  intro m
  induction m with
  | zero =>
    intro t x f ht
    show _ = am_E 229 (81, [_, _, _, _, _, _, some (vi (ni (x + 0))), some (vi (bi (f && true))), _], [], h)
    rw [Bool.and_true, ← ht]; rfl
  | succ m ih =>
    intro t x f ht
    have c280 : hI h 280 t = ni (sD s 16 t) := mCl c (show t < sS s by omega)
    rw [e_229_81 hs, mS c, if_neg (show ¬ ni (sS s) ≤ ni t by rw [ni_le (by omega) (by omega)]; omega), bt_nj (by omega), okd_s, smw_s]
    unfold okt
    cases y : j.testBit t
    · rw [if_neg (show ¬ bi false = 1 by decide), if_neg (show ¬ false = true by decide), Nat.zero_add, Bool.false_or]
      cases f
      · rw [if_pos (show bi false = 0 from rfl), e_229_140 hs, e_229_141 hs, e_229_143 hs, ni_add1]
        rw [show (0 : Int32) = bi false from rfl, ih (t + 1) x false (by omega), Bool.false_and, Bool.false_and]
      · rw [if_neg (show ¬ bi true = 0 by decide), ixb _ (show t < 8 by omega) (by omega), c280, Bool.true_and]
        by_cases z : (ni (sD s 16 t) &&& (ni j ^^^ (-1))) = 0
        · rw [if_pos z, e_229_141 hs, e_229_143 hs, ni_add1, decide_eq_true z, Bool.true_and]
          rw [show (1 : Int32) = bi true from rfl, ih (t + 1) x true (by omega), Bool.true_and]
        · rw [if_neg z, e_229_140 hs, e_229_141 hs, e_229_143 hs, ni_add1, decide_eq_false z, Bool.false_and]
          rw [show (0 : Int32) = bi false from rfl, ih (t + 1) x false (by omega), Bool.false_and]
    · rw [if_pos (show bi true = 1 from rfl), if_pos rfl, ixb _ (show t < 8 by omega) (by omega), g t (by omega), ni_add, e_229_143 hs, ni_add1, ih (t + 1) (x + w t) f (by omega), Bool.true_or, Bool.true_and, Nat.add_assoc]
theorem L229 (hs : Sh h) (V : Vs s) (c : MS h s) (hw : ∀ t, w t ≤ 99) (g : ∀ t, t < sS s → hI h 300 t = ni (w t)) {x : Nat} (hx : x < 3) : ∀ m j b v n (o6 o7 o8 : Option am_V), j + m = 2 ^ sS s → (∀ y, v = some y → y ≤ 1000) → n ≤ j → am_E 229 (61, [some (vr (some 261)), some (vi (ni x)), some (vi (ni b)), some (vi (oI v)), some (vi (ni n)), some (vi (ni j)), o6, o7, o8], [], h) = some (some (vi (dbs w s x m j b v n)), h) := by
  have vS' := vS V
  have p8 := pw_le vS'
  intro m
  induction m with
  | zero =>
    intro j b v n o6 o7 o8 hj hv hn
    rw [e_229_61 hs, mS c, pw_ni _ (by omega), if_pos (show ni (2 ^ sS s) ≤ ni j by rw [ni_le (by omega) (by omega)]; omega)]
    show _ = some (some (vi (if x = 0 then ni b else if x = 1 then oI v else ni n)), h)
    by_cases x0 : x = 0
    · rw [if_pos (show ni x = 0 by rw [x0]; rfl), if_pos x0]
    · rw [if_neg (show ¬ ni x = 0 by rw [show (0 : Int32) = ni 0 from rfl, ni_eq (by omega) (by omega)]; exact x0), if_neg x0]
      by_cases x1 : x = 1
      · rw [if_pos (show ni x = 1 by rw [x1]; rfl), if_pos x1]
      · rw [if_neg (show ¬ ni x = 1 by rw [show (1 : Int32) = ni 1 from rfl, ni_eq (by omega) (by omega)]; exact x1), if_neg x1]
  | succ m ih =>
    intro j b v n o6 o7 o8 hj hv hn
    have sl := smw_le w hw (j := j) (sS s) 0
    have e := L229i w hs V c hw g (j := j) (p1 := ni x) (p2 := ni b) (p3 := oI v) (p4 := ni n) (sS s) 0 0 true (by omega)
    rw [Nat.zero_add, Bool.true_and] at e
    rw [e_229_61 hs, mS c, pw_ni _ (by omega), if_neg (show ¬ ni (2 ^ sS s) ≤ ni j by rw [ni_le (by omega) (by omega)]; omega)]
    refine e.trans ?_
    rw [e_229_81 hs, mS c, if_pos (show ni (sS s) ≤ ni (sS s) by rw [ni_le (by omega) (by omega)]; omega), dbs_s]
    cases y : okd s j (sS s) 0
    · rw [if_pos (show bi false = 0 from rfl), if_neg (by decide), e_229_186 hs, ni_add1]
      exact ih (j + 1) b v n _ _ _ (by omega) hv (by omega)
    · rw [if_neg (show ¬ bi true = 0 by decide), if_pos rfl]
      cases v with
      | none =>
        rw [if_pos (show oI none = -1 from rfl), e_229_168 hs, e_229_177 hs, if_pos rfl, e_229_186 hs, ni_add1]
        exact ih (j + 1) j (some (smw w j (sS s) 0)) 1 _ _ _ (by omega) (fun y hy => by cases hy; omega) (by omega)
      | some v =>
        have hv' := hv v rfl
        show (if oI (some v) = -1 then _ else _) = some (some (vi (if smw w j (sS s) 0 < v then dbs w s x m (j + 1) j (some (smw w j (sS s) 0)) 1 else if smw w j (sS s) 0 = v then dbs w s x m (j + 1) b (some v) (n + 1) else dbs w s x m (j + 1) b (some v) n)), h)
        rw [if_neg (show ¬ oI (some v) = -1 by rw [show (-1 : Int32) = -ni 1 from rfl]; show ¬ ni v = -ni 1; rw [ng_eq (by omega) (by omega) (by omega)]; exact id)]
        by_cases lt : smw w j (sS s) 0 < v
        · rw [if_neg (show ¬ oI (some v) ≤ ni (smw w j (sS s) 0) by show ¬ ni v ≤ _; rw [ni_le (by omega) (by omega)]; omega), if_pos lt, e_229_168 hs, e_229_177 hs, if_pos rfl, e_229_186 hs, ni_add1]
          exact ih (j + 1) j (some (smw w j (sS s) 0)) 1 _ _ _ (by omega) (fun y hy => by cases hy; omega) (by omega)
        · rw [if_pos (show oI (some v) ≤ ni (smw w j (sS s) 0) by show ni v ≤ _; rw [ni_le (by omega) (by omega)]; omega), if_neg lt, e_229_177 hs]
          by_cases eq : smw w j (sS s) 0 = v
          · rw [if_pos (show ni (smw w j (sS s) 0) = oI (some v) by rw [eq]; rfl), if_pos eq, e_229_186 hs, ni_add1, ni_add1]
            exact ih (j + 1) b (some v) (n + 1) _ _ _ (by omega) hv (by omega)
          · rw [if_neg (show ¬ ni (smw w j (sS s) 0) = oI (some v) by show ¬ _ = ni v; rw [ni_eq (by omega) (by omega)]; exact eq), if_neg eq, e_229_186 hs, ni_add1]
            exact ih (j + 1) b (some v) n _ _ _ (by omega) hv (by omega)
-- the weights first
def WC (s : Sg) (w : Nat → Nat) : Prop := ∀ h t, Sh h → CS h s → t < sS s → ∃ h1, am_D 208 [vr (some 16), vi (ni t)] h = some (some (vi (ni (w t))), h1) ∧ Kg (fun a k => sc a k ∧ a ≠ 258) h h1
def WM (s : Sg) (w : Nat → Nat) : Prop := ∀ h t, Sh h → MS h s → hI h 261 43 = fI (sD s 22 3) → t < sS s → ∃ h1, am_D 210 [vr (some 261), vi (ni t)] h = some (some (vi (ni (w t))), h1) ∧ Kg (fun a k => scm a k ∧ a ≠ 300 ∧ ¬ (a = 261 ∧ k = 43)) h h1
theorem L228a (V : Vs s) (H : WC s w) {x1 : Int32} {o3 o4 o5 o6 : Option am_V} : ∀ m {h : am_H} t, t + m = sS s → Sh h → CS h s → (∀ i, i < t → hI h 258 i = ni (w i)) → ∃ h1, am_E 228 (18, [some (vr (some 16)), some (vi x1), some (vi (ni t)), o3, o4, o5, o6], [], h) = am_E 228 (56, [some (vr (some 16)), some (vi x1), some (vi 0), some (vi (-1)), some (vi 0), some (vi 0), o6], [], h1) ∧ Kg sc h h1 ∧ ∀ i, i < sS s → hI h1 258 i = ni (w i) := by
  have vS' := vS V
  intro m
  induction m with
  | zero =>
    intro h t ht hs c g
    refine ⟨h, ?_, Kg_refl h, fun i hi => g i (by omega)⟩
    rw [e_228_18 hs, cS c, if_pos (show ni (sS s) ≤ ni t by rw [ni_le (by omega) (by omega)]; omega)]
  | succ m ih =>
    intro h t ht hs c g
    obtain ⟨h2, d, k⟩ := H h t hs c (by omega)
    have k' : Kg sc h h2 := Kg_mono (fun a k z => z.1) k
    have k3 : Kg sc h (pI h2 258 t (ni (w t))) := Kg_pI (by unfold sc; omega) k'
    have c3 := CS_fr (fun _ _ z => Or.inl z) k3 V c
    obtain ⟨h1, d2, k2, g2⟩ := ih (h := pI h2 258 t (ni (w t))) (t + 1) (by omega) (Kg_Sh k3 hs) c3 (fun i hi => by
      rw [hI_pI]
      by_cases y : i = t
      · rw [if_pos ⟨rfl, y⟩, y]
      · rw [if_neg (fun z => y z.2), k.2.2.2.2.1 258 i (fun z => z.2 rfl)]
        exact g i (by omega))
    refine ⟨h1, ?_, Kg_trans k3 k2, g2⟩
    rw [e_228_18 hs, cS c, if_neg (show ¬ ni (sS s) ≤ ni t by rw [ni_le (by omega) (by omega)]; omega), d]
    simp only [Option.bind_some, Option.toList_some, List.cons_append, List.nil_append]
    rw [e_228_39 (Kg_Sh k' hs), ixb _ (show t < 8 by omega) (by omega), ni_add1]
    exact d2
theorem L229a (V : Vs s) (H : WM s w) {x1 : Int32} {o3 o4 o5 o6 o7 o8 : Option am_V} : ∀ m {h : am_H} t, t + m = sS s → Sh h → MS h s → hI h 261 43 = fI (sD s 22 3) → (∀ i, i < t → hI h 300 i = ni (w i)) → ∃ h1, am_E 229 (26, [some (vr (some 261)), some (vi x1), some (vi (ni t)), o3, o4, o5, o6, o7, o8], [], h) = am_E 229 (61, [some (vr (some 261)), some (vi x1), some (vi 0), some (vi (-1)), some (vi 0), some (vi 0), o6, o7, o8], [], h1) ∧ Kg scm h h1 ∧ ∀ i, i < sS s → hI h1 300 i = ni (w i) := by
  have vS' := vS V
  intro m
  induction m with
  | zero =>
    intro h t ht hs c hb g
    refine ⟨h, ?_, Kg_refl h, fun i hi => g i (by omega)⟩
    rw [e_229_26 hs, mS c, if_pos (show ni (sS s) ≤ ni t by rw [ni_le (by omega) (by omega)]; omega)]
  | succ m ih =>
    intro h t ht hs c hb g
    obtain ⟨h2, d, k⟩ := H h t hs c hb (by omega)
    have k' : Kg scm h h2 := Kg_mono (fun a k z => z.1) k
    have k3 : Kg scm h (pI h2 300 t (ni (w t))) := Kg_pI (by unfold scm; omega) k'
    have c3 := (Mok_q V c k3).1
    obtain ⟨h1, d2, k2, g2⟩ := ih (h := pI h2 300 t (ni (w t))) (t + 1) (by omega) (Kg_Sh k3 hs) c3 (by rw [hI_pI, if_neg (by omega), k.2.2.2.2.1 261 43 (fun z => z.2.2 ⟨rfl, rfl⟩)]; exact hb) (fun i hi => by
      rw [hI_pI]
      by_cases y : i = t
      · rw [if_pos ⟨rfl, y⟩, y]
      · rw [if_neg (fun z => y z.2), k.2.2.2.2.1 300 i (fun z => z.2.1 rfl)]
        exact g i (by omega))
    refine ⟨h1, ?_, Kg_trans k3 k2, g2⟩
    rw [e_229_26 hs, mS c, if_neg (show ¬ ni (sS s) ≤ ni t by rw [ni_le (by omega) (by omega)]; omega), d]
    simp only [Option.bind_some, Option.toList_some, List.cons_append, List.nil_append]
    rw [e_229_44 (Kg_Sh k' hs), ixb _ (show t < 8 by omega) (by omega), ni_add1]
    exact d2
end DBT
theorem A37_of (wgt : Sg → Nat → Nat) (hw : ∀ s t, wgt s t ≤ 99) (HC1 : ∀ s, Vs s → WC s (wgt s)) (HM1 : ∀ s, Vs s → WM s (wgt s)) : ∀ a1, Alike 228 229 [vi a1] := fun a1 => glue fun s V => by
  rcases rg a1 3 with ⟨x, hx, rfl⟩ | hn
  · have l0 : ¬ ni x < (0 : Int32) := by rw [show (0 : Int32) = ni 0 from rfl, ni_lt (by omega) (by omega)]; omega
    have l2 : ni x ≤ (2 : Int32) := by rw [show (2 : Int32) = ni 2 from rfl, ni_le (by omega) (by omega)]; omega
    refine ⟨dbs (wgt s) s x (2 ^ sS s) 0 0 none 0, s, V, HC_q V fun h hs c => ?_, HM_q V fun h hs c => ?_⟩
    · obtain ⟨h1, d, k, g⟩ := L228a (wgt s) V (HC1 s V) (x1 := ni x) (o3 := none) (o4 := none) (o5 := none) (o6 := none) (sS s) 0 (by omega) hs c (fun i hi => by omega)
      refine ⟨h1, ?_, k⟩
      rw [d_228 hs, if_neg l0, if_pos l2]
      exact d.trans (L228 (wgt s) (Kg_Sh k hs) V (CS_fr (fun _ _ z => Or.inl z) k V c) (hw s) g hx (2 ^ sS s) 0 0 none 0 _ (by omega) (fun y hy => by cases hy) (by omega))
    · obtain ⟨h1, d, k, g⟩ := L229a (wgt s) V (HM1 s V) (x1 := ni x) (o3 := none) (o4 := none) (o5 := none) (o6 := none) (o7 := none) (o8 := none) (sS s) 0 (by omega) (hb_S hs) (hb_M V c) hb_43 (fun i hi => by omega)
      have kk : Kg scm h h1 := Kg_trans hb_K k
      refine ⟨h1, ?_, kk⟩
      rw [d_229 hs, if_neg l0, if_pos l2, hb_e c]
      exact d.trans (L229 (wgt s) (Kg_Sh kk hs) V (Mok_q V c kk).1 (hw s) g hx (2 ^ sS s) 0 0 none 0 _ _ _ (by omega) (fun y hy => by cases hy) (by omega))
  · have bad : ∀ {α : Type} (A C : α), (if a1 < 0 then A else if a1 ≤ 2 then C else A) = A := fun A C => by
      by_cases z : a1 < 0
      · rw [if_pos z]
      · rw [if_neg z]
        refine if_neg (fun y => ?_)
        rw [Int32.lt_iff_toInt_lt] at z
        rw [Int32.le_iff_toInt_le] at y
        have y' : a1.toInt ≤ 2 := y
        have z' : 0 ≤ a1.toInt := Int.not_lt.mp z
        obtain ⟨k, e1, e2, e3⟩ := ni_ex z'
        exact hn k (by omega) e3
    refine refg V 5 (by omega) (fun h hs c => ?_) (fun h hs c => ?_)
    · rw [d_228 hs, bad]
      simp (disch := first | assumption | omega | (simp only [Sh_pI, Sh_pL, Sh_pIs, Sh_pLs]; assumption)) only [↓ixb, Option.bind_some, Option.bind_none, Option.toList_some, Option.toList_none, List.cons_append, List.nil_append, ni_lit, ni_of, ni_add, ni_mul, ni_sub, ni_div, ni_lt, ni_le, ni_eq, ng_lt, ng_le, ng_lt', ng_le', ng_eq, ng_eq', ng_ng, Int32.neg_neg, ix_ni, if_pos, if_neg, reduceIte, e_228_9, D7, e_228_15]
    · rw [d_229 hs, bad]
      simp (disch := first | assumption | omega | (simp only [Sh_pI, Sh_pL, Sh_pIs, Sh_pLs]; assumption)) only [↓ixb, Option.bind_some, Option.bind_none, Option.toList_some, Option.toList_none, List.cons_append, List.nil_append, ni_lit, ni_of, ni_add, ni_mul, ni_sub, ni_div, ni_lt, ni_le, ni_eq, ng_lt, ng_le, ng_lt', ng_le', ng_eq, ng_eq', ng_ng, Int32.neg_neg, ix_ni, if_pos, if_neg, reduceIte, e_229_9, D10, e_229_15]
