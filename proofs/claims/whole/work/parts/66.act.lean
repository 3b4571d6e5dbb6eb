/-! act -/
theorem gdl {l m : List Nat} {i : Nat} (h : i < l.length) : (l ++ m).getD i 0 = l.getD i 0 := by
  rw [List.getD_eq_getElem?_getD, List.getD_eq_getElem?_getD, List.getElem?_append_left h]
theorem gdr {l m : List Nat} {i : Nat} (h : l.length ≤ i) : (l ++ m).getD i 0 = m.getD (i - l.length) 0 := by
  rw [List.getD_eq_getElem?_getD, List.getD_eq_getElem?_getD, List.getElem?_append_right h]
/-- bodies told in the class's trace, in the model's -/
def TC (h h' : am_H) (n : Nat) (bs : List Nat) : Prop := Kg (fun a _ => a = 259) h h' ∧ hI h' 259 0 = ni (n + bs.length) ∧ (∀ i, i < n → hI h' 259 (i + 1) = hI h 259 (i + 1)) ∧ ∀ i, i < bs.length → hI h' 259 (n + i + 1) = ni (bs.getD i 0)
def TM (h h' : am_H) (n : Nat) (bs : List Nat) : Prop := Kg (fun a k => a = 301 ∨ (a = 261 ∧ k = 54)) h h' ∧ hI h' 261 54 = ni (n + bs.length) ∧ (∀ i, i < n → hI h' 301 i = hI h 301 i) ∧ ∀ i, i < bs.length → hI h' 301 (n + i) = ni (bs.getD i 0)
theorem TC_tr {h h1 h2 : am_H} {n : Nat} {bs cs : List Nat} (a : TC h h1 n bs) (b : TC h1 h2 (n + bs.length) cs) : TC h h2 n (bs ++ cs) := by
  obtain ⟨a1, a2, a3, a4⟩ := a
  obtain ⟨b1, b2, b3, b4⟩ := b
  refine ⟨Kg_trans a1 b1, by rw [b2, List.length_append, Nat.add_assoc], fun i hi => by rw [b3 i (by omega), a3 i hi], fun i hi => ?_⟩
  rw [List.length_append] at hi
  by_cases z : i < bs.length
  · rw [gdl z, b3 (n + i) (by omega), a4 i z]
  · rw [gdr (by omega)]
    have := b4 (i - bs.length) (by omega)
    rw [show n + bs.length + (i - bs.length) + 1 = n + i + 1 by omega] at this
    exact this
theorem TM_tr {h h1 h2 : am_H} {n : Nat} {bs cs : List Nat} (a : TM h h1 n bs) (b : TM h1 h2 (n + bs.length) cs) : TM h h2 n (bs ++ cs) := by
  obtain ⟨a1, a2, a3, a4⟩ := a
  obtain ⟨b1, b2, b3, b4⟩ := b
  refine ⟨Kg_trans a1 b1, by rw [b2, List.length_append, Nat.add_assoc], fun i hi => by rw [b3 i (by omega), a3 i hi], fun i hi => ?_⟩
  rw [List.length_append] at hi
  by_cases z : i < bs.length
  · rw [gdl z, b3 (n + i) (by omega), a4 i z]
  · rw [gdr (by omega)]
    have := b4 (i - bs.length) (by omega)
    rw [show n + bs.length + (i - bs.length) = n + i by omega] at this
    exact this
def lkb (κ : Nat) : List Nat := if κ = 2 then [30, 10] else if κ = 3 then [40, 30, 10] else if κ = 6 then [71, 10] else [10]
def lkv (κ : Nat) (x : Int32) (r Z : Nat) : Int32 := if κ = 2 then (x + ni r) * ni 3 else if κ = 3 then (x + ni 1 + ni r) * ni 3 else if κ = 6 then x + ni r - ni Z else x + ni r
def hob (κ : Nat) : List Nat := (if κ = 1 then [20, 11] else if κ = 4 then [50, 11] else [11]) ++ lkb κ
def hov (κ : Nat) (x : Int32) (r Z : Nat) : Int32 := if κ = 1 then lkv κ x r Z * ni 2 + ni Z else if κ = 4 then -(lkv κ x r Z * ni 2) else lkv κ x r Z * ni 2
def web (κ : Nat) : List Nat := (if κ = 3 then [41, 12] else if κ = 5 then [60, 12] else if κ = 6 then [70, 60, 12] else [12]) ++ (hob κ ++ lkb κ)
def wev (κ : Nat) (x : Int32) (r Z : Nat) : Int32 := if κ = 3 then (hov κ x r Z ^^^ lkv κ (x - ni Z) r Z) - ni r else if κ = 5 then (hov κ x r Z ^^^ lkv κ (x - ni Z) r Z) * ni 2 else if κ = 6 then ((hov κ x r Z ^^^ lkv κ (x - ni Z) r Z) * ni 2) ^^^ ni 7 else hov κ x r Z ^^^ lkv κ (x - ni Z) r Z
theorem lkb_l (κ : Nat) : (lkb κ).length ≤ 3 := by
  unfold lkb
  repeat' split
  all_goals decide
theorem hob_l (κ : Nat) : (hob κ).length ≤ 5 := by
  unfold hob
  have := lkb_l κ
  rw [List.length_append]
  have : (if κ = 1 then [20, 11] else if κ = 4 then [50, 11] else [11] : List Nat).length ≤ 2 := by
    repeat' split
    all_goals decide
  omega
theorem web_l (κ : Nat) : (web κ).length ≤ 11 := by
  unfold web
  have := lkb_l κ
  have := hob_l κ
  rw [List.length_append, List.length_append]
  have : (if κ = 3 then [41, 12] else if κ = 5 then [60, 12] else if κ = 6 then [70, 60, 12] else [12] : List Nat).length ≤ 3 := by
    repeat' split
    all_goals decide
  omega
section ACT
variable {h : am_H} {D : Nat → Nat → Nat} {q r a w l n : Nat} {x : Int32}
theorem D246 (hs : Sh h) (h0 : hI h 259 0 = ni n) (hn : n < 20) (b : Nat) : ∃ h', am_D 246 [vr (some 259), vi (ni b)] h = some (none, h') ∧ TC h h' n [b] := by
  refine ⟨pI (pI h 259 0 (ni (n + 1))) 259 (n + 1) (ni b), ?_, Kg_pI rfl (Kg_pI rfl (Kg_refl h)), ?_, fun i hi => ?_, fun i hi => ?_⟩
  · rw [d_246 hs, h0, ni_add1]
    simp (disch := first | assumption | omega | (simp only [Sh_pI, Sh_pL, Sh_pIs, Sh_pLs]; assumption)) only [↓ixb, Option.bind_some, Option.bind_none, Option.toList_some, Option.toList_none, List.cons_append, List.nil_append, ni_lit, ni_of, ni_add, ni_mul, ni_sub, ni_div, ni_lt, ni_le, ni_eq, ng_lt, ng_le, ng_lt', ng_le', ng_eq, ng_eq', ng_ng, Int32.neg_neg, ix_ni, if_pos, if_neg, reduceIte, pe]
  · rw [pn (by omega), pe]; rfl
  · rw [pn (by omega), pn (by omega)]
  · have : i = 0 := by simpa using hi
    subst this
    rw [Nat.add_zero, pe]; rfl
theorem TC_S {h' : am_H} {bs : List Nat} (t : TC h h' n bs) (hs : Sh h) : Sh h' := Kg_Sh t.1 hs
theorem TC_Q {h' : am_H} {bs : List Nat} (t : TC h h' n bs) (c : CQ h D q r a w l) : CQ h' D q r a w l := CQ_fr (fun a k z => by omega) t.1 c
theorem TC_K {h' : am_H} {bs : List Nat} (t : TC h h' n bs) : hK h' = hK h := t.1.2.2.1
theorem D247 (hs : Sh h) (c : CQ h D q r a w l) (h0 : hI h 259 0 = ni n) (hn : n < 20) : ∃ h', am_D 247 [vr (some a), vi x, vr (some 259)] h = some (some (vi (x + ni r)), h') ∧ TC h h' n [10] := by
  obtain ⟨h1, d, t⟩ := D246 hs h0 hn 10
  have hs1 := TC_S t hs
  have c1 := TC_Q t c
  refine ⟨h1, ?_, t⟩
  rw [d_247 hs (qR c), show (10 : Int32) = ni 10 from rfl, d]
  simp only [Option.bind_some, Option.toList_none, List.nil_append]
  rw [e_247_6 hs1 (qR c1), qNo c1]
theorem D248 (hs : Sh h) (c : CQ h D q r a w l) (h0 : hI h 259 0 = ni n) (hn : n < 19) (hm : (hK h a).1 ∈ ([0, 1] : List Nat)) : ∃ h', am_D 248 [vr (some a), vi x, vr (some 259)] h = some (some (vi ((x + ni r) * ni 3)), h') ∧ TC h h' n [30, 10] := by
  obtain ⟨h1, d1, t1⟩ := D246 hs h0 (by omega) 30
  obtain ⟨h2, d2, t2⟩ := D247 (x := x) (TC_S t1 hs) (TC_Q t1 c) t1.2.1 (show n + 1 < 20 by omega)
  have t := TC_tr t1 t2
  refine ⟨h2, ?_, t⟩
  rw [d_248 hs (qR c), show (30 : Int32) = ni 30 from rfl, d1]
  simp only [Option.bind_some, Option.toList_none, List.nil_append]
  rw [e_248_6 (TC_S t1 hs) (qR (TC_Q t1 c)), if_pos (by rw [TC_K t1]; exact hm), d2]
  simp only [Option.bind_some, Option.toList_some, List.cons_append, List.nil_append]
  exact e_248_12 (TC_S t hs)
theorem D249 (hs : Sh h) (c : CQ h D q r a w l) (h0 : hI h 259 0 = ni n) (hn : n < 18) (hm : (hK h a).1 ∈ ([1] : List Nat)) : ∃ h', am_D 249 [vr (some a), vi x, vr (some 259)] h = some (some (vi ((x + ni 1 + ni r) * ni 3)), h') ∧ TC h h' n [40, 30, 10] := by
  have hm2 : (hK h a).1 ∈ ([0, 1] : List Nat) := List.mem_cons_of_mem _ hm
  obtain ⟨h1, d1, t1⟩ := D246 hs h0 (by omega) 40
  obtain ⟨h2, d2, t2⟩ := D248 (x := x + ni 1) (TC_S t1 hs) (TC_Q t1 c) t1.2.1 (show n + 1 < 19 by omega) (by rw [TC_K t1]; exact hm2)
  have t := TC_tr t1 t2
  refine ⟨h2, ?_, t⟩
  rw [d_249 hs (qR c), show (40 : Int32) = ni 40 from rfl, d1]
  simp only [Option.bind_some, Option.toList_none, List.nil_append]
  rw [e_249_6 (TC_S t1 hs) (qR (TC_Q t1 c)), if_pos (by rw [TC_K t1]; exact hm), show (1 : Int32) = ni 1 from rfl, d2]
  simp only [Option.bind_some, Option.toList_some, List.cons_append, List.nil_append]
  exact e_249_14 (TC_S t hs)
theorem D250 (hs : Sh h) (c : CQ h D q r a w l) (h0 : hI h 259 0 = ni n) (hn : n < 19) (hm : (hK h a).1 ∈ ([3] : List Nat)) : ∃ h', am_D 250 [vr (some a), vi x, vr (some 259)] h = some (some (vi (x + ni r - ni (D 12 q))), h') ∧ TC h h' n [71, 10] := by
  obtain ⟨h1, d1, t1⟩ := D246 hs h0 (by omega) 71
  obtain ⟨h2, d2, t2⟩ := D247 (x := x) (TC_S t1 hs) (TC_Q t1 c) t1.2.1 (show n + 1 < 20 by omega)
  have t := TC_tr t1 t2
  refine ⟨h2, ?_, t⟩
  rw [d_250 hs (qR c), show (71 : Int32) = ni 71 from rfl, d1]
  simp only [Option.bind_some, Option.toList_none, List.nil_append]
  rw [e_250_6 (TC_S t1 hs) (qR (TC_Q t1 c)), if_pos (by rw [TC_K t1]; exact hm), d2]
  simp only [Option.bind_some, Option.toList_some, List.cons_append, List.nil_append]
  rw [e_250_12 (TC_S t hs) (qR (TC_Q t c)), if_pos (by rw [TC_K t]; exact hm), qZ (TC_Q t c)]
theorem kt_lk7 {κ : Nat} (hκ : κ ≤ 6) : am_lk [(0, 248), (1, 249), (2, 247), (3, 250), (6, 247), (7, 247), (9, 247)] (kt κ) = some (if κ = 2 then 248 else if κ = 3 then 249 else if κ = 6 then 250 else 247) := by
  rcases (show κ = 0 ∨ κ = 1 ∨ κ = 2 ∨ κ = 3 ∨ κ = 4 ∨ κ = 5 ∨ κ = 6 by omega) with rfl | rfl | rfl | rfl | rfl | rfl | rfl <;> rfl
theorem kt_lk8 {κ : Nat} (hκ : κ ≤ 6) : am_lk [(0, 251), (1, 251), (2, 252), (3, 251), (6, 251), (7, 251), (9, 253)] (kt κ) = some (if κ = 1 then 253 else if κ = 4 then 252 else 251) := by
  rcases (show κ = 0 ∨ κ = 1 ∨ κ = 2 ∨ κ = 3 ∨ κ = 4 ∨ κ = 5 ∨ κ = 6 by omega) with rfl | rfl | rfl | rfl | rfl | rfl | rfl <;> rfl
theorem kt_lk10 {κ : Nat} (hκ : κ ≤ 6) : am_lk [(0, 254), (1, 255), (2, 254), (3, 257), (6, 256), (7, 254), (9, 254)] (kt κ) = some (if κ = 3 then 255 else if κ = 5 then 256 else if κ = 6 then 257 else 254) := by
  rcases (show κ = 0 ∨ κ = 1 ∨ κ = 2 ∨ κ = 3 ∨ κ = 4 ∨ κ = 5 ∨ κ = 6 by omega) with rfl | rfl | rfl | rfl | rfl | rfl | rfl <;> rfl
/-- links, of whatever kind -/
theorem DCL (hs : Sh h) (c : CQ h D q r a w l) (hκ : D 11 q ≤ 6) (h0 : hI h 259 0 = ni n) (hn : n < 18) : ∃ h', TC h h' n (lkb (D 11 q)) ∧ ∀ f : Option am_V × am_H → Option (Option am_V × am_H), (am_lk [(0, 248), (1, 249), (2, 247), (3, 250), (6, 247), (7, 247), (9, 247)] (hK h a).1).bind (fun z => (am_D z [vr (some a), vi x, vr (some 259)] h).bind f) = f (some (vi (lkv (D 11 q) x r (D 12 q))), h') := by
  have hk := qK c
  unfold lkb lkv
  rw [hk, kt_lk7 hκ]
  by_cases k2 : D 11 q = 2
  · obtain ⟨h', d, t⟩ := D248 (x := x) hs c h0 (by omega) (by rw [hk, k2]; decide)
    refine ⟨h', by rw [if_pos k2]; exact t, fun f => ?_⟩
    rw [if_pos k2, if_pos k2, Option.bind_some, d, Option.bind_some]
  · rw [if_neg k2, if_neg k2, if_neg k2]
    by_cases k3 : D 11 q = 3
    · obtain ⟨h', d, t⟩ := D249 (x := x) hs c h0 (by omega) (by rw [hk, k3]; decide)
      refine ⟨h', by rw [if_pos k3]; exact t, fun f => ?_⟩
      rw [if_pos k3, if_pos k3, Option.bind_some, d, Option.bind_some]
    · rw [if_neg k3, if_neg k3, if_neg k3]
      by_cases k6 : D 11 q = 6
      · obtain ⟨h', d, t⟩ := D250 (x := x) hs c h0 (by omega) (by rw [hk, k6]; decide)
        refine ⟨h', by rw [if_pos k6]; exact t, fun f => ?_⟩
        rw [if_pos k6, if_pos k6, Option.bind_some, d, Option.bind_some]
      · obtain ⟨h', d, t⟩ := D247 (x := x) hs c h0 (by omega)
        refine ⟨h', by rw [if_neg k6]; exact t, fun f => ?_⟩
        rw [if_neg k6, if_neg k6, Option.bind_some, d, Option.bind_some]
theorem D251 (hs : Sh h) (c : CQ h D q r a w l) (hκ : D 11 q ≤ 6) (h0 : hI h 259 0 = ni n) (hn : n < 17) : ∃ h', am_D 251 [vr (some a), vi x, vr (some 259)] h = some (some (vi (lkv (D 11 q) x r (D 12 q) * ni 2)), h') ∧ TC h h' n ([11] ++ lkb (D 11 q)) := by
  obtain ⟨h1, d1, t1⟩ := D246 hs h0 (by omega) 11
  obtain ⟨h2, t2, d2⟩ := DCL (x := x) (TC_S t1 hs) (TC_Q t1 c) hκ t1.2.1 (show n + 1 < 18 by omega)
  have t := TC_tr t1 t2
  refine ⟨h2, ?_, t⟩
  rw [d_251 hs (qR c), show (11 : Int32) = ni 11 from rfl, d1]
  simp only [Option.bind_some, Option.toList_none, List.nil_append]
  rw [e_251_6 (TC_S t1 hs) (qR (TC_Q t1 c)), d2]
  simp only [Option.toList_some, List.cons_append, List.nil_append]
  exact e_251_12 (TC_S t hs)
theorem DCH (hs : Sh h) (c : CQ h D q r a w l) (hκ : D 11 q ≤ 6) (h0 : hI h 259 0 = ni n) (hn : n < 16) : ∃ h', TC h h' n (hob (D 11 q)) ∧ ∀ f : Option am_V × am_H → Option (Option am_V × am_H), (am_lk [(0, 251), (1, 251), (2, 252), (3, 251), (6, 251), (7, 251), (9, 253)] (hK h a).1).bind (fun z => (am_D z [vr (some a), vi x, vr (some 259)] h).bind f) = f (some (vi (hov (D 11 q) x r (D 12 q))), h') := by
  have hk := qK c
  rw [hk, kt_lk8 hκ]
  by_cases k1 : D 11 q = 1
  · obtain ⟨h1, d1, t1⟩ := D246 hs h0 (by omega) 20
    obtain ⟨h2, d2, t2⟩ := D251 (x := x) (TC_S t1 hs) (TC_Q t1 c) hκ t1.2.1 (show n + 1 < 17 by omega)
    have t := TC_tr t1 t2
    refine ⟨h2, by unfold hob; rw [if_pos k1]; exact t, fun f => ?_⟩
    have m1 : (hK h a).1 ∈ ([9] : List Nat) := by rw [hk, k1]; decide
    unfold hov
    rw [if_pos k1, if_pos k1, Option.bind_some, d_253 hs (qR c), show (20 : Int32) = ni 20 from rfl, d1]
    simp only [Option.bind_some, Option.toList_none, List.nil_append]
    rw [e_253_6 (TC_S t1 hs) (qR (TC_Q t1 c)), if_pos (by rw [TC_K t1]; exact m1), d2]
    simp only [Option.bind_some, Option.toList_some, List.cons_append, List.nil_append]
    rw [e_253_12 (TC_S t hs) (qR (TC_Q t c)), if_pos (by rw [TC_K t]; exact m1), qZ (TC_Q t c), Option.bind_some]
  · rw [if_neg k1]
    by_cases k4 : D 11 q = 4
    · obtain ⟨h1, d1, t1⟩ := D246 hs h0 (by omega) 50
      obtain ⟨h2, d2, t2⟩ := D251 (x := x) (TC_S t1 hs) (TC_Q t1 c) hκ t1.2.1 (show n + 1 < 17 by omega)
      have t := TC_tr t1 t2
      refine ⟨h2, by unfold hob; rw [if_neg k1, if_pos k4]; exact t, fun f => ?_⟩
      have m1 : (hK h a).1 ∈ ([2] : List Nat) := by rw [hk, k4]; decide
      unfold hov
      rw [if_pos k4, if_neg k1, if_pos k4, Option.bind_some, d_252 hs (qR c), show (50 : Int32) = ni 50 from rfl, d1]
      simp only [Option.bind_some, Option.toList_none, List.nil_append]
      rw [e_252_6 (TC_S t1 hs) (qR (TC_Q t1 c)), if_pos (by rw [TC_K t1]; exact m1), d2]
      simp only [Option.bind_some, Option.toList_some, List.cons_append, List.nil_append]
      rw [e_252_12 (TC_S t hs), Option.bind_some]
    · obtain ⟨h2, d2, t2⟩ := D251 (x := x) hs c hκ h0 (show n < 17 by omega)
      refine ⟨h2, by unfold hob; rw [if_neg k1, if_neg k4]; exact t2, fun f => ?_⟩
      unfold hov
      rw [if_neg k4, if_neg k1, if_neg k4, Option.bind_some, d2, Option.bind_some]
theorem D254 (hs : Sh h) (c : CQ h D q r a w l) (hκ : D 11 q ≤ 6) (h0 : hI h 259 0 = ni n) (hn : n < 10) : ∃ h', am_D 254 [vr (some a), vi x, vr (some 259)] h = some (some (vi (hov (D 11 q) x r (D 12 q) ^^^ lkv (D 11 q) (x - ni (D 12 q)) r (D 12 q))), h') ∧ TC h h' n ([12] ++ (hob (D 11 q) ++ lkb (D 11 q))) := by
  have hl := hob_l (D 11 q)
  obtain ⟨h1, d1, t1⟩ := D246 hs h0 (by omega) 12
  obtain ⟨h2, t2, d2⟩ := DCH (x := x) (TC_S t1 hs) (TC_Q t1 c) hκ t1.2.1 (show n + 1 < 16 by omega)
  have t12 := TC_tr t1 t2
  obtain ⟨h3, t3, d3⟩ := DCL (x := x - ni (D 12 q)) (TC_S t12 hs) (TC_Q t12 c) hκ t2.2.1 (show n + 1 + (hob (D 11 q)).length < 18 by omega)
  have t23 := TC_tr t2 t3
  have t := TC_tr t1 t23
  refine ⟨h3, ?_, t⟩
  rw [d_254 hs (qR c), show (12 : Int32) = ni 12 from rfl, d1]
  simp only [Option.bind_some, Option.toList_none, List.nil_append]
  rw [e_254_6 (TC_S t1 hs) (qR (TC_Q t1 c)), d2]
  simp only [Option.toList_some, List.cons_append, List.nil_append]
  rw [e_254_12 (TC_S t12 hs) (qR (TC_Q t12 c)), qZ (TC_Q t12 c), d3]
  simp only [Option.toList_some, List.cons_append, List.nil_append]
  exact e_254_23 (TC_S t hs)
theorem DCW (hs : Sh h) (c : CQ h D q r a w l) (hκ : D 11 q ≤ 6) (h0 : hI h 259 0 = ni n) (hn : n < 8) : ∃ h', TC h h' n (web (D 11 q)) ∧ ∀ f : Option am_V × am_H → Option (Option am_V × am_H), (am_lk [(0, 254), (1, 255), (2, 254), (3, 257), (6, 256), (7, 254), (9, 254)] (hK h a).1).bind (fun z => (am_D z [vr (some a), vi x, vr (some 259)] h).bind f) = f (some (vi (wev (D 11 q) x r (D 12 q))), h') := by
  have hk := qK c
  rw [hk, kt_lk10 hκ]
  by_cases k3 : D 11 q = 3
  · obtain ⟨h1, d1, t1⟩ := D246 hs h0 (by omega) 41
    obtain ⟨h2, d2, t2⟩ := D254 (x := x) (TC_S t1 hs) (TC_Q t1 c) hκ t1.2.1 (show n + 1 < 10 by omega)
    have t := TC_tr t1 t2
    refine ⟨h2, by unfold web; rw [if_pos k3]; exact t, fun f => ?_⟩
    have m1 : (hK h a).1 ∈ ([1] : List Nat) := by rw [hk, k3]; decide
    unfold wev
    rw [if_pos k3, if_pos k3, Option.bind_some, d_255 hs (qR c), show (41 : Int32) = ni 41 from rfl, d1]
    simp only [Option.bind_some, Option.toList_none, List.nil_append]
    rw [e_255_6 (TC_S t1 hs) (qR (TC_Q t1 c)), if_pos (by rw [TC_K t1]; exact m1), d2]
    simp only [Option.bind_some, Option.toList_some, List.cons_append, List.nil_append]
    rw [e_255_12 (TC_S t hs) (qR (TC_Q t c)), if_pos (by rw [TC_K t]; exact m1), qNo (TC_Q t c), Option.bind_some]
  · rw [if_neg k3]
    by_cases k5 : D 11 q = 5
    · obtain ⟨h1, d1, t1⟩ := D246 hs h0 (by omega) 60
      obtain ⟨h2, d2, t2⟩ := D254 (x := x) (TC_S t1 hs) (TC_Q t1 c) hκ t1.2.1 (show n + 1 < 10 by omega)
      have t := TC_tr t1 t2
      refine ⟨h2, by unfold web; rw [if_neg k3, if_pos k5]; exact t, fun f => ?_⟩
      have m1 : (hK h a).1 ∈ ([3, 6] : List Nat) := by rw [hk, k5]; decide
      unfold wev
      rw [if_pos k5, if_neg k3, if_pos k5, Option.bind_some, d_256 hs (qR c), show (60 : Int32) = ni 60 from rfl, d1]
      simp only [Option.bind_some, Option.toList_none, List.nil_append]
      rw [e_256_6 (TC_S t1 hs) (qR (TC_Q t1 c)), if_pos (by rw [TC_K t1]; exact m1), d2]
      simp only [Option.bind_some, Option.toList_some, List.cons_append, List.nil_append]
      rw [e_256_12 (TC_S t hs), Option.bind_some]
      rfl
    · rw [if_neg k5]
      by_cases k6 : D 11 q = 6
      · obtain ⟨h0', d0, t0⟩ := D246 hs h0 (by omega) 70
        obtain ⟨h1, d1, t1⟩ := D246 (TC_S t0 hs) t0.2.1 (show n + 1 < 20 by omega) 60
        have t01 := TC_tr t0 t1
        obtain ⟨h2, d2, t2⟩ := D254 (x := x) (TC_S t01 hs) (TC_Q t01 c) hκ t1.2.1 (show n + 1 + 1 < 10 by omega)
        have t := TC_tr t0 (TC_tr t1 t2)
        refine ⟨h2, by unfold web; rw [if_neg k3, if_neg k5, if_pos k6]; exact t, fun f => ?_⟩
        have m1 : (hK h a).1 ∈ ([3] : List Nat) := by rw [hk, k6]; decide
        have m2 : (hK h a).1 ∈ ([3, 6] : List Nat) := by rw [hk, k6]; decide
        unfold wev
        rw [if_pos k6, if_neg k3, if_neg k5, if_pos k6, Option.bind_some, d_257 hs (qR c), show (70 : Int32) = ni 70 from rfl, d0]
        simp only [Option.bind_some, Option.toList_none, List.nil_append]
        rw [e_257_6 (TC_S t0 hs) (qR (TC_Q t0 c)), if_pos (by rw [TC_K t0]; exact m1), d_256 (TC_S t0 hs) (qR (TC_Q t0 c)), show (60 : Int32) = ni 60 from rfl, d1]
        simp only [Option.bind_some, Option.toList_none, List.nil_append]
        rw [e_256_6 (TC_S t01 hs) (qR (TC_Q t01 c)), if_pos (by rw [TC_K t01]; exact m2), d2]
        simp only [Option.bind_some, Option.toList_some, List.cons_append, List.nil_append]
        rw [e_256_12 (TC_S t hs), Option.bind_some]
        simp only [Option.toList_some, List.cons_append, List.nil_append]
        rw [e_257_12 (TC_S t hs), Option.bind_some]
        rfl
      · obtain ⟨h2, d2, t2⟩ := D254 (x := x) hs c hκ h0 (show n < 10 by omega)
        refine ⟨h2, by unfold web; rw [if_neg k3, if_neg k5, if_neg k6]; exact t2, fun f => ?_⟩
        unfold wev
        rw [if_neg k6, if_neg k3, if_neg k5, if_neg k6, Option.bind_some, d2, Option.bind_some]
end ACT
-- the model
section ACM
variable {h : am_H} {Q κ Z r n : Nat} {x : Int32}
theorem D259 (hs : Sh h) (h0 : hI h 261 54 = ni n) (hn : n < 20) (b : Nat) : ∃ h', am_D 259 [vr (some 261), vi (ni b)] h = some (none, h') ∧ TM h h' n [b] := by
  refine ⟨pI (pI h 301 n (ni b)) 261 54 (ni (n + 1)), ?_, Kg_pI (by omega) (Kg_pI (by omega) (Kg_refl h)), pe, fun i hi => ?_, fun i hi => ?_⟩
  · rw [d_259 hs, h0]
    simp (disch := first | assumption | omega | (simp only [Sh_pI, Sh_pL, Sh_pIs, Sh_pLs]; assumption)) only [↓ixb, Option.bind_some, Option.bind_none, Option.toList_some, Option.toList_none, List.cons_append, List.nil_append, ni_lit, ni_of, ni_add, ni_mul, ni_sub, ni_div, ni_lt, ni_le, ni_eq, ng_lt, ng_le, ng_lt', ng_le', ng_eq, ng_eq', ng_ng, Int32.neg_neg, ix_ni, if_pos, if_neg, reduceIte]
    rw [e_259_19 (h := pI h 301 n (ni b)) hs, pn (by omega), h0, ni_add1]
  · rw [pn (by omega), pn (by omega)]
  · have : i = 0 := by simpa using hi
    subst this
    rw [pn (by omega), Nat.add_zero, pe]; rfl
theorem TM_S {h' : am_H} {bs : List Nat} (t : TM h h' n bs) (hs : Sh h) : Sh h' := Kg_Sh t.1 hs
/-- what is asked of the row in the model's cells -/
def RM (h : am_H) (Q κ Z : Nat) : Prop := hI h 275 Q = ni κ ∧ hI h 276 Q = ni Z
theorem TM_R {h' : am_H} {bs : List Nat} (t : TM h h' n bs) (c : RM h Q κ Z) : RM h' Q κ Z := ⟨by rw [t.1.2.2.2.2.1 275 Q (by omega)]; exact c.1, by rw [t.1.2.2.2.2.1 276 Q (by omega)]; exact c.2⟩
theorem e8 {Q r : Nat} (hr : r < 8) (hQ : Q % 8 = r) (h64 : Q < 64) : ni Q - ni Q / 8 * 8 = ni r := by
  rw [show (8 : Int32) = ni 8 from rfl, ni_div (by omega) (by omega), ni_mul, ni_sub (by omega)]
  exact congrArg ni (by omega)
theorem D260 (hs : Sh h) (c : RM h Q κ Z) (hκ : κ ≤ 6) (hr : r < 8) (hQ : Q % 8 = r) (h64 : Q < 64) (h0 : hI h 261 54 = ni n) (hn : n < 18) : ∃ h', am_D 260 [vr (some 261), vi (ni Q), vi x] h = some (some (vi (lkv κ x r Z)), h') ∧ TM h h' n (lkb κ) := by
  have e := e8 hr hQ h64
  have b54 : ∀ {h : am_H} {n : Nat} (y : Int32) (o2 o5 : Option am_V), Sh h → RM h Q κ Z → hI h 261 54 = ni n → n < 20 → ∃ h', TM h h' n [10] ∧ am_E 260 (54, [some (vr (some 261)), some (vi (ni Q)), o2, some (vi (ni κ)), some (vi y), o5], [], h) = some (some (vi (if κ = 2 ∨ κ = 3 then (y + ni r) * ni 3 else if κ = 6 then y + ni r - ni Z else y + ni r)), h') := by
    intro h n y o2 o5 hs c h0 hn
    obtain ⟨h1, d1, t1⟩ := D259 hs h0 hn 10
    refine ⟨h1, t1, ?_⟩
    rw [e_260_54 hs, show (10 : Int32) = ni 10 from rfl, d1]
    simp only [Option.bind_some, Option.toList_none, List.nil_append]
    have hs1 := TM_S t1 hs
    rw [e_260_60 hs1, e_260_79 hs1, e]
    rcases (show κ = 2 ∨ κ = 3 ∨ κ = 6 ∨ (κ ≠ 2 ∧ κ ≠ 3 ∧ κ ≠ 6) by omega) with rfl | rfl | rfl | k
    · rfl
    · rfl
    · simp (disch := first | assumption | omega | (simp only [Sh_pI, Sh_pL, Sh_pIs, Sh_pLs]; assumption)) only [↓ixb, Option.bind_some, Option.bind_none, Option.toList_some, Option.toList_none, List.cons_append, List.nil_append, ni_lit, ni_of, ni_add, ni_mul, ni_sub, ni_div, ni_lt, ni_le, ni_eq, ng_lt, ng_le, ng_lt', ng_le', ng_eq, ng_eq', ng_ng, Int32.neg_neg, ix_ni, if_pos, if_neg, reduceIte, (TM_R t1 c).2]
    · rw [if_neg (show ¬ ni κ = 2 by rw [show (2 : Int32) = ni 2 from rfl, ni_eq (by omega) (by omega)]; exact k.1), if_neg (show ¬ ni κ = 3 by rw [show (3 : Int32) = ni 3 from rfl, ni_eq (by omega) (by omega)]; exact k.2.1), if_neg (show ¬ ni κ = 6 by rw [show (6 : Int32) = ni 6 from rfl, ni_eq (by omega) (by omega)]; exact k.2.2), if_neg (by omega), if_neg k.2.2]
  unfold lkb lkv
  rcases (show κ = 2 ∨ κ = 3 ∨ κ = 6 ∨ (κ ≠ 2 ∧ κ ≠ 3 ∧ κ ≠ 6) by omega) with rfl | rfl | rfl | k
  · obtain ⟨h1, d1, t1⟩ := D259 hs h0 (by omega) 30
    obtain ⟨h2, t2, d2⟩ := b54 x (some (vi x)) none (TM_S t1 hs) (TM_R t1 c) t1.2.1 (show n + 1 < 20 by omega)
    refine ⟨h2, ?_, TM_tr t1 t2⟩
    rw [d_260 hs, ixb _ h64 (by omega), c.1]
    simp (disch := first | assumption | omega | (simp only [Sh_pI, Sh_pL, Sh_pIs, Sh_pLs]; assumption)) only [↓ixb, Option.bind_some, Option.bind_none, Option.toList_some, Option.toList_none, List.cons_append, List.nil_append, ni_lit, ni_of, ni_add, ni_mul, ni_sub, ni_div, ni_lt, ni_le, ni_eq, ng_lt, ng_le, ng_lt', ng_le', ng_eq, ng_eq', ng_ng, Int32.neg_neg, ix_ni, if_pos, if_neg, reduceIte, e_260_22, e_260_38, e_260_48, d1]
    exact d2
  · obtain ⟨h1, d1, t1⟩ := D259 hs h0 (by omega) 40
    obtain ⟨h2, d2, t2⟩ := D259 (TM_S t1 hs) t1.2.1 (show n + 1 < 20 by omega) 30
    have t12 := TM_tr t1 t2
    obtain ⟨h3, t3, d3⟩ := b54 (x + ni 1) (some (vi x)) none (TM_S t12 hs) (TM_R t12 c) t2.2.1 (show n + 1 + 1 < 20 by omega)
    refine ⟨h3, ?_, TM_tr t1 (TM_tr t2 t3)⟩
    rw [d_260 hs, ixb _ h64 (by omega), c.1]
    have hs1 := TM_S t1 hs
    simp (disch := first | assumption | omega | (simp only [Sh_pI, Sh_pL, Sh_pIs, Sh_pLs]; assumption)) only [↓ixb, Option.bind_some, Option.bind_none, Option.toList_some, Option.toList_none, List.cons_append, List.nil_append, ni_lit, ni_of, ni_add, ni_mul, ni_sub, ni_div, ni_lt, ni_le, ni_eq, ng_lt, ng_le, ng_lt', ng_le', ng_eq, ng_eq', ng_ng, Int32.neg_neg, ix_ni, if_pos, if_neg, reduceIte, e_260_22, d1, e_260_33, e_260_38, e_260_48, d2]
    exact d3
  · obtain ⟨h1, d1, t1⟩ := D259 hs h0 (by omega) 71
    obtain ⟨h2, t2, d2⟩ := b54 x (some (vi x)) none (TM_S t1 hs) (TM_R t1 c) t1.2.1 (show n + 1 < 20 by omega)
    refine ⟨h2, ?_, TM_tr t1 t2⟩
    rw [d_260 hs, ixb _ h64 (by omega), c.1]
    have hs1 := TM_S t1 hs
    simp (disch := first | assumption | omega | (simp only [Sh_pI, Sh_pL, Sh_pIs, Sh_pLs]; assumption)) only [↓ixb, Option.bind_some, Option.bind_none, Option.toList_some, Option.toList_none, List.cons_append, List.nil_append, ni_lit, ni_of, ni_add, ni_mul, ni_sub, ni_div, ni_lt, ni_le, ni_eq, ng_lt, ng_le, ng_lt', ng_le', ng_eq, ng_eq', ng_ng, Int32.neg_neg, ix_ni, if_pos, if_neg, reduceIte, d1, e_260_22, e_260_38]
    exact d2
  · obtain ⟨h2, t2, d2⟩ := b54 x (some (vi x)) none hs c h0 (show n < 20 by omega)
    have k2 := k.1
    have k3 := k.2.1
    have k6 := k.2.2
    refine ⟨h2, ?_, by rw [if_neg k2, if_neg k3, if_neg k6]; exact t2⟩
    rw [if_neg k2, if_neg k3, if_neg k6]
    rw [if_neg (by omega), if_neg k6] at d2
    rw [d_260 hs, ixb _ h64 (by omega), c.1]
    simp (disch := first | assumption | omega | (simp only [Sh_pI, Sh_pL, Sh_pIs, Sh_pLs]; assumption)) only [↓ixb, Option.bind_some, Option.bind_none, Option.toList_some, Option.toList_none, List.cons_append, List.nil_append, ni_lit, ni_of, ni_add, ni_mul, ni_sub, ni_div, ni_lt, ni_le, ni_eq, ng_lt, ng_le, ng_lt', ng_le', ng_eq, ng_eq', ng_ng, Int32.neg_neg, ix_ni, if_pos, if_neg, reduceIte, e_260_22, e_260_38]
    exact d2
theorem D261 (hs : Sh h) (c : RM h Q κ Z) (hκ : κ ≤ 6) (hr : r < 8) (hQ : Q % 8 = r) (h64 : Q < 64) (h0 : hI h 261 54 = ni n) (hn : n < 16) : ∃ h', am_D 261 [vr (some 261), vi (ni Q), vi x] h = some (some (vi (hov κ x r Z)), h') ∧ TM h h' n (hob κ) := by
  have b32 : ∀ {h : am_H} {n : Nat} (o3 : Option am_V), Sh h → RM h Q κ Z → hI h 261 54 = ni n → n < 17 → ∃ h', TM h h' n ([11] ++ lkb κ) ∧ am_E 261 (32, [some (vr (some 261)), some (vi (ni Q)), some (vi x), o3], [], h) = some (some (vi (hov κ x r Z)), h') := by
    intro h n o3 hs c h0 hn
    obtain ⟨h1, d1, t1⟩ := D259 hs h0 (by omega) 11
    obtain ⟨h2, d2, t2⟩ := D260 (x := x) (TM_S t1 hs) (TM_R t1 c) hκ hr hQ h64 t1.2.1 (show n + 1 < 18 by omega)
    have t := TM_tr t1 t2
    refine ⟨h2, t, ?_⟩
    rw [e_261_32 hs, show (11 : Int32) = ni 11 from rfl, d1]
    simp only [Option.bind_some, Option.toList_none, List.nil_append]
    rw [e_261_38 (TM_S t1 hs), d2]
    simp only [Option.bind_some, Option.toList_some, List.cons_append, List.nil_append]
    rw [e_261_44 (TM_S t hs), ixb _ h64 (by omega), ixb _ h64 (by omega), ixb _ h64 (by omega), (TM_R t c).1, (TM_R t c).2]
    unfold hov
    by_cases k1 : κ = 1
    · rw [if_pos (show ni κ = 1 by rw [k1]; rfl), if_pos k1]; rfl
    · rw [if_neg (show ¬ ni κ = 1 by rw [show (1 : Int32) = ni 1 from rfl, ni_eq (by omega) (by omega)]; exact k1), if_neg k1]
      by_cases k4 : κ = 4
      · rw [if_pos (show ni κ = 4 by rw [k4]; rfl), if_pos k4]; rfl
      · rw [if_neg (show ¬ ni κ = 4 by rw [show (4 : Int32) = ni 4 from rfl, ni_eq (by omega) (by omega)]; exact k4), if_neg k4]; rfl
  rcases (show κ = 1 ∨ κ = 4 ∨ (κ ≠ 1 ∧ κ ≠ 4) by omega) with rfl | rfl | k
  · obtain ⟨h1, d1, t1⟩ := D259 hs h0 (by omega) 20
    obtain ⟨h2, t2, d2⟩ := b32 none (TM_S t1 hs) (TM_R t1 c) t1.2.1 (show n + 1 < 17 by omega)
    refine ⟨h2, ?_, (TM_tr t1 t2 : TM h h2 n ([20] ++ ([11] ++ lkb 1)))⟩
    have hs1 := TM_S t1 hs
    have c1 := TM_R t1 c
    rw [d_261 hs, ixb _ h64 (by omega), c.1]
    simp (disch := first | assumption | omega | (simp only [Sh_pI, Sh_pL, Sh_pIs, Sh_pLs]; assumption)) only [↓ixb, Option.bind_some, Option.bind_none, Option.toList_some, Option.toList_none, List.cons_append, List.nil_append, ni_lit, ni_of, ni_add, ni_mul, ni_sub, ni_div, ni_lt, ni_le, ni_eq, ng_lt, ng_le, ng_lt', ng_le', ng_eq, ng_eq', ng_ng, Int32.neg_neg, ix_ni, if_pos, if_neg, reduceIte, d1, e_261_16, c1.1]
    exact d2
  · obtain ⟨h1, d1, t1⟩ := D259 hs h0 (by omega) 50
    obtain ⟨h2, t2, d2⟩ := b32 none (TM_S t1 hs) (TM_R t1 c) t1.2.1 (show n + 1 < 17 by omega)
    refine ⟨h2, ?_, (TM_tr t1 t2 : TM h h2 n ([50] ++ ([11] ++ lkb 4)))⟩
    rw [d_261 hs, ixb _ h64 (by omega), c.1]
    simp (disch := first | assumption | omega | (simp only [Sh_pI, Sh_pL, Sh_pIs, Sh_pLs]; assumption)) only [↓ixb, Option.bind_some, Option.bind_none, Option.toList_some, Option.toList_none, List.cons_append, List.nil_append, ni_lit, ni_of, ni_add, ni_mul, ni_sub, ni_div, ni_lt, ni_le, ni_eq, ng_lt, ng_le, ng_lt', ng_le', ng_eq, ng_eq', ng_ng, Int32.neg_neg, ix_ni, if_pos, if_neg, reduceIte, d1, e_261_16, c.1]
    exact d2
  · obtain ⟨h2, t2, d2⟩ := b32 none hs c h0 (show n < 17 by omega)
    have k1 := k.1
    have k4 := k.2
    refine ⟨h2, ?_, by unfold hob; rw [if_neg k1, if_neg k4]; exact t2⟩
    rw [d_261 hs, ixb _ h64 (by omega), c.1]
    simp (disch := first | assumption | omega | (simp only [Sh_pI, Sh_pL, Sh_pIs, Sh_pLs]; assumption)) only [↓ixb, Option.bind_some, Option.bind_none, Option.toList_some, Option.toList_none, List.cons_append, List.nil_append, ni_lit, ni_of, ni_add, ni_mul, ni_sub, ni_div, ni_lt, ni_le, ni_eq, ng_lt, ng_le, ng_lt', ng_le', ng_eq, ng_eq', ng_ng, Int32.neg_neg, ix_ni, if_pos, if_neg, reduceIte, e_261_16, c.1]
    exact d2
theorem D262 (hs : Sh h) (c : RM h Q κ Z) (hκ : κ ≤ 6) (hr : r < 8) (hQ : Q % 8 = r) (h64 : Q < 64) (h0 : hI h 261 54 = ni n) (hn : n < 8) : ∃ h', am_D 262 [vr (some 261), vi (ni Q), vi x] h = some (some (vi (wev κ x r Z)), h') ∧ TM h h' n (web κ) := by
  have hl := hob_l κ
  have b47 : ∀ {h : am_H} {n : Nat} (o4 : Option am_V), Sh h → RM h Q κ Z → hI h 261 54 = ni n → n < 11 → ∃ h', TM h h' n ([12] ++ (hob κ ++ lkb κ)) ∧ am_E 262 (47, [some (vr (some 261)), some (vi (ni Q)), some (vi x), some (vi (ni κ)), o4], [], h) = some (some (vi (wev κ x r Z)), h') := by
    intro h n o4 hs c h0 hn
    obtain ⟨h1, d1, t1⟩ := D259 hs h0 (by omega) 12
    obtain ⟨h2, d2, t2⟩ := D261 (x := x) (TM_S t1 hs) (TM_R t1 c) hκ hr hQ h64 t1.2.1 (show n + 1 < 16 by omega)
    have t12 := TM_tr t1 t2
    obtain ⟨h3, d3, t3⟩ := D260 (x := x - ni Z) (TM_S t12 hs) (TM_R t12 c) hκ hr hQ h64 t2.2.1 (show n + 1 + (hob κ).length < 18 by omega)
    have t := TM_tr t1 (TM_tr t2 t3)
    refine ⟨h3, t, ?_⟩
    rw [e_262_47 hs, show (12 : Int32) = ni 12 from rfl, d1]
    simp only [Option.bind_some, Option.toList_none, List.nil_append]
    rw [e_262_53 (TM_S t1 hs), d2]
    simp only [Option.bind_some, Option.toList_some, List.cons_append, List.nil_append]
    rw [e_262_59 (TM_S t12 hs), ixb _ h64 (by omega), (TM_R t12 c).2, d3]
    simp only [Option.bind_some, Option.toList_some, List.cons_append, List.nil_append]
    rw [e_262_76 (TM_S t hs), e8 hr hQ h64]
    unfold wev
    rcases (show κ = 3 ∨ κ = 5 ∨ κ = 6 ∨ (κ ≠ 3 ∧ κ ≠ 5 ∧ κ ≠ 6) by omega) with rfl | rfl | rfl | k
    · rfl
    · rfl
    · rfl
    · rw [if_neg (show ¬ ni κ = 3 by rw [show (3 : Int32) = ni 3 from rfl, ni_eq (by omega) (by omega)]; exact k.1), if_neg (show ¬ ni κ = 5 by rw [show (5 : Int32) = ni 5 from rfl, ni_eq (by omega) (by omega)]; exact k.2.1), if_neg (show ¬ ni κ = 6 by rw [show (6 : Int32) = ni 6 from rfl, ni_eq (by omega) (by omega)]; exact k.2.2), if_neg k.1, if_neg k.2.1, if_neg k.2.2]
  rcases (show κ = 3 ∨ κ = 5 ∨ κ = 6 ∨ (κ ≠ 3 ∧ κ ≠ 5 ∧ κ ≠ 6) by omega) with rfl | rfl | rfl | k
  · obtain ⟨h1, d1, t1⟩ := D259 hs h0 (by omega) 41
    obtain ⟨h2, t2, d2⟩ := b47 none (TM_S t1 hs) (TM_R t1 c) t1.2.1 (show n + 1 < 11 by omega)
    refine ⟨h2, ?_, (TM_tr t1 t2 : TM h h2 n ([41] ++ ([12] ++ (hob 3 ++ lkb 3))))⟩
    have hs1 := TM_S t1 hs
    rw [d_262 hs, ixb _ h64 (by omega), c.1]
    simp (disch := first | assumption | omega | (simp only [Sh_pI, Sh_pL, Sh_pIs, Sh_pLs]; assumption)) only [↓ixb, Option.bind_some, Option.bind_none, Option.toList_some, Option.toList_none, List.cons_append, List.nil_append, ni_lit, ni_of, ni_add, ni_mul, ni_sub, ni_div, ni_lt, ni_le, ni_eq, ng_lt, ng_le, ng_lt', ng_le', ng_eq, ng_eq', ng_ng, Int32.neg_neg, ix_ni, if_pos, if_neg, reduceIte, d1, e_262_18, e_262_30]
    exact d2
  · obtain ⟨h1, d1, t1⟩ := D259 hs h0 (by omega) 60
    obtain ⟨h2, t2, d2⟩ := b47 none (TM_S t1 hs) (TM_R t1 c) t1.2.1 (show n + 1 < 11 by omega)
    refine ⟨h2, ?_, (TM_tr t1 t2 : TM h h2 n ([60] ++ ([12] ++ (hob 5 ++ lkb 5))))⟩
    rw [d_262 hs, ixb _ h64 (by omega), c.1]
    simp (disch := first | assumption | omega | (simp only [Sh_pI, Sh_pL, Sh_pIs, Sh_pLs]; assumption)) only [↓ixb, Option.bind_some, Option.bind_none, Option.toList_some, Option.toList_none, List.cons_append, List.nil_append, ni_lit, ni_of, ni_add, ni_mul, ni_sub, ni_div, ni_lt, ni_le, ni_eq, ng_lt, ng_le, ng_lt', ng_le', ng_eq, ng_eq', ng_ng, Int32.neg_neg, ix_ni, if_pos, if_neg, reduceIte, d1, e_262_18, e_262_30, e_262_41]
    exact d2
  · obtain ⟨h0', d0, t0⟩ := D259 hs h0 (by omega) 70
    obtain ⟨h1, d1, t1⟩ := D259 (TM_S t0 hs) t0.2.1 (show n + 1 < 20 by omega) 60
    have t01 := TM_tr t0 t1
    obtain ⟨h2, t2, d2⟩ := b47 none (TM_S t01 hs) (TM_R t01 c) t1.2.1 (show n + 1 + 1 < 11 by omega)
    refine ⟨h2, ?_, (TM_tr t0 (TM_tr t1 t2) : TM h h2 n ([70] ++ ([60] ++ ([12] ++ (hob 6 ++ lkb 6)))))⟩
    have hs0 := TM_S t0 hs
    rw [d_262 hs, ixb _ h64 (by omega), c.1]
    simp (disch := first | assumption | omega | (simp only [Sh_pI, Sh_pL, Sh_pIs, Sh_pLs]; assumption)) only [↓ixb, Option.bind_some, Option.bind_none, Option.toList_some, Option.toList_none, List.cons_append, List.nil_append, ni_lit, ni_of, ni_add, ni_mul, ni_sub, ni_div, ni_lt, ni_le, ni_eq, ng_lt, ng_le, ng_lt', ng_le', ng_eq, ng_eq', ng_ng, Int32.neg_neg, ix_ni, if_pos, if_neg, reduceIte, d0, e_262_18, e_262_30, e_262_41, d1]
    exact d2
  · obtain ⟨h2, t2, d2⟩ := b47 none hs c h0 (show n < 11 by omega)
    have k3 := k.1
    have k5 := k.2.1
    have k6 := k.2.2
    refine ⟨h2, ?_, by unfold web; rw [if_neg k3, if_neg k5, if_neg k6]; exact t2⟩
    rw [d_262 hs, ixb _ h64 (by omega), c.1]
    simp (disch := first | assumption | omega | (simp only [Sh_pI, Sh_pL, Sh_pIs, Sh_pLs]; assumption)) only [↓ixb, Option.bind_some, Option.bind_none, Option.toList_some, Option.toList_none, List.cons_append, List.nil_append, ni_lit, ni_of, ni_add, ni_mul, ni_sub, ni_div, ni_lt, ni_le, ni_eq, ng_lt, ng_le, ng_lt', ng_le', ng_eq, ng_eq', ng_ng, Int32.neg_neg, ix_ni, if_pos, if_neg, reduceIte, e_262_18, e_262_30]
    exact d2
end ACM
