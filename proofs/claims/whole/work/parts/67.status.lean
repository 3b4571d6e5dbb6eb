/-! act, status -/
def sTr (s : Sg) (bs : List Nat) : Sg := (fun i k => if i = 24 ∧ k = 0 then bs.length else if i = 25 then bs.getD k 0 else sD s i k, sE s, sF s, sX s)
theorem sTr_pl {s : Sg} {bs : List Nat} {i : Nat} (h4 : i ≠ 24) (h5 : i ≠ 25) : sD (sTr s bs) i = sD s i := by
  funext k
  show (if i = 24 ∧ k = 0 then bs.length else if i = 25 then bs.getD k 0 else sD s i k) = _
  rw [if_neg (fun z => h4 z.1), if_neg h5]
theorem sTr_n {s : Sg} {bs : List Nat} : sD (sTr s bs) 24 0 = bs.length := rfl
theorem sTr_b {s : Sg} {bs : List Nat} {k : Nat} : sD (sTr s bs) 25 k = bs.getD k 0 := by
  show (if 25 = 24 ∧ k = 0 then bs.length else if 25 = 25 then bs.getD k 0 else sD s 25 k) = _
  rw [if_neg (by omega), if_pos rfl]
theorem sTr_K {s : Sg} {bs : List Nat} : sKp (sTr s bs) = sKp s := by funext i k; show sD (sTr s bs) (32 + i) k = sD s (32 + i) k; rw [sTr_pl (by omega) (by omega)]
theorem sTr_M {s : Sg} {bs : List Nat} : sM (sTr s bs) = sM s := by unfold sM; rw [sTr_pl (by omega) (by omega)]
theorem sTr_R {s : Sg} {bs : List Nat} : sR (sTr s bs) = sR s := by unfold sR; rw [sTr_pl (by omega) (by omega)]
theorem sTr_S {s : Sg} {bs : List Nat} : sS (sTr s bs) = sS s := by unfold sS; rw [sTr_pl (by omega) (by omega)]
theorem sTr_V {s : Sg} {bs : List Nat} (V : Vs s) (hb : bs.length ≤ 100) : Vs (sTr s bs) := by
  obtain ⟨v1, v2, v3, v4, v5⟩ := V
  refine ⟨?_, ?_, fun i hi => ?_, ?_, hb⟩
  · rw [sTr_M, sTr_R, sTr_S]; exact Vw_eq (fun i hi => sTr_pl (by omega) (by omega)) v1
  · rw [sTr_R, sTr_pl (i := 22) (by omega) (by omega)]; exact v2
  · rw [sTr_S, sTr_pl (i := 17) (by omega) (by omega), sTr_pl (i := 18) (by omega) (by omega), sTr_pl (i := 19) (by omega) (by omega), sTr_pl (i := 20) (by omega) (by omega), sTr_pl (i := 21) (by omega) (by omega), sTr_pl (i := 10) (by omega) (by omega)]; exact v3 i hi
  · rw [sTr_K, sTr_S, sTr_pl (i := 23) (by omega) (by omega), sTr_pl (i := 10) (by omega) (by omega)]; exact v4
theorem sTr_C {h h' : am_H} {s : Sg} {bs : List Nat} (V : Vs s) (hs : Sh h) (c : CS h s) (e : Kg (fun a _ => a = 259) h h') (h0 : hI h' 259 0 = ni bs.length) (hb : ∀ i, i < bs.length → hI h' 259 (i + 1) = ni (bs.getD i 0)) : Cok h h' (sTr s bs) := by
  refine ⟨Kg_Sh e hs, ?_, Kg_Mq (fun a k z => by omega) e, by rw [e.1]; exact Nat.le_refl _, by rw [e.1]; exact Nat.le_add_right _ _, by rw [e.2.1]; exact Nat.le_add_right _ _, by rw [e.2.2.1], fun j => e.2.2.2.2.1 15 j (by omega)⟩
  have v1 := V.1
  obtain ⟨a1, a2, a3, a4, a5, a6, ⟨a7, a8⟩, a9, a10⟩ := c
  have q : ∀ a k, a ≠ 259 → hI h' a k = hI h a k := fun a k n => e.2.2.2.2.1 a k n
  refine ⟨?_, fun j hj => ?_, fun j hj => ?_, fun j hj => ?_, ?_, fun i hi => ?_, ⟨h0, fun i h1 h2 => by rw [sTr_b]; exact hb i h1⟩, ?_, fun z => ?_⟩
  · rw [q _ _ (by omega)]; exact a1
  · rw [q _ _ (by omega)]; exact a2 j hj
  · rw [q _ _ (by omega)]; exact a3 j hj
  · rw [q _ _ (by omega)]; exact a4 j hj
  · rw [sTr_M, sTr_R, sTr_S, sTr_pl (i := 22) (by omega) (by omega)]
    exact CW_eq (fun i hi => sTr_pl (by omega) (by omega)) (CW_fr (Or.inl rfl) (fun a k z => by omega) e v1 a5)
  · rw [sTr_pl (i := 17) (by omega) (by omega), sTr_pl (i := 18) (by omega) (by omega), sTr_pl (i := 19) (by omega) (by omega), sTr_pl (i := 20) (by omega) (by omega), sTr_pl (i := 21) (by omega) (by omega), q _ _ (by omega), q _ _ (by omega)]
    obtain ⟨b1, b2, b3⟩ := a6 i hi
    exact ⟨b1, fun z => ⟨(b2 z).1, (b2 z).2.1, fun y hy => by rw [e.2.2.2.2.2 _ _ (by omega)]; exact (b2 z).2.2 y hy⟩, b3⟩
  · rw [sTr_pl (i := 23) (by omega) (by omega), q _ _ (by omega)]; exact a9
  · rw [sTr_pl (i := 23) (by omega) (by omega)] at z ⊢
    rw [sTr_K]
    rcases V.2.2.2.1 with v4 | v4
    · rw [v4] at z; cases z
    · exact CW_fr (Or.inr rfl) (fun a k z => by omega) e v4.2.1 (a10 z)
theorem sTr_Mk {h h' : am_H} {s : Sg} {bs : List Nat} (V : Vs s) (c : MS h s) (e : Kg (fun a k => a = 301 ∨ (a = 261 ∧ k = 54)) h h') (h0 : hI h' 261 54 = ni bs.length) (hb : ∀ i, i < bs.length → hI h' 301 i = ni (bs.getD i 0)) : Mok h h' (sTr s bs) := by
  refine ⟨?_, Kg_mono (fun a k z => by unfold wm; omega) e⟩
  have v1 := V.1
  obtain ⟨⟨a1, a2, a3, a4, a5⟩, a6, a7, a8, a9, a10, ⟨a11, a12⟩, a13, a14⟩ := c
  have q : ∀ a k, ¬ (a = 301 ∨ (a = 261 ∧ k = 54)) → hI h' a k = hI h a k := fun a k n => e.2.2.2.2.1 a k n
  refine ⟨⟨?_, ?_, ?_, ?_, ?_⟩, fun j hj => ?_, fun j hj => ?_, fun j hj => ?_, ?_, fun i hi => ?_, ⟨h0, fun i h1 h2 => by rw [sTr_b]; exact hb i h1⟩, ?_, fun z => ?_⟩
  · rw [sTr_M, q _ _ (by omega)]; exact a1
  · rw [sTr_R, q _ _ (by omega)]; exact a2
  · rw [sTr_S, q _ _ (by omega)]; exact a3
  · rw [sTr_pl (i := 22) (by omega) (by omega), q _ _ (by omega)]; exact a4
  · rw [q _ _ (by omega)]; exact a5
  · rw [q _ _ (by omega)]; exact a6 j hj
  · rw [q _ _ (by omega)]; exact a7 j hj
  · rw [q _ _ (by omega)]; exact a8 j hj
  · rw [sTr_M, sTr_R, sTr_S]
    refine MP_eq (fun i hi => sTr_pl (by omega) (by omega)) (MP_congr v1 (fun i k h0 _ _ _ _ _ _ => ?_) a9)
    have := mc_ok h0
    exact q _ _ (by omega)
  · rw [sTr_pl (i := 17) (by omega) (by omega), sTr_pl (i := 18) (by omega) (by omega), sTr_pl (i := 19) (by omega) (by omega), sTr_pl (i := 20) (by omega) (by omega), sTr_pl (i := 21) (by omega) (by omega), q _ _ (by omega), q _ _ (by omega), q _ _ (by omega), q _ _ (by omega)]
    obtain ⟨b1, b2, b3⟩ := a10 i hi
    exact ⟨b1, fun z => ⟨(b2 z).1, (b2 z).2.1, fun y hy => by rw [e.2.2.2.2.2 _ _ (by omega)]; exact (b2 z).2.2 y hy⟩, b3⟩
  · rw [sTr_pl (i := 23) (by omega) (by omega), q _ _ (by omega)]; exact a13
  · rw [sTr_pl (i := 23) (by omega) (by omega)] at z ⊢
    obtain ⟨b1, b2, b3, b4⟩ := a14 z
    rw [sTr_K]
    refine ⟨by rw [q _ _ (by omega)]; exact b1, by rw [q _ _ (by omega)]; exact b2, by rw [q _ _ (by omega)]; exact b3, ?_⟩
    rcases V.2.2.2.1 with v4 | v4
    · rw [v4] at z; cases z
    · exact MP_congr v4.2.1 (fun i k _ _ _ _ _ _ _ => q 302 _ (by omega)) b4
theorem sTr_C' {h h' : am_H} {s : Sg} {bs : List Nat} (V : Vs s) (hs : Sh h) (c : CS h s) (t : TC (pI h 259 0 (ni 0)) h' 0 bs) : Cok h h' (sTr s bs) :=
  sTr_C V hs c (Kg_trans (Kg_pI rfl (Kg_refl h)) t.1) (by rw [t.2.1, Nat.zero_add]) (fun i hi => by have := t.2.2.2 i hi; rw [Nat.zero_add] at this; exact this)
theorem sTr_M' {h h' : am_H} {s : Sg} {bs : List Nat} (V : Vs s) (c : MS h s) (t : TM (pI h 261 54 (ni 0)) h' 0 bs) : Mok h h' (sTr s bs) :=
  sTr_Mk V c (Kg_trans (Kg_pI (Or.inr ⟨rfl, rfl⟩) (Kg_refl h)) t.1) (by rw [t.2.1, Nat.zero_add]) (fun i hi => by have := t.2.2.2 i hi; rw [Nat.zero_add] at this; exact this)
theorem A42 : ∀ a1 a2 a3 a4, Alike 258 263 [vi a1, vi a2, vi a3, vi a4] := fun a1 a2 a3 a4 => glue fun s V => by
  have vS' := vS V
  have none' : (∀ h, Sh h → CS h s → am_D 258 [vr (some 16), vi a1, vi a2, vi a3, vi a4] h = some (some (vi (ni 0)), pI h 259 0 (ni 0))) → (∀ h, Sh h → MS h s → am_D 263 [vr (some 261), vi a1, vi a2, vi a3, vi a4] h = some (some (vi (ni 0)), pI h 261 54 (ni 0))) → ∃ (v : Int32) (s' : Sg), Vs s' ∧ HC 258 [vi a1, vi a2, vi a3, vi a4] s (vi v) s' ∧ HM 263 [vi a1, vi a2, vi a3, vi a4] s (vi v) s' := fun x y =>
    ⟨ni 0, sTr s [], sTr_V V (by decide), fun h hs c => ⟨_, x h hs c, sTr_C V hs c (Kg_pI rfl (Kg_refl h)) pe (fun i hi => absurd hi (Nat.not_lt_zero _))⟩, fun h hs c => ⟨_, y h hs c, sTr_Mk V c (Kg_pI (Or.inr ⟨rfl, rfl⟩) (Kg_refl h)) pe (fun i hi => absurd hi (Nat.not_lt_zero _))⟩⟩
  have eC : ∀ {h : am_H}, CS h s → Sh h → CS (pI h 259 0 (ni 0)) (sTr s []) := fun c hs => (sTr_C V hs c (Kg_pI rfl (Kg_refl _)) pe (fun i hi => absurd hi (Nat.not_lt_zero _))).2.1
  have eM : ∀ {h : am_H}, MS h s → MS (pI h 261 54 (ni 0)) (sTr s []) := fun c => (sTr_Mk V c (Kg_pI (Or.inr ⟨rfl, rfl⟩) (Kg_refl _)) pe (fun i hi => absurd hi (Nat.not_lt_zero _))).1
  have V0 : Vs (sTr s []) := sTr_V V (by decide)
  have e10 : sD (sTr s []) 10 = sD s 10 := sTr_pl (by omega) (by omega)
  have e11 : sD (sTr s []) 11 = sD s 11 := sTr_pl (by omega) (by omega)
  have e12 : sD (sTr s []) 12 = sD s 12 := sTr_pl (by omega) (by omega)
  have eS : sS (sTr s []) = sS s := sTr_S
  by_cases g : isQ s a1 a2
  · obtain ⟨t, r, ht, hr, rfl, rfl⟩ := g
    have vN' := vN V ht
    have v := vq V ht hr
    have v0 := v.1
    have ht' : t < sS (sTr s []) := by rw [eS]; exact ht
    have hr' : r < sD (sTr s []) 10 t := by rw [e10]; exact hr
    have C0 : ∀ h, Sh h → CS h s → ∃ a w l, CQ (pI h 259 0 (ni 0)) (sD (sTr s [])) (8 * t + r) r a w l ∧ am_D 258 [vr (some 16), vi (ni t), vi (ni r), vi a3, vi a4] h = am_E 258 (am_tg 0 [52, 64, 76] 88 a3, [some (vr (some 16)), some (vi (ni t)), some (vi (ni r)), some (vi a3), some (vi a4), some (vr (some a))], [], pI h 259 0 (ni 0)) := by
      intro h hs c
      obtain ⟨a, w, l, q1, q2⟩ := cRow (eC c hs) ht' hr'
      refine ⟨a, w, l, q2, ?_⟩
      rw [d_258 hs, show (0 : Int32) = ni 0 from rfl, D24t (h := pI h 259 0 (ni 0)) hs V0 (eC c hs) ht' hr', q1]
      simp only [Option.bind_some, Option.toList_some, List.cons_append, List.nil_append]
      exact e_258_16_1 (h := pI h 259 0 (ni 0)) hs (qR q2)
    have M0 : ∀ h, Sh h → MS h s → am_D 263 [vr (some 261), vi (ni t), vi (ni r), vi a3, vi a4] h = am_E 263 (11, [some (vr (some 261)), some (vi (ni t)), some (vi (ni r)), some (vi a3), some (vi a4), none], [vi (ni 1)], pI h 261 54 (ni 0)) := by
      intro h hs c
      rw [d_263 hs, show (0 : Int32) = ni 0 from rfl, D27t (h := pI h 261 54 (ni 0)) hs V0 (eM c) ht' hr']
      simp only [Option.bind_some, Option.toList_some, List.cons_append, List.nil_append]
    have R0 : ∀ h, MS h s → RM (pI h 261 54 (ni 0)) (8 * t + r) (sD s 11 (8 * t + r)) (sD s 12 (8 * t + r)) := fun h c => ⟨by rw [pn (by omega)]; exact mK c ht hr, by rw [pn (by omega)]; exact mZ c ht hr⟩
    have ex : (8 : Int32) * ni t + ni r = ni (8 * t + r) := by rw [show (8 : Int32) = ni 8 from rfl, ni_mul, ni_add]
    rcases rg a3 3 with ⟨k, hk, rfl⟩ | hn
    · rcases (show k = 0 ∨ k = 1 ∨ k = 2 by omega) with rfl | rfl | rfl
      · have hl := lkb_l (sD s 11 (8 * t + r))
        refine ⟨lkv (sD s 11 (8 * t + r)) a4 r (sD s 12 (8 * t + r)), sTr s (lkb (sD s 11 (8 * t + r))), sTr_V V (by omega), fun h hs c => ?_, fun h hs c => ?_⟩
        · obtain ⟨a, w, l, q, d⟩ := C0 h hs c
          obtain ⟨h1, t1, d1⟩ := DCL (x := a4) (h := pI h 259 0 (ni 0)) hs q (by rw [e11]; exact v0) pe (show 0 < 18 by omega)
          rw [e11, e12] at d1
          rw [e11] at t1
          refine ⟨h1, ?_, sTr_C' V hs c t1⟩
          rw [d, show am_tg 0 [52, 64, 76] 88 (ni 0) = 52 from by decide, e_258_52 (h := pI h 259 0 (ni 0)) hs (qR q), d1]
          simp only [Option.toList_some, List.cons_append, List.nil_append]
          exact e_258_63 (TC_S t1 hs)
        · obtain ⟨h1, d1, t1⟩ := D260 (x := a4) (h := pI h 261 54 (ni 0)) hs (R0 h c) v0 (show r < 8 by omega) (by omega) (by omega) pe (show 0 < 18 by omega)
          refine ⟨h1, ?_, sTr_M' V c t1⟩
          rw [M0 h hs c, e_263_11 (h := pI h 261 54 (ni 0)) hs, if_neg (by decide), if_neg (by decide), if_pos (by decide), if_pos (by decide), ex, d1]
          simp only [Option.bind_some, Option.toList_some, List.cons_append, List.nil_append]
          rw [e_263_45 (TM_S t1 hs), e_263_72 (TM_S t1 hs)]
      · have hl := hob_l (sD s 11 (8 * t + r))
        refine ⟨hov (sD s 11 (8 * t + r)) a4 r (sD s 12 (8 * t + r)), sTr s (hob (sD s 11 (8 * t + r))), sTr_V V (by omega), fun h hs c => ?_, fun h hs c => ?_⟩
        · obtain ⟨a, w, l, q, d⟩ := C0 h hs c
          obtain ⟨h1, t1, d1⟩ := DCH (x := a4) (h := pI h 259 0 (ni 0)) hs q (by rw [e11]; exact v0) pe (show 0 < 16 by omega)
          rw [e11, e12] at d1
          rw [e11] at t1
          refine ⟨h1, ?_, sTr_C' V hs c t1⟩
          rw [d, show am_tg 0 [52, 64, 76] 88 (ni 1) = 64 from by decide, e_258_64 (h := pI h 259 0 (ni 0)) hs (qR q), d1]
          simp only [Option.toList_some, List.cons_append, List.nil_append]
          exact e_258_75 (TC_S t1 hs)
        · obtain ⟨h1, d1, t1⟩ := D261 (x := a4) (h := pI h 261 54 (ni 0)) hs (R0 h c) v0 (show r < 8 by omega) (by omega) (by omega) pe (show 0 < 16 by omega)
          refine ⟨h1, ?_, sTr_M' V c t1⟩
          rw [M0 h hs c, e_263_11 (h := pI h 261 54 (ni 0)) hs, if_neg (by decide), if_neg (by decide), if_pos (by decide), if_neg (by decide), if_pos (by decide), ex, d1]
          simp only [Option.bind_some, Option.toList_some, List.cons_append, List.nil_append]
          rw [e_263_61 (TM_S t1 hs), e_263_72 (TM_S t1 hs)]
      · have hl := web_l (sD s 11 (8 * t + r))
        refine ⟨wev (sD s 11 (8 * t + r)) a4 r (sD s 12 (8 * t + r)), sTr s (web (sD s 11 (8 * t + r))), sTr_V V (by omega), fun h hs c => ?_, fun h hs c => ?_⟩
        · obtain ⟨a, w, l, q, d⟩ := C0 h hs c
          obtain ⟨h1, t1, d1⟩ := DCW (x := a4) (h := pI h 259 0 (ni 0)) hs q (by rw [e11]; exact v0) pe (show 0 < 8 by omega)
          rw [e11, e12] at d1
          rw [e11] at t1
          refine ⟨h1, ?_, sTr_C' V hs c t1⟩
          rw [d, show am_tg 0 [52, 64, 76] 88 (ni 2) = 76 from by decide, e_258_76 (h := pI h 259 0 (ni 0)) hs (qR q), d1]
          simp only [Option.toList_some, List.cons_append, List.nil_append]
          exact e_258_87 (TC_S t1 hs)
        · obtain ⟨h1, d1, t1⟩ := D262 (x := a4) (h := pI h 261 54 (ni 0)) hs (R0 h c) v0 (show r < 8 by omega) (by omega) (by omega) pe (show 0 < 8 by omega)
          refine ⟨h1, ?_, sTr_M' V c t1⟩
          rw [M0 h hs c, e_263_11 (h := pI h 261 54 (ni 0)) hs, if_neg (by decide), if_neg (by decide), if_pos (by decide), if_neg (by decide), if_neg (by decide), ex, d1]
          simp only [Option.bind_some, Option.toList_some, List.cons_append, List.nil_append]
          rw [e_263_72 (TM_S t1 hs)]
    · refine none' (fun h hs c => ?_) (fun h hs c => ?_)
      · obtain ⟨a, w, l, q, d⟩ := C0 h hs c
        have htg : am_tg 0 [52, 64, 76] 88 a3 = 88 := by
          unfold am_tg
          by_cases q : a3.toInt < 0
          · exact if_pos q
          · obtain ⟨k, k1, k2, rfl⟩ := ni_ex (show 0 ≤ a3.toInt by omega)
            have : ¬ k < 3 := fun y => hn k y rfl
            rw [if_neg q, ni_toInt k2, List.getElem?_eq_none (by show 3 ≤ _; omega)]; rfl
        rw [d, htg]
        exact e_258_88 (h := pI h 259 0 (ni 0)) hs
      · rw [M0 h hs c, e_263_11 (h := pI h 261 54 (ni 0)) hs, if_neg (by decide)]
        exact gd_h (n := 2) (fun i hi e => hn i (by omega) e) (by omega) _ _
  · refine none' (fun h hs c => ?_) (fun h hs c => ?_)
    · have g' : ¬ isQ (sTr s []) a1 a2 := by unfold isQ; rw [eS, e10]; exact g
      rw [d_258 hs, show (0 : Int32) = ni 0 from rfl, D24f (h := pI h 259 0 (ni 0)) hs V0 (eC c hs) g']
      simp only [Option.bind_some, Option.toList_some, List.cons_append, List.nil_append]
      exact e_258_16 (h := pI h 259 0 (ni 0)) hs
    · have g' : ¬ isQ (sTr s []) a1 a2 := by unfold isQ; rw [eS, e10]; exact g
      rw [d_263 hs, show (0 : Int32) = ni 0 from rfl, D27f (h := pI h 261 54 (ni 0)) hs V0 (eM c) g']
      simp only [Option.bind_some, Option.toList_some, List.cons_append, List.nil_append]
      rw [e_263_11 (h := pI h 261 54 (ni 0)) hs, if_pos (show ni 0 = 0 from rfl)]
      rfl
-- status
def sumr (f : Nat → Nat) : Nat → Nat
  | 0 => 0
  | n + 1 => sumr f n + f n
theorem sumr_le {f : Nat → Nat} {b : Nat} : ∀ n, (∀ k, k < n → f k ≤ b) → sumr f n ≤ b * n
  | 0, _ => Nat.zero_le _
  | n + 1, h => by
    have i := sumr_le n (fun k hk => h k (by omega))
    have e := h n (by omega)
    show sumr f n + f n ≤ b * (n + 1)
    rw [Nat.mul_succ]; omega
section STA
variable {h : am_H} {s : Sg}
theorem D274 (hs : Sh h) (V : Vs s) (c : CS h s) : am_D 274 [vr (some 28)] h = some (some (vi (ni (sumr (sD s 10) (sS s)))), h) := by
  have vS' := vS V
  have L : ∀ k t, t + k = sS s → am_E 274 (4, [some (vr (some 28)), some (vi (ni (sumr (sD s 10) t))), some (vi (ni t))], [], h) = some (some (vi (ni (sumr (sD s 10) (sS s)))), h) := by
    intro k
    induction k with
    | zero =>
      intro t e
      rw [e_274_4 hs, cS c]
      simp (disch := first | assumption | omega | (simp only [Sh_pI, Sh_pL, Sh_pIs, Sh_pLs]; assumption)) only [↓ixb, Option.bind_some, Option.bind_none, Option.toList_some, Option.toList_none, List.cons_append, List.nil_append, ni_lit, ni_of, ni_add, ni_mul, ni_sub, ni_div, ni_lt, ni_le, ni_eq, ng_lt, ng_le, ng_lt', ng_le', ng_eq, ng_eq', ng_ng, Int32.neg_neg, ix_ni, if_pos, if_neg, reduceIte]
      rw [show t = sS s by omega]
    | succ k ih =>
      intro t e
      rw [e_274_4 hs, cS c]
      simp (disch := first | assumption | omega | (simp only [Sh_pI, Sh_pL, Sh_pIs, Sh_pLs]; assumption)) only [↓ixb, Option.bind_some, Option.bind_none, Option.toList_some, Option.toList_none, List.cons_append, List.nil_append, ni_lit, ni_of, ni_add, ni_mul, ni_sub, ni_div, ni_lt, ni_le, ni_eq, ng_lt, ng_le, ng_lt', ng_le', ng_eq, ng_eq', ng_ng, Int32.neg_neg, ix_ni, if_pos, if_neg, reduceIte, cN c (show t < sS s by omega)]
      exact ih (t + 1) (by omega)
  rw [d_274 hs]
  exact L (sS s) 0 (by omega)
theorem v16 (V : Vs s) {t : Nat} (ht : t < sS s) : sD s 16 t < 256 := by
  have := (V.1.2.2.2.2.2 t ht).2.1
  have h2 : 2 ^ sS s ≤ 2 ^ 8 := Nat.pow_le_pow_right (by omega) (vS V)
  omega
theorem cCl (c : CS h s) {t : Nat} (ht : t < sS s) : hI h 39 t = ni (sD s 16 t) := (c.2.2.2.2.1.2.2.2 t ht).2.1
theorem mCl (c : MS h s) {t : Nat} (ht : t < sS s) : hI h 280 t = ni (sD s 16 t) := (c.2.2.2.2.1.2.2 t ht).2.1
def pcs (s : Sg) (t : Nat) : Nat := pcn 9 (ni (sD s 16 t))
theorem D275 (hs : Sh h) (V : Vs s) (c : CS h s) : am_D 275 [vr (some 28)] h = some (some (vi (ni (sumr (pcs s) (sS s) / 2))), h) := by
  have vS' := vS V
  have b := sumr_le (f := pcs s) (b := 9) (sS s) (fun k _ => pc_le 9 _)
  have L : ∀ k t, t + k = sS s → am_E 275 (4, [some (vr (some 28)), some (vi (ni (sumr (pcs s) t))), some (vi (ni t))], [], h) = some (some (vi (ni (sumr (pcs s) (sS s) / 2))), h) := by
    intro k
    induction k with
    | zero =>
      intro t e
      rw [e_275_4 hs, cS c]
      rw [show t = sS s by omega]
      simp (disch := first | assumption | omega | (simp only [Sh_pI, Sh_pL, Sh_pIs, Sh_pLs]; assumption)) only [↓ixb, Option.bind_some, Option.bind_none, Option.toList_some, Option.toList_none, List.cons_append, List.nil_append, ni_lit, ni_of, ni_add, ni_mul, ni_sub, ni_div, ni_lt, ni_le, ni_eq, ng_lt, ng_le, ng_lt', ng_le', ng_eq, ng_eq', ng_ng, Int32.neg_neg, ix_ni, if_pos, if_neg, reduceIte]
    | succ k ih =>
      intro t e
      have ht : t < sS s := by omega
      rw [e_275_4 hs, cS c]
      simp (disch := first | assumption | omega | (simp only [Sh_pI, Sh_pL, Sh_pIs, Sh_pLs]; assumption)) only [↓ixb, Option.bind_some, Option.bind_none, Option.toList_some, Option.toList_none, List.cons_append, List.nil_append, ni_lit, ni_of, ni_add, ni_mul, ni_sub, ni_div, ni_lt, ni_le, ni_eq, ng_lt, ng_le, ng_lt', ng_le', ng_eq, ng_eq', ng_ng, Int32.neg_neg, ix_ni, if_pos, if_neg, reduceIte, cCl c ht, D217, bc_8 _ (v16 V ht), e_275_22]
      exact ih (t + 1) (by omega)
  rw [d_275 hs]
  exact L (sS s) 0 (by omega)
theorem L277a (hs : Sh h) (V : Vs s) (c : MS h s) {o3 : Option am_V} : ∀ k t (o1 : Option am_V), t + k = sS s → am_E 277 (81, [some (vr (some 261)), o1, some (vi (ni (sumr (sD s 10) t))), some (vi (ni t))], [], h) = some (some (vi (ni (sumr (sD s 10) (sS s)))), h) := by
  have vS' := vS V
  intro k
  induction k with
  | zero =>
    intro t o1 e
    rw [e_277_81 hs, mS c]
    simp (disch := first | assumption | omega | (simp only [Sh_pI, Sh_pL, Sh_pIs, Sh_pLs]; assumption)) only [↓ixb, Option.bind_some, Option.bind_none, Option.toList_some, Option.toList_none, List.cons_append, List.nil_append, ni_lit, ni_of, ni_add, ni_mul, ni_sub, ni_div, ni_lt, ni_le, ni_eq, ng_lt, ng_le, ng_lt', ng_le', ng_eq, ng_eq', ng_ng, Int32.neg_neg, ix_ni, if_pos, if_neg, reduceIte]
    rw [show t = sS s by omega]
  | succ k ih =>
    intro t o1 e
    rw [e_277_81 hs, mS c]
    simp (disch := first | assumption | omega | (simp only [Sh_pI, Sh_pL, Sh_pIs, Sh_pLs]; assumption)) only [↓ixb, Option.bind_some, Option.bind_none, Option.toList_some, Option.toList_none, List.cons_append, List.nil_append, ni_lit, ni_of, ni_add, ni_mul, ni_sub, ni_div, ni_lt, ni_le, ni_eq, ng_lt, ng_le, ng_lt', ng_le', ng_eq, ng_eq', ng_ng, Int32.neg_neg, ix_ni, if_pos, if_neg, reduceIte, mN c (show t < sS s by omega)]
    exact ih (t + 1) _ (by omega)
theorem L277b (hs : Sh h) (V : Vs s) (c : MS h s) : ∀ k t (o1 : Option am_V), t + k = sS s → am_E 277 (108, [some (vr (some 261)), o1, some (vi (ni (sumr (pcs s) t))), some (vi (ni t))], [], h) = some (some (vi (ni (sumr (pcs s) (sS s) / 2))), h) := by
  have vS' := vS V
  have b := sumr_le (f := pcs s) (b := 9) (sS s) (fun k _ => pc_le 9 _)
  intro k
  induction k with
  | zero =>
    intro t o1 e
    rw [e_277_108 hs, mS c]
    rw [show t = sS s by omega]
    simp (disch := first | assumption | omega | (simp only [Sh_pI, Sh_pL, Sh_pIs, Sh_pLs]; assumption)) only [↓ixb, Option.bind_some, Option.bind_none, Option.toList_some, Option.toList_none, List.cons_append, List.nil_append, ni_lit, ni_of, ni_add, ni_mul, ni_sub, ni_div, ni_lt, ni_le, ni_eq, ng_lt, ng_le, ng_lt', ng_le', ng_eq, ng_eq', ng_ng, Int32.neg_neg, ix_ni, if_pos, if_neg, reduceIte]
  | succ k ih =>
    intro t o1 e
    have ht : t < sS s := by omega
    rw [e_277_108 hs, mS c]
    simp (disch := first | assumption | omega | (simp only [Sh_pI, Sh_pL, Sh_pIs, Sh_pLs]; assumption)) only [↓ixb, Option.bind_some, Option.bind_none, Option.toList_some, Option.toList_none, List.cons_append, List.nil_append, ni_lit, ni_of, ni_add, ni_mul, ni_sub, ni_div, ni_lt, ni_le, ni_eq, ng_lt, ng_le, ng_lt', ng_le', ng_eq, ng_eq', ng_ng, Int32.neg_neg, ix_ni, if_pos, if_neg, reduceIte, mCl c ht, D220 hs (v16 V ht), e_277_127]
    exact ih (t + 1) _ (by omega)
end STA
theorem A46 : ∀ a1, Alike 276 277 [vi a1] := fun a1 => glue fun s V => by
  have vS' := vS V
  rcases ni_cases a1 with ⟨z, j, hj, rfl⟩ | ⟨k, hk, rfl⟩
  · refine ⟨-ni 1, s, V, HC_0 fun h hs c => ?_, HM_0 fun h hs c => ?_⟩
    · have z2 : -ni j < (11 : Int32) := by rw [ltt] at z ⊢; exact Int.lt_trans z (by decide)
      have ht : am_tg 0 [64, 72, 80, 88, 96, 104] 111 (-ni j) = 111 := by
        unfold am_tg
        exact if_pos (by rw [ltt] at z; exact z)
      rw [d_276 hs, if_pos z2, e_276_24 hs, ht]
      exact e_276_111 hs
    · have z2 : -ni j < (11 : Int32) := by rw [ltt] at z ⊢; exact Int.lt_trans z (by decide)
      have ht : am_tg 0 [64, 69, 74, 79, 106, 139] 144 (-ni j) = 144 := by
        unfold am_tg
        exact if_pos (by rw [ltt] at z; exact z)
      rw [d_277 hs, if_pos z2, e_277_22 hs, ht]
      exact e_277_144 hs
  · by_cases k1 : 11 ≤ k ∧ k ≤ 17
    · refine ⟨sF s (k - 10), s, V, HC_0 fun h hs c => ?_, HM_0 fun h hs c => ?_⟩
      · have e := c.2.1 (k - 10) (by omega)
        rw [d_276 hs]
        simp (disch := first | assumption | omega | (simp only [Sh_pI, Sh_pL, Sh_pIs, Sh_pLs]; assumption)) only [↓ixb, Option.bind_some, Option.bind_none, Option.toList_some, Option.toList_none, List.cons_append, List.nil_append, ni_lit, ni_of, ni_add, ni_mul, ni_sub, ni_div, ni_lt, ni_le, ni_eq, ng_lt, ng_le, ng_lt', ng_le', ng_eq, ng_eq', ng_ng, Int32.neg_neg, ix_ni, if_pos, if_neg, reduceIte]
        rw [show k - 11 + 1 = k - 10 by omega, e]
      · have e := c.2.1 (k - 10) (by omega)
        rw [d_277 hs]
        simp (disch := first | assumption | omega | (simp only [Sh_pI, Sh_pL, Sh_pIs, Sh_pLs]; assumption)) only [↓ixb, Option.bind_some, Option.bind_none, Option.toList_some, Option.toList_none, List.cons_append, List.nil_append, ni_lit, ni_of, ni_add, ni_mul, ni_sub, ni_div, ni_lt, ni_le, ni_eq, ng_lt, ng_le, ng_lt', ng_le', ng_eq, ng_eq', ng_ng, Int32.neg_neg, ix_ni, if_pos, if_neg, reduceIte, e]
    · have C0 : ∀ h, Sh h → am_D 276 [vr (some 16), vi (ni k)] h = am_E 276 (am_tg 0 [64, 72, 80, 88, 96, 104] 111 (ni k), [some (vr (some 16)), some (vi (ni k))], [], h) := fun h hs => by
        rw [d_276 hs, e_276_24 hs]
        by_cases k2 : k < 11
        · exact if_pos (by rw [show (11 : Int32) = ni 11 from rfl, ni_lt hk (by omega)]; exact k2)
        · rw [if_neg (by rw [show (11 : Int32) = ni 11 from rfl, ni_lt hk (by omega)]; exact k2)]
          exact if_pos (by rw [show (17 : Int32) = ni 17 from rfl, ni_lt (by omega) hk]; omega)
      have M0 : ∀ h, Sh h → am_D 277 [vr (some 261), vi (ni k)] h = am_E 277 (am_tg 0 [64, 69, 74, 79, 106, 139] 144 (ni k), [some (vr (some 261)), some (vi (ni k)), some (vi (ni 0)), none], [], h) := fun h hs => by
        rw [d_277 hs, e_277_22 hs]
        by_cases k2 : k < 11
        · exact if_pos (by rw [show (11 : Int32) = ni 11 from rfl, ni_lt hk (by omega)]; exact k2)
        · rw [if_neg (by rw [show (11 : Int32) = ni 11 from rfl, ni_lt hk (by omega)]; exact k2)]
          exact if_pos (by rw [show (17 : Int32) = ni 17 from rfl, ni_lt (by omega) hk]; omega)
      by_cases k6 : k < 6
      · rcases (show k = 0 ∨ k = 1 ∨ k = 2 ∨ k = 3 ∨ k = 4 ∨ k = 5 by omega) with rfl | rfl | rfl | rfl | rfl | rfl
        · refine ⟨ni (sM s), s, V, HC_0 fun h hs c => ?_, HM_0 fun h hs c => ?_⟩
          · rw [C0 h hs, show am_tg 0 [64, 72, 80, 88, 96, 104] 111 (ni 0) = 64 from by decide, e_276_64 hs, cM c]
          · rw [M0 h hs, show am_tg 0 [64, 69, 74, 79, 106, 139] 144 (ni 0) = 64 from by decide, e_277_64 hs, mM c]
        · refine ⟨ni (sR s), s, V, HC_0 fun h hs c => ?_, HM_0 fun h hs c => ?_⟩
          · rw [C0 h hs, show am_tg 0 [64, 72, 80, 88, 96, 104] 111 (ni 1) = 72 from by decide, e_276_72 hs, cR c]
          · rw [M0 h hs, show am_tg 0 [64, 69, 74, 79, 106, 139] 144 (ni 1) = 69 from by decide, e_277_69 hs, mR c]
        · refine ⟨ni (sS s), s, V, HC_0 fun h hs c => ?_, HM_0 fun h hs c => ?_⟩
          · rw [C0 h hs, show am_tg 0 [64, 72, 80, 88, 96, 104] 111 (ni 2) = 80 from by decide, e_276_80 hs, cS c]
          · rw [M0 h hs, show am_tg 0 [64, 69, 74, 79, 106, 139] 144 (ni 2) = 74 from by decide, e_277_74 hs, mS c]
        · refine ⟨ni (sumr (sD s 10) (sS s)), s, V, HC_0 fun h hs c => ?_, HM_0 fun h hs c => ?_⟩
          · rw [C0 h hs, show am_tg 0 [64, 72, 80, 88, 96, 104] 111 (ni 3) = 88 from by decide, e_276_88 hs, D274 hs V c]
            simp (disch := first | assumption | omega | (simp only [Sh_pI, Sh_pL, Sh_pIs, Sh_pLs]; assumption)) only [↓ixb, Option.bind_some, Option.toList_some, Option.toList_none, List.cons_append, List.nil_append, e_276_95]
          · rw [M0 h hs, show am_tg 0 [64, 69, 74, 79, 106, 139] 144 (ni 3) = 79 from by decide, e_277_79 hs]
            exact L277a (o3 := none) hs V c (sS s) 0 _ (by omega)
        · refine ⟨ni (sumr (pcs s) (sS s) / 2), s, V, HC_0 fun h hs c => ?_, HM_0 fun h hs c => ?_⟩
          · rw [C0 h hs, show am_tg 0 [64, 72, 80, 88, 96, 104] 111 (ni 4) = 96 from by decide, e_276_96 hs, D275 hs V c]
            simp (disch := first | assumption | omega | (simp only [Sh_pI, Sh_pL, Sh_pIs, Sh_pLs]; assumption)) only [↓ixb, Option.bind_some, Option.toList_some, Option.toList_none, List.cons_append, List.nil_append, e_276_103]
          · rw [M0 h hs, show am_tg 0 [64, 69, 74, 79, 106, 139] 144 (ni 4) = 106 from by decide, e_277_106 hs]
            exact L277b hs V c (sS s) 0 _ (by omega)
        · refine ⟨ni (sD s 24 0), s, V, HC_0 fun h hs c => ?_, HM_0 fun h hs c => ?_⟩
          · rw [C0 h hs, show am_tg 0 [64, 72, 80, 88, 96, 104] 111 (ni 5) = 104 from by decide, e_276_104 hs, c.2.2.2.2.2.2.1.1]
          · rw [M0 h hs, show am_tg 0 [64, 69, 74, 79, 106, 139] 144 (ni 5) = 139 from by decide, e_277_139 hs, c.2.2.2.2.2.2.1.1]
      · refine ⟨-ni 1, s, V, HC_0 fun h hs c => ?_, HM_0 fun h hs c => ?_⟩
        · have ht : am_tg 0 [64, 72, 80, 88, 96, 104] 111 (ni k) = 111 := by
            unfold am_tg
            rw [ni_toInt hk, if_neg (by omega), List.getElem?_eq_none (by show 6 ≤ _; omega)]; rfl
          rw [C0 h hs, ht]
          exact e_276_111 hs
        · have ht : am_tg 0 [64, 69, 74, 79, 106, 139] 144 (ni k) = 144 := by
            unfold am_tg
            rw [ni_toInt hk, if_neg (by omega), List.getElem?_eq_none (by show 6 ≤ _; omega)]; rfl
          rw [M0 h hs, ht]
          exact e_277_144 hs
