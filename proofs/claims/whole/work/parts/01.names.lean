/-! ===== BEGIN words of one list among another's, by their places ===== -/
theorem goodIn_r {big : List Cond} (ws : List Cond) (ps : List Nat) (hp : ws = ps.filterMap (fun i => big[i]?)) (h : ws.all goodWord = true) : GoodIn big ws := by
  intro w hw
  have h1 := List.all_eq_true.mp h w hw
  rw [hp] at hw
  obtain ⟨i, -, hi⟩ := List.mem_filterMap.mp hw
  have hm : w ∈ big := by first | exact List.mem_of_getElem? hi | exact List.getElem?_mem hi
  exact ⟨hm, good_of_word h1⟩
theorem goodIn_app {big a b : List Cond} (ha : GoodIn big a) (hb : GoodIn big b) : GoodIn big (a ++ b) := fun w h => (List.mem_append.mp h).elim (ha w) (hb w)
theorem goodIn_ca {big a b : List Cond} {c : Cond} (ha : GoodIn big (c :: a)) (hb : GoodIn big b) : GoodIn big (c :: (a ++ b)) := fun w h => (List.mem_cons.mp h).elim (fun e => ha w (List.mem_cons.mpr (Or.inl e))) (fun h => (List.mem_append.mp h).elim (fun h => ha w (List.mem_cons.mpr (Or.inr h))) (hb w))
theorem goodIn_sub {big ws : List Cond} (hm : ∀ w ∈ ws, w ∈ big) (h : ws.all goodWord = true) : GoodIn big ws := fun w hw => ⟨hm w hw, good_of_word (List.all_eq_true.mp h w hw)⟩
/-! ===== END ===== -/

/-! ===== BEGIN new T[n][m]: the outer array a place, the inner ones among the pooled ===== -/
/-- f, but v at every address of l -/
def vr_up {α : Type} (f : Nat → α) (l : List Nat) (v : α) : Nat → α := fun a => if a ∈ l then v else f a
theorem vr_up_in {α : Type} {f : Nat → α} {l : List Nat} {v : α} {a : Nat} (h : a ∈ l) : vr_up f l v a = v := if_pos h
theorem vr_up_ne {α : Type} {f : Nat → α} {l : List Nat} {v : α} {a : Nat} (h : a ∉ l) : vr_up f l v a = f a := if_neg h
theorem vr_rows {L l : List Nat} {f : Nat → va_E} {e : va_E} (h : ∀ a, a ∈ l → a ∉ L) : va_pl L f ++ l.map (fun a => (a, e)) = va_pl (L ++ l) (vr_up f l e) := by
  unfold va_pl
  rw [List.map_append]
  congr 1
  · apply List.map_congr_left
    intro a ha
    rw [vr_up_ne (fun q => h a q ha)]
  · apply List.map_congr_left
    intro a ha
    rw [vr_up_in ha]
theorem vr_lay {X rows : va_W} {x : Nat × va_E} {pl : va_W} {D : va_G} {cl : List vw_C} {H : Heap} (hP : va_P D cl (((X ++ pl) ++ [x]) ++ rows) H) : va_P D cl ((X ++ [x]) ++ (pl ++ rows)) H := by
  rw [List.append_assoc (X ++ pl)] at hP
  have h := va_P.swap hP
  rw [← List.append_assoc X] at h
  have h2 := va_P.swap h
  rw [List.append_assoc (X ++ [x])] at h2
  exact h2
theorem vr_layD {X rows : va_W} {x : Nat × va_E} {pl : va_W} {A : Nat → Prop} (hD : va_D A (((X ++ pl) ++ [x]) ++ rows)) : va_D A ((X ++ [x]) ++ (pl ++ rows)) := by
  rw [List.append_assoc (X ++ pl)] at hD
  have h := va_D.swap hD
  rw [← List.append_assoc X] at h
  have h2 := va_D.swap h
  rw [List.append_assoc (X ++ [x])] at h2
  exact h2
theorem vr_outer (c : ClassId) (N h0 : Nat) : ∀ i : Nat, Jvm.Free.Multi.outerC c N h0 i = arrV c N (fun j => va_rf (if j < i then some (h0 + 1 + j) else none))
  | 0 => by
    show ({ cls := c, slots := Array.replicate N .null, vm := .none } : Cell) = _
    rw [arrV_new]
    refine congrArg (arrV c N) (funext fun j => ?_)
    simp [va_rf]
  | i + 1 => by
    show (Jvm.Free.Multi.outerC c N h0 i).setSlot i (.ref (h0 + 1 + i)) = _
    rw [vr_outer c N h0 i, arrV_store]
    refine congrArg (arrV c N) (funext fun j => ?_)
    by_cases e : j = i
    · subst e
      simp [updV, va_rf]
    · by_cases h : j < i
      · simp [updV, e, h, Nat.lt_succ_of_lt h]
      · simp [updV, e, h, show ¬ j < i + 1 by omega]
def va_AOA (t : FieldType) (U : State) : Prop := (Cond.arrayOver (.array t)).before #[] U = true
theorem va_AOA.use {t : FieldType} {A : Array Value} {U : State} (h : va_AOA t U) : (Cond.arrayOver (.array t)).before A U = true := h
section VGM
variable {p : Program} {l : Launch} {e : Env} {R : Room} {s : State} {m : MethodId} {args : Array Value} {below : List Frame} {meth : Method} {c : Code} {H : Heap} {locs : List Loc} {cells slots : Nat} {Q : State → Prop}
variable {cc : ByteArray} {pc : Nat} {ls : Array Slot} {rest : List Value} {D : va_G} {cl : List vw_C} {A : Nat → Prop} {a : Nat} {tys : List (ClassId × FieldType)} {ws : va_W} {H0 : Heap}
theorem va_mna {X : va_W} {L : List Nat} {f : Nat → va_E} {cc : ByteArray} (hexec : p.tables.exec = Jvm.exec) (hb : c.code = cc) {own : String} {index : Nat} {ty : FieldType} {cy : ClassId} (hown : s.vm.findClass own = some m.cls) (hclink : (Cond.classLink own index ("[" ++ (FieldType.array ty).toString)).before args s = true) (hover : va_AOA ty s) (harr : (Cond.arrayClass ty).before args s = true) (hcy : s.vm.findClass (FieldType.array ty).toString = some cy)
    (hK : va_K D cl tys s) (hP : va_P D cl (X ++ va_pl L f) H) (hD : va_D A (X ++ va_pl L f)) (hS : va_S A H0 H locs) (hA : ∀ q, H0.size ≤ q → A q) {n k : Int32} {N' K' : Nat} {z : vp_A} (hn : ¬ n < 0) (hk : ¬ k < 0) (hN : n.toNatClampNeg = N') (hM : k.toNatClampNeg = K')
    (hb1 : N' * 4 ≤ 536870912) (hb2 : K' * componentBytes ty ≤ 536870912) (hb3 : K' ≤ 536870912) (hdf : fits ty (defaultValue ty) = true) (hdd : (defaultValue ty).isDefault = true) (hcells : cells + (1 + N') ≤ R.cells) (hslots : slots + (N' + N' * K') ≤ R.slots) (hz : ∀ c : ClassId, Jvm.Free.Multi.innerC c K' (defaultValue ty) = vp_cell c z) (hdg : decode cc pc = .ok (.multianewarray index 2, 4))
    (kk : ∀ (q : Nat) (r : Nat → Nat) (cA : ClassId) (H1 : Heap), (∀ i j : Nat, i < N' → j < N' → r i = r j → i = j) → (∀ i : Nat, i < N' → r i ∉ L) → va_K D cl (tys ++ [(cA, .array ty)]) s →
      va_P D cl ((X ++ [(q, .inl (cA, N', .inr (.inr (.inr (.inr (fun i => if i < N' then some (r i) else none))))))]) ++ va_pl (L ++ (List.range N').map r) (vr_up f ((List.range N').map r) (.inl (cy, z)))) H1 → va_D A ((X ++ [(q, .inl (cA, N', .inr (.inr (.inr (.inr (fun i => if i < N' then some (r i) else none))))))]) ++ va_pl (L ++ (List.range N').map r) (vr_up f ((List.range N').map r) (.inl (cy, z)))) → va_S A H0 H1 locs →
      W p l e R s m args below meth c H1 locs (cells + 1 + N') (slots + N' + N' * K') Q (F0 m (pc + 4) ls (.ref q :: rest))) : W p l e R s m args below meth c H locs cells slots Q (F0 m pc ls (.int k :: .int n :: rest)) := by
  subst hN
  subst hM
  intro T hT Xs
  obtain ⟨vm₁, cA, comp, -, fA, fC, hO, -, X', step⟩ := Xs.multianewarray2F hexec hown hclink (va_AOA.use hover) harr (g := F0 m pc ls (.int k :: .int n :: rest)) rfl (by rw [hb]; exact hdg) rfl hn hk hb1 hb2 hb3 hdf hdd hcells hslots
  have ec : some cy = some comp := hcy.symm.trans fC
  cases ec
  generalize hF : Jvm.Free.Multi.fill (T.setVm vm₁) cA cy n.toNatClampNeg k.toNatClampNeg (defaultValue ty) n.toNatClampNeg = F at X' step
  have hTh : (T.setVm vm₁).heap = H := hT
  obtain ⟨f1, f2, -, -⟩ := Jvm.Free.Multi.fill_facts (T.setVm vm₁) cA cy n.toNatClampNeg k.toNatClampNeg (defaultValue ty) n.toNatClampNeg
  rw [hF, hTh] at f1 f2
  have hold : ∀ x : Nat, x < H.size → F.heap[x]? = H[x]? := fun x hx => by
    have := Jvm.Free.Multi.fill_old (T.setVm vm₁) cA cy n.toNatClampNeg k.toNatClampNeg (defaultValue ty) (a := x) (by rw [hTh]; exact hx) n.toNatClampNeg
    rw [hF, hTh] at this
    exact this
  have hrow : ∀ j : Nat, j < n.toNatClampNeg → F.heap[H.size + 1 + j]? = some (vp_cell cy z) := fun j hj => by
    have := Jvm.Free.Multi.fill_inner (T.setVm vm₁) cA cy n.toNatClampNeg k.toNatClampNeg (defaultValue ty) n.toNatClampNeg j hj
    rw [hF, hTh, hz] at this
    exact this
  have hout : Jvm.Free.Multi.outerC cA n.toNatClampNeg H.size n.toNatClampNeg = vp_cell cA (n.toNatClampNeg, .inr (.inr (.inr (.inr (fun i => if i < n.toNatClampNeg then some (H.size + 1 + i) else none))))) := by
    rw [vp_cell_q]
    exact vr_outer cA n.toNatClampNeg H.size n.toNatClampNeg
  rw [hout] at f2
  have hlt : ∀ a, a ∈ L → a < H.size := fun a ha => by
    obtain ⟨k9, hk9⟩ := va_pl_get (X := X) (f := f) ha
    exact (hP k9 _ hk9).lt
  have hnl : ∀ i : Nat, i < n.toNatClampNeg → H.size + 1 + i ∉ L := fun i _ h => by
    have := hlt _ h
    omega
  have hnm : ∀ a, a ∈ (List.range n.toNatClampNeg).map (fun i => H.size + 1 + i) → a ∉ L := fun a ha h => by
    obtain ⟨i, -, rfl⟩ := List.mem_map.mp ha
    have := hlt _ h
    omega
  have hP0 : va_P D cl (X ++ va_pl L f) F.heap := hP.kept (fun k9 x hx => hold x.1 ((hP k9 x hx).lt))
  have hP1 : va_P D cl ((X ++ va_pl L f) ++ [(H.size, .inl (cA, n.toNatClampNeg, .inr (.inr (.inr (.inr (fun i => if i < n.toNatClampNeg then some (H.size + 1 + i) else none))))))]) F.heap := hP0.app (fun k9 x hx => by
    have h0 : k9 < 1 := (List.getElem?_eq_some_iff.mp hx).1
    rw [show k9 = 0 by omega] at hx
    cases hx
    exact f2)
  have hP2 : va_P D cl (((X ++ va_pl L f) ++ [(H.size, .inl (cA, n.toNatClampNeg, .inr (.inr (.inr (.inr (fun i => if i < n.toNatClampNeg then some (H.size + 1 + i) else none))))))]) ++ ((List.range n.toNatClampNeg).map (fun i => H.size + 1 + i)).map (fun a => (a, .inl (cy, z)))) F.heap := hP1.app (fun k9 x hx => by
    obtain ⟨a, ha, rfl⟩ := List.mem_map.mp (List.mem_of_getElem? hx)
    obtain ⟨i, hi, rfl⟩ := List.mem_map.mp ha
    exact hrow i (List.mem_range.mp hi))
  have hD2 : va_D A (((X ++ va_pl L f) ++ [(H.size, .inl (cA, n.toNatClampNeg, .inr (.inr (.inr (.inr (fun i => if i < n.toNatClampNeg then some (H.size + 1 + i) else none))))))]) ++ ((List.range n.toNatClampNeg).map (fun i => H.size + 1 + i)).map (fun a => (a, .inl (cy, z)))) := by
    have hD1 := hD.push (e := .inl (cA, n.toNatClampNeg, .inr (.inr (.inr (.inr (fun i => if i < n.toNatClampNeg then some (H.size + 1 + i) else none)))))) hP rfl (hA _ hS.1)
    generalize hW1 : (X ++ va_pl L f) ++ [(H.size, .inl (cA, n.toNatClampNeg, .inr (.inr (.inr (.inr (fun i => if i < n.toNatClampNeg then some (H.size + 1 + i) else none))))))] = W1 at hD1 hP1 ⊢
    have hle : ∀ (k9 : Nat) (x : Nat × va_E), W1[k9]? = some x → x.1 ≤ H.size := fun k9 x hx => by
      rw [← hW1] at hx
      by_cases hl : k9 < (X ++ va_pl L f).length
      · rw [List.getElem?_append_left hl] at hx
        exact Nat.le_of_lt ((hP k9 x hx).lt)
      · rw [List.getElem?_append_right (by omega)] at hx
        have h0 : k9 - (X ++ va_pl L f).length < 1 := (List.getElem?_eq_some_iff.mp hx).1
        rw [show k9 - (X ++ va_pl L f).length = 0 by omega] at hx
        cases hx
        exact Nat.le_refl _
    have hr : ∀ (k9 : Nat) (x : Nat × va_E), (((List.range n.toNatClampNeg).map (fun i => H.size + 1 + i)).map (fun a => ((a, .inl (cy, z)) : Nat × va_E)))[k9]? = some x → x.1 = H.size + 1 + k9 := fun k9 x hx => by
      rw [List.getElem?_map, List.getElem?_map] at hx
      by_cases h9 : k9 < n.toNatClampNeg
      · rw [List.getElem?_range h9] at hx
        cases hx
        rfl
      · have hn0 : (List.range n.toNatClampNeg)[k9]? = none := List.getElem?_eq_none (by rw [List.length_range]; omega)
        rw [hn0] at hx
        cases hx
    refine ⟨fun i j x y hi hj hxy => ?_, fun k9 x hx => ?_⟩
    · by_cases h1 : i < W1.length <;> by_cases h2 : j < W1.length
      · rw [List.getElem?_append_left h1] at hi
        rw [List.getElem?_append_left h2] at hj
        exact hD1.1 i j x y hi hj hxy
      · rw [List.getElem?_append_left h1] at hi
        rw [List.getElem?_append_right (by omega)] at hj
        have := hle _ _ hi
        have := hr _ _ hj
        omega
      · rw [List.getElem?_append_right (by omega)] at hi
        rw [List.getElem?_append_left h2] at hj
        have := hle _ _ hj
        have := hr _ _ hi
        omega
      · rw [List.getElem?_append_right (by omega)] at hi hj
        have := hr _ _ hi
        have := hr _ _ hj
        omega
    · by_cases h1 : k9 < W1.length
      · rw [List.getElem?_append_left h1] at hx
        exact hD1.2 k9 x hx
      · rw [List.getElem?_append_right (by omega)] at hx
        have := hr _ _ hx
        exact hA _ (by have := hS.1; omega)
  have hAr : ArrOfT s cA (.array ty) := fun N9 z9 => by
    obtain ⟨-, k9, hk9, cm9, hkk9⟩ := (hO 0 0 0).1
    exact ⟨(fun q hq => by cases hq), k9, hk9, cm9, hkk9⟩
  have hK2 : va_K D cl (tys ++ [(cA, .array ty)]) s := ⟨hK.1, fun k9 x hx => by
    by_cases hl : k9 < tys.length
    · rw [List.getElem?_append_left hl] at hx
      exact hK.2 k9 x hx
    · rw [List.getElem?_append_right (by omega)] at hx
      have h0 : k9 - tys.length < 1 := (List.getElem?_eq_some_iff.mp hx).1
      rw [show k9 - tys.length = 0 by omega] at hx
      cases hx
      exact ⟨hAr, fA⟩⟩
  obtain ⟨t, a1, b1⟩ := kk H.size (fun i => H.size + 1 + i) cA F.heap (fun i j _ _ h => by have h9 : H.size + 1 + i = H.size + 1 + j := h; omega) hnl hK2 (by rw [← vr_rows hnm]; exact vr_lay hP2) (by rw [← vr_rows hnm]; exact vr_layD hD2) ⟨by rw [f1]; have := hS.1; omega, fun x h1 h2 => (hold x (Nat.lt_of_lt_of_le h1 hS.1)).trans (hS.2.1 x h1 h2), hS.2.2⟩ F rfl X'
  refine ⟨t, step t ?_, b1⟩
  have e : T.heap.size = H.size := by rw [hT]
  rw [e]
  exact a1
end VGM
/-! ===== END ===== -/

/-! ===== BEGIN printed: names, fields, word lists, decode rows ===== -/
def RX0 : String := "HadItFrom$Gap"
def TX0 : u_T := fun k => match k with
  | 0 => ("HadItFrom$Row", "number", "I", true)
  | 1 => ("HadItFrom$Row", "count", "I", true)
  | 2 => ("HadItFrom$Row", "wording", "I", true)
  | 3 => ("HadItFrom$Row", "who", "[I", true)
  | _ => ("HadItFrom$Row", "links", "[I", true)
def tyX0 : Nat → FieldType := fun k => match k with
  | 0 => .int
  | 1 => .int
  | 2 => .int
  | 3 => .array .int
  | _ => .array .int
abbrev wsX00 : List Cond := u_ws RX0 TX0 5
theorem nmX0 : ∀ a, a < 5 → ∀ b, b < 5 → a ≠ b → (TX0 a).2.1 ≠ (TX0 b).2.1 := by decide +kernel
theorem tyX0_ok : ∀ k, k < 5 → parseFieldDescriptor (TX0 k).2.2.1 = some (tyX0 k) := by decide +kernel
abbrev cX0_init : ByteArray := prog_2_method_1_code
def yX0_init : MethodName := ⟨RX0, "<init>", "(II[I[I)V"⟩
abbrev cX0_kindNumber : ByteArray := prog_2_method_2_code
def yX0_kindNumber : MethodName := ⟨RX0, "kindNumber", "()I"⟩
abbrev cX0_linkHolds : ByteArray := prog_2_method_3_code
def yX0_linkHolds : MethodName := ⟨RX0, "linkHolds", "(ZIZ)Z"⟩
abbrev cX0_lessened : ByteArray := prog_2_method_4_code
def yX0_lessened : MethodName := ⟨RX0, "lessened", "(I[I)I"⟩
abbrev cX0_actLinks : ByteArray := prog_2_method_5_code
def yX0_actLinks : MethodName := ⟨RX0, "actLinks", "(I[I)I"⟩
def RX1 : String := "HadItFrom$Hidden"
def TX1 : u_T := fun k => match k with
  | 0 => ("HadItFrom$Row", "number", "I", true)
  | 1 => ("HadItFrom$Row", "count", "I", true)
  | 2 => ("HadItFrom$Row", "wording", "I", true)
  | 3 => ("HadItFrom$Row", "who", "[I", true)
  | _ => ("HadItFrom$Row", "links", "[I", true)
def tyX1 : Nat → FieldType := fun k => match k with
  | 0 => .int
  | 1 => .int
  | 2 => .int
  | 3 => .array .int
  | _ => .array .int
abbrev wsX10 : List Cond := u_ws RX1 TX1 5
theorem nmX1 : ∀ a, a < 5 → ∀ b, b < 5 → a ≠ b → (TX1 a).2.1 ≠ (TX1 b).2.1 := by decide +kernel
theorem tyX1_ok : ∀ k, k < 5 → parseFieldDescriptor (TX1 k).2.2.1 = some (tyX1 k) := by decide +kernel
abbrev cX1_init : ByteArray := prog_3_method_1_code
def yX1_init : MethodName := ⟨RX1, "<init>", "(II[I[I)V"⟩
abbrev cX1_kindNumber : ByteArray := prog_3_method_2_code
def yX1_kindNumber : MethodName := ⟨RX1, "kindNumber", "()I"⟩
abbrev cX1_linkHolds : ByteArray := prog_3_method_3_code
def yX1_linkHolds : MethodName := ⟨RX1, "linkHolds", "(ZIZ)Z"⟩
abbrev cX1_actLinks : ByteArray := prog_3_method_4_code
def yX1_actLinks : MethodName := ⟨RX1, "actLinks", "(I[I)I"⟩
abbrev cX1_actWeighs : ByteArray := prog_3_method_5_code
def yX1_actWeighs : MethodName := ⟨RX1, "actWeighs", "(I[I)I"⟩
def RX2 : String := "HadItFrom$Hung"
def TX2 : u_T := fun k => match k with
  | 0 => ("HadItFrom$Row", "number", "I", true)
  | 1 => ("HadItFrom$Row", "count", "I", true)
  | 2 => ("HadItFrom$Row", "wording", "I", true)
  | 3 => ("HadItFrom$Row", "who", "[I", true)
  | _ => ("HadItFrom$Row", "links", "[I", true)
def tyX2 : Nat → FieldType := fun k => match k with
  | 0 => .int
  | 1 => .int
  | 2 => .int
  | 3 => .array .int
  | _ => .array .int
abbrev wsX20 : List Cond := u_ws RX2 TX2 5
theorem nmX2 : ∀ a, a < 5 → ∀ b, b < 5 → a ≠ b → (TX2 a).2.1 ≠ (TX2 b).2.1 := by decide +kernel
theorem tyX2_ok : ∀ k, k < 5 → parseFieldDescriptor (TX2 k).2.2.1 = some (tyX2 k) := by decide +kernel
abbrev cX2_init : ByteArray := prog_4_method_1_code
def yX2_init : MethodName := ⟨RX2, "<init>", "(II[I[I)V"⟩
abbrev cX2_kindNumber : ByteArray := prog_4_method_2_code
def yX2_kindNumber : MethodName := ⟨RX2, "kindNumber", "()I"⟩
abbrev cX2_actHolds : ByteArray := prog_4_method_3_code
def yX2_actHolds : MethodName := ⟨RX2, "actHolds", "(I[I)I"⟩
def RX3 : String := "HadItFrom$Made"
def TX3 : u_T := fun k => match k with
  | 0 => ("HadItFrom$Row", "number", "I", true)
  | 1 => ("HadItFrom$Row", "count", "I", true)
  | 2 => ("HadItFrom$Row", "wording", "I", true)
  | 3 => ("HadItFrom$Row", "who", "[I", true)
  | _ => ("HadItFrom$Row", "links", "[I", true)
def tyX3 : Nat → FieldType := fun k => match k with
  | 0 => .int
  | 1 => .int
  | 2 => .int
  | 3 => .array .int
  | _ => .array .int
abbrev wsX30 : List Cond := u_ws RX3 TX3 5
theorem nmX3 : ∀ a, a < 5 → ∀ b, b < 5 → a ≠ b → (TX3 a).2.1 ≠ (TX3 b).2.1 := by decide +kernel
theorem tyX3_ok : ∀ k, k < 5 → parseFieldDescriptor (TX3 k).2.2.1 = some (tyX3 k) := by decide +kernel
abbrev cX3_init : ByteArray := prog_5_method_1_code
def yX3_init : MethodName := ⟨RX3, "<init>", "(II[I[I)V"⟩
abbrev cX3_kindNumber : ByteArray := prog_5_method_2_code
def yX3_kindNumber : MethodName := ⟨RX3, "kindNumber", "()I"⟩
abbrev cX3_lessened : ByteArray := prog_5_method_3_code
def yX3_lessened : MethodName := ⟨RX3, "lessened", "(I[I)I"⟩
abbrev cX3_actWeighs : ByteArray := prog_5_method_4_code
def yX3_actWeighs : MethodName := ⟨RX3, "actWeighs", "(I[I)I"⟩
abbrev cX3_actLinks : ByteArray := prog_5_method_5_code
def yX3_actLinks : MethodName := ⟨RX3, "actLinks", "(I[I)I"⟩
def RX4 : String := "HadItFrom$Man"
def TX4 : u_T := fun k => match k with
  | 0 => ("HadItFrom$Man", "born", "I", false)
  | 1 => ("HadItFrom$Man", "died", "I", false)
  | 2 => ("HadItFrom$Man", "place", "I", false)
  | 3 => ("HadItFrom$Man", "mark", "I", false)
  | 4 => ("HadItFrom$Man", "late", "I", false)
  | 5 => ("HadItFrom$Man", "journeys", "I", false)
  | 6 => ("HadItFrom$Man", "places", "[I", true)
  | 7 => ("HadItFrom$Man", "froms", "[I", true)
  | _ => ("HadItFrom$Man", "tos", "[I", true)
def tyX4 : Nat → FieldType := fun k => match k with
  | 0 => .int
  | 1 => .int
  | 2 => .int
  | 3 => .int
  | 4 => .int
  | 5 => .int
  | 6 => .array .int
  | 7 => .array .int
  | _ => .array .int
abbrev wsX40 : List Cond := u_ws RX4 TX4 9
theorem nmX4 : ∀ a, a < 9 → ∀ b, b < 9 → a ≠ b → (TX4 a).2.1 ≠ (TX4 b).2.1 := by decide +kernel
theorem tyX4_ok : ∀ k, k < 9 → parseFieldDescriptor (TX4 k).2.2.1 = some (tyX4 k) := by decide +kernel
abbrev cX4_init : ByteArray := prog_6_method_1_code
def yX4_init : MethodName := ⟨RX4, "<init>", "()V"⟩
abbrev cX4_becomes : ByteArray := prog_6_method_2_code
def yX4_becomes : MethodName := ⟨RX4, "becomes", "(LHadItFrom$Man;)V"⟩
abbrev cX4_becomesMarked : ByteArray := prog_6_method_3_code
def yX4_becomesMarked : MethodName := ⟨RX4, "becomesMarked", "(II)V"⟩
abbrev cX4_addJourney : ByteArray := prog_6_method_4_code
def yX4_addJourney : MethodName := ⟨RX4, "addJourney", "(III)I"⟩
abbrev cX4_placeIn : ByteArray := prog_6_method_5_code
def yX4_placeIn : MethodName := ⟨RX4, "placeIn", "(I)I"⟩
abbrev cX4_whenHears : ByteArray := prog_6_method_6_code
def yX4_whenHears : MethodName := ⟨RX4, "whenHears", "(LHadItFrom$Man;[I)I"⟩
abbrev cX4_nextMove : ByteArray := prog_6_method_7_code
def yX4_nextMove : MethodName := ⟨RX4, "nextMove", "(I)I"⟩
def RX5 : String := "HadItFrom$Net"
def TX5 : u_T := fun k => match k with
  | 0 => ("HadItFrom$Net", "first", "I", false)
  | 1 => ("HadItFrom$Net", "starts", "I", false)
  | 2 => ("HadItFrom$Net", "nexts", "[I", true)
  | 3 => ("HadItFrom$Net", "room", "[J", true)
  | _ => ("HadItFrom$Net", "from", "[I", true)
def tyX5 : Nat → FieldType := fun k => match k with
  | 0 => .int
  | 1 => .int
  | 2 => .array .int
  | 3 => .array .long
  | _ => .array .int
abbrev wsX50 : List Cond := u_ws RX5 TX5 5
theorem nmX5 : ∀ a, a < 5 → ∀ b, b < 5 → a ≠ b → (TX5 a).2.1 ≠ (TX5 b).2.1 := by decide +kernel
theorem tyX5_ok : ∀ k, k < 5 → parseFieldDescriptor (TX5 k).2.2.1 = some (tyX5 k) := by decide +kernel
abbrev cX5_init : ByteArray := prog_7_method_1_code
def yX5_init : MethodName := ⟨RX5, "<init>", "()V"⟩
abbrev cX5_lay : ByteArray := prog_7_method_2_code
def yX5_lay : MethodName := ⟨RX5, "lay", "(LHadItFrom$World;II)V"⟩
abbrev cX5_layRow : ByteArray := prog_7_method_3_code
def yX5_layRow : MethodName := ⟨RX5, "layRow", "(LHadItFrom$Row;)V"⟩
abbrev cX5_isKnot : ByteArray := prog_7_method_4_code
def yX5_isKnot : MethodName := ⟨RX5, "isKnot", "(I)Z"⟩
abbrev cX5_leadsWithout : ByteArray := prog_7_method_5_code
def yX5_leadsWithout : MethodName := ⟨RX5, "leadsWithout", "(I)Z"⟩
abbrev cX5_mostWays : ByteArray := prog_7_method_6_code
def yX5_mostWays : MethodName := ⟨RX5, "mostWays", "()I"⟩
abbrev cX5_leastCut : ByteArray := prog_7_method_7_code
def yX5_leastCut : MethodName := ⟨RX5, "leastCut", "()I"⟩
abbrev cX5_isNeeded : ByteArray := prog_7_method_8_code
def yX5_isNeeded : MethodName := ⟨RX5, "isNeeded", "(I)Z"⟩
abbrev cX5_openRoom : ByteArray := prog_7_method_9_code
def yX5_openRoom : MethodName := ⟨RX5, "openRoom", "()V"⟩
abbrev cX5_findsWay : ByteArray := prog_7_method_10_code
def yX5_findsWay : MethodName := ⟨RX5, "findsWay", "()Z"⟩
abbrev cX5_takeWay : ByteArray := prog_7_method_11_code
def yX5_takeWay : MethodName := ⟨RX5, "takeWay", "()V"⟩
abbrev cX5_passDoors : ByteArray := prog_7_method_12_code
def yX5_passDoors : MethodName := ⟨RX5, "passDoors", "(II)V"⟩
def RX6 : String := "HadItFrom$Raised"
def TX6 : u_T := fun k => match k with
  | 0 => ("HadItFrom$Row", "number", "I", true)
  | 1 => ("HadItFrom$Row", "count", "I", true)
  | 2 => ("HadItFrom$Row", "wording", "I", true)
  | 3 => ("HadItFrom$Row", "who", "[I", true)
  | _ => ("HadItFrom$Row", "links", "[I", true)
def tyX6 : Nat → FieldType := fun k => match k with
  | 0 => .int
  | 1 => .int
  | 2 => .int
  | 3 => .array .int
  | _ => .array .int
abbrev wsX60 : List Cond := u_ws RX6 TX6 5
theorem nmX6 : ∀ a, a < 5 → ∀ b, b < 5 → a ≠ b → (TX6 a).2.1 ≠ (TX6 b).2.1 := by decide +kernel
theorem tyX6_ok : ∀ k, k < 5 → parseFieldDescriptor (TX6 k).2.2.1 = some (tyX6 k) := by decide +kernel
abbrev cX6_init : ByteArray := prog_8_method_1_code
def yX6_init : MethodName := ⟨RX6, "<init>", "(II[I[I)V"⟩
abbrev cX6_kindNumber : ByteArray := prog_8_method_2_code
def yX6_kindNumber : MethodName := ⟨RX6, "kindNumber", "()I"⟩
abbrev cX6_lessened : ByteArray := prog_8_method_3_code
def yX6_lessened : MethodName := ⟨RX6, "lessened", "(I[I)I"⟩
abbrev cX6_actWeighs : ByteArray := prog_8_method_4_code
def yX6_actWeighs : MethodName := ⟨RX6, "actWeighs", "(I[I)I"⟩
def RX7 : String := "HadItFrom$Row"
def TX7 : u_T := fun k => match k with
  | 0 => ("HadItFrom$Row", "number", "I", true)
  | 1 => ("HadItFrom$Row", "count", "I", true)
  | 2 => ("HadItFrom$Row", "wording", "I", true)
  | 3 => ("HadItFrom$Row", "who", "[I", true)
  | _ => ("HadItFrom$Row", "links", "[I", true)
def tyX7 : Nat → FieldType := fun k => match k with
  | 0 => .int
  | 1 => .int
  | 2 => .int
  | 3 => .array .int
  | _ => .array .int
abbrev wsX70 : List Cond := u_ws RX7 TX7 5
theorem nmX7 : ∀ a, a < 5 → ∀ b, b < 5 → a ≠ b → (TX7 a).2.1 ≠ (TX7 b).2.1 := by decide +kernel
theorem tyX7_ok : ∀ k, k < 5 → parseFieldDescriptor (TX7 k).2.2.1 = some (tyX7 k) := by decide +kernel
abbrev cX7_init : ByteArray := prog_9_method_1_code
def yX7_init : MethodName := ⟨RX7, "<init>", "(II[I[I)V"⟩
abbrev cX7_kindNumber : ByteArray := prog_9_method_2_code
def yX7_kindNumber : MethodName := ⟨RX7, "kindNumber", "()I"⟩
abbrev cX7_isOf : ByteArray := prog_9_method_3_code
def yX7_isOf : MethodName := ⟨RX7, "isOf", "(I)Z"⟩
abbrev cX7_saysAs : ByteArray := prog_9_method_4_code
def yX7_saysAs : MethodName := ⟨RX7, "saysAs", "(I)I"⟩
abbrev cX7_lastMan : ByteArray := prog_9_method_5_code
def yX7_lastMan : MethodName := ⟨RX7, "lastMan", "()I"⟩
abbrev cX7_firstHeard : ByteArray := prog_9_method_6_code
def yX7_firstHeard : MethodName := ⟨RX7, "firstHeard", "()I"⟩
abbrev cX7_hasMan : ByteArray := prog_9_method_7_code
def yX7_hasMan : MethodName := ⟨RX7, "hasMan", "(I)Z"⟩
abbrev cX7_tellersOf : ByteArray := prog_9_method_8_code
def yX7_tellersOf : MethodName := ⟨RX7, "tellersOf", "(I)I"⟩
abbrev cX7_sameMenAhead : ByteArray := prog_9_method_9_code
def yX7_sameMenAhead : MethodName := ⟨RX7, "sameMenAhead", "(LHadItFrom$Row;)I"⟩
abbrev cX7_goesOnAs : ByteArray := prog_9_method_10_code
def yX7_goesOnAs : MethodName := ⟨RX7, "goesOnAs", "(ILHadItFrom$Row;I)Z"⟩
abbrev cX7_linkHolds : ByteArray := prog_9_method_11_code
def yX7_linkHolds : MethodName := ⟨RX7, "linkHolds", "(ZIZ)Z"⟩
abbrev cX7_lessened : ByteArray := prog_9_method_12_code
def yX7_lessened : MethodName := ⟨RX7, "lessened", "(I[I)I"⟩
abbrev cX7_actLinks : ByteArray := prog_9_method_13_code
def yX7_actLinks : MethodName := ⟨RX7, "actLinks", "(I[I)I"⟩
abbrev cX7_actHolds : ByteArray := prog_9_method_14_code
def yX7_actHolds : MethodName := ⟨RX7, "actHolds", "(I[I)I"⟩
abbrev cX7_actWeighs : ByteArray := prog_9_method_15_code
def yX7_actWeighs : MethodName := ⟨RX7, "actWeighs", "(I[I)I"⟩
abbrev cX7_began : ByteArray := prog_9_method_16_code
def yX7_began : MethodName := ⟨RX7, "began", "([II)V"⟩
def RX8 : String := "HadItFrom$Text"
def TX8 : u_T := fun k => match k with
  | 0 => ("HadItFrom$Text", "bad", "I", false)
  | 1 => ("HadItFrom$Text", "letters", "[J", false)
  | 2 => ("HadItFrom$Text", "size", "I", false)
  | 3 => ("HadItFrom$Text", "place", "I", false)
  | 4 => ("HadItFrom$Text", "who", "[I", true)
  | _ => ("HadItFrom$Text", "links", "[I", true)
def tyX8 : Nat → FieldType := fun k => match k with
  | 0 => .int
  | 1 => .array .long
  | 2 => .int
  | 3 => .int
  | 4 => .array .int
  | _ => .array .int
abbrev wsX80 : List Cond := u_ws RX8 TX8 6
theorem nmX8 : ∀ a, a < 6 → ∀ b, b < 6 → a ≠ b → (TX8 a).2.1 ≠ (TX8 b).2.1 := by decide +kernel
theorem tyX8_ok : ∀ k, k < 6 → parseFieldDescriptor (TX8 k).2.2.1 = some (tyX8 k) := by decide +kernel
abbrev cX8_init : ByteArray := prog_10_method_1_code
def yX8_init : MethodName := ⟨RX8, "<init>", "()V"⟩
abbrev cX8_open : ByteArray := prog_10_method_2_code
def yX8_open : MethodName := ⟨RX8, "open", "([JI)V"⟩
abbrev cX8_readRules : ByteArray := prog_10_method_3_code
def yX8_readRules : MethodName := ⟨RX8, "readRules", "([I)V"⟩
abbrev cX8_readBook : ByteArray := prog_10_method_4_code
def yX8_readBook : MethodName := ⟨RX8, "readBook", "([LHadItFrom$Row;I)I"⟩
abbrev cX8_readRow : ByteArray := prog_10_method_5_code
def yX8_readRow : MethodName := ⟨RX8, "readRow", "(II)LHadItFrom$Row;"⟩
abbrev cX8_readKind : ByteArray := prog_10_method_6_code
def yX8_readKind : MethodName := ⟨RX8, "readKind", "()I"⟩
abbrev cX8_readMan : ByteArray := prog_10_method_7_code
def yX8_readMan : MethodName := ⟨RX8, "readMan", "(II)I"⟩
abbrev cX8_readNext : ByteArray := prog_10_method_8_code
def yX8_readNext : MethodName := ⟨RX8, "readNext", "(I)I"⟩
abbrev cX8_readWording : ByteArray := prog_10_method_9_code
def yX8_readWording : MethodName := ⟨RX8, "readWording", "()I"⟩
abbrev cX8_newRow : ByteArray := prog_10_method_10_code
def yX8_newRow : MethodName := ⟨RX8, "newRow", "(IIII)LHadItFrom$Row;"⟩
abbrev cX8_goesOnAfterPart : ByteArray := prog_10_method_11_code
def yX8_goesOnAfterPart : MethodName := ⟨RX8, "goesOnAfterPart", "()Z"⟩
abbrev cX8_readNumber : ByteArray := prog_10_method_12_code
def yX8_readNumber : MethodName := ⟨RX8, "readNumber", "(I)I"⟩
abbrev cX8_digitAt : ByteArray := prog_10_method_13_code
def yX8_digitAt : MethodName := ⟨RX8, "digitAt", "(I)I"⟩
abbrev cX8_readWord : ByteArray := prog_10_method_14_code
def yX8_readWord : MethodName := ⟨RX8, "readWord", "(Ljava/lang/String;)I"⟩
def RX9 : String := "HadItFrom$Whole"
def TX9 : u_T := fun k => match k with
  | 0 => ("HadItFrom$Row", "number", "I", true)
  | 1 => ("HadItFrom$Row", "count", "I", true)
  | 2 => ("HadItFrom$Row", "wording", "I", true)
  | 3 => ("HadItFrom$Row", "who", "[I", true)
  | _ => ("HadItFrom$Row", "links", "[I", true)
def tyX9 : Nat → FieldType := fun k => match k with
  | 0 => .int
  | 1 => .int
  | 2 => .int
  | 3 => .array .int
  | _ => .array .int
abbrev wsX90 : List Cond := u_ws RX9 TX9 5
theorem nmX9 : ∀ a, a < 5 → ∀ b, b < 5 → a ≠ b → (TX9 a).2.1 ≠ (TX9 b).2.1 := by decide +kernel
theorem tyX9_ok : ∀ k, k < 5 → parseFieldDescriptor (TX9 k).2.2.1 = some (tyX9 k) := by decide +kernel
abbrev cX9_init : ByteArray := prog_11_method_1_code
def yX9_init : MethodName := ⟨RX9, "<init>", "(II[I[I)V"⟩
abbrev cX9_kindNumber : ByteArray := prog_11_method_2_code
def yX9_kindNumber : MethodName := ⟨RX9, "kindNumber", "()I"⟩
abbrev cX9_linkHolds : ByteArray := prog_11_method_3_code
def yX9_linkHolds : MethodName := ⟨RX9, "linkHolds", "(ZIZ)Z"⟩
abbrev cX9_actHolds : ByteArray := prog_11_method_4_code
def yX9_actHolds : MethodName := ⟨RX9, "actHolds", "(I[I)I"⟩
def RX10 : String := "HadItFrom$World"
def TX10 : u_T := fun k => match k with
  | 0 => ("HadItFrom$World", "men", "[LHadItFrom$Man;", true)
  | 1 => ("HadItFrom$World", "manCount", "I", false)
  | 2 => ("HadItFrom$World", "rules", "[[I", true)
  | 3 => ("HadItFrom$World", "ruleCount", "I", false)
  | 4 => ("HadItFrom$World", "force", "I", false)
  | 5 => ("HadItFrom$World", "sayingRows", "[LHadItFrom$Row;", true)
  | 6 => ("HadItFrom$World", "rowCounts", "[I", true)
  | 7 => ("HadItFrom$World", "sayingCount", "I", false)
  | 8 => ("HadItFrom$World", "clashes", "[I", true)
  | 9 => ("HadItFrom$World", "heard", "[I", true)
  | _ => ("HadItFrom$World", "grades", "[I", true)
def tyX10 : Nat → FieldType := fun k => match k with
  | 0 => .array (.object "HadItFrom$Man")
  | 1 => .int
  | 2 => .array (.array .int)
  | 3 => .int
  | 4 => .int
  | 5 => .array (.object "HadItFrom$Row")
  | 6 => .array .int
  | 7 => .int
  | 8 => .array .int
  | 9 => .array .int
  | _ => .array .int
abbrev wsX100 : List Cond := u_ws RX10 TX10 11
theorem nmX10 : ∀ a, a < 11 → ∀ b, b < 11 → a ≠ b → (TX10 a).2.1 ≠ (TX10 b).2.1 := by decide +kernel
theorem tyX10_ok : ∀ k, k < 11 → parseFieldDescriptor (TX10 k).2.2.1 = some (tyX10 k) := by decide +kernel
abbrev cX10_init : ByteArray := prog_12_method_1_code
def yX10_init : MethodName := ⟨RX10, "<init>", "()V"⟩
abbrev cX10_becomes : ByteArray := prog_12_method_2_code
def yX10_becomes : MethodName := ⟨RX10, "becomes", "(LHadItFrom$World;)V"⟩
abbrev cX10_hasMan : ByteArray := prog_12_method_3_code
def yX10_hasMan : MethodName := ⟨RX10, "hasMan", "(I)Z"⟩
abbrev cX10_hasRules : ByteArray := prog_12_method_4_code
def yX10_hasRules : MethodName := ⟨RX10, "hasRules", "(I)Z"⟩
abbrev cX10_hasSaying : ByteArray := prog_12_method_5_code
def yX10_hasSaying : MethodName := ⟨RX10, "hasSaying", "(I)Z"⟩
abbrev cX10_rowAt : ByteArray := prog_12_method_6_code
def yX10_rowAt : MethodName := ⟨RX10, "rowAt", "(II)LHadItFrom$Row;"⟩
abbrev cX10_addMan : ByteArray := prog_12_method_7_code
def yX10_addMan : MethodName := ⟨RX10, "addMan", "(IIIII)I"⟩
abbrev cX10_addRules : ByteArray := prog_12_method_8_code
def yX10_addRules : MethodName := ⟨RX10, "addRules", "([I)I"⟩
abbrev cX10_addSaying : ByteArray := prog_12_method_9_code
def yX10_addSaying : MethodName := ⟨RX10, "addSaying", "([LHadItFrom$Row;I)I"⟩
abbrev cX10_numbersOf : ByteArray := prog_12_method_10_code
def yX10_numbersOf : MethodName := ⟨RX10, "numbersOf", "(I)[I"⟩
abbrev cX10_numbersInForce : ByteArray := prog_12_method_11_code
def yX10_numbersInForce : MethodName := ⟨RX10, "numbersInForce", "()[I"⟩
abbrev cX10_hears : ByteArray := prog_12_method_12_code
def yX10_hears : MethodName := ⟨RX10, "hears", "(II)Z"⟩
abbrev cX10_hearLinks : ByteArray := prog_12_method_13_code
def yX10_hearLinks : MethodName := ⟨RX10, "hearLinks", "(LHadItFrom$Row;[I)V"⟩
abbrev cX10_failingLink : ByteArray := prog_12_method_14_code
def yX10_failingLink : MethodName := ⟨RX10, "failingLink", "(LHadItFrom$Row;)I"⟩
abbrev cX10_surenessOf : ByteArray := prog_12_method_15_code
def yX10_surenessOf : MethodName := ⟨RX10, "surenessOf", "(LHadItFrom$Row;I[I)I"⟩
abbrev cX10_gradeOf : ByteArray := prog_12_method_16_code
def yX10_gradeOf : MethodName := ⟨RX10, "gradeOf", "(LHadItFrom$Row;[I)I"⟩
abbrev cX10_lossOfLinks : ByteArray := prog_12_method_17_code
def yX10_lossOfLinks : MethodName := ⟨RX10, "lossOfLinks", "(LHadItFrom$Row;[I)I"⟩
abbrev cX10_gradeRows : ByteArray := prog_12_method_18_code
def yX10_gradeRows : MethodName := ⟨RX10, "gradeRows", "(I[I)I"⟩
abbrev cX10_rowsWith : ByteArray := prog_12_method_19_code
def yX10_rowsWith : MethodName := ⟨RX10, "rowsWith", "(II)I"⟩
abbrev cX10_rowsWorded : ByteArray := prog_12_method_20_code
def yX10_rowsWorded : MethodName := ⟨RX10, "rowsWorded", "(II)I"⟩
abbrev cX10_wordingsOf : ByteArray := prog_12_method_21_code
def yX10_wordingsOf : MethodName := ⟨RX10, "wordingsOf", "(II)I"⟩
abbrev cX10_firstOf : ByteArray := prog_12_method_22_code
def yX10_firstOf : MethodName := ⟨RX10, "firstOf", "(I)I"⟩
abbrev cX10_isClash : ByteArray := prog_12_method_23_code
def yX10_isClash : MethodName := ⟨RX10, "isClash", "(II)Z"⟩
abbrev cX10_turnClash : ByteArray := prog_12_method_24_code
def yX10_turnClash : MethodName := ⟨RX10, "turnClash", "(II)V"⟩
abbrev cX10_endsClashes : ByteArray := prog_12_method_25_code
def yX10_endsClashes : MethodName := ⟨RX10, "endsClashes", "(I)Z"⟩
abbrev cX10_likeness : ByteArray := prog_12_method_26_code
def yX10_likeness : MethodName := ⟨RX10, "likeness", "(LHadItFrom$Row;LHadItFrom$Row;)I"⟩
abbrev cX10_toldOf : ByteArray := prog_12_method_27_code
def yX10_toldOf : MethodName := ⟨RX10, "toldOf", "(I)I"⟩
abbrev cX10_rowsInAll : ByteArray := prog_12_method_28_code
def yX10_rowsInAll : MethodName := ⟨RX10, "rowsInAll", "()I"⟩
abbrev cX10_clashesInAll : ByteArray := prog_12_method_29_code
def yX10_clashesInAll : MethodName := ⟨RX10, "clashesInAll", "()I"⟩
def RX11 : String := "HadItFrom"
def TX11 : u_T := fun k => match k with
  | 0 => ("HadItFrom", "elements", "[[J", true)
  | 1 => ("HadItFrom", "sizes", "[I", true)
  | 2 => ("HadItFrom", "held", "[I", true)
  | 3 => ("HadItFrom", "now", "LHadItFrom$World;", true)
  | 4 => ("HadItFrom", "kept", "LHadItFrom$World;", true)
  | 5 => ("HadItFrom", "isKept", "Z", false)
  | 6 => ("HadItFrom", "text", "LHadItFrom$Text;", true)
  | 7 => ("HadItFrom", "faultPlace", "I", false)
  | 8 => ("HadItFrom", "readNumbers", "[I", true)
  | 9 => ("HadItFrom", "readRows", "[LHadItFrom$Row;", true)
  | 10 => ("HadItFrom", "net", "LHadItFrom$Net;", true)
  | 11 => ("HadItFrom", "weights", "[I", true)
  | 12 => ("HadItFrom", "ran", "[I", true)
  | _ => ("HadItFrom", "refusals", "[I", true)
def tyX11 : Nat → FieldType := fun k => match k with
  | 0 => .array (.array .long)
  | 1 => .array .int
  | 2 => .array .int
  | 3 => .object "HadItFrom$World"
  | 4 => .object "HadItFrom$World"
  | 5 => .boolean
  | 6 => .object "HadItFrom$Text"
  | 7 => .int
  | 8 => .array .int
  | 9 => .array (.object "HadItFrom$Row")
  | 10 => .object "HadItFrom$Net"
  | 11 => .array .int
  | 12 => .array .int
  | _ => .array .int
abbrev wsX110 : List Cond := u_ws RX11 TX11 14
theorem nmX11 : ∀ a, a < 14 → ∀ b, b < 14 → a ≠ b → (TX11 a).2.1 ≠ (TX11 b).2.1 := by decide +kernel
theorem tyX11_ok : ∀ k, k < 14 → parseFieldDescriptor (TX11 k).2.2.1 = some (tyX11 k) := by decide +kernel
abbrev cX11_init : ByteArray := prog_1_method_1_code
def yX11_init : MethodName := ⟨RX11, "<init>", "()V"⟩
abbrev cX11_row : ByteArray := prog_1_method_2_code
def yX11_row : MethodName := ⟨RX11, "row", "(III)I"⟩
abbrev cX11_set : ByteArray := prog_1_method_3_code
def yX11_set : MethodName := ⟨RX11, "set", "(IIJ)I"⟩
abbrev cX11_copy : ByteArray := prog_1_method_4_code
def yX11_copy : MethodName := ⟨RX11, "copy", "(IIIII)I"⟩
abbrev cX11_element : ByteArray := prog_1_method_5_code
def yX11_element : MethodName := ⟨RX11, "element", "(II)J"⟩
abbrev cX11_show : ByteArray := prog_1_method_6_code
def yX11_show : MethodName := ⟨RX11, "show", "(III)I"⟩
abbrev cX11_holds : ByteArray := prog_1_method_7_code
def yX11_holds : MethodName := ⟨RX11, "holds", "(I)I"⟩
abbrev cX11_says : ByteArray := prog_1_method_8_code
def yX11_says : MethodName := ⟨RX11, "says", "(II)I"⟩
abbrev cX11_man : ByteArray := prog_1_method_9_code
def yX11_man : MethodName := ⟨RX11, "man", "(IIIII)I"⟩
abbrev cX11_men : ByteArray := prog_1_method_10_code
def yX11_men : MethodName := ⟨RX11, "men", "(III)I"⟩
abbrev cX11_journey : ByteArray := prog_1_method_11_code
def yX11_journey : MethodName := ⟨RX11, "journey", "(IIII)I"⟩
abbrev cX11_found : ByteArray := prog_1_method_12_code
def yX11_found : MethodName := ⟨RX11, "found", "(III)I"⟩
abbrev cX11_mark : ByteArray := prog_1_method_13_code
def yX11_mark : MethodName := ⟨RX11, "mark", "(III)I"⟩
abbrev cX11_manOf : ByteArray := prog_1_method_14_code
def yX11_manOf : MethodName := ⟨RX11, "manOf", "(II)I"⟩
abbrev cX11_where : ByteArray := prog_1_method_15_code
def yX11_where : MethodName := ⟨RX11, "where", "(II)I"⟩
abbrev cX11_rules : ByteArray := prog_1_method_16_code
def yX11_rules : MethodName := ⟨RX11, "rules", "(I)I"⟩
abbrev cX11_fault : ByteArray := prog_1_method_17_code
def yX11_fault : MethodName := ⟨RX11, "fault", "()I"⟩
abbrev cX11_rule : ByteArray := prog_1_method_18_code
def yX11_rule : MethodName := ⟨RX11, "rule", "(II)I"⟩
abbrev cX11_force : ByteArray := prog_1_method_19_code
def yX11_force : MethodName := ⟨RX11, "force", "(I)I"⟩
abbrev cX11_book : ByteArray := prog_1_method_20_code
def yX11_book : MethodName := ⟨RX11, "book", "(I)I"⟩
abbrev cX11_rows : ByteArray := prog_1_method_21_code
def yX11_rows : MethodName := ⟨RX11, "rows", "(I)I"⟩
abbrev cX11_rowOf : ByteArray := prog_1_method_22_code
def yX11_rowOf : MethodName := ⟨RX11, "rowOf", "(III)I"⟩
abbrev cX11_could : ByteArray := prog_1_method_23_code
def yX11_could : MethodName := ⟨RX11, "could", "(II)I"⟩
abbrev cX11_when : ByteArray := prog_1_method_24_code
def yX11_when : MethodName := ⟨RX11, "when", "(II)I"⟩
abbrev cX11_fails : ByteArray := prog_1_method_25_code
def yX11_fails : MethodName := ⟨RX11, "fails", "(II)I"⟩
abbrev cX11_strength : ByteArray := prog_1_method_26_code
def yX11_strength : MethodName := ⟨RX11, "strength", "(II)I"⟩
abbrev cX11_stands : ByteArray := prog_1_method_27_code
def yX11_stands : MethodName := ⟨RX11, "stands", "(II)I"⟩
abbrev cX11_sureness : ByteArray := prog_1_method_28_code
def yX11_sureness : MethodName := ⟨RX11, "sureness", "(III)I"⟩
abbrev cX11_judge : ByteArray := prog_1_method_29_code
def yX11_judge : MethodName := ⟨RX11, "judge", "(II)I"⟩
abbrev cX11_apart : ByteArray := prog_1_method_30_code
def yX11_apart : MethodName := ⟨RX11, "apart", "(I)I"⟩
abbrev cX11_cut : ByteArray := prog_1_method_31_code
def yX11_cut : MethodName := ⟨RX11, "cut", "(I)I"⟩
abbrev cX11_knots : ByteArray := prog_1_method_32_code
def yX11_knots : MethodName := ⟨RX11, "knots", "(I)I"⟩
abbrev cX11_alone : ByteArray := prog_1_method_33_code
def yX11_alone : MethodName := ⟨RX11, "alone", "(I)I"⟩
abbrev cX11_agree : ByteArray := prog_1_method_34_code
def yX11_agree : MethodName := ⟨RX11, "agree", "(I)I"⟩
abbrev cX11_weight : ByteArray := prog_1_method_35_code
def yX11_weight : MethodName := ⟨RX11, "weight", "(I)I"⟩
abbrev cX11_wordings : ByteArray := prog_1_method_36_code
def yX11_wordings : MethodName := ⟨RX11, "wordings", "(I)I"⟩
abbrev cX11_mouths : ByteArray := prog_1_method_37_code
def yX11_mouths : MethodName := ⟨RX11, "mouths", "(I)I"⟩
abbrev cX11_clash : ByteArray := prog_1_method_38_code
def yX11_clash : MethodName := ⟨RX11, "clash", "(IIZ)I"⟩
abbrev cX11_doubt : ByteArray := prog_1_method_39_code
def yX11_doubt : MethodName := ⟨RX11, "doubt", "(I)I"⟩
abbrev cX11_like : ByteArray := prog_1_method_40_code
def yX11_like : MethodName := ⟨RX11, "like", "(II)I"⟩
abbrev cX11_between : ByteArray := prog_1_method_41_code
def yX11_between : MethodName := ⟨RX11, "between", "(II)I"⟩
abbrev cX11_silent : ByteArray := prog_1_method_42_code
def yX11_silent : MethodName := ⟨RX11, "silent", "(I)I"⟩
abbrev cX11_beside : ByteArray := prog_1_method_43_code
def yX11_beside : MethodName := ⟨RX11, "beside", "(II)I"⟩
abbrev cX11_act : ByteArray := prog_1_method_44_code
def yX11_act : MethodName := ⟨RX11, "act", "(IIII)I"⟩
abbrev cX11_trace : ByteArray := prog_1_method_45_code
def yX11_trace : MethodName := ⟨RX11, "trace", "(I)I"⟩
abbrev cX11_image : ByteArray := prog_1_method_46_code
def yX11_image : MethodName := ⟨RX11, "image", "()I"⟩
abbrev cX11_restore : ByteArray := prog_1_method_47_code
def yX11_restore : MethodName := ⟨RX11, "restore", "()I"⟩
abbrev cX11_status : ByteArray := prog_1_method_48_code
def yX11_status : MethodName := ⟨RX11, "status", "(I)I"⟩
abbrev cX11_refuse : ByteArray := prog_1_method_49_code
def yX11_refuse : MethodName := ⟨RX11, "refuse", "(I)I"⟩
abbrev cX11_refuseBelowTen : ByteArray := prog_1_method_50_code
def yX11_refuseBelowTen : MethodName := ⟨RX11, "refuseBelowTen", "(I)I"⟩
abbrev cX11_refusalOfNumbers : ByteArray := prog_1_method_51_code
def yX11_refusalOfNumbers : MethodName := ⟨RX11, "refusalOfNumbers", "(I)I"⟩
abbrev cX11_refusalOfCopy : ByteArray := prog_1_method_52_code
def yX11_refusalOfCopy : MethodName := ⟨RX11, "refusalOfCopy", "(II)I"⟩
abbrev cX11_refusalOfTwoMen : ByteArray := prog_1_method_53_code
def yX11_refusalOfTwoMen : MethodName := ⟨RX11, "refusalOfTwoMen", "(II)I"⟩
abbrev cX11_isShelf : ByteArray := prog_1_method_54_code
def yX11_isShelf : MethodName := ⟨RX11, "isShelf", "(I)Z"⟩
abbrev cX11_holdsMen : ByteArray := prog_1_method_55_code
def yX11_holdsMen : MethodName := ⟨RX11, "holdsMen", "(I)Z"⟩
abbrev cX11_hasElements : ByteArray := prog_1_method_56_code
def yX11_hasElements : MethodName := ⟨RX11, "hasElements", "(III)Z"⟩
abbrev cX11_isLife : ByteArray := prog_1_method_57_code
def yX11_isLife : MethodName := ⟨RX11, "isLife", "(II)Z"⟩
abbrev cX11_isPlace : ByteArray := prog_1_method_58_code
def yX11_isPlace : MethodName := ⟨RX11, "isPlace", "(I)Z"⟩
abbrev cX11_isMark : ByteArray := prog_1_method_59_code
def yX11_isMark : MethodName := ⟨RX11, "isMark", "(II)Z"⟩
abbrev cX11_lowestBits : ByteArray := prog_1_method_60_code
def yX11_lowestBits : MethodName := ⟨RX11, "lowestBits", "(IJ)J"⟩
abbrev cX11_menCome : ByteArray := prog_1_method_61_code
def yX11_menCome : MethodName := ⟨RX11, "menCome", "([JII)I"⟩
abbrev cX11_layNet : ByteArray := prog_1_method_62_code
def yX11_layNet : MethodName := ⟨RX11, "layNet", "(I)V"⟩
abbrev cX11_weightOf : ByteArray := prog_1_method_63_code
def yX11_weightOf : MethodName := ⟨RX11, "weightOf", "(I)I"⟩
abbrev cX11_weightOfSet : ByteArray := prog_1_method_64_code
def yX11_weightOfSet : MethodName := ⟨RX11, "weightOfSet", "(I)I"⟩
abbrev cX11_isMouth : ByteArray := prog_1_method_65_code
def yX11_isMouth : MethodName := ⟨RX11, "isMouth", "(III)Z"⟩
def RX12 : String := "HadItFromModel"
def TX12 : u_T := fun k => match k with
  | 0 => ("HadItFromModel", "men", "I", false)
  | 1 => ("HadItFromModel", "rules", "I", false)
  | 2 => ("HadItFromModel", "sayings", "I", false)
  | 3 => ("HadItFromModel", "force", "I", false)
  | 4 => ("HadItFromModel", "fault", "I", false)
  | 5 => ("HadItFromModel", "refused", "[I", true)
  | 6 => ("HadItFromModel", "born", "[I", true)
  | 7 => ("HadItFromModel", "died", "[I", true)
  | 8 => ("HadItFromModel", "home", "[I", true)
  | 9 => ("HadItFromModel", "mark", "[I", true)
  | 10 => ("HadItFromModel", "late", "[I", true)
  | 11 => ("HadItFromModel", "trips", "[I", true)
  | 12 => ("HadItFromModel", "tripTo", "[I", true)
  | 13 => ("HadItFromModel", "tripFrom", "[I", true)
  | 14 => ("HadItFromModel", "tripTill", "[I", true)
  | 15 => ("HadItFromModel", "first", "[I", true)
  | 16 => ("HadItFromModel", "told", "[I", true)
  | 17 => ("HadItFromModel", "rowN", "[I", true)
  | 18 => ("HadItFromModel", "kind", "[I", true)
  | 19 => ("HadItFromModel", "size", "[I", true)
  | 20 => ("HadItFromModel", "wording", "[I", true)
  | 21 => ("HadItFromModel", "who", "[I", true)
  | 22 => ("HadItFromModel", "link", "[I", true)
  | 23 => ("HadItFromModel", "clash", "[I", true)
  | 24 => ("HadItFromModel", "held", "[I", true)
  | 25 => ("HadItFromModel", "sort", "[I", true)
  | 26 => ("HadItFromModel", "length", "[I", true)
  | 27 => ("HadItFromModel", "shown", "[I", true)
  | 28 => ("HadItFromModel", "cells", "[J", true)
  | 29 => ("HadItFromModel", "carried", "[J", true)
  | 30 => ("HadItFromModel", "words", "[I", true)
  | 31 => ("HadItFromModel", "tell", "[I", true)
  | 32 => ("HadItFromModel", "tKind", "[I", true)
  | 33 => ("HadItFromModel", "tSize", "[I", true)
  | 34 => ("HadItFromModel", "tWording", "[I", true)
  | 35 => ("HadItFromModel", "tWho", "[I", true)
  | 36 => ("HadItFromModel", "tLink", "[I", true)
  | 37 => ("HadItFromModel", "base", "I", false)
  | 38 => ("HadItFromModel", "at", "I", false)
  | 39 => ("HadItFromModel", "end", "I", false)
  | 40 => ("HadItFromModel", "number", "I", false)
  | 41 => ("HadItFromModel", "wrongAt", "I", false)
  | 42 => ("HadItFromModel", "tRows", "I", false)
  | 43 => ("HadItFromModel", "by", "I", false)
  | 44 => ("HadItFromModel", "room", "[I", true)
  | 45 => ("HadItFromModel", "capacity", "[I", true)
  | 46 => ("HadItFromModel", "begins", "[I", true)
  | 47 => ("HadItFromModel", "goesOn", "[I", true)
  | 48 => ("HadItFromModel", "seen", "[I", true)
  | 49 => ("HadItFromModel", "line", "[I", true)
  | 50 => ("HadItFromModel", "firstMan", "I", false)
  | 51 => ("HadItFromModel", "netMen", "I", false)
  | 52 => ("HadItFromModel", "weights", "[I", true)
  | 53 => ("HadItFromModel", "trace", "[I", true)
  | 54 => ("HadItFromModel", "ran", "I", false)
  | 55 => ("HadItFromModel", "iSayings", "I", false)
  | 56 => ("HadItFromModel", "iMen", "I", false)
  | 57 => ("HadItFromModel", "iRules", "I", false)
  | 58 => ("HadItFromModel", "iForce", "I", false)
  | _ => ("HadItFromModel", "kept", "[I", true)
def tyX12 : Nat → FieldType := fun k => match k with
  | 0 => .int
  | 1 => .int
  | 2 => .int
  | 3 => .int
  | 4 => .int
  | 5 => .array .int
  | 6 => .array .int
  | 7 => .array .int
  | 8 => .array .int
  | 9 => .array .int
  | 10 => .array .int
  | 11 => .array .int
  | 12 => .array .int
  | 13 => .array .int
  | 14 => .array .int
  | 15 => .array .int
  | 16 => .array .int
  | 17 => .array .int
  | 18 => .array .int
  | 19 => .array .int
  | 20 => .array .int
  | 21 => .array .int
  | 22 => .array .int
  | 23 => .array .int
  | 24 => .array .int
  | 25 => .array .int
  | 26 => .array .int
  | 27 => .array .int
  | 28 => .array .long
  | 29 => .array .long
  | 30 => .array .int
  | 31 => .array .int
  | 32 => .array .int
  | 33 => .array .int
  | 34 => .array .int
  | 35 => .array .int
  | 36 => .array .int
  | 37 => .int
  | 38 => .int
  | 39 => .int
  | 40 => .int
  | 41 => .int
  | 42 => .int
  | 43 => .int
  | 44 => .array .int
  | 45 => .array .int
  | 46 => .array .int
  | 47 => .array .int
  | 48 => .array .int
  | 49 => .array .int
  | 50 => .int
  | 51 => .int
  | 52 => .array .int
  | 53 => .array .int
  | 54 => .int
  | 55 => .int
  | 56 => .int
  | 57 => .int
  | 58 => .int
  | _ => .array .int
abbrev wsX120 : List Cond := u_ws RX12 TX12 60
theorem nmX12 : ∀ a, a < 60 → ∀ b, b < 60 → a ≠ b → (TX12 a).2.1 ≠ (TX12 b).2.1 := by decide +kernel
theorem tyX12_ok : ∀ k, k < 60 → parseFieldDescriptor (TX12 k).2.2.1 = some (tyX12 k) := by decide +kernel
abbrev cX12_init : ByteArray := prog_14_method_1_code
def yX12_init : MethodName := ⟨RX12, "<init>", "()V"⟩
abbrev cX12_no : ByteArray := prog_14_method_2_code
def yX12_no : MethodName := ⟨RX12, "no", "(I)I"⟩
abbrev cX12_noTen : ByteArray := prog_14_method_3_code
def yX12_noTen : MethodName := ⟨RX12, "noTen", "(I)I"⟩
abbrev cX12_isShelf : ByteArray := prog_14_method_4_code
def yX12_isShelf : MethodName := ⟨RX12, "isShelf", "(I)Z"⟩
abbrev cX12_isMan : ByteArray := prog_14_method_5_code
def yX12_isMan : MethodName := ⟨RX12, "isMan", "(I)Z"⟩
abbrev cX12_isYear : ByteArray := prog_14_method_6_code
def yX12_isYear : MethodName := ⟨RX12, "isYear", "(I)Z"⟩
abbrev cX12_isSaying : ByteArray := prog_14_method_7_code
def yX12_isSaying : MethodName := ⟨RX12, "isSaying", "(I)Z"⟩
abbrev cX12_isRow : ByteArray := prog_14_method_8_code
def yX12_isRow : MethodName := ⟨RX12, "isRow", "(II)Z"⟩
abbrev cX12_many : ByteArray := prog_14_method_9_code
def yX12_many : MethodName := ⟨RX12, "many", "(I)I"⟩
abbrev cX12_row : ByteArray := prog_14_method_10_code
def yX12_row : MethodName := ⟨RX12, "row", "(III)I"⟩
abbrev cX12_set : ByteArray := prog_14_method_11_code
def yX12_set : MethodName := ⟨RX12, "set", "(IIJ)I"⟩
abbrev cX12_copy : ByteArray := prog_14_method_12_code
def yX12_copy : MethodName := ⟨RX12, "copy", "(IIIII)I"⟩
abbrev cX12_element : ByteArray := prog_14_method_13_code
def yX12_element : MethodName := ⟨RX12, "element", "(II)J"⟩
abbrev cX12_show : ByteArray := prog_14_method_14_code
def yX12_show : MethodName := ⟨RX12, "show", "(III)I"⟩
abbrev cX12_holds : ByteArray := prog_14_method_15_code
def yX12_holds : MethodName := ⟨RX12, "holds", "(I)I"⟩
abbrev cX12_says : ByteArray := prog_14_method_16_code
def yX12_says : MethodName := ⟨RX12, "says", "(II)I"⟩
abbrev cX12_wants : ByteArray := prog_14_method_17_code
def yX12_wants : MethodName := ⟨RX12, "wants", "(I)I"⟩
abbrev cX12_intAt : ByteArray := prog_14_method_18_code
def yX12_intAt : MethodName := ⟨RX12, "intAt", "(II)I"⟩
abbrev cX12_isLife : ByteArray := prog_14_method_19_code
def yX12_isLife : MethodName := ⟨RX12, "isLife", "(II)Z"⟩
abbrev cX12_isMark : ByteArray := prog_14_method_20_code
def yX12_isMark : MethodName := ⟨RX12, "isMark", "(II)Z"⟩
abbrev cX12_isPlace : ByteArray := prog_14_method_21_code
def yX12_isPlace : MethodName := ⟨RX12, "isPlace", "(I)Z"⟩
abbrev cX12_comes : ByteArray := prog_14_method_22_code
def yX12_comes : MethodName := ⟨RX12, "comes", "(IIIII)V"⟩
abbrev cX12_man : ByteArray := prog_14_method_23_code
def yX12_man : MethodName := ⟨RX12, "man", "(IIIII)I"⟩
abbrev cX12_men : ByteArray := prog_14_method_24_code
def yX12_men : MethodName := ⟨RX12, "men", "(III)I"⟩
abbrev cX12_journey : ByteArray := prog_14_method_25_code
def yX12_journey : MethodName := ⟨RX12, "journey", "(IIII)I"⟩
abbrev cX12_found : ByteArray := prog_14_method_26_code
def yX12_found : MethodName := ⟨RX12, "found", "(III)I"⟩
abbrev cX12_mark : ByteArray := prog_14_method_27_code
def yX12_mark : MethodName := ⟨RX12, "mark", "(III)I"⟩
abbrev cX12_manOf : ByteArray := prog_14_method_28_code
def yX12_manOf : MethodName := ⟨RX12, "manOf", "(II)I"⟩
abbrev cX12_whereIs : ByteArray := prog_14_method_29_code
def yX12_whereIs : MethodName := ⟨RX12, "whereIs", "(II)I"⟩
abbrev cX12_where : ByteArray := prog_14_method_30_code
def yX12_where : MethodName := ⟨RX12, "where", "(II)I"⟩
abbrev cX12_letter : ByteArray := prog_14_method_31_code
def yX12_letter : MethodName := ⟨RX12, "letter", "()I"⟩
abbrev cX12_wrong : ByteArray := prog_14_method_32_code
def yX12_wrong : MethodName := ⟨RX12, "wrong", "(I)Z"⟩
abbrev cX12_word : ByteArray := prog_14_method_33_code
def yX12_word : MethodName := ⟨RX12, "word", "(II)I"⟩
abbrev cX12_isDigit : ByteArray := prog_14_method_34_code
def yX12_isDigit : MethodName := ⟨RX12, "isDigit", "()Z"⟩
abbrev cX12_digits : ByteArray := prog_14_method_35_code
def yX12_digits : MethodName := ⟨RX12, "digits", "(I)Z"⟩
abbrev cX12_most : ByteArray := prog_14_method_36_code
def yX12_most : MethodName := ⟨RX12, "most", "(I)I"⟩
abbrev cX12_oneRule : ByteArray := prog_14_method_37_code
def yX12_oneRule : MethodName := ⟨RX12, "oneRule", "()Z"⟩
abbrev cX12_readsRules : ByteArray := prog_14_method_38_code
def yX12_readsRules : MethodName := ⟨RX12, "readsRules", "()Z"⟩
abbrev cX12_manHere : ByteArray := prog_14_method_39_code
def yX12_manHere : MethodName := ⟨RX12, "manHere", "(I)Z"⟩
abbrev cX12_oneRow : ByteArray := prog_14_method_40_code
def yX12_oneRow : MethodName := ⟨RX12, "oneRow", "(I)Z"⟩
abbrev cX12_readsBook : ByteArray := prog_14_method_41_code
def yX12_readsBook : MethodName := ⟨RX12, "readsBook", "()Z"⟩
abbrev cX12_text : ByteArray := prog_14_method_42_code
def yX12_text : MethodName := ⟨RX12, "text", "(IZ)I"⟩
abbrev cX12_rules : ByteArray := prog_14_method_43_code
def yX12_rules : MethodName := ⟨RX12, "rules", "(I)I"⟩
abbrev cX12_fault : ByteArray := prog_14_method_44_code
def yX12_fault : MethodName := ⟨RX12, "fault", "()I"⟩
abbrev cX12_rule : ByteArray := prog_14_method_45_code
def yX12_rule : MethodName := ⟨RX12, "rule", "(II)I"⟩
abbrev cX12_force : ByteArray := prog_14_method_46_code
def yX12_force : MethodName := ⟨RX12, "force", "(I)I"⟩
abbrev cX12_book : ByteArray := prog_14_method_47_code
def yX12_book : MethodName := ⟨RX12, "book", "(I)I"⟩
abbrev cX12_rows : ByteArray := prog_14_method_48_code
def yX12_rows : MethodName := ⟨RX12, "rows", "(I)I"⟩
abbrev cX12_rowOf : ByteArray := prog_14_method_49_code
def yX12_rowOf : MethodName := ⟨RX12, "rowOf", "(III)I"⟩
abbrev cX12_law : ByteArray := prog_14_method_50_code
def yX12_law : MethodName := ⟨RX12, "law", "(I)I"⟩
abbrev cX12_whenCould : ByteArray := prog_14_method_51_code
def yX12_whenCould : MethodName := ⟨RX12, "whenCould", "(II)I"⟩
abbrev cX12_could : ByteArray := prog_14_method_52_code
def yX12_could : MethodName := ⟨RX12, "could", "(II)I"⟩
abbrev cX12_when : ByteArray := prog_14_method_53_code
def yX12_when : MethodName := ⟨RX12, "when", "(II)I"⟩
abbrev cX12_failsAt : ByteArray := prog_14_method_54_code
def yX12_failsAt : MethodName := ⟨RX12, "failsAt", "(I)I"⟩
abbrev cX12_surenessAt : ByteArray := prog_14_method_55_code
def yX12_surenessAt : MethodName := ⟨RX12, "surenessAt", "(II)I"⟩
abbrev cX12_strengthAt : ByteArray := prog_14_method_56_code
def yX12_strengthAt : MethodName := ⟨RX12, "strengthAt", "(I)I"⟩
abbrev cX12_isStanding : ByteArray := prog_14_method_57_code
def yX12_isStanding : MethodName := ⟨RX12, "isStanding", "(I)Z"⟩
abbrev cX12_fails : ByteArray := prog_14_method_58_code
def yX12_fails : MethodName := ⟨RX12, "fails", "(II)I"⟩
abbrev cX12_strength : ByteArray := prog_14_method_59_code
def yX12_strength : MethodName := ⟨RX12, "strength", "(II)I"⟩
abbrev cX12_stands : ByteArray := prog_14_method_60_code
def yX12_stands : MethodName := ⟨RX12, "stands", "(II)I"⟩
abbrev cX12_sureness : ByteArray := prog_14_method_61_code
def yX12_sureness : MethodName := ⟨RX12, "sureness", "(III)I"⟩
abbrev cX12_judge : ByteArray := prog_14_method_62_code
def yX12_judge : MethodName := ⟨RX12, "judge", "(II)I"⟩
abbrev cX12_net : ByteArray := prog_14_method_63_code
def yX12_net : MethodName := ⟨RX12, "net", "(I)V"⟩
abbrev cX12_flow : ByteArray := prog_14_method_64_code
def yX12_flow : MethodName := ⟨RX12, "flow", "(I)I"⟩
abbrev cX12_fills : ByteArray := prog_14_method_65_code
def yX12_fills : MethodName := ⟨RX12, "fills", "()Z"⟩
abbrev cX12_ones : ByteArray := prog_14_method_66_code
def yX12_ones : MethodName := ⟨RX12, "ones", "()V"⟩
abbrev cX12_apartOf : ByteArray := prog_14_method_67_code
def yX12_apartOf : MethodName := ⟨RX12, "apartOf", "(I)I"⟩
abbrev cX12_knotsOf : ByteArray := prog_14_method_68_code
def yX12_knotsOf : MethodName := ⟨RX12, "knotsOf", "(I)I"⟩
abbrev cX12_apart : ByteArray := prog_14_method_69_code
def yX12_apart : MethodName := ⟨RX12, "apart", "(I)I"⟩
abbrev cX12_cut : ByteArray := prog_14_method_70_code
def yX12_cut : MethodName := ⟨RX12, "cut", "(I)I"⟩
abbrev cX12_knots : ByteArray := prog_14_method_71_code
def yX12_knots : MethodName := ⟨RX12, "knots", "(I)I"⟩
abbrev cX12_alone : ByteArray := prog_14_method_72_code
def yX12_alone : MethodName := ⟨RX12, "alone", "(I)I"⟩
abbrev cX12_menOf : ByteArray := prog_14_method_73_code
def yX12_menOf : MethodName := ⟨RX12, "menOf", "(I)I"⟩
abbrev cX12_agree : ByteArray := prog_14_method_74_code
def yX12_agree : MethodName := ⟨RX12, "agree", "(I)I"⟩
abbrev cX12_weightOf : ByteArray := prog_14_method_75_code
def yX12_weightOf : MethodName := ⟨RX12, "weightOf", "(I)I"⟩
abbrev cX12_weight : ByteArray := prog_14_method_76_code
def yX12_weight : MethodName := ⟨RX12, "weight", "(I)I"⟩
abbrev cX12_wordingsOf : ByteArray := prog_14_method_77_code
def yX12_wordingsOf : MethodName := ⟨RX12, "wordingsOf", "(I)I"⟩
abbrev cX12_wordings : ByteArray := prog_14_method_78_code
def yX12_wordings : MethodName := ⟨RX12, "wordings", "(I)I"⟩
abbrev cX12_mouths : ByteArray := prog_14_method_79_code
def yX12_mouths : MethodName := ⟨RX12, "mouths", "(I)I"⟩
abbrev cX12_clash : ByteArray := prog_14_method_80_code
def yX12_clash : MethodName := ⟨RX12, "clash", "(IIZ)I"⟩
abbrev cX12_doubt : ByteArray := prog_14_method_81_code
def yX12_doubt : MethodName := ⟨RX12, "doubt", "(I)I"⟩
abbrev cX12_isMore : ByteArray := prog_14_method_82_code
def yX12_isMore : MethodName := ⟨RX12, "isMore", "(II)Z"⟩
abbrev cX12_isBetter : ByteArray := prog_14_method_83_code
def yX12_isBetter : MethodName := ⟨RX12, "isBetter", "(II)Z"⟩
abbrev cX12_like : ByteArray := prog_14_method_84_code
def yX12_like : MethodName := ⟨RX12, "like", "(II)I"⟩
abbrev cX12_between : ByteArray := prog_14_method_85_code
def yX12_between : MethodName := ⟨RX12, "between", "(II)I"⟩
abbrev cX12_silent : ByteArray := prog_14_method_86_code
def yX12_silent : MethodName := ⟨RX12, "silent", "(I)I"⟩
abbrev cX12_standing : ByteArray := prog_14_method_87_code
def yX12_standing : MethodName := ⟨RX12, "standing", "(I)I"⟩
abbrev cX12_beside : ByteArray := prog_14_method_88_code
def yX12_beside : MethodName := ⟨RX12, "beside", "(II)I"⟩
abbrev cX12_body : ByteArray := prog_14_method_89_code
def yX12_body : MethodName := ⟨RX12, "body", "(I)V"⟩
abbrev cX12_links : ByteArray := prog_14_method_90_code
def yX12_links : MethodName := ⟨RX12, "links", "(II)I"⟩
abbrev cX12_holding : ByteArray := prog_14_method_91_code
def yX12_holding : MethodName := ⟨RX12, "holding", "(II)I"⟩
abbrev cX12_weighs : ByteArray := prog_14_method_92_code
def yX12_weighs : MethodName := ⟨RX12, "weighs", "(II)I"⟩
abbrev cX12_act : ByteArray := prog_14_method_93_code
def yX12_act : MethodName := ⟨RX12, "act", "(IIII)I"⟩
abbrev cX12_trace : ByteArray := prog_14_method_94_code
def yX12_trace : MethodName := ⟨RX12, "trace", "(I)I"⟩
abbrev cX12_keeps : ByteArray := prog_14_method_95_code
def yX12_keeps : MethodName := ⟨RX12, "keeps", "([IIIZ)I"⟩
abbrev cX12_all : ByteArray := prog_14_method_96_code
def yX12_all : MethodName := ⟨RX12, "all", "(Z)V"⟩
abbrev cX12_image : ByteArray := prog_14_method_97_code
def yX12_image : MethodName := ⟨RX12, "image", "()I"⟩
abbrev cX12_restore : ByteArray := prog_14_method_98_code
def yX12_restore : MethodName := ⟨RX12, "restore", "()I"⟩
abbrev cX12_status : ByteArray := prog_14_method_99_code
def yX12_status : MethodName := ⟨RX12, "status", "(I)I"⟩
def RJx145de : String := "java/io/Serializable"
def TJx145de : u_T := fun k => match k with
  | _ => ("", "", "", false)
def tyJx145de : Nat → FieldType := fun k => match k with
  | _ => .int
abbrev wsJx145de0 : List Cond := u_ws RJx145de TJx145de 0
theorem nmJx145de : ∀ a, a < 0 → ∀ b, b < 0 → a ≠ b → (TJx145de a).2.1 ≠ (TJx145de b).2.1 := by decide +kernel
theorem tyJx145de_ok : ∀ k, k < 0 → parseFieldDescriptor (TJx145de k).2.2.1 = some (tyJx145de k) := by decide +kernel
def RJx9f9b0 : String := "java/lang/CharSequence"
def TJx9f9b0 : u_T := fun k => match k with
  | _ => ("", "", "", false)
def tyJx9f9b0 : Nat → FieldType := fun k => match k with
  | _ => .int
abbrev wsJx9f9b00 : List Cond := u_ws RJx9f9b0 TJx9f9b0 0
theorem nmJx9f9b0 : ∀ a, a < 0 → ∀ b, b < 0 → a ≠ b → (TJx9f9b0 a).2.1 ≠ (TJx9f9b0 b).2.1 := by decide +kernel
theorem tyJx9f9b0_ok : ∀ k, k < 0 → parseFieldDescriptor (TJx9f9b0 k).2.2.1 = some (tyJx9f9b0 k) := by decide +kernel
def RJx8e188 : String := "java/lang/Cloneable"
def TJx8e188 : u_T := fun k => match k with
  | _ => ("", "", "", false)
def tyJx8e188 : Nat → FieldType := fun k => match k with
  | _ => .int
abbrev wsJx8e1880 : List Cond := u_ws RJx8e188 TJx8e188 0
theorem nmJx8e188 : ∀ a, a < 0 → ∀ b, b < 0 → a ≠ b → (TJx8e188 a).2.1 ≠ (TJx8e188 b).2.1 := by decide +kernel
theorem tyJx8e188_ok : ∀ k, k < 0 → parseFieldDescriptor (TJx8e188 k).2.2.1 = some (tyJx8e188 k) := by decide +kernel
def RJxb160c : String := "java/lang/Comparable"
def TJxb160c : u_T := fun k => match k with
  | _ => ("", "", "", false)
def tyJxb160c : Nat → FieldType := fun k => match k with
  | _ => .int
abbrev wsJxb160c0 : List Cond := u_ws RJxb160c TJxb160c 0
theorem nmJxb160c : ∀ a, a < 0 → ∀ b, b < 0 → a ≠ b → (TJxb160c a).2.1 ≠ (TJxb160c b).2.1 := by decide +kernel
theorem tyJxb160c_ok : ∀ k, k < 0 → parseFieldDescriptor (TJxb160c k).2.2.1 = some (tyJxb160c k) := by decide +kernel
def RJ6 : String := "java/lang/Integer"
def TJ6 : u_T := fun k => match k with
  | _ => ("", "", "", false)
def tyJ6 : Nat → FieldType := fun k => match k with
  | _ => .int
abbrev wsJ60 : List Cond := u_ws RJ6 TJ6 0
theorem nmJ6 : ∀ a, a < 0 → ∀ b, b < 0 → a ≠ b → (TJ6 a).2.1 ≠ (TJ6 b).2.1 := by decide +kernel
theorem tyJ6_ok : ∀ k, k < 0 → parseFieldDescriptor (TJ6 k).2.2.1 = some (tyJ6 k) := by decide +kernel
abbrev cJ6_bitCount_0f7a4 : ByteArray := prog_16_method_49_code
def yJ6_bitCount_0f7a4 : MethodName := ⟨RJ6, "bitCount", "(I)I"⟩
def RJ13 : String := "java/lang/Long"
def TJ13 : u_T := fun k => match k with
  | _ => ("", "", "", false)
def tyJ13 : Nat → FieldType := fun k => match k with
  | _ => .int
abbrev wsJ130 : List Cond := u_ws RJ13 TJ13 0
theorem nmJ13 : ∀ a, a < 0 → ∀ b, b < 0 → a ≠ b → (TJ13 a).2.1 ≠ (TJ13 b).2.1 := by decide +kernel
theorem tyJ13_ok : ∀ k, k < 0 → parseFieldDescriptor (TJ13 k).2.2.1 = some (tyJ13 k) := by decide +kernel
abbrev cJ13_bitCount_95d88 : ByteArray := prog_17_method_50_code
def yJ13_bitCount_95d88 : MethodName := ⟨RJ13, "bitCount", "(J)I"⟩
def RJ9 : String := "java/lang/Math"
def TJ9 : u_T := fun k => match k with
  | _ => ("", "", "", false)
def tyJ9 : Nat → FieldType := fun k => match k with
  | _ => .int
abbrev wsJ90 : List Cond := u_ws RJ9 TJ9 0
theorem nmJ9 : ∀ a, a < 0 → ∀ b, b < 0 → a ≠ b → (TJ9 a).2.1 ≠ (TJ9 b).2.1 := by decide +kernel
theorem tyJ9_ok : ∀ k, k < 0 → parseFieldDescriptor (TJ9 k).2.2.1 = some (tyJ9 k) := by decide +kernel
abbrev cJ9_max_7cf53 : ByteArray := prog_18_method_65_code
def yJ9_max_7cf53 : MethodName := ⟨RJ9, "max", "(II)I"⟩
abbrev cJ9_min_7cf53 : ByteArray := prog_18_method_69_code
def yJ9_min_7cf53 : MethodName := ⟨RJ9, "min", "(II)I"⟩
def RJ0 : String := "java/lang/String"
def TJ0 : u_T := fun k => match k with
  | _ => ("", "", "", false)
def tyJ0 : Nat → FieldType := fun k => match k with
  | _ => .int
abbrev wsJ00 : List Cond := u_ws RJ0 TJ0 0
theorem nmJ0 : ∀ a, a < 0 → ∀ b, b < 0 → a ≠ b → (TJ0 a).2.1 ≠ (TJ0 b).2.1 := by decide +kernel
theorem tyJ0_ok : ∀ k, k < 0 → parseFieldDescriptor (TJ0 k).2.2.1 = some (tyJ0 k) := by decide +kernel
abbrev cJ0_length_8abf5 : ByteArray := prog_19_method_54_code
def yJ0_length_8abf5 : MethodName := ⟨RJ0, "length", "()I"⟩
abbrev cJ0_charAt_5068e : ByteArray := prog_19_method_56_code
def yJ0_charAt_5068e : MethodName := ⟨RJ0, "charAt", "(I)C"⟩
abbrev cJ0_coder_7d493 : ByteArray := prog_19_method_152_code
def yJ0_coder_7d493 : MethodName := ⟨RJ0, "coder", "()B"⟩
abbrev cJ0_isLatin1_aae02 : ByteArray := prog_19_method_154_code
def yJ0_isLatin1_aae02 : MethodName := ⟨RJ0, "isLatin1", "()Z"⟩
abbrev cJ0_checkIndex_df160 : ByteArray := prog_19_method_155_code
def yJ0_checkIndex_df160 : MethodName := ⟨RJ0, "checkIndex", "(II)V"⟩
def RJ1 : String := "java/lang/StringLatin1"
def TJ1 : u_T := fun k => match k with
  | _ => ("", "", "", false)
def tyJ1 : Nat → FieldType := fun k => match k with
  | _ => .int
abbrev wsJ10 : List Cond := u_ws RJ1 TJ1 0
theorem nmJ1 : ∀ a, a < 0 → ∀ b, b < 0 → a ≠ b → (TJ1 a).2.1 ≠ (TJ1 b).2.1 := by decide +kernel
theorem tyJ1_ok : ∀ k, k < 0 → parseFieldDescriptor (TJ1 k).2.2.1 = some (tyJ1 k) := by decide +kernel
abbrev cJ1_charAt_3b067 : ByteArray := prog_20_method_2_code
def yJ1_charAt_3b067 : MethodName := ⟨RJ1, "charAt", "([BI)C"⟩
def RJ2 : String := "java/lang/StringUTF16"
def TJ2 : u_T := fun k => match k with
  | _ => ("", "", "", false)
def tyJ2 : Nat → FieldType := fun k => match k with
  | _ => .int
abbrev wsJ20 : List Cond := u_ws RJ2 TJ2 0
theorem nmJ2 : ∀ a, a < 0 → ∀ b, b < 0 → a ≠ b → (TJ2 a).2.1 ≠ (TJ2 b).2.1 := by decide +kernel
theorem tyJ2_ok : ∀ k, k < 0 → parseFieldDescriptor (TJ2 k).2.2.1 = some (tyJ2 k) := by decide +kernel
abbrev cJ2_getChar_3b067 : ByteArray := prog_21_method_5_code
def yJ2_getChar_3b067 : MethodName := ⟨RJ2, "getChar", "([BI)C"⟩
abbrev cJ2_length_9d52b : ByteArray := prog_21_method_6_code
def yJ2_length_9d52b : MethodName := ⟨RJ2, "length", "([B)I"⟩
abbrev cJ2_charAt_3b067 : ByteArray := prog_21_method_83_code
def yJ2_charAt_3b067 : MethodName := ⟨RJ2, "charAt", "([BI)C"⟩
abbrev cJ2_checkIndex_2214a : ByteArray := prog_21_method_91_code
def yJ2_checkIndex_2214a : MethodName := ⟨RJ2, "checkIndex", "(I[B)V"⟩
def RJ10 : String := "java/lang/System"
def TJ10 : u_T := fun k => match k with
  | _ => ("", "", "", false)
def tyJ10 : Nat → FieldType := fun k => match k with
  | _ => .int
abbrev wsJ100 : List Cond := u_ws RJ10 TJ10 0
theorem nmJ10 : ∀ a, a < 0 → ∀ b, b < 0 → a ≠ b → (TJ10 a).2.1 ≠ (TJ10 b).2.1 := by decide +kernel
theorem tyJ10_ok : ∀ k, k < 0 → parseFieldDescriptor (TJ10 k).2.2.1 = some (tyJ10 k) := by decide +kernel
def RJxfd54e : String := "java/lang/constant/Constable"
def TJxfd54e : u_T := fun k => match k with
  | _ => ("", "", "", false)
def tyJxfd54e : Nat → FieldType := fun k => match k with
  | _ => .int
abbrev wsJxfd54e0 : List Cond := u_ws RJxfd54e TJxfd54e 0
theorem nmJxfd54e : ∀ a, a < 0 → ∀ b, b < 0 → a ≠ b → (TJxfd54e a).2.1 ≠ (TJxfd54e b).2.1 := by decide +kernel
theorem tyJxfd54e_ok : ∀ k, k < 0 → parseFieldDescriptor (TJxfd54e k).2.2.1 = some (tyJxfd54e k) := by decide +kernel
def RJx3cf43 : String := "java/lang/constant/ConstantDesc"
def TJx3cf43 : u_T := fun k => match k with
  | _ => ("", "", "", false)
def tyJx3cf43 : Nat → FieldType := fun k => match k with
  | _ => .int
abbrev wsJx3cf430 : List Cond := u_ws RJx3cf43 TJx3cf43 0
theorem nmJx3cf43 : ∀ a, a < 0 → ∀ b, b < 0 → a ≠ b → (TJx3cf43 a).2.1 ≠ (TJx3cf43 b).2.1 := by decide +kernel
theorem tyJx3cf43_ok : ∀ k, k < 0 → parseFieldDescriptor (TJx3cf43 k).2.2.1 = some (tyJx3cf43 k) := by decide +kernel
def RJ7 : String := "java/util/Arrays"
def TJ7 : u_T := fun k => match k with
  | _ => ("", "", "", false)
def tyJ7 : Nat → FieldType := fun k => match k with
  | _ => .int
abbrev wsJ70 : List Cond := u_ws RJ7 TJ7 0
theorem nmJ7 : ∀ a, a < 0 → ∀ b, b < 0 → a ≠ b → (TJ7 a).2.1 ≠ (TJ7 b).2.1 := by decide +kernel
theorem tyJ7_ok : ∀ k, k < 0 → parseFieldDescriptor (TJ7 k).2.2.1 = some (tyJ7 k) := by decide +kernel
abbrev cJ7_copyOf_59c91 : ByteArray := prog_23_method_123_code
def yJ7_copyOf_59c91 : MethodName := ⟨RJ7, "copyOf", "([II)[I"⟩
def RJ3 : String := "jdk/internal/util/Preconditions"
def TJ3 : u_T := fun k => match k with
  | _ => ("", "", "", false)
def tyJ3 : Nat → FieldType := fun k => match k with
  | _ => .int
abbrev wsJ30 : List Cond := u_ws RJ3 TJ3 0
theorem nmJ3 : ∀ a, a < 0 → ∀ b, b < 0 → a ≠ b → (TJ3 a).2.1 ≠ (TJ3 b).2.1 := by decide +kernel
theorem tyJ3_ok : ∀ k, k < 0 → parseFieldDescriptor (TJ3 k).2.2.1 = some (tyJ3 k) := by decide +kernel
abbrev cJ3_checkIndex_8e157 : ByteArray := prog_24_method_11_code
def yJ3_checkIndex_8e157 : MethodName := ⟨RJ3, "checkIndex", "(IILjava/util/function/BiFunction;)I"⟩
def RL : String := "HadItFromLaw"
abbrev cL_law : ByteArray := code
def yL_law : MethodName := ⟨RL, "law", "([I)Z"⟩
abbrev vwCl : List vw_C := [(RX0, TX0, 5), (RX1, TX1, 5), (RX2, TX2, 5), (RX3, TX3, 5), (RX4, TX4, 9), (RX5, TX5, 5), (RX6, TX6, 5), (RX7, TX7, 5), (RX8, TX8, 6), (RX9, TX9, 5), (RX10, TX10, 11), (RX11, TX11, 14), (RX12, TX12, 60)]
