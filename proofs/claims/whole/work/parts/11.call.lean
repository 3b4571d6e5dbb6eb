/-! calls: what is known goes on with them; a callee's end is the caller's next step -/
theorem am_AOA_moved {t : FieldType} {u U : State} (hvm : u.vm.Alike U.vm) (h : (Cond.arrayOver (.array t)).before #[] u = true) : (Cond.arrayOver (.array t)).before #[] U = true := by
  obtain ⟨comp, c, k, h1, h2, h3, h4, h5⟩ := arrayOverA_spec h
  obtain ⟨k', hk', he⟩ := hvm.2.2 _ _ h3
  have hi : (U.vm.classes.findIdx? fun (x : Class) => match x.kind with | .array component _ => component == comp | _ => false) = some c := by
    refine (va_idx_bare U.vm comp).symm.trans ?_
    first | rw [hvm.bare_eq] | rw [← hvm.bare_eq]
    exact (va_idx_bare u.vm comp).trans h2
  have hkind : k'.kind = .array comp (.array t) := by rw [he]; exact h4
  have f1 : U.vm.findClass (FieldType.array t).toString = some comp := by rw [hvm.findClass]; exact h1
  have f2 : U.vm.findClass ("[" ++ (FieldType.array t).toString) = some c := by rw [hvm.findClass]; exact h5
  unfold Cond.before Cond.holds
  simp only [Cond.value]
  rw [f1, Option.bind_some]
  refine (congrArg (fun o : Option Nat => (o.bind (fun c => (U.vm.classes[c]?).map fun (k : Class) => match k.kind with | .array _ ty => decide (ty = FieldType.array t) && decide (U.vm.findClass ("[" ++ (FieldType.array t).toString) = some c) | _ => false) == some true)) hi).trans ?_
  simp [hk', hkind, f2]
theorem am_gw_cases {w : Cond} (h : am_gw w = true) : goodWord w = true ∨ (∃ a i b n d o, w = .fieldLinkNest a i b n d o) ∨ (∃ a i x o, w = .methodLinkNest a i x o) ∨ (∃ a b, w = .castable a b) ∨ (∃ c, w = .arrayOver (.object c)) ∨ ∃ t, w = .arrayOver (.array t) := by
  unfold am_gw at h
  rw [Bool.or_eq_true] at h
  rcases h with h | h
  · exact Or.inl h
  · split at h
    · exact Or.inr (Or.inl ⟨_, _, _, _, _, _, rfl⟩)
    · exact Or.inr (Or.inr (Or.inl ⟨_, _, _, _, rfl⟩))
    · exact Or.inr (Or.inr (Or.inr (Or.inl ⟨_, _, rfl⟩)))
    · exact Or.inr (Or.inr (Or.inr (Or.inr (Or.inl ⟨_, rfl⟩))))
    · exact Or.inr (Or.inr (Or.inr (Or.inr (Or.inr ⟨_, rfl⟩))))
    · cases h
theorem am_gw_args {w : Cond} (h : am_gw w = true) {A A' : Array Value} {u U : State} (hv : u.vm = U.vm) (hb : w.before A u = true) : w.before A' U = true := by
  rcases am_gw_cases h with h | ⟨a, i, b, n, d, o, rfl⟩ | ⟨a, i, x, o, rfl⟩ | ⟨a, b, rfl⟩ | ⟨c, rfl⟩ | ⟨t, rfl⟩
  · rcases good_of_word h with h | ⟨ty, rfl⟩
    · rw [Bool.and_eq_true] at h
      exact va_tabs h.1 hv hb
    · unfold Cond.before Cond.holds at hb ⊢
      simp only [Cond.value, hv] at hb ⊢
      exact hb
  · exact va_tabs rfl hv hb
  · exact va_tabs rfl hv hb
  · exact va_tabs rfl hv hb
  · unfold Cond.before Cond.holds at hb ⊢
    simp only [Cond.value, hv] at hb ⊢
    exact hb
  · unfold Cond.before Cond.holds at hb ⊢
    simp only [Cond.value, hv] at hb ⊢
    exact hb
theorem am_gw_warm {w : Cond} (h : am_gw w = true) {s U : State} (hW : s.WarmedH U.vm) (hb : va_Nw w s) : va_Nw w U := by
  rcases am_gw_cases h with h | ⟨a, i, b, n, d, o, rfl⟩ | ⟨a, i, x, o, rfl⟩ | ⟨a, b, rfl⟩ | ⟨c, rfl⟩ | ⟨t, rfl⟩
  · exact word_at hW (good_of_word h) hb
  · exact va_Nw.warmF hW hb
  · exact va_Nw.warmM hW hb
  · exact va_Nw.warmC hW hb
  · exact va_AO.moved hW.alike hb
  · exact am_AOA_moved hW.alike hb
theorem am_T_gw {w : Cond} (h : w ∈ am_T) : am_gw w = true := (List.mem_filter.mp h).2
theorem am_K_vm {G : am_G} {u U : State} (hv : U.vm = u.vm) (h : am_K G u) : am_K G U := by
  have ha : u.vm.Alike U.vm := by rw [hv]; exact Vm.Alike.refl _
  obtain ⟨h1, h2, h3, h4, h5, h6, h7, h8, h9, h10, h11, h12, h13⟩ := h
  exact ⟨va_K.moved ha h1, va_Z.moved ha h2, va_Z.moved ha h3, va_T.moved ha h4, va_T.moved ha h5, vk_S.moved ha h6, fun i q hq => vk_R.same hv (h7 i q hq), va_Z.moved ha h8, va_Zq.moved ha h9, fun q hq => va_Nc.moved ha (h10 q hq), fun w hw => am_gw_args (am_T_gw hw) hv.symm (h11 w hw), va_X.moved ha h12, h13⟩
theorem am_K_warm {G : am_G} {s U : State} (hW : s.WarmedH U.vm) (h : am_K G s) : am_K G U := by
  have ha := hW.alike
  obtain ⟨h1, h2, h3, h4, h5, h6, h7, h8, h9, h10, h11, h12, h13⟩ := h
  exact ⟨va_K.moved ha h1, va_Z.moved ha h2, va_Z.moved ha h3, va_T.moved ha h4, va_T.moved ha h5, vk_S.moved ha h6, fun i q hq => vk_R.warm hW (h7 i q hq), va_Z.moved ha h8, va_Zq.moved ha h9, fun q hq => va_Nc.moved ha (h10 q hq), fun w hw => am_gw_warm (am_T_gw hw) hW (h11 w hw), va_X.moved ha h12, h13⟩
-- a method: its name, code, locals' count, answer, frames and words below it
abbrev am_M : Type := MethodName × ByteArray × Nat × Option FieldType × Nat × Nat
def am_ws (M : am_M) : List Cond := [Cond.code M.1 M.2.1 M.2.2.1 M.2.2.2.1]
def am_rm (M : am_M) (mc ms : Nat) : Room := { frames := M.2.2.2.2.1, cells := mc, slots := ms, locals := M.2.2.2.2.2 }
def am_Pc (G : am_G) (as : List am_V) (h : am_H) : Array Value → State → Prop := fun v U => v = (as.map (am_cv G)).toArray ∧ am_S G h U.heap ∧ am_K G U
def am_Qc (G : am_G) (r : Option am_V) (h1 : am_H) : Array Value → State → Outcome → State → Prop := fun _ _ oc t => oc = .returned (r.map (am_cv G)) ∧ am_S G h1 t.heap
/-- the method's contract at these arguments and cells -/
def am_Met (l : Launch) (M : am_M) (as : List am_V) (h : am_H) (r : Option am_V) (h1 : am_H) : Prop :=
  ∀ G : am_G, Met l M.1 (am_ws M) (am_rm M (hN h1 - hN h) (hSl h1 - hSl h)) (am_Pc G as h) (am_Qc G r h1) (hN h1 - hN h) (hSl h1 - hSl h) (am_A G)
theorem am_Pc_blind {G : am_G} {as : List am_V} {h : am_H} : FrameBlind (am_Pc G as h) := fun a U g mk q => ⟨q.1, q.2.1, am_K_vm (u := U) (U := U.calling g mk a) rfl q.2.2⟩
/-- an instruction that calls; fm: the methods -/
def am_RC (fm : Nat → am_M) (own nm : String) (b : ByteArray) (nL fr lo : Nat) (pc : Nat) (i : am_I) : Prop :=
  ∀ (L : am_L) (st : List am_V) (h : am_H) (y : Nat) (as : List am_V) (f' : am_F), i (pc, L, st, h) = some (.inr (.inl (y, as, f'))) → f'.2.2.2 = h ∧
    ∀ (G : am_G) (p : Program) (l : Launch) (e : Env) (R : Room) (s : State) (m : MethodId) (args : Array Value) (below : List Frame) (meth : Method) (c : Code) (n0 s0 : Nat) (Q : State → Prop) (r : Option am_V) (h1 : am_H),
      am_C G p s m args meth c own nm b nL → fr ≤ R.frames → lo ≤ R.locals → n0 ≤ hN h → s0 ≤ hSl h → hN h ≤ hN h1 → hSl h ≤ hSl h1 → hN h1 - n0 ≤ R.cells → hSl h1 - s0 ≤ R.slots → am_Met l (fm y) as h r h1 →
      am_W G p l e R s m args below meth c nL n0 s0 Q (f'.1, f'.2.1, r.toList ++ f'.2.2.1, h1) → am_W G p l e R s m args below meth c nL n0 s0 Q (pc, L, st, h)
section AMRUN
variable {own nm : String} {b : ByteArray} {nL fr lo pc : Nat}
variable {G : am_G} {p : Program} {l : Launch} {e : Env} {R : Room} {s : State} {m : MethodId} {args : Array Value} {below : List Frame} {meth : Method} {c : Code} {H : Heap} {locs : List Loc} {cells slots mc ms : Nat} {Q : State → Prop} {ls : Array Slot} {st0 rest : List Value} {r : Option am_V} {h1 : am_H} {a : Array Value}
theorem am_back (hr : va_Run p l e R s m args below meth c H locs cells slots mc ms (F0 m pc ls st0) rest (am_Qc G r h1 a) (am_A G)) (hlo : ∀ q ∈ locs, am_A G q.base)
    (kk : ∀ (H1 : Heap) (locs1 : List Loc), am_S G h1 H1 → (∀ q ∈ locs1, am_A G q.base) → W p l e R s m args below meth c H1 locs1 (cells + mc) (slots + ms) Q (F0 m (pc + 3) ls ((r.map (am_cv G)).toList ++ rest))) : W p l e R s m args below meth c H locs cells slots Q (F0 m pc ls st0) := by
  intro T hT X
  obtain ⟨v, st₀, t, T', L, h0, X', hL, e1, e2, ⟨hv, hb⟩, st⟩ := hr T hT X
  cases hv
  obtain ⟨t2, a1, b1⟩ := kk T'.heap (locs ++ L) (by rw [e1]; exact hb) (fun q hq => by
      rcases List.mem_append.mp hq with h | h
      · exact hlo q h
      · exact hL q h) T' rfl X'
  exact ⟨t2, st t2 a1, b1⟩
theorem am_good (M : am_M) (hM : Cond.code M.1 M.2.1 M.2.2.1 M.2.2.2.1 ∈ am_T) (ws : List Cond) (h : ∀ w ∈ ws, w ∈ am_T ∧ goodWord w = true) : GoodIn am_T (ws ++ am_ws M) := by
  intro w hw
  rcases List.mem_append.mp hw with z | z
  · exact ⟨(h w z).1, good_of_word (h w z).2⟩
  · have := List.mem_singleton.mp z
    subst this
    exact ⟨hM, Or.inl rfl⟩
end AMRUN
