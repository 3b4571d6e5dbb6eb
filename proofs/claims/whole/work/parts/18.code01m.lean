/-! Math.max and Math.min of two ints: the library's own laws -/
def i_mmax : am_I := fun f => match f.2.2.1 with
  | .inl y :: .inl x :: st => if am_cats st ≤ 8 then some (.inl (f.1 + 3, f.2.1, vi (if x < y then y else x) :: st, f.2.2.2)) else none
  | _ => none
def i_mmin : am_I := fun f => match f.2.2.1 with
  | .inl y :: .inl x :: st => if am_cats st ≤ 8 then some (.inl (f.1 + 3, f.2.1, vi (if y < x then y else x) :: st, f.2.2.2)) else none
  | _ => none
section AMMX
variable {own nm : String} {b : ByteArray} {nL fr lo pc : Nat}
theorem r_mmax {x : Nat} (hd : decode b pc = .ok (.invokestatic x, 3)) (h1 : Cond.methodLink own x Lib.Math.max.name ∈ am_T) (h2 : Cond.static Lib.Math.max.name ∈ am_T) (h3 : Cond.initialized "java/lang/Math" ∈ am_T) (h4 : Cond.code Lib.Math.max.name Lib.Math.max.code 2 (some .int) ∈ am_T) (hf : 1 ≤ fr) (hlo9 : 21 ≤ lo) : am_RF own nm b nL fr lo pc i_mmax := by
  intro L st h f' e
  unfold i_mmax at e
  dsimp only at e
  split at e
  · rename_i y x st1
    split at e
    · rename_i hc
      cases e
      refine ⟨⟨Nat.le_refl _, Nat.le_refl _⟩, fun G p l e R s m args below meth c n0 s0 Q hC q1 q2 _ _ q5 q6 k H locs ls hS hlo hl => ?_⟩
      have hts := hC.2.2.2.2.1
      have ec := am_cats_cv G st1
      exact va_mmax hC.1 hC.2.1 (by rw [hC.2.2.1]; exact hl.1.symm) hC.2.2.2.1 (hts _ h1) (hts _ h2) (hts _ h3) (hts _ h4) (by omega) (by rw [ec]; omega) q5 q6 hd (k H locs ls hS hlo hl)
    · cases e
  · cases e
theorem r_mmin {x : Nat} (hd : decode b pc = .ok (.invokestatic x, 3)) (h1 : Cond.methodLink own x Lib.Math.min.name ∈ am_T) (h2 : Cond.static Lib.Math.min.name ∈ am_T) (h3 : Cond.initialized "java/lang/Math" ∈ am_T) (h4 : Cond.code Lib.Math.min.name Lib.Math.min.code 2 (some .int) ∈ am_T) (hf : 1 ≤ fr) (hlo9 : 21 ≤ lo) : am_RF own nm b nL fr lo pc i_mmin := by
  intro L st h f' e
  unfold i_mmin at e
  dsimp only at e
  split at e
  · rename_i y x st1
    split at e
    · rename_i hc
      cases e
      refine ⟨⟨Nat.le_refl _, Nat.le_refl _⟩, fun G p l e R s m args below meth c n0 s0 Q hC q1 q2 _ _ q5 q6 k H locs ls hS hlo hl => ?_⟩
      have hts := hC.2.2.2.2.1
      have ec := am_cats_cv G st1
      exact va_mmin hC.1 hC.2.1 (by rw [hC.2.2.1]; exact hl.1.symm) hC.2.2.2.1 (hts _ h1) (hts _ h2) (hts _ h3) (hts _ h4) (by omega) (by rw [ec]; omega) q5 q6 hd (k H locs ls hS hlo hl)
    · cases e
  · cases e
end AMMX
theorem g_mmax : am_go i_mmax := by
  intro f o e; unfold i_mmax at e; (repeat' split at e) <;> cases e
theorem g_mmin : am_go i_mmin := by
  intro f o e; unfold i_mmin at e; (repeat' split at e) <;> cases e
