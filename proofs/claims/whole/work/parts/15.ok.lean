/-! which instructions go on, which call, which end -/
def am_go (i : am_I) : Prop := ∀ (f : am_F) (o : (Nat × List am_V × am_F) ⊕ (Option am_V × am_H)), i f ≠ some (.inr o)
def am_gc (i : am_I) : Prop := (∀ (f f' : am_F), i f ≠ some (.inl f')) ∧ ∀ (f : am_F) (r : Option am_V × am_H), i f ≠ some (.inr (.inr r))
def am_gr (i : am_I) : Prop := (∀ (f f' : am_F), i f ≠ some (.inl f')) ∧ ∀ (f : am_F) (r : Nat × List am_V × am_F), i f ≠ some (.inr (.inl r))
theorem ok_f {fm : Nat → am_M} {M : am_M} {pc : Nat} {i : am_I} (g : am_go i) (h : am_RF M.1.cls M.1.name M.2.1 M.2.2.1 M.2.2.2.2.1 M.2.2.2.2.2 pc i) : am_OK fm M pc i := ⟨h, fun _ _ _ _ _ _ e => absurd e (g _ _), fun _ _ _ _ _ e => absurd e (g _ _)⟩
theorem ok_c {fm : Nat → am_M} {M : am_M} {pc : Nat} {i : am_I} (g : am_gc i) (h : am_RC fm M.1.cls M.1.name M.2.1 M.2.2.1 M.2.2.2.2.1 M.2.2.2.2.2 pc i) : am_OK fm M pc i := ⟨fun _ _ _ _ e => absurd e (g.1 _ _), h, fun _ _ _ _ _ e => absurd e (g.2 _ _)⟩
theorem ok_r {fm : Nat → am_M} {M : am_M} {pc : Nat} {i : am_I} (g : am_gr i) (h : am_RR M.1.cls M.1.name M.2.1 M.2.2.1 M.2.2.2.1 pc i) : am_OK fm M pc i := ⟨fun _ _ _ _ e => absurd e (g.1 _ _), fun _ _ _ _ _ _ e => absurd e (g.2 _ _), h⟩

theorem g_ic {v : Int32} {n : Nat} : am_go (i_ic v n) := by
  intro f o e; unfold i_ic at e; (repeat' split at e) <;> cases e
theorem g_lc {v : Int64} {n : Nat} : am_go (i_lc v n) := by
  intro f o e; unfold i_lc at e; (repeat' split at e) <;> cases e
theorem g_nul : am_go i_nul := by
  intro f o e; unfold i_nul at e; (repeat' split at e) <;> cases e
theorem g_ild {i n : Nat} : am_go (i_ild i n) := by
  intro f o e; unfold i_ild at e; (repeat' split at e) <;> cases e
theorem g_lld {i n : Nat} : am_go (i_lld i n) := by
  intro f o e; unfold i_lld at e; (repeat' split at e) <;> cases e
theorem g_ald {i n : Nat} : am_go (i_ald i n) := by
  intro f o e; unfold i_ald at e; (repeat' split at e) <;> cases e
theorem g_ist {i n : Nat} : am_go (i_ist i n) := by
  intro f o e; unfold i_ist at e; (repeat' split at e) <;> cases e
theorem g_lst {i n : Nat} : am_go (i_lst i n) := by
  intro f o e; unfold i_lst at e; (repeat' split at e) <;> cases e
theorem g_ast {i n : Nat} : am_go (i_ast i n) := by
  intro f o e; unfold i_ast at e; (repeat' split at e) <;> cases e
theorem g_inc {i : Nat} {n : Int} : am_go (i_inc i n) := by
  intro f o e; unfold i_inc at e; (repeat' split at e) <;> cases e
theorem g_ib {g : Int32 → Int32 → Int32} : am_go (i_ib g) := by
  intro f o e; unfold i_ib at e; (repeat' split at e) <;> cases e
theorem g_idv {g : Int32 → Int32 → Int32} : am_go (i_idv g) := by
  intro f o e; unfold i_idv at e; (repeat' split at e) <;> cases e
theorem g_iu {g : Int32 → Int32} : am_go (i_iu g) := by
  intro f o e; unfold i_iu at e; (repeat' split at e) <;> cases e
theorem g_i2l : am_go i_i2l := by
  intro f o e; unfold i_i2l at e; (repeat' split at e) <;> cases e
theorem g_l2i : am_go i_l2i := by
  intro f o e; unfold i_l2i at e; (repeat' split at e) <;> cases e
theorem g_lb {g : Int64 → Int64 → Int64} : am_go (i_lb g) := by
  intro f o e; unfold i_lb at e; (repeat' split at e) <;> cases e
theorem g_lu {g : Int64 → Int64} : am_go (i_lu g) := by
  intro f o e; unfold i_lu at e; (repeat' split at e) <;> cases e
theorem g_lh {g : Int64 → Int32 → Int64} : am_go (i_lh g) := by
  intro f o e; unfold i_lh at e; (repeat' split at e) <;> cases e
theorem g_lcmp : am_go i_lcmp := by
  intro f o e; unfold i_lcmp at e; (repeat' split at e) <;> cases e
theorem g_dup : am_go i_dup := by
  intro f o e; unfold i_dup at e; (repeat' split at e) <;> cases e
theorem g_pop : am_go i_pop := by
  intro f o e; unfold i_pop at e; (repeat' split at e) <;> cases e
theorem g_dx1 : am_go i_dx1 := by
  intro f o e; unfold i_dx1 at e; (repeat' split at e) <;> cases e
theorem g_dx2 : am_go i_dx2 := by
  intro f o e; unfold i_dx2 at e; (repeat' split at e) <;> cases e
theorem g_dup2 : am_go i_dup2 := by
  intro f o e; unfold i_dup2 at e; (repeat' split at e) <;> cases e
theorem g_dup2L : am_go i_dup2L := by
  intro f o e; unfold i_dup2L at e; (repeat' split at e) <;> cases e
theorem g_if_eq {t : Nat} : am_go (i_if_eq t) := by
  intro f o e; unfold i_if_eq at e; (repeat' split at e) <;> cases e
theorem g_icmp_eq {t : Nat} : am_go (i_icmp_eq t) := by
  intro f o e; unfold i_icmp_eq at e; (repeat' split at e) <;> cases e
theorem g_if_ne {t : Nat} : am_go (i_if_ne t) := by
  intro f o e; unfold i_if_ne at e; (repeat' split at e) <;> cases e
theorem g_icmp_ne {t : Nat} : am_go (i_icmp_ne t) := by
  intro f o e; unfold i_icmp_ne at e; (repeat' split at e) <;> cases e
theorem g_if_lt {t : Nat} : am_go (i_if_lt t) := by
  intro f o e; unfold i_if_lt at e; (repeat' split at e) <;> cases e
theorem g_icmp_lt {t : Nat} : am_go (i_icmp_lt t) := by
  intro f o e; unfold i_icmp_lt at e; (repeat' split at e) <;> cases e
theorem g_if_ge {t : Nat} : am_go (i_if_ge t) := by
  intro f o e; unfold i_if_ge at e; (repeat' split at e) <;> cases e
theorem g_icmp_ge {t : Nat} : am_go (i_icmp_ge t) := by
  intro f o e; unfold i_icmp_ge at e; (repeat' split at e) <;> cases e
theorem g_if_gt {t : Nat} : am_go (i_if_gt t) := by
  intro f o e; unfold i_if_gt at e; (repeat' split at e) <;> cases e
theorem g_icmp_gt {t : Nat} : am_go (i_icmp_gt t) := by
  intro f o e; unfold i_icmp_gt at e; (repeat' split at e) <;> cases e
theorem g_if_le {t : Nat} : am_go (i_if_le t) := by
  intro f o e; unfold i_if_le at e; (repeat' split at e) <;> cases e
theorem g_icmp_le {t : Nat} : am_go (i_icmp_le t) := by
  intro f o e; unfold i_icmp_le at e; (repeat' split at e) <;> cases e
theorem g_goto {t : Nat} : am_go (i_goto t) := by
  intro f o e; unfold i_goto at e; (repeat' split at e) <;> cases e
theorem g_ifnull {t : Nat} : am_go (i_ifnull t) := by
  intro f o e; unfold i_ifnull at e; (repeat' split at e) <;> cases e
theorem g_ifnn {t : Nat} : am_go (i_ifnn t) := by
  intro f o e; unfold i_ifnn at e; (repeat' split at e) <;> cases e
theorem g_tsw {lo0 : Int} {ts : List Nat} {d : Nat} : am_go (i_tsw lo0 ts d) := by
  intro f o e; unfold i_tsw at e; (repeat' split at e) <;> cases e
theorem g_gI {cs : List Nat} {k : Nat} : am_go (i_gI cs k) := by
  intro f o e; unfold i_gI at e; (repeat' split at e) <;> cases e
theorem g_gL {cs : List Nat} {k : Nat} : am_go (i_gL cs k) := by
  intro f o e; unfold i_gL at e; (repeat' split at e) <;> cases e
theorem g_gR {cs : List Nat} {k : Nat} : am_go (i_gR cs k) := by
  intro f o e; unfold i_gR at e; (repeat' split at e) <;> cases e
theorem g_pI {cs : List Nat} {k : Nat} : am_go (i_pI cs k) := by
  intro f o e; unfold i_pI at e; (repeat' split at e) <;> cases e
theorem g_pZ {cs : List Nat} {k : Nat} : am_go (i_pZ cs k) := by
  intro f o e; unfold i_pZ at e; (repeat' split at e) <;> cases e
theorem g_pR {cs : List Nat} {k : Nat} : am_go (i_pR cs k) := by
  intro f o e; unfold i_pR at e; (repeat' split at e) <;> cases e
theorem g_iald : am_go i_iald := by
  intro f o e; unfold i_iald at e; (repeat' split at e) <;> cases e
theorem g_lald : am_go i_lald := by
  intro f o e; unfold i_lald at e; (repeat' split at e) <;> cases e
theorem g_aald : am_go i_aald := by
  intro f o e; unfold i_aald at e; (repeat' split at e) <;> cases e
theorem g_alen : am_go i_alen := by
  intro f o e; unfold i_alen at e; (repeat' split at e) <;> cases e
theorem g_iast : am_go i_iast := by
  intro f o e; unfold i_iast at e; (repeat' split at e) <;> cases e
theorem g_last : am_go i_last := by
  intro f o e; unfold i_last at e; (repeat' split at e) <;> cases e
theorem g_aast {t : Nat} {cs : List Nat} : am_go (i_aast t cs) := by
  intro f o e; unfold i_aast at e; (repeat' split at e) <;> cases e
theorem g_new {t n : Nat} : am_go (i_new t n) := by
  intro f o e; unfold i_new at e; (repeat' split at e) <;> cases e
theorem g_na {t : Nat} : am_go (i_na t) := by
  intro f o e; unfold i_na at e; (repeat' split at e) <;> cases e
theorem g_ana {t : Nat} : am_go (i_ana t) := by
  intro f o e; unfold i_ana at e; (repeat' split at e) <;> cases e
theorem g_rc {r n : Nat} : am_go (i_rc r n) := by
  intro f o e; unfold i_rc at e; (repeat' split at e) <;> cases e
theorem g_inst {cy cn : List Nat} : am_go (i_inst cy cn) := by
  intro f o e; unfold i_inst at e; (repeat' split at e) <;> cases e
theorem g_oin : am_go i_oin := by
  intro f o e; unfold i_oin at e; (repeat' split at e) <;> cases e
theorem g_acI : am_go i_acI := by
  intro f o e; unfold i_acI at e; (repeat' split at e) <;> cases e
theorem g_acL : am_go i_acL := by
  intro f o e; unfold i_acL at e; (repeat' split at e) <;> cases e
theorem g_mul {t ti : Nat} : am_go (i_mul t ti) := by
  intro f o e; unfold i_mul at e; (repeat' split at e) <;> cases e
theorem g_cs {y na : Nat} : am_gc (i_cs y na) := by
  constructor
  · intro f f1 e; unfold i_cs at e; (repeat' split at e) <;> cases e
  · intro f r e; unfold i_cs at e; (repeat' split at e) <;> cases e
theorem g_ci {y na : Nat} : am_gc (i_ci y na) := by
  constructor
  · intro f f1 e; unfold i_ci at e; (repeat' split at e) <;> cases e
  · intro f r e; unfold i_ci at e; (repeat' split at e) <;> cases e
theorem g_su {y na : Nat} {cs : List Nat} : am_gc (i_su y na cs) := by
  constructor
  · intro f f1 e; unfold i_su at e; (repeat' split at e) <;> cases e
  · intro f r e; unfold i_su at e; (repeat' split at e) <;> cases e
theorem g_iret : am_gr i_iret := by
  constructor
  · intro f f1 e; unfold i_iret at e; (repeat' split at e) <;> cases e
  · intro f r e; unfold i_iret at e; (repeat' split at e) <;> cases e
theorem g_zret : am_gr i_zret := by
  constructor
  · intro f f1 e; unfold i_zret at e; (repeat' split at e) <;> cases e
  · intro f r e; unfold i_zret at e; (repeat' split at e) <;> cases e
theorem g_lret : am_gr i_lret := by
  constructor
  · intro f f1 e; unfold i_lret at e; (repeat' split at e) <;> cases e
  · intro f r e; unfold i_lret at e; (repeat' split at e) <;> cases e
theorem g_aret : am_gr i_aret := by
  constructor
  · intro f f1 e; unfold i_aret at e; (repeat' split at e) <;> cases e
  · intro f r e; unfold i_aret at e; (repeat' split at e) <;> cases e
theorem g_vret : am_gr i_vret := by
  constructor
  · intro f f1 e; unfold i_vret at e; (repeat' split at e) <;> cases e
  · intro f r e; unfold i_vret at e; (repeat' split at e) <;> cases e
theorem g_cln : am_go i_cln := by
  intro f o e; unfold i_cln at e; (repeat' split at e) <;> cases e
theorem g_cst : am_go i_cst := by
  intro f o e; unfold i_cst at e; (repeat' split at e) <;> cases e
theorem g_cS {y na : Nat} : am_gc (i_cS y na) := by
  constructor
  · intro f f1 e; unfold i_cS at e; (repeat' split at e) <;> cases e
  · intro f r e; unfold i_cS at e; (repeat' split at e) <;> cases e
theorem g_gsv : am_go i_gsv := by
  intro f o e; unfold i_gsv at e; (repeat' split at e) <;> cases e
theorem g_gsc : am_go i_gsc := by
  intro f o e; unfold i_gsc at e; (repeat' split at e) <;> cases e
theorem g_bln : am_go i_bln := by
  intro f o e; unfold i_bln at e; (repeat' split at e) <;> cases e
theorem g_bld : am_go i_bld := by
  intro f o e; unfold i_bld at e; (repeat' split at e) <;> cases e
theorem g_nret {ty : FieldType} : am_gr (i_nret ty) := by
  constructor
  · intro f f1 e; unfold i_nret at e; (repeat' split at e) <;> cases e
  · intro f r e; unfold i_nret at e; (repeat' split at e) <;> cases e
theorem g_chk : am_go i_chk := by
  intro f o e; unfold i_chk at e; (repeat' split at e) <;> cases e
theorem g_cv {tb : List (Nat × Nat)} {na : Nat} : am_gc (i_cv tb na) := by
  constructor
  · intro f f1 e; unfold i_cv at e; (repeat' split at e) <;> cases e
  · intro f r e; unfold i_cv at e; (repeat' split at e) <;> cases e
def am_nd (k : Nat) (A B : Nat → Option am_I) : Nat → Option am_I := fun pc => bif Nat.blt pc k then A pc else B pc
def am_lf (k : Nat) (i : am_I) : Nat → Option am_I := fun pc => bif Nat.beq pc k then some i else none
def am_all (fm : Nat → am_M) (M : am_M) (A : Nat → Option am_I) : Prop := ∀ (pc : Nat) (i : am_I), A pc = some i → am_OK fm M pc i
theorem al_nd {fm : Nat → am_M} {M : am_M} {k : Nat} {A B : Nat → Option am_I} (hA : am_all fm M A) (hB : am_all fm M B) : am_all fm M (am_nd k A B) := by
  intro pc i h
  unfold am_nd at h
  cases hk : Nat.blt pc k with
  | true => rw [hk] at h; exact hA pc i h
  | false => rw [hk] at h; exact hB pc i h
theorem al_lf {fm : Nat → am_M} {M : am_M} {k : Nat} {i : am_I} (hi : am_OK fm M k i) : am_all fm M (am_lf k i) := by
  intro pc j h
  unfold am_lf at h
  cases hk : Nat.beq pc k with
  | true =>
    rw [hk] at h
    cases h
    rw [Nat.eq_of_beq_eq_true hk]
    exact hi
  | false => rw [hk] at h; cases h
def am_nt {α : Type} (k : Nat) (A B : Nat → α) : Nat → α := fun y => bif Nat.blt y k then A y else B y
