/-! THE ABSTRACT MACHINE: cells are numbered (16 and on: made by the law's run, in order; below: static arrays, String constants and what they hold), three planes of contents -/
abbrev am_V : Type := Int32 ⊕ (Int64 ⊕ Option Nat)
abbrev am_H : Type := Nat × Nat × (Nat → Nat × Nat) × (Nat → Nat → Int32) × (Nat → Nat → Int64) × (Nat → Nat → Option Nat)
abbrev am_L : Type := List (Option am_V)
abbrev am_F : Type := Nat × am_L × List am_V × am_H
abbrev am_O : Type := Option (am_F ⊕ ((Nat × List am_V × am_F) ⊕ (Option am_V × am_H)))
abbrev am_I : Type := am_F → am_O
abbrev vi (x : Int32) : am_V := .inl x
abbrev vl (x : Int64) : am_V := .inr (.inl x)
abbrev vr (x : Option Nat) : am_V := .inr (.inr x)
/-- how many cells there are (16 of them were there before), how many slots they took -/
def hN (h : am_H) : Nat := h.1
def hSl (h : am_H) : Nat := h.2.1
/-- kind (a class's place in vwCl; 100 ints, 101 longs, 102 Man, 103 Row, 104 rows of ints, 105 rows of longs) and length -/
def hK (h : am_H) : Nat → Nat × Nat := h.2.2.1
def hI (h : am_H) : Nat → Nat → Int32 := h.2.2.2.1
def hL (h : am_H) : Nat → Nat → Int64 := h.2.2.2.2.1
def hR (h : am_H) : Nat → Nat → Option Nat := h.2.2.2.2.2
def am_u {α : Type} (f : Nat → Nat → α) (a j : Nat) (v : α) : Nat → Nat → α := fun b k => if b = a ∧ k = j then v else f b k
def am_r {α : Type} (f : Nat → Nat → α) (a : Nat) (g : Nat → α) : Nat → Nat → α := fun b k => if b = a then g k else f b k
def pI (h : am_H) (a j : Nat) (v : Int32) : am_H := (hN h, hSl h, hK h, am_u (hI h) a j v, hL h, hR h)
def pL (h : am_H) (a j : Nat) (v : Int64) : am_H := (hN h, hSl h, hK h, hI h, am_u (hL h) a j v, hR h)
def pR (h : am_H) (a j : Nat) (v : Option Nat) : am_H := (hN h, hSl h, hK h, hI h, hL h, am_u (hR h) a j v)
/-- a whole row of ints, of longs -/
def pIs (h : am_H) (a : Nat) (g : Nat → Int32) : am_H := (hN h, hSl h, hK h, am_r (hI h) a g, hL h, hR h)
def pLs (h : am_H) (a : Nat) (g : Nat → Int64) : am_H := (hN h, hSl h, hK h, hI h, am_r (hL h) a g, hR h)
/-- a new cell -/
def al (h : am_H) (kd : Nat × Nat) (sl : Nat) : am_H := (hN h + 1, hSl h + sl, (fun b => if b = hN h then kd else hK h b), am_r (hI h) (hN h) (fun _ => 0), am_r (hL h) (hN h) (fun _ => 0), am_r (hR h) (hN h) (fun _ => none))
/-- an array of n arrays of kind ki and length m -/
def am_mul (h : am_H) (ko ki n m : Nat) : am_H := (hN h + 1 + n, hSl h + n + n * m, (fun b => if b = hN h then (ko, n) else if hN h < b ∧ b ≤ hN h + n then (ki, m) else hK h b),
  (fun b k => if hN h ≤ b ∧ b ≤ hN h + n then 0 else hI h b k), (fun b k => if hN h ≤ b ∧ b ≤ hN h + n then 0 else hL h b k),
  (fun b k => if b = hN h then (if k < n then some (hN h + 1 + k) else none) else if hN h < b ∧ b ≤ hN h + n then none else hR h b k))
-- locals
def am_nl (o : Option am_V) : Option am_V := match o with
  | some (.inr (.inl _)) => none
  | o => o
def am_s1 : am_L → Nat → am_V → am_L
  | [], _, _ => []
  | _ :: l, 0, v => some v :: l
  | o :: l, i + 1, v => (if i = 0 then am_nl o else o) :: am_s1 l i v
def am_n1 : am_L → am_L
  | [] => []
  | _ :: l => none :: l
def am_s2 : am_L → Nat → am_V → am_L
  | [], _, _ => []
  | _ :: l, 0, v => some v :: am_n1 l
  | o :: l, i + 1, v => (if i = 0 then am_nl o else o) :: am_s2 l i v
def am_get (l : am_L) (i : Nat) : Option am_V := (l[i]?).getD none
def am_cat (v : am_V) : Nat := match v with
  | .inr (.inl _) => 2
  | _ => 1
def am_cats (l : List am_V) : Nat := (l.map am_cat).sum
def am_inb (i : Int32) (n : Nat) : Prop := 0 ≤ i.toInt ∧ i.toInt < n
/-- an index within, as a number -/
def am_ix (i : Int32) (n : Nat) : Option Nat := if i < 0 then none else if i.toNatClampNeg < n then some i.toNatClampNeg else none
-- the world's words
abbrev am_G : Type := Nat × Heap × va_G × (Nat → ClassId) × (Nat → Nat) × Nat × (Nat → Int32)
def gB (G : am_G) : Nat := G.1
def gH (G : am_G) : Heap := G.2.1
def gD (G : am_G) : va_G := G.2.2.1
def gE (G : am_G) : Nat → ClassId := G.2.2.2.1
def gS (G : am_G) : Nat → Nat := G.2.2.2.2.1
/-- the script: how many ints, which -/
def gL (G : am_G) : Nat := G.2.2.2.2.2.1
def gX (G : am_G) : Nat → Int32 := G.2.2.2.2.2.2
def am_ad (G : am_G) (a : Nat) : Nat := if a < 16 then gS G a else gB G + (a - 16)
def am_rf (G : am_G) (r : Option Nat) : Value := va_rf (r.map (am_ad G))
def am_cv (G : am_G) (v : am_V) : Value := match v with
  | .inl x => .int x
  | .inr (.inl x) => .long x
  | .inr (.inr r) => am_rf G r
def am_q (t : Nat) : vw_C := vwCl.getD t ("", fun _ => ("", "", "", false), 0)
/-- a field's type: 0 int (boolean, byte), 1 long, 2 a reference -/
def am_tc (ty : FieldType) : Nat := match ty with
  | .int => 0
  | .boolean => 0
  | .long => 1
  | _ => 2
def am_ty (t k : Nat) : FieldType := (parseFieldDescriptor ((am_q t).2.1 k).2.2.1).getD .int
def am_fv (G : am_G) (h : am_H) (a k : Nat) (c : Nat) : Value := match c with
  | 0 => .int (hI h a k)
  | 1 => .long (hL h a k)
  | _ => am_rf G (hR h a k)
def am_cell (G : am_G) (h : am_H) (a : Nat) : va_E :=
  if (hK h a).1 < 13 then .inr ((hK h a).1, (List.range (am_q (hK h a).1).2.2).map fun k => am_fv G h a k (am_tc (am_ty (hK h a).1 k)))
  else .inl (gE G (hK h a).1, (hK h a).2, if (hK h a).1 = 100 then .inl (hI h a) else if (hK h a).1 = 101 then .inr (.inl (hL h a)) else .inr (.inr (.inr (.inr fun j => (hR h a j).map (am_ad G)))))
def am_A (G : am_G) : Nat → Prop := fun q => gB G ≤ q
/-- the literals: where they stand, what they say -/
def am_lit : List (Nat × String) := [(47, "age .near .unknown .sure .forgets .late .lies .hides .from .heard .gap .raise .bar .more ."), (88, "whole .gap .hidden .hung .raised .made ."), (90, " told . from . heard ."), (92, " told . from . heard . word ."), (94, " word .")]
def am_byt (i : Nat) : List Int32 := (((am_lit[i]?).getD (0, "")).2.toList).map fun c => Int32.ofNat c.toNat
/-- what stands in the cells that were there before: 0, 1 static tables, 2 to 6 literals, 7 to 11 their bytes, 15 the script -/
def am_spI (G : am_G) : Nat → Nat → Int32 := fun a j => match a with
  | 0 => [10, 2, 3, 9, 5, 2, 0, 6, 1, 2, 3, 2, 3, 1].getD j 0
  | 1 => [99, 2, 9, 9, 9, 9, 9, 9, 9, 9, 9, 9, 99, 99].getD j 0
  | 7 => (am_byt 0).getD j 0
  | 8 => (am_byt 1).getD j 0
  | 9 => (am_byt 2).getD j 0
  | 10 => (am_byt 3).getD j 0
  | 11 => (am_byt 4).getD j 0
  | 15 => gX G j
  | _ => 0
def am_spK (G : am_G) : Nat → Nat × Nat := fun a => match a with
  | 0 => (100, 14)
  | 1 => (100, 14)
  | 2 => (301, 0)
  | 3 => (301, 0)
  | 4 => (301, 0)
  | 5 => (301, 0)
  | 6 => (301, 0)
  | 7 => (300, (am_byt 0).length)
  | 8 => (300, (am_byt 1).length)
  | 9 => (300, (am_byt 2).length)
  | 10 => (300, (am_byt 3).length)
  | 11 => (300, (am_byt 4).length)
  | 15 => (100, gL G)
  | _ => (200, 0)
def am_S (G : am_G) (h : am_H) (H : Heap) : Prop :=
  16 ≤ hN h ∧ H.size = gB G + (hN h - 16) ∧ (∀ q : Nat, q < gB G → H[q]? = (gH G)[q]?) ∧ (∀ a : Nat, 16 ≤ a → a < hN h → va_at (gD G) vwCl (am_ad G a, am_cell G h a) H) ∧ (∀ a : Nat, a < 16 → hK h a = am_spK G a ∧ ∀ j, hI h a j = am_spI G a j) ∧ ∀ a : Nat, hN h ≤ a → (hK h a).1 = 200
def am_lv (G : am_G) (nL : Nat) (ls : Array Slot) (l : am_L) : Prop := ls.size = nL ∧ lv_wf ls ∧ ∀ (i : Nat) (v : am_V), l[i]? = some (some v) → ls[i]? = some (.val (am_cv G v))
def am_tys (G : am_G) : List (ClassId × FieldType) := [(gE G 100, .int), (gE G 101, .long), (gE G 102, .object "HadItFrom$Man"), (gE G 103, .object "HadItFrom$Row"), (gE G 104, .array .int), (gE G 105, .array .long)]
/-- who isn't whose kind, as far as it is asked -/
def am_ncs : List (String × String) := [("HadItFrom$Gap", "HadItFrom$Whole"), ("HadItFrom$Hidden", "HadItFrom$Whole"), ("HadItFrom$Hung", "HadItFrom$Whole"), ("HadItFrom$Raised", "HadItFrom$Whole"), ("HadItFrom$Made", "HadItFrom$Whole"), ("HadItFrom$Row", "HadItFrom$Whole"), ("HadItFrom$Whole", "HadItFrom$Gap"), ("HadItFrom$Hung", "HadItFrom$Gap"), ("HadItFrom$Raised", "HadItFrom$Gap"), ("HadItFrom$Made", "HadItFrom$Gap"), ("HadItFrom$Row", "HadItFrom$Gap"), ("HadItFrom$Whole", "HadItFrom$Hidden"), ("HadItFrom$Gap", "HadItFrom$Hidden"), ("HadItFrom$Hung", "HadItFrom$Hidden"), ("HadItFrom$Raised", "HadItFrom$Hidden"), ("HadItFrom$Made", "HadItFrom$Hidden"), ("HadItFrom$Row", "HadItFrom$Hidden"), ("HadItFrom$Whole", "HadItFrom$Hung"), ("HadItFrom$Gap", "HadItFrom$Hung"), ("HadItFrom$Hidden", "HadItFrom$Hung"), ("HadItFrom$Raised", "HadItFrom$Hung"), ("HadItFrom$Made", "HadItFrom$Hung"), ("HadItFrom$Row", "HadItFrom$Hung"), ("HadItFrom$Whole", "HadItFrom$Raised"), ("HadItFrom$Gap", "HadItFrom$Raised"), ("HadItFrom$Hidden", "HadItFrom$Raised"), ("HadItFrom$Hung", "HadItFrom$Raised"), ("HadItFrom$Row", "HadItFrom$Raised"), ("HadItFrom$Whole", "HadItFrom$Made"), ("HadItFrom$Gap", "HadItFrom$Made"), ("HadItFrom$Hidden", "HadItFrom$Made"), ("HadItFrom$Hung", "HadItFrom$Made"), ("HadItFrom$Raised", "HadItFrom$Made"), ("HadItFrom$Row", "HadItFrom$Made")]
/-- the tables' words that stay, whatever is resolved or warmed on the way -/
def am_gw (w : Cond) : Bool := goodWord w || (match w with
  | .fieldLinkNest .. => true
  | .methodLinkNest .. => true
  | .castable .. => true
  | .arrayOver (.object _) => true
  | .arrayOver (.array _) => true
  | _ => false)
def am_T : List Cond := lw_tbl.filter am_gw
theorem am_in {w : Cond} (i : Nat) (h : lw_tbl[i]? = some w) (hg : am_gw w = true) : w ∈ am_T := List.mem_filter.mpr ⟨List.mem_of_getElem? h, hg⟩
/-- what is known of the tables and of the cells that were there before, at every frame -/
def am_K (G : am_G) (U : State) : Prop :=
  va_K (gD G) vwCl (am_tys G) U ∧ va_Z "HadItFrom" "FIRST_RULES" "[I" (.ref (gS G 0)) (am_A G) U (gH G) ∧ va_Z "HadItFrom" "MOST_OF_RULES" "[I" (.ref (gS G 1)) (am_A G) U (gH G) ∧
  va_T .int (gS G 0) 14 (fun j => .int (am_spI G 0 j)) (am_A G) U (gH G) ∧ va_T .int (gS G 1) 14 (fun j => .int (am_spI G 1 j)) (am_A G) U (gH G) ∧
  vk_S 5 ((List.range 5).map fun i => (am_byt i).length) ((List.range 5).map am_byt) (fun i => gS G (2 + i)) (fun i => gS G (7 + i)) (am_A G) U (gH G) ∧
  (∀ (i : Nat) (q : Nat × String), am_lit[i]? = some q → vk_R "HadItFrom$Text" q.1 q.2 (gS G (2 + i)) U) ∧
  va_Z "java/lang/String" "COMPACT_STRINGS" "Z" (.int 1) (am_A G) U (gH G) ∧ va_Zq "jdk/internal/util/Preconditions" "SIOOBE_FORMATTER" "Ljava/util/function/BiFunction;" (am_A G) U (gH G) ∧
  (∀ q ∈ am_ncs, va_Nc q.1 q.2 U) ∧ (∀ w ∈ am_T, va_Nw w U) ∧ va_X (gS G 15) (gL G) (gX G) U (gH G) ∧ gS G 15 < gB G ∧ gL G ≤ 3072
