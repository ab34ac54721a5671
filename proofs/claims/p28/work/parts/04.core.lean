/-! The abstract machine: values, memory, locals. -/
/-- a cell: its kind, its number among those of the kind -/
abbrev pt_R : Type := Nat × Nat
/-- int, long, double, a cell or null, a caught exception (false) or the script (true) -/
abbrev pt_V : Type := Int32 ⊕ Int64 ⊕ UInt64 ⊕ Option pt_R ⊕ Bool
abbrev vI (x : Int32) : pt_V := .inl x
abbrev vJ (x : Int64) : pt_V := .inr (.inl x)
abbrev vD (x : UInt64) : pt_V := .inr (.inr (.inl x))
abbrev vR (c n : Nat) : pt_V := .inr (.inr (.inr (.inl (some (c, n)))))
abbrev vN : pt_V := .inr (.inr (.inr (.inl none)))
abbrev vX (b : Bool) : pt_V := .inr (.inr (.inr (.inr b)))
def pt_cat : pt_V → Nat
  | .inl _ => 1
  | .inr (.inl _) => 2
  | .inr (.inr (.inl _)) => 2
  | .inr (.inr (.inr _)) => 1
/-- a reference that is not null -/
def pt_isR : pt_V → Bool
  | .inr (.inr (.inr (.inl (some _)))) => true
  | .inr (.inr (.inr (.inr _))) => true
  | _ => false
/-- memory: ints, longs, references, by kind, number and place; how many of each kind there are -/
abbrev pt_M : Type := (Nat → Nat → Nat → Int32) × (Nat → Nat → Nat → Int64) × (Nat → Nat → Nat → Option pt_R) × (Nat → Nat)
def pt_up3 {α : Type} (f : Nat → Nat → Nat → α) (c n j : Nat) (v : α) : Nat → Nat → Nat → α := fun c' n' j' => if c' = c ∧ n' = n ∧ j' = j then v else f c' n' j'
def pt_up2 {α : Type} (f : Nat → Nat → Nat → α) (c n : Nat) (g : Nat → α) : Nat → Nat → Nat → α := fun c' n' j' => if c' = c ∧ n' = n then g j' else f c' n' j'
def pt_rI (μ : pt_M) (c n j : Nat) : Int32 := μ.1 c n j
def pt_rJ (μ : pt_M) (c n j : Nat) : Int64 := μ.2.1 c n j
def pt_rR (μ : pt_M) (c n j : Nat) : Option pt_R := μ.2.2.1 c n j
def pt_cn (μ : pt_M) (c : Nat) : Nat := μ.2.2.2 c
def pt_wI (μ : pt_M) (c n j : Nat) (v : Int32) : pt_M := (pt_up3 μ.1 c n j v, μ.2.1, μ.2.2.1, μ.2.2.2)
def pt_wJ (μ : pt_M) (c n j : Nat) (v : Int64) : pt_M := (μ.1, pt_up3 μ.2.1 c n j v, μ.2.2.1, μ.2.2.2)
def pt_wR (μ : pt_M) (c n j : Nat) (v : Option pt_R) : pt_M := (μ.1, μ.2.1, pt_up3 μ.2.2.1 c n j v, μ.2.2.2)
/-- a row of ints at once (arraycopy) -/
def pt_wRow (μ : pt_M) (c n : Nat) (g : Nat → Int32) : pt_M := (pt_up2 μ.1 c n g, μ.2.1, μ.2.2.1, μ.2.2.2)
/-- a new cell of the kind, all zero -/
def pt_nw (μ : pt_M) (c : Nat) : pt_M := (pt_up2 μ.1 c (μ.2.2.2 c) (fun _ => 0), pt_up2 μ.2.1 c (μ.2.2.2 c) (fun _ => 0), pt_up2 μ.2.2.1 c (μ.2.2.2 c) (fun _ => none), fun c' => if c' = c then μ.2.2.2 c + 1 else μ.2.2.2 c')
/-- a thrown exception is counted, as kind 24 -/
def pt_thr (μ : pt_M) : pt_M := (μ.1, μ.2.1, μ.2.2.1, fun c' => if c' = 24 then μ.2.2.2 24 + 1 else μ.2.2.2 c')
/-- locals: by place; none: not known -/
abbrev pt_L : Type := List (Option pt_V)
def pt_nth {α : Type} : List α → Nat → Option α
  | [], _ => none
  | a :: _, 0 => some a
  | _ :: l, n + 1 => pt_nth l n
def pt_lg : pt_L → Nat → Option pt_V
  | [], _ => none
  | a :: _, 0 => a
  | _ :: l, n + 1 => pt_lg l n
/-- what stays of a place whose next one is written -/
def pt_clr : Option pt_V → Option pt_V
  | some (.inl x) => some (.inl x)
  | some (.inr (.inr (.inr x))) => some (.inr (.inr (.inr x)))
  | _ => none
def pt_ls1 : pt_L → Nat → pt_V → pt_L
  | [], _, _ => []
  | _ :: l, 0, v => some v :: l
  | a :: l, 1, v => pt_clr a :: pt_ls1 l 0 v
  | a :: l, n + 2, v => a :: pt_ls1 l (n + 1) v
def pt_ls2 : pt_L → Nat → pt_V → pt_L
  | [], _, _ => []
  | [_], _, _ => []
  | _ :: _ :: l, 0, v => some v :: none :: l
  | a :: l, 1, v => pt_clr a :: pt_ls2 l 0 v
  | a :: l, n + 2, v => a :: pt_ls2 l (n + 1) v
def pt_flat : List pt_V → pt_L
  | [] => []
  | .inl x :: l => some (.inl x) :: pt_flat l
  | .inr (.inl x) :: l => some (.inr (.inl x)) :: none :: pt_flat l
  | .inr (.inr (.inl x)) :: l => some (.inr (.inr (.inl x))) :: none :: pt_flat l
  | .inr (.inr (.inr x)) :: l => some (.inr (.inr (.inr x))) :: pt_flat l
/-- the locals at a method's entry: n places -/
def pt_pad : Nat → pt_L → pt_L
  | 0, _ => []
  | n + 1, [] => none :: pt_pad n []
  | n + 1, a :: l => a :: pt_pad n l
def pt_ent (n : Nat) (as : List pt_V) : pt_L := pt_pad n (pt_flat as)
def pt_cats : List pt_V → Nat
  | [] => 0
  | v :: l => pt_cat v + pt_cats l
/-- the topmost n of the stack, lowest first, and the rest -/
def pt_pop : Nat → List pt_V → List pt_V → Option (List pt_V × List pt_V)
  | 0, acc, st => some (acc, st)
  | _ + 1, _, [] => none
  | n + 1, acc, v :: st => pt_pop n (v :: acc) st
def pt_vl : Option pt_V → List pt_V → List pt_V
  | none, l => l
  | some v, l => v :: l
/-- an instruction: itself, the next place, its target, three numbers, a constant -/
abbrev pt_E : Type := Instr × Nat × Nat × Nat × Nat × Nat × pt_V
/-- what a step does: goes on; calls (method, arguments, where it goes on, what stays on the stack); ends (an answer, or an exception's number) -/
abbrev pt_C : Type := (Nat × pt_L × List pt_V × pt_M) ⊕ (Nat × List pt_V × Nat × List pt_V) ⊕ (Option pt_V ⊕ Nat)
abbrev pt_go (n : Nat) (L : pt_L) (st : List pt_V) (μ : pt_M) : Option pt_C := some (.inl (n, L, st, μ))
/-- the length and element type (0 int, 1 boolean, 2 long, 3 reference) of a kind of arrays; of a kind of objects how many fields -/
def pt_len : Nat → Nat
  | 0 => 1 | 1 => 3 | 2 => 10 | 3 => 2 | 4 => 3 | 5 => 9 | 6 => 5 | 7 => 3 | 8 => 7 | 9 => 1
  | 10 => 2 | 11 => 60 | 12 => 10 | 13 => 1024 | 14 => 106 | 15 => 636 | 16 => 212 | 17 => 60
  | 18 => 2 | 19 => 2 | 20 => 6 | 21 => 2 | 22 => 10 | 23 => 1 | 24 => 6 | _ => 0
def pt_ety : Nat → Nat
  | 10 => 0 | 11 => 0 | 12 => 0 | 13 => 0 | 14 => 0 | 15 => 0 | 16 => 0 | 17 => 0
  | 18 => 1 | 19 => 3 | 20 => 3 | 21 => 3 | 22 => 3 | 23 => 0 | _ => 9
/-- the kind of the elements of an array of references -/
def pt_ekd : Nat → Nat
  | 19 => 2 | 20 => 2 | 21 => 4 | 22 => 5 | _ => 99
