/-! The abstract machine's runs. -/
/-- the handler for the exception E thrown at pc -/
def pt_catch : List (Nat × Nat × Nat × Nat × Nat) → Nat → Nat → Option Nat
  | [], _, _ => none
  | (a, b, h, _, E) :: l, pc, X => bif Nat.ble a pc && (Nat.blt pc b && Nat.beq E X) then some h else pt_catch l pc X
/-- the methods that throw -/
def pt_thl : List Nat := [54, 55, 56, 57, 58, 59, 60, 62, 65, 66, 67, 68, 69, 71, 72, 73, 74, 75, 76, 78]
def pt_mayT (y : Nat) : Bool := pt_thl.any (fun z => Nat.beq z y)
/-- no caught exception among the locals -/
def pt_noX : pt_L → Bool
  | [] => true
  | some (.inr (.inr (.inr (.inr false)))) :: _ => false
  | _ :: l => pt_noX l
/-- what a run gives: an answer or an exception's number, and the memory behind it -/
abbrev pt_O : Type := (Option pt_V ⊕ Nat) × pt_M
def pt_ex : Nat → Nat → Option (Nat × (Nat → Int32)) → Nat → pt_L → List pt_V → pt_M → Option pt_O
  | 0, _, _, _, _, _, _ => none
  | n + 1, k, ext, pc, L, st, μ => match pt_fetch k pc with
    | none => none
    | some e => match pt_step k ext e L st μ with
      | none => none
      | some (.inl (pc', L', st', μ')) => pt_ex n k ext pc' L' st' μ'
      | some (.inr (.inl (y, as, pc', r))) => (match pt_ex n y ext 0 (pt_ent (pt_maxL y) as) [] μ with
        | none => none
        | some (.inl v, μ') => pt_ex n k ext pc' L (pt_vl v r) μ'
        | some (.inr E, μ') => (bif pt_mayT y && pt_noX L then (match pt_catch (pt_hand k) pc E with
          | none => none
          | some h => pt_ex n k ext h L [vX false] μ') else none))
      | some (.inr (.inr (.inl v))) => some (.inl v, μ)
      | some (.inr (.inr (.inr E))) => some (.inr E, pt_thr μ)
theorem pt_ex_mono : ∀ (n : Nat) (k : Nat) (ext : Option (Nat × (Nat → Int32))) (pc : Nat) (L : pt_L) (st : List pt_V) (μ : pt_M) (o : pt_O), pt_ex n k ext pc L st μ = some o → pt_ex (n + 1) k ext pc L st μ = some o := by
  intro n
  induction n with
  | zero => intro k ext pc L st μ o h; simp [pt_ex] at h
  | succ n ih =>
    intro k ext pc L st μ o h
    rw [pt_ex] at h ⊢
    cases hf : pt_fetch k pc with
    | none => rw [hf] at h; simp at h
    | some e =>
      rw [hf] at h
      simp only [] at h ⊢
      cases hs : pt_step k ext e L st μ with
      | none => rw [hs] at h; simp at h
      | some c =>
        rw [hs] at h
        rcases c with ⟨pc', L', st', μ'⟩ | ⟨y, as, pc', r⟩ | v' | E'
        · exact ih _ _ _ _ _ _ _ h
        · simp only [] at h ⊢
          cases hc : pt_ex n y ext 0 (pt_ent (pt_maxL y) as) [] μ with
          | none => rw [hc] at h; simp at h
          | some q =>
            rw [hc] at h
            rw [ih _ _ _ _ _ _ _ hc]
            rcases q with ⟨v | E, μ'⟩
            · exact ih _ _ _ _ _ _ _ h
            · simp only [] at h ⊢
              cases hm : (pt_mayT y && pt_noX L) with
              | false => rw [hm] at h; simp at h
              | true =>
                rw [hm] at h
                simp only [cond_true] at h ⊢
                cases hh : pt_catch (pt_hand k) pc E with
                | none => rw [hh] at h; simp at h
                | some hp =>
                  rw [hh] at h
                  exact ih _ _ _ _ _ _ _ h
        · exact h
        · exact h
theorem pt_ex_le {n m k : Nat} {ext : Option (Nat × (Nat → Int32))} {pc : Nat} {L : pt_L} {st : List pt_V} {μ : pt_M} {o : pt_O} (hnm : n ≤ m) (h : pt_ex n k ext pc L st μ = some o) : pt_ex m k ext pc L st μ = some o := by
  obtain ⟨d, rfl⟩ := Nat.le.dest hnm
  induction d with
  | zero => exact h
  | succ d ih => exact pt_ex_mono _ _ _ _ _ _ _ _ (ih (Nat.le_add_right _ _))
theorem pt_ald_ext {et : Nat} {ext : Option (Nat × (Nat → Int32))} {n : Nat} {L : pt_L} {st : List pt_V} {μ : pt_M} {c : pt_C} (h : pt_ald et none n L st μ = some c) : pt_ald et ext n L st μ = some c := by
  unfold pt_ald at h ⊢
  split at h
  · exact h
  · simp at h
  · simp at h
/-- the script is there, or not: what doesn't ask for it goes on the same way -/
theorem pt_step_ext {k : Nat} {ext : Option (Nat × (Nat → Int32))} {e : pt_E} {L : pt_L} {st : List pt_V} {μ : pt_M} {c : pt_C} (h : pt_step k none e L st μ = some c) : pt_step k ext e L st μ = some c := by
  obtain ⟨i, n9, t9, X, Y, Z, c9⟩ := e
  cases i
  case iaload => exact pt_ald_ext h
  case baload => exact pt_ald_ext h
  case laload => exact pt_ald_ext h
  case aaload => exact pt_ald_ext h
  case arraylength =>
    simp only [pt_step] at h
    cases h
  all_goals exact h
theorem pt_ex_ext {ext : Option (Nat × (Nat → Int32))} : ∀ (n : Nat) (k : Nat) (pc : Nat) (L : pt_L) (st : List pt_V) (μ : pt_M) (o : pt_O), pt_ex n k none pc L st μ = some o → pt_ex n k ext pc L st μ = some o := by
  intro n
  induction n with
  | zero => intro k pc L st μ o h; simp [pt_ex] at h
  | succ n ih =>
    intro k pc L st μ o h
    rw [pt_ex] at h ⊢
    cases hf : pt_fetch k pc with
    | none => rw [hf] at h; simp at h
    | some e =>
      rw [hf] at h
      simp only [] at h ⊢
      cases hs : pt_step k none e L st μ with
      | none => rw [hs] at h; simp at h
      | some c =>
        rw [hs] at h
        rw [pt_step_ext hs]
        rcases c with ⟨pc', L', st', μ'⟩ | ⟨y, as, pc', r⟩ | v' | E'
        · exact ih _ _ _ _ _ _ h
        · simp only [] at h ⊢
          cases hc : pt_ex n y none 0 (pt_ent (pt_maxL y) as) [] μ with
          | none => rw [hc] at h; simp at h
          | some q =>
            rw [hc] at h
            rw [ih _ _ _ _ _ _ hc]
            rcases q with ⟨v | E, μ'⟩
            · exact ih _ _ _ _ _ _ h
            · simp only [] at h ⊢
              cases hm : (pt_mayT y && pt_noX L) with
              | false => rw [hm] at h; simp at h
              | true =>
                rw [hm] at h
                simp only [cond_true] at h ⊢
                cases hh : pt_catch (pt_hand k) pc E with
                | none => rw [hh] at h; simp at h
                | some hp =>
                  rw [hh] at h
                  exact ih _ _ _ _ _ _ h
        · exact h
        · exact h
/-- the run from here ends so -/
def pt_Ev (k : Nat) (ext : Option (Nat × (Nat → Int32))) (pc : Nat) (L : pt_L) (st : List pt_V) (μ : pt_M) (o : pt_O) : Prop := ∃ n, pt_ex n k ext pc L st μ = some o
/-- the method y, called with these arguments, ends so -/
def pt_Ca (y : Nat) (as : List pt_V) (μ : pt_M) (o : pt_O) : Prop := pt_Ev y none 0 (pt_ent (pt_maxL y) as) [] μ o
section
variable {k : Nat} {ext : Option (Nat × (Nat → Int32))} {pc : Nat} {L : pt_L} {st : List pt_V} {μ : pt_M} {o : pt_O} {e : pt_E}
theorem pt_Ev_go {pc' : Nat} {L' : pt_L} {st' : List pt_V} {μ' : pt_M} (hf : pt_fetch k pc = some e) (hs : pt_step k ext e L st μ = some (.inl (pc', L', st', μ'))) (h : pt_Ev k ext pc' L' st' μ' o) : pt_Ev k ext pc L st μ o := by
  obtain ⟨n, h⟩ := h
  refine ⟨n + 1, ?_⟩
  rw [pt_ex, hf]
  simp only []
  rw [hs]
  exact h
theorem pt_Ev_end {v : Option pt_V} (hf : pt_fetch k pc = some e) (hs : pt_step k ext e L st μ = some (.inr (.inr (.inl v)))) : pt_Ev k ext pc L st μ (.inl v, μ) := by
  refine ⟨1, ?_⟩
  rw [pt_ex, hf]
  simp only []
  rw [hs]
theorem pt_Ev_thr {E : Nat} (hf : pt_fetch k pc = some e) (hs : pt_step k ext e L st μ = some (.inr (.inr (.inr E)))) : pt_Ev k ext pc L st μ (.inr E, pt_thr μ) := by
  refine ⟨1, ?_⟩
  rw [pt_ex, hf]
  simp only []
  rw [hs]
theorem pt_Ev_call {y pc' : Nat} {as r : List pt_V} {v : Option pt_V} {μ' : pt_M} (hf : pt_fetch k pc = some e) (hs : pt_step k ext e L st μ = some (.inr (.inl (y, as, pc', r)))) (hc : pt_Ca y as μ (.inl v, μ')) (h : pt_Ev k ext pc' L (pt_vl v r) μ' o) : pt_Ev k ext pc L st μ o := by
  obtain ⟨n, h⟩ := h
  obtain ⟨m, hc⟩ := hc
  have hc := pt_ex_ext (ext := ext) _ _ _ _ _ _ _ hc
  refine ⟨n + m + 1, ?_⟩
  rw [pt_ex, hf]
  simp only []
  rw [hs]
  simp only []
  rw [pt_ex_le (Nat.le_add_left m n) hc]
  exact pt_ex_le (Nat.le_add_right n m) h
theorem pt_Ev_callX {y pc' : Nat} {as r : List pt_V} {v : Option pt_V} {μ' : pt_M} (hf : pt_fetch k pc = some e) (hs : pt_step k ext e L st μ = some (.inr (.inl (y, as, pc', r)))) (hc : pt_Ev y ext 0 (pt_ent (pt_maxL y) as) [] μ (.inl v, μ')) (h : pt_Ev k ext pc' L (pt_vl v r) μ' o) : pt_Ev k ext pc L st μ o := by
  obtain ⟨n, h⟩ := h
  obtain ⟨m, hc⟩ := hc
  refine ⟨n + m + 1, ?_⟩
  rw [pt_ex, hf]
  simp only []
  rw [hs]
  simp only []
  rw [pt_ex_le (Nat.le_add_left m n) hc]
  exact pt_ex_le (Nat.le_add_right n m) h
theorem pt_Ev_catch {y pc' : Nat} {as r : List pt_V} {E h9 : Nat} {μ' : pt_M} (hf : pt_fetch k pc = some e) (hs : pt_step k ext e L st μ = some (.inr (.inl (y, as, pc', r)))) (hc : pt_Ca y as μ (.inr E, μ')) (hm : (pt_mayT y && pt_noX L) = true) (hh : pt_catch (pt_hand k) pc E = some h9) (h : pt_Ev k ext h9 L [vX false] μ' o) : pt_Ev k ext pc L st μ o := by
  obtain ⟨n, h⟩ := h
  obtain ⟨m, hc⟩ := hc
  have hc := pt_ex_ext (ext := ext) _ _ _ _ _ _ _ hc
  refine ⟨n + m + 1, ?_⟩
  rw [pt_ex, hf]
  simp only []
  rw [hs]
  simp only []
  rw [pt_ex_le (Nat.le_add_left m n) hc]
  simp only []
  rw [hm]
  simp only [cond_true]
  rw [hh]
  exact pt_ex_le (Nat.le_add_right n m) h
end
