/-! The law's beginning: all is made. -/
def pt_M0 : pt_M := (fun _ _ _ => 0, fun _ _ _ => 0, fun _ _ _ => none, fun _ => 0)
/-- how many references a cell of the kind holds -/
def rj (c : Nat) : Nat := match c with
  | 0 => 1 | 1 => 1 | 2 => 3 | 3 => 1 | 7 => 3 | 8 => 7 | 19 => 2 | 20 => 6 | 21 => 2 | 22 => 10 | _ => 0
def okw (c n j : Nat) : Bool := Nat.blt c 25 && (Nat.blt n (pt_CN2 0 c) && Nat.blt j (rj c))
/-- references only where there are to be some; nothing of a kind past 24 -/
def Sup (μ : pt_M) : Prop := (∀ c n j, ¬ okw c n j = true → μ.2.2.1 c n j = none) ∧ (∀ c, ¬ Nat.blt c 25 = true → μ.2.2.2 c = 0)
theorem Sup.wR {μ : pt_M} {c n j : Nat} {v : Option pt_R} (h : Sup μ) (k : okw c n j = true) : Sup (pt_wR μ c n j v) := by
  refine ⟨fun c' n' j' hk => ?_, h.2⟩
  show pt_up3 μ.2.2.1 c n j v c' n' j' = none
  unfold pt_up3
  by_cases e : c' = c ∧ n' = n ∧ j' = j
  · obtain ⟨rfl, rfl, rfl⟩ := e
    exact absurd k hk
  · rw [if_neg e]
    exact h.1 _ _ _ hk
theorem Sup.nw {μ : pt_M} {c : Nat} (h : Sup μ) (k : Nat.blt c 25 = true) : Sup (pt_nw μ c) := by
  refine ⟨fun c' n' j' hk => ?_, fun c' hk => ?_⟩
  · show pt_up2 μ.2.2.1 c (μ.2.2.2 c) (fun _ => none) c' n' j' = none
    unfold pt_up2
    by_cases e : c' = c ∧ n' = μ.2.2.2 c
    · rw [if_pos e]
    · rw [if_neg e]
      exact h.1 _ _ _ hk
  · show (if c' = c then μ.2.2.2 c + 1 else μ.2.2.2 c') = 0
    by_cases e : c' = c
    · subst e
      exact absurd k hk
    · rw [if_neg e]
      exact h.2 _ hk
/-- may this step write there? -/
def chk (e : pt_E) (st : List pt_V) : Bool := match e with
  | (.putfield _, _, _, _, y, _, _) => (match st with
    | .inr (.inr (.inr (.inl (some _)))) :: .inr (.inr (.inr (.inl (some (c, a))))) :: _ => okw c a y
    | _ => true)
  | (.aastore, _, _, _, _, _, _) => (match st with
    | .inr (.inr (.inr (.inl (some _)))) :: .inl i :: .inr (.inr (.inr (.inl (some (c, a))))) :: _ => okw c a i.toNatClampNeg
    | _ => true)
  | (.new _, _, _, x, _, _, _) => Nat.blt x 25
  | (.newarray _, _, _, x, _, _, _) => Nat.blt x 25
  | (.anewarray _, _, _, x, _, _, _) => Nat.blt x 25
  | _ => true
set_option maxHeartbeats 2000000 in
theorem sup_step {k : Nat} {ext : Option (Nat × (Nat → Int32))} {e : pt_E} {L L' : pt_L} {st st' : List pt_V} {μ μ' : pt_M} {pc' : Nat} (hs : pt_step k ext e L st μ = some (.inl (pc', L', st', μ'))) (hc : chk e st = true) (hS : Sup μ) : Sup μ' := by
  obtain ⟨i, n9, t9, X, Y, Z, c9⟩ := e
  cases i
  all_goals (simp only [pt_step, pt_ldR, pt_ldI, pt_ldJ, pt_ldD, pt_stR, pt_stI, pt_stJ, pt_stD, pt_i2, pt_j2, pt_d2, pt_if0, pt_if2, pt_getf, pt_putf, pt_ald, pt_ast, pt_inv, pt_end, cond] at hs)
  all_goals (repeat' split at hs)
  all_goals cases hs
  all_goals first | exact hS | exact hS.wR hc | exact hS.nw hc
/-- a run with every write looked at -/
def pt_xc : Nat → Nat → Nat → pt_L → List pt_V → pt_M → Option (Option pt_V × pt_M)
  | 0, _, _, _, _, _ => none
  | n + 1, k, pc, L, st, μ => match pt_fetch k pc with
    | none => none
    | some e => bif chk e st then (match pt_step k none e L st μ with
      | none => none
      | some (.inl (pc', L', st', μ')) => pt_xc n k pc' L' st' μ'
      | some (.inr (.inl (y, as, pc', r))) => (match pt_xc n y 0 (pt_ent (pt_maxL y) as) [] μ with
        | none => none
        | some (v, μ') => pt_xc n k pc' L (pt_vl v r) μ')
      | some (.inr (.inr (.inl v))) => some (v, μ)
      | some (.inr (.inr (.inr _))) => none) else none
theorem pt_xc_ok : ∀ (n k pc : Nat) (L : pt_L) (st : List pt_V) (μ : pt_M) (v : Option pt_V) (μ' : pt_M), pt_xc n k pc L st μ = some (v, μ') → pt_Ev k none pc L st μ (.inl v, μ') ∧ (Sup μ → Sup μ') := by
  intro n
  induction n with
  | zero => intro k pc L st μ v μ' h; simp [pt_xc] at h
  | succ n ih =>
    intro k pc L st μ v μ' h
    rw [pt_xc] at h
    cases hf : pt_fetch k pc with
    | none => rw [hf] at h; simp at h
    | some e =>
      rw [hf] at h
      simp only [] at h
      cases hc : chk e st with
      | false => rw [hc] at h; simp at h
      | true =>
        rw [hc] at h
        simp only [cond_true] at h
        cases hs : pt_step k none e L st μ with
        | none => rw [hs] at h; simp at h
        | some r =>
          rw [hs] at h
          rcases r with ⟨pc', L', st', μ1⟩ | ⟨y, as, pc', r⟩ | v1 | E1
          · obtain ⟨q1, q2⟩ := ih _ _ _ _ _ _ _ h
            exact ⟨pt_Ev_go hf hs q1, fun s => q2 (sup_step hs hc s)⟩
          · simp only [] at h
            cases hx : pt_xc n y 0 (pt_ent (pt_maxL y) as) [] μ with
            | none => rw [hx] at h; simp at h
            | some w =>
              obtain ⟨v2, μ2⟩ := w
              rw [hx] at h
              obtain ⟨p1, p2⟩ := ih _ _ _ _ _ _ _ hx
              obtain ⟨q1, q2⟩ := ih _ _ _ _ _ _ _ h
              exact ⟨pt_Ev_call hf hs p1 q1, fun s => q2 (p2 s)⟩
          · simp only [Option.some.injEq, Prod.mk.injEq] at h
            obtain ⟨rfl, rfl⟩ := h
            exact ⟨pt_Ev_end hf hs, fun s => s⟩
          · simp at h
/-- the constructor y of the cell c n -/
def mk1 (y c n : Nat) (μ : pt_M) : Option pt_M := bif Nat.beq (μ.2.2.2 c) n then (match pt_xc 3000 y 0 (pt_ent (pt_maxL y) [vR c n]) [] (pt_nw μ c) with
  | some (none, m) => some m
  | _ => none) else none
theorem mk1_ok {y c n : Nat} {μ μ' : pt_M} (hc : Nat.blt c 25 = true) (h : mk1 y c n μ = some μ') : pt_cn μ c = n ∧ pt_Ca y [vR c n] (pt_nw μ c) (.inl none, μ') ∧ (Sup μ → Sup μ') := by
  unfold mk1 at h
  cases hb : Nat.beq (μ.2.2.2 c) n with
  | false => rw [hb] at h; simp at h
  | true =>
    rw [hb] at h
    simp only [cond_true] at h
    cases hx : pt_xc 3000 y 0 (pt_ent (pt_maxL y) [vR c n]) [] (pt_nw μ c) with
    | none => rw [hx] at h; simp at h
    | some w =>
      obtain ⟨v, m⟩ := w
      rw [hx] at h
      cases v with
      | some v => simp at h
      | none =>
        simp only [Option.some.injEq] at h
        subst h
        obtain ⟨q1, q2⟩ := pt_xc_ok _ _ _ _ _ _ _ _ hx
        exact ⟨Nat.eq_of_beq_eq_true hb, q1, fun s => q2 (s.nw hc)⟩
/-- the row at the start -/
def S0c (k : Nat) : Int32 := if k < 90 then (if k % 9 = 0 ∨ k % 9 = 7 ∨ k % 9 = 8 then -1 else 0) else match k with
  | 90 => 30 | 91 => -1 | 93 => 40 | 94 => -1 | 97 => 100 | 104 => 3 | 105 => 1 | _ => 0
/-- all that is to hold once all is made, as far as it can be counted -/
def allR (μ : pt_M) : Bool := (List.range 25).all (fun c => Nat.beq (μ.2.2.2 c) (pt_CN2 0 c) && (List.range (pt_CN2 0 c)).all (fun n => (List.range (rj c)).all (fun j => decide (μ.2.2.1 c n j = pt_MR2 c n j))))
def allC (mi : Nat → Nat → Nat → Int32) : Bool := (List.range 106).all (fun k => decide (cs mi 0 k = S0c k)) && (decide (mi 18 0 0 = 0) && (decide (mi 18 0 1 = 0) && (decide (mi 7 0 1 = 0) && (decide (mi 1 0 1 = 0) && decide (mi 1 0 2 = 0)))))
def tst : Bool := match mk1 53 8 0 pt_M0 with
  | some m => (match mk1 53 8 1 m with
    | some d => Nat.beq (d.2.2.2 23) 0 && (allR (pt_nw d 23) && (allC (pull false (pt_nw d 23).1) && allC (pull true (pt_nw d 23).1)))
    | none => false)
  | none => false
