/-! One step, in the memory of one object and of both. -/
def eC (v : Bool) (M' : pt_M) : pt_C → pt_C
  | .inl (pc, L, st, _) => .inl (pc, eL v L, eS v st, M')
  | .inr (.inl (y, as, pc, r)) => .inr (.inl (y, eS v as, pc, eS v r))
  | .inr (.inr (.inl w)) => .inr (.inr (.inl (w.map (eV v))))
  | .inr (.inr (.inr E)) => .inr (.inr (.inr E))
def mC (μ : pt_M) : pt_C → pt_M
  | .inl (_, _, _, μ') => μ'
  | _ => μ
/-- what is said of one step -/
def Tr (v : Bool) (μ M : pt_M) (R : Option pt_C) (c : pt_C) : Prop := ∃ M', R = some (eC v M' c) ∧ Vw v (mC μ c) M' ∧ Fw v M M' ∧ M'.2.2.2 = M.2.2.2 ∧ (mC μ c).2.2.2 = μ.2.2.2
section
variable {v : Bool} {μ M : pt_M} {n t k x y z : Nat} {L : pt_L} {st : List pt_V} {c9 : pt_C}
theorem tr_go (h : Vw v μ M) {st' : List pt_V} {R : Option pt_C} (hR : R = pt_go n (eL v L) (eS v st') M) : Tr v μ M R (.inl (n, L, st', μ)) := ⟨M, hR, h, Fw.rfl', rfl, rfl⟩
theorem tr_ldR (h : Vw v μ M) (hs : pt_ldR n L st μ x = some c9) : Tr v μ M (pt_ldR n (eL v L) (eS v st) M x) c9 := by
  unfold pt_ldR at hs ⊢
  rw [eL_lg]
  split at hs
  · next q hq => cases hs; rw [hq]; exact tr_go h rfl
  · next b hq => cases hs; rw [hq]; exact tr_go h rfl
  · cases hs
theorem tr_ldI (h : Vw v μ M) (hs : pt_ldI n L st μ x = some c9) : Tr v μ M (pt_ldI n (eL v L) (eS v st) M x) c9 := by
  unfold pt_ldI at hs ⊢
  rw [eL_lg]
  split at hs
  · next q hq => cases hs; rw [hq]; exact tr_go h rfl
  · cases hs
theorem tr_ldJ (h : Vw v μ M) (hs : pt_ldJ n L st μ x = some c9) : Tr v μ M (pt_ldJ n (eL v L) (eS v st) M x) c9 := by
  unfold pt_ldJ at hs ⊢
  rw [eL_lg]
  split at hs
  · next q hq => cases hs; rw [hq]; exact tr_go h rfl
  · cases hs
theorem tr_ldD (h : Vw v μ M) (hs : pt_ldD n L st μ x = some c9) : Tr v μ M (pt_ldD n (eL v L) (eS v st) M x) c9 := by
  unfold pt_ldD at hs ⊢
  rw [eL_lg]
  split at hs
  · next q hq => cases hs; rw [hq]; exact tr_go h rfl
  · cases hs
theorem tr_stR (h : Vw v μ M) (hs : pt_stR n L st μ x = some c9) : Tr v μ M (pt_stR n (eL v L) (eS v st) M x) c9 := by
  unfold pt_stR at hs
  split at hs
  · next q r => cases hs; exact ⟨M, by rw [show eS v (.inr (.inr (.inr (.inl (some q)))) :: r) = .inr (.inr (.inr (.inl (some (eR v q))))) :: eS v r from rfl]; show pt_go n (pt_ls1 (eL v L) x (eV v (.inr (.inr (.inr (.inl (some q))))))) (eS v r) M = _; rw [eL_ls1]; rfl, h, Fw.rfl', rfl, rfl⟩
  · next b r => cases hs; exact ⟨M, by show pt_go n (pt_ls1 (eL v L) x (eV v (.inr (.inr (.inr (.inr b)))))) (eS v r) M = _; rw [eL_ls1]; rfl, h, Fw.rfl', rfl, rfl⟩
  · cases hs
theorem tr_stI (h : Vw v μ M) (hs : pt_stI n L st μ x = some c9) : Tr v μ M (pt_stI n (eL v L) (eS v st) M x) c9 := by
  unfold pt_stI at hs
  split at hs
  · next b r => cases hs; exact ⟨M, by show pt_go n (pt_ls1 (eL v L) x (eV v (.inl b))) (eS v r) M = _; rw [eL_ls1]; rfl, h, Fw.rfl', rfl, rfl⟩
  · cases hs
theorem tr_stJ (h : Vw v μ M) (hs : pt_stJ n L st μ x = some c9) : Tr v μ M (pt_stJ n (eL v L) (eS v st) M x) c9 := by
  unfold pt_stJ at hs
  split at hs
  · next b r => cases hs; exact ⟨M, by show pt_go n (pt_ls2 (eL v L) x (eV v (.inr (.inl b)))) (eS v r) M = _; rw [eL_ls2]; rfl, h, Fw.rfl', rfl, rfl⟩
  · cases hs
theorem tr_stD (h : Vw v μ M) (hs : pt_stD n L st μ x = some c9) : Tr v μ M (pt_stD n (eL v L) (eS v st) M x) c9 := by
  unfold pt_stD at hs
  split at hs
  · next b r => cases hs; exact ⟨M, by show pt_go n (pt_ls2 (eL v L) x (eV v (.inr (.inr (.inl b))))) (eS v r) M = _; rw [eL_ls2]; rfl, h, Fw.rfl', rfl, rfl⟩
  · cases hs
theorem tr_i2 {f : Int32 → Int32 → Int32} (h : Vw v μ M) (hs : pt_i2 f n L st μ = some c9) : Tr v μ M (pt_i2 f n (eL v L) (eS v st) M) c9 := by
  unfold pt_i2 at hs
  split at hs
  · cases hs; exact tr_go h rfl
  · cases hs
theorem tr_j2 {f : Int64 → Int64 → Int64} (h : Vw v μ M) (hs : pt_j2 f n L st μ = some c9) : Tr v μ M (pt_j2 f n (eL v L) (eS v st) M) c9 := by
  unfold pt_j2 at hs
  split at hs
  · cases hs; exact tr_go h rfl
  · cases hs
theorem tr_d2 {f : UInt64 → UInt64 → UInt64} (h : Vw v μ M) (hs : pt_d2 f n L st μ = some c9) : Tr v μ M (pt_d2 f n (eL v L) (eS v st) M) c9 := by
  unfold pt_d2 at hs
  split at hs
  · split at hs
    · next hc => cases hs; exact tr_go h (if_pos hc)
    · cases hs
  · cases hs
theorem tr_ite {C : Prop} [Decidable C] (h : Vw v μ M) {st' : List pt_V} (hs : (if C then pt_go t L st' μ else pt_go n L st' μ) = some c9) : Tr v μ M (if C then pt_go t (eL v L) (eS v st') M else pt_go n (eL v L) (eS v st') M) c9 := by
  by_cases hc : C
  · rw [if_pos hc] at hs ⊢; cases hs; exact tr_go h rfl
  · rw [if_neg hc] at hs ⊢; cases hs; exact tr_go h rfl
theorem tr_if0 {c : ClassFile.Cond} (h : Vw v μ M) (hs : pt_if0 c n t L st μ = some c9) : Tr v μ M (pt_if0 c n t (eL v L) (eS v st) M) c9 := by
  unfold pt_if0 at hs
  split at hs
  · cases c <;> exact tr_ite h hs
  · cases hs
theorem tr_if2 {c : ClassFile.Cond} (h : Vw v μ M) (hs : pt_if2 c n t L st μ = some c9) : Tr v μ M (pt_if2 c n t (eL v L) (eS v st) M) c9 := by
  unfold pt_if2 at hs
  split at hs
  · cases c <;> exact tr_ite h hs
  · cases hs
theorem tr_getf (h : Vw v μ M) (hs : pt_getf n L st μ x y = some c9) : Tr v μ M (pt_getf n (eL v L) (eS v st) M x y) c9 := by
  unfold pt_getf at hs
  split at hs
  · next c a r =>
    cases hb : Nat.beq c x with
    | false => rw [hb] at hs; cases hs
    | true =>
      rw [hb] at hs
      simp only [cond_true] at hs
      have e : ∀ {w : pt_V} {q : Option pt_C}, (match pt_ft x y with
          | 0 => pt_go n (eL v L) (.inl (pt_rI M c (em v c a) y) :: eS v r) M
          | 1 => pt_go n (eL v L) (.inl (pt_rI M c (em v c a) y) :: eS v r) M
          | 2 => pt_go n (eL v L) (.inr (.inl (pt_rJ M c (em v c a) y)) :: eS v r) M
          | 3 => (match pt_rR M c (em v c a) y with
            | some q => pt_go n (eL v L) (.inr (.inr (.inr (.inl (some q)))) :: eS v r) M
            | none => none)
          | _ => none) = q → pt_getf n (eL v L) (eS v (.inr (.inr (.inr (.inl (some (c, a))))) :: r)) M x y = q := by
        intro w q hq
        show (bif Nat.beq c x then _ else none) = q
        rw [hb]
        exact hq
      split at hs
      · next h9 =>
        cases hs
        refine ⟨M, e (w := .inl 0) ?_, h, Fw.rfl', rfl, rfl⟩
        rw [h9]
        show pt_go n (eL v L) (.inl (M.1 c (em v c a) y) :: eS v r) M = _
        rw [h.1 c a y]
        rfl
      · next h9 =>
        cases hs
        refine ⟨M, e (w := .inl 0) ?_, h, Fw.rfl', rfl, rfl⟩
        rw [h9]
        show pt_go n (eL v L) (.inl (M.1 c (em v c a) y) :: eS v r) M = _
        rw [h.1 c a y]
        rfl
      · next h9 =>
        cases hs
        refine ⟨M, e (w := .inl 0) ?_, h, Fw.rfl', rfl, rfl⟩
        rw [h9]
        show pt_go n (eL v L) (.inr (.inl (M.2.1 c (em v c a) y)) :: eS v r) M = _
        rw [h.2.1 c a y]
        rfl
      · next h9 =>
        split at hs
        · next q hq =>
          cases hs
          refine ⟨M, e (w := .inl 0) ?_, h, Fw.rfl', rfl, rfl⟩
          rw [h9]
          have h3 := h.2.2 c a y
          rw [show μ.2.2.1 c a y = some q from hq] at h3
          show (match M.2.2.1 c (em v c a) y with
            | some q => pt_go n (eL v L) (.inr (.inr (.inr (.inl (some q)))) :: eS v r) M
            | none => none) = _
          rw [h3]
          rfl
        · cases hs
      · cases hs
  · cases hs
theorem tr_putf (h : Vw v μ M) (hs : pt_putf n L st μ x y = some c9) : Tr v μ M (pt_putf n (eL v L) (eS v st) M x y) c9 := by
  unfold pt_putf at hs
  split at hs
  · next w c a r =>
    cases hb : Nat.beq c x with
    | false => rw [hb] at hs; cases hs
    | true =>
      rw [hb] at hs
      simp only [cond_true] at hs
      have e : ∀ {q : Option pt_C}, (match pt_ft x y with
          | 0 => pt_go n (eL v L) (eS v r) (pt_wI M c (em v c a) y w)
          | 1 => if w = 0 ∨ w = 1 then pt_go n (eL v L) (eS v r) (pt_wI M c (em v c a) y w) else none
          | _ => none) = q → pt_putf n (eL v L) (eS v (.inl w :: .inr (.inr (.inr (.inl (some (c, a))))) :: r)) M x y = q := by
        intro q hq
        show (bif Nat.beq c x then _ else none) = q
        rw [hb]
        exact hq
      obtain ⟨g1, g2⟩ := h.wI (c := c) (n := a) (j := y) w
      split at hs
      · next h9 =>
        cases hs
        refine ⟨_, e ?_, g1, g2, rfl, rfl⟩
        rw [h9]
        rfl
      · next h9 =>
        split at hs
        · next hw =>
          cases hs
          refine ⟨_, e ?_, g1, g2, rfl, rfl⟩
          rw [h9]
          exact if_pos hw
        · cases hs
      · cases hs
  · next w c a r =>
    cases hb : Nat.beq c x with
    | false => rw [hb] at hs; cases hs
    | true =>
      rw [hb] at hs
      simp only [cond_true] at hs
      have e : ∀ {q : Option pt_C}, (match pt_ft x y with
          | 2 => pt_go n (eL v L) (eS v r) (pt_wJ M c (em v c a) y w)
          | _ => none) = q → pt_putf n (eL v L) (eS v (.inr (.inl w) :: .inr (.inr (.inr (.inl (some (c, a))))) :: r)) M x y = q := by
        intro q hq
        show (bif Nat.beq c x then _ else none) = q
        rw [hb]
        exact hq
      obtain ⟨g1, g2⟩ := h.wJ (c := c) (n := a) (j := y) w
      split at hs
      · next h9 =>
        cases hs
        refine ⟨_, e ?_, g1, g2, rfl, rfl⟩
        rw [h9]
        rfl
      · cases hs
  · next w c a r =>
    cases hb : Nat.beq c x with
    | false => rw [hb] at hs; cases hs
    | true =>
      rw [hb] at hs
      simp only [cond_true] at hs
      have e : ∀ {q : Option pt_C}, (match pt_ft x y with
          | 3 => pt_go n (eL v L) (eS v r) (pt_wR M c (em v c a) y (some (eR v w)))
          | _ => none) = q → pt_putf n (eL v L) (eS v (.inr (.inr (.inr (.inl (some w)))) :: .inr (.inr (.inr (.inl (some (c, a))))) :: r)) M x y = q := by
        intro q hq
        show (bif Nat.beq c x then _ else none) = q
        rw [hb]
        exact hq
      obtain ⟨g1, g2⟩ := h.wR (c := c) (n := a) (j := y) (some w)
      split at hs
      · next h9 =>
        cases hs
        refine ⟨_, e ?_, g1, g2, rfl, rfl⟩
        rw [h9]
        rfl
      · cases hs
  · cases hs
theorem tr_ald {et : Nat} (h : Vw v μ M) (hs : pt_ald et none n L st μ = some c9) : Tr v μ M (pt_ald et none n (eL v L) (eS v st) M) c9 := by
  unfold pt_ald at hs
  split at hs
  · next i c a r =>
    by_cases hi : ¬ (i < 0 ∨ pt_len c ≤ i.toNatClampNeg)
    · rw [if_pos hi] at hs
      cases hb : Nat.beq (pt_ety c) et with
      | false => rw [hb] at hs; cases hs
      | true =>
        rw [hb] at hs
        simp only [cond_true] at hs
        have e : ∀ {q : Option pt_C}, (match (generalizing := false) et with
            | 0 => pt_go n (eL v L) (.inl (pt_rI M c (em v c a) i.toNatClampNeg) :: eS v r) M
            | 1 => pt_go n (eL v L) (.inl (pt_rI M c (em v c a) i.toNatClampNeg) :: eS v r) M
            | 2 => pt_go n (eL v L) (.inr (.inl (pt_rJ M c (em v c a) i.toNatClampNeg)) :: eS v r) M
            | 3 => (match pt_rR M c (em v c a) i.toNatClampNeg with
              | some q => pt_go n (eL v L) (.inr (.inr (.inr (.inl (some q)))) :: eS v r) M
              | none => none)
            | _ => none) = q → pt_ald et none n (eL v L) (eS v (.inl i :: .inr (.inr (.inr (.inl (some (c, a))))) :: r)) M = q := by
          intro q hq
          show (if ¬ (i < 0 ∨ pt_len c ≤ i.toNatClampNeg) then (bif Nat.beq (pt_ety c) et then _ else none) else none) = q
          rw [if_pos hi, hb]
          exact hq
        split at hs
        · cases hs
          refine ⟨M, e ?_, h, Fw.rfl', rfl, rfl⟩
          show pt_go n (eL v L) (.inl (M.1 c (em v c a) i.toNatClampNeg) :: eS v r) M = _
          rw [h.1 c a _]
          rfl
        · cases hs
          refine ⟨M, e ?_, h, Fw.rfl', rfl, rfl⟩
          show pt_go n (eL v L) (.inl (M.1 c (em v c a) i.toNatClampNeg) :: eS v r) M = _
          rw [h.1 c a _]
          rfl
        · cases hs
          refine ⟨M, e ?_, h, Fw.rfl', rfl, rfl⟩
          show pt_go n (eL v L) (.inr (.inl (M.2.1 c (em v c a) i.toNatClampNeg)) :: eS v r) M = _
          rw [h.2.1 c a _]
          rfl
        · split at hs
          · next q hq =>
            cases hs
            refine ⟨M, e ?_, h, Fw.rfl', rfl, rfl⟩
            have h3 := h.2.2 c a i.toNatClampNeg
            rw [show μ.2.2.1 c a i.toNatClampNeg = some q from hq] at h3
            show (match M.2.2.1 c (em v c a) i.toNatClampNeg with
              | some q => pt_go n (eL v L) (.inr (.inr (.inr (.inl (some q)))) :: eS v r) M
              | none => none) = _
            rw [h3]
            rfl
          · cases hs
        · cases hs
    · rw [if_neg hi] at hs; cases hs
  · simp at hs
  · cases hs
theorem tr_ast {et : Nat} (h : Vw v μ M) (hs : pt_ast et n L st μ = some c9) : Tr v μ M (pt_ast et n (eL v L) (eS v st) M) c9 := by
  unfold pt_ast at hs
  split at hs
  · next w i c a r =>
    by_cases hi : ¬ (i < 0 ∨ pt_len c ≤ i.toNatClampNeg)
    · rw [if_pos hi] at hs
      cases hb : Nat.beq (pt_ety c) et with
      | false => rw [hb] at hs; cases hs
      | true =>
        rw [hb] at hs
        simp only [cond_true] at hs
        have e : ∀ {q : Option pt_C}, (match (generalizing := false) et with
            | 0 => pt_go n (eL v L) (eS v r) (pt_wI M c (em v c a) i.toNatClampNeg w)
            | 1 => if w = 0 ∨ w = 1 then pt_go n (eL v L) (eS v r) (pt_wI M c (em v c a) i.toNatClampNeg w) else none
            | _ => none) = q → pt_ast et n (eL v L) (eS v (.inl w :: .inl i :: .inr (.inr (.inr (.inl (some (c, a))))) :: r)) M = q := by
          intro q hq
          show (if ¬ (i < 0 ∨ pt_len c ≤ i.toNatClampNeg) then (bif Nat.beq (pt_ety c) et then _ else none) else none) = q
          rw [if_pos hi, hb]
          exact hq
        obtain ⟨g1, g2⟩ := h.wI (c := c) (n := a) (j := i.toNatClampNeg) w
        split at hs
        · cases hs
          exact ⟨_, e rfl, g1, g2, rfl, rfl⟩
        · split at hs
          · next hw =>
            cases hs
            exact ⟨_, e (if_pos hw), g1, g2, rfl, rfl⟩
          · cases hs
        · cases hs
    · rw [if_neg hi] at hs; cases hs
  · next w i c a r =>
    by_cases hi : ¬ (i < 0 ∨ pt_len c ≤ i.toNatClampNeg)
    · rw [if_pos hi] at hs
      cases hb : Nat.beq (pt_ety c) et with
      | false => rw [hb] at hs; cases hs
      | true =>
        rw [hb] at hs
        simp only [cond_true] at hs
        have e : ∀ {q : Option pt_C}, (match (generalizing := false) et with
            | 2 => pt_go n (eL v L) (eS v r) (pt_wJ M c (em v c a) i.toNatClampNeg w)
            | _ => none) = q → pt_ast et n (eL v L) (eS v (.inr (.inl w) :: .inl i :: .inr (.inr (.inr (.inl (some (c, a))))) :: r)) M = q := by
          intro q hq
          show (if ¬ (i < 0 ∨ pt_len c ≤ i.toNatClampNeg) then (bif Nat.beq (pt_ety c) et then _ else none) else none) = q
          rw [if_pos hi, hb]
          exact hq
        obtain ⟨g1, g2⟩ := h.wJ (c := c) (n := a) (j := i.toNatClampNeg) w
        split at hs
        · cases hs
          exact ⟨_, e rfl, g1, g2, rfl, rfl⟩
        · cases hs
    · rw [if_neg hi] at hs; cases hs
  · next c2 a2 i c a r =>
    by_cases hi : ¬ (i < 0 ∨ pt_len c ≤ i.toNatClampNeg)
    · rw [if_pos hi] at hs
      cases hb : (Nat.beq (pt_ety c) et && Nat.beq c2 (pt_ekd c)) with
      | false => rw [hb] at hs; cases hs
      | true =>
        rw [hb] at hs
        simp only [cond_true] at hs
        have e : ∀ {q : Option pt_C}, (match (generalizing := false) et with
            | 3 => pt_go n (eL v L) (eS v r) (pt_wR M c (em v c a) i.toNatClampNeg (some (c2, em v c2 a2)))
            | _ => none) = q → pt_ast et n (eL v L) (eS v (.inr (.inr (.inr (.inl (some (c2, a2))))) :: .inl i :: .inr (.inr (.inr (.inl (some (c, a))))) :: r)) M = q := by
          intro q hq
          show (if ¬ (i < 0 ∨ pt_len c ≤ i.toNatClampNeg) then (bif Nat.beq (pt_ety c) et && Nat.beq c2 (pt_ekd c) then _ else none) else none) = q
          rw [if_pos hi, hb]
          exact hq
        obtain ⟨g1, g2⟩ := h.wR (c := c) (n := a) (j := i.toNatClampNeg) (some (c2, a2))
        split at hs
        · cases hs
          exact ⟨_, e rfl, g1, g2, rfl, rfl⟩
        · cases hs
    · rw [if_neg hi] at hs; cases hs
  · cases hs
theorem pt_inv_o (h4 : ¬ x = 4) (h6 : ¬ x = 6) (h9 : ¬ x = 9) : pt_inv k n L st μ x y z = (match pt_pop z [] st with
    | some (as, r) => bif pt_rcv x y as && pt_fit k y as r then some (.inr (.inl (y, as, n, r))) else none
    | none => none) := by
  unfold pt_inv
  split
  · exact absurd rfl h4
  · exact absurd rfl h6
  · exact absurd rfl h9
  · rfl
theorem tr_inv (h : Vw v μ M) (hs : pt_inv k n L st μ x y z = some c9) : Tr v μ M (pt_inv k n (eL v L) (eS v st) M x y z) c9 := by
  by_cases h4 : x = 4
  · subst h4
    unfold pt_inv at hs
    simp only [] at hs
    split at hs
    · next q r =>
      cases hb : (Nat.ble (pt_cats r) 8 && (Nat.ble 1 (pt_fr k) && Nat.ble 20 (pt_lo k))) with
      | false => rw [hb] at hs; cases hs
      | true =>
        rw [hb] at hs
        cases hs
        refine ⟨M, ?_, h, Fw.rfl', rfl, rfl⟩
        show (bif Nat.ble (pt_cats (eS v r)) 8 && (Nat.ble 1 (pt_fr k) && Nat.ble 20 (pt_lo k)) then pt_go n (eL v L) (eS v r) M else none) = _
        rw [eS_cats, hb]
        rfl
    · cases hs
  · by_cases h6 : x = 6
    · subst h6
      unfold pt_inv at hs
      simp only [] at hs
      split at hs
      · next m dp c1 a1 sp c0 a0 r =>
        by_cases hi : ¬ (m < 0 ∨ dp < 0 ∨ sp < 0) ∧ sp.toNatClampNeg + m.toNatClampNeg ≤ pt_len c0 ∧ dp.toNatClampNeg + m.toNatClampNeg ≤ pt_len c1
        · rw [if_pos hi] at hs
          cases hb : (Nat.beq (pt_ety c0) 0 && (Nat.beq (pt_ety c1) 0 && (Nat.ble (pt_cats r) 8 && (Nat.ble 1 (pt_fr k) && Nat.ble 26 (pt_lo k))))) with
          | false => rw [hb] at hs; cases hs
          | true =>
            rw [hb] at hs
            cases hs
            obtain ⟨g1, g2⟩ := h.wRow (c := c1) (n := a1) (va_cpy (pt_rI μ c0 a0) (pt_rI μ c1 a1) sp.toNatClampNeg dp.toNatClampNeg m.toNatClampNeg)
            refine ⟨_, ?_, g1, g2, rfl, rfl⟩
            show (if ¬ (m < 0 ∨ dp < 0 ∨ sp < 0) ∧ sp.toNatClampNeg + m.toNatClampNeg ≤ pt_len c0 ∧ dp.toNatClampNeg + m.toNatClampNeg ≤ pt_len c1 then (bif Nat.beq (pt_ety c0) 0 && (Nat.beq (pt_ety c1) 0 && (Nat.ble (pt_cats (eS v r)) 8 && (Nat.ble 1 (pt_fr k) && Nat.ble 26 (pt_lo k)))) then pt_go n (eL v L) (eS v r) (pt_wRow M c1 (em v c1 a1) (va_cpy (M.1 c0 (em v c0 a0)) (M.1 c1 (em v c1 a1)) sp.toNatClampNeg dp.toNatClampNeg m.toNatClampNeg)) else none) else none) = _
            rw [if_pos hi, eS_cats, hb, show M.1 c0 (em v c0 a0) = μ.1 c0 a0 from funext (h.1 c0 a0), show M.1 c1 (em v c1 a1) = μ.1 c1 a1 from funext (h.1 c1 a1)]
            rfl
        · rw [if_neg hi] at hs; cases hs
      · cases hs
    · by_cases h9 : x = 9
      · subst h9
        simp only [pt_inv] at hs
        cases hs
      · rw [pt_inv_o h4 h6 h9] at hs
        rw [pt_inv_o h4 h6 h9]
        split at hs
        · next as r hp =>
          cases hb : (pt_rcv x y as && pt_fit k y as r) with
          | false => rw [hb] at hs; cases hs
          | true =>
            rw [hb] at hs
            cases hs
            have hp2 := eS_pop (v := v) _ _ _ _ _ hp
            rw [Bool.and_eq_true] at hb
            have hf : pt_fit k y (eS v as) (eS v r) = true := by
              have := hb.2
              unfold pt_fit at this ⊢
              rw [eS_cats, eS_flen]
              exact this
            refine ⟨M, ?_, h, Fw.rfl', rfl, rfl⟩
            rw [show pt_pop z [] (eS v st) = some (eS v as, eS v r) from hp2]
            show (bif pt_rcv x y (eS v as) && pt_fit k y (eS v as) (eS v r) then (some (.inr (.inl (y, eS v as, n, eS v r))) : Option pt_C) else none) = _
            rw [eS_rcv hb.1, hf]
            rfl
        · cases hs
theorem nw_no (X : Nat) (hX : ¬ X = 24) : ¬ ∀ x, ¬ x = 24 → (pt_nw μ X).2.2.2 x = μ.2.2.2 x := by
  intro h
  have h1 := h X hX
  have h2 : (if X = X then μ.2.2.2 X + 1 else μ.2.2.2 X) = μ.2.2.2 X := h1
  rw [if_pos rfl] at h2
  omega
end
set_option maxHeartbeats 4000000 in
theorem tr_step {v : Bool} {μ M : pt_M} {k pc : Nat} {e : pt_E} {L : pt_L} {st : List pt_V} {c9 : pt_C} (h : Vw v μ M) (hf : pt_fetch k pc = some e) (hs : pt_step k none e L st μ = some c9) (hcn : ∀ x, ¬ x = 24 → (mC μ c9).2.2.2 x = μ.2.2.2 x) : Tr v μ M (pt_step k none e (eL v L) (eS v st) M) c9 := by
  have hck := pt_ck_ok k pc e hf
  obtain ⟨i, n, t, x, y, z, c⟩ := e
  cases i
  case aload j => exact tr_ldR h hs
  case aload_n j => exact tr_ldR h hs
  case iload j => exact tr_ldI h hs
  case iload_n j => exact tr_ldI h hs
  case lload j => exact tr_ldJ h hs
  case lload_n j => exact tr_ldJ h hs
  case dload j => exact tr_ldD h hs
  case dload_n j => exact tr_ldD h hs
  case astore j => exact tr_stR h hs
  case astore_n j => exact tr_stR h hs
  case istore j => exact tr_stI h hs
  case istore_n j => exact tr_stI h hs
  case lstore j => exact tr_stJ h hs
  case lstore_n j => exact tr_stJ h hs
  case dstore j => exact tr_stD h hs
  case dstore_n j => exact tr_stD h hs
  case iconst w =>
    simp only [pt_ck, Bool.and_eq_true, decide_eq_true_eq] at hck
    obtain ⟨-, -, rfl⟩ := hck
    cases hs; exact tr_go h rfl
  case bipush w =>
    simp only [pt_ck, Bool.and_eq_true, decide_eq_true_eq] at hck
    obtain ⟨-, -, rfl⟩ := hck
    cases hs; exact tr_go h rfl
  case sipush w =>
    simp only [pt_ck, Bool.and_eq_true, decide_eq_true_eq] at hck
    obtain ⟨-, -, rfl⟩ := hck
    cases hs; exact tr_go h rfl
  case lconst w =>
    simp only [pt_ck, Bool.and_eq_true, decide_eq_true_eq] at hck
    obtain ⟨-, -, rfl⟩ := hck
    cases hs; exact tr_go h rfl
  case dconst w =>
    simp only [pt_ck, Bool.and_eq_true, Bool.or_eq_true, decide_eq_true_eq] at hck
    obtain ⟨-, -, ⟨-, rfl⟩ | ⟨-, rfl⟩⟩ := hck
    · cases hs; exact tr_go h rfl
    · cases hs; exact tr_go h rfl
  case ldc j =>
    simp only [pt_step] at hs ⊢
    split at hs
    · cases hs; exact tr_go h rfl
    · cases hs
  case ldc_w j =>
    simp only [pt_step] at hs ⊢
    split at hs
    · cases hs; exact tr_go h rfl
    · cases hs
  case ldc2_w j =>
    simp only [pt_ck, Bool.and_eq_true] at hck
    obtain ⟨-, -, -, hc⟩ := hck
    split at hc
    · cases hs; exact tr_go h rfl
    · cases hs; exact tr_go h rfl
    · cases hc
  case iinc j d =>
    simp only [pt_step] at hs ⊢
    split at hs
    · next w d9 hw =>
      cases hs
      rw [eL_lg, hw]
      exact ⟨M, by show pt_go n (pt_ls1 (eL v L) x (eV v (.inl (w + d9)))) (eS v st) M = _; rw [eL_ls1]; rfl, h, Fw.rfl', rfl, rfl⟩
    · cases hs
  case iadd => exact tr_i2 h hs
  case isub => exact tr_i2 h hs
  case imul => exact tr_i2 h hs
  case iand => exact tr_i2 h hs
  case ior => exact tr_i2 h hs
  case ixor => exact tr_i2 h hs
  case ishl => exact tr_i2 h hs
  case ishr => exact tr_i2 h hs
  case iushr => exact tr_i2 h hs
  case idiv =>
    simp only [pt_step] at hs
    split at hs
    · split at hs
      · cases hs
      · next hb => cases hs; exact tr_go h (if_neg hb)
    · cases hs
  case irem =>
    simp only [pt_step] at hs
    split at hs
    · split at hs
      · cases hs
      · next hb => cases hs; exact tr_go h (if_neg hb)
    · cases hs
  case ladd => exact tr_j2 h hs
  case lsub => exact tr_j2 h hs
  case lmul => exact tr_j2 h hs
  case dmul => exact tr_d2 h hs
  case dsub => exact tr_d2 h hs
  case ddiv => exact tr_d2 h hs
  case goto o => cases hs; exact tr_go h rfl
  case ifCond q o => exact tr_if0 h hs
  case if_icmp q o => exact tr_if2 h hs
  case tableswitch d lo hi offs =>
    simp only [pt_step] at hs
    split at hs
    · next w r =>
      by_cases hc : w.toInt < lo ∨ hi < w.toInt
      · rw [if_pos hc] at hs
        cases hs
        exact tr_go h (if_pos hc)
      · rw [if_neg hc] at hs
        cases ho : offs[(w.toInt - lo).toNat]? with
        | none => rw [ho] at hs; cases hs
        | some o =>
          rw [ho] at hs
          cases hs
          refine ⟨M, ?_, h, Fw.rfl', rfl, rfl⟩
          refine (if_neg hc).trans ?_
          rw [ho]
          rfl
    · cases hs
  case getfield j => exact tr_getf h hs
  case putfield j => exact tr_putf h hs
  case iaload => exact tr_ald h hs
  case baload => exact tr_ald h hs
  case laload => exact tr_ald h hs
  case aaload => exact tr_ald h hs
  case iastore => exact tr_ast h hs
  case bastore => exact tr_ast h hs
  case lastore => exact tr_ast h hs
  case aastore => exact tr_ast h hs
  case arraylength =>
    simp only [pt_step] at hs
    cases hs
  case new j =>
    simp only [pt_ck, Bool.and_eq_true, decide_eq_true_eq] at hck
    obtain ⟨-, -, hc⟩ := hck
    simp only [pt_step] at hs
    cases hb : Nat.ble 100 x with
    | true =>
      rw [hb] at hs
      simp only [cond_true] at hs
      split at hs
      · cases hs
        refine ⟨M, ?_, h, Fw.rfl', rfl, rfl⟩
        simp only [pt_step]
        rw [hb]
        rfl
      · cases hs
    | false =>
      rw [hb] at hs hc
      simp only [cond_false, decide_eq_true_eq] at hs hc
      cases hs
      have hX := (pt_kl_spec hc).2
      exact absurd hcn (nw_no x (by have : x < 10 := hX; omega))
  case newarray ty =>
    simp only [pt_ck, Bool.and_eq_true, Nat.blt_eq] at hck
    simp only [pt_step] at hs
    split at hs
    · split at hs
      · cases hs
        exact absurd hcn (nw_no x (by omega))
      · cases hs
    · cases hs
  case anewarray ty =>
    simp only [pt_ck, Bool.and_eq_true, Nat.blt_eq] at hck
    simp only [pt_step] at hs
    split at hs
    · split at hs
      · cases hs
        exact absurd hcn (nw_no x (by omega))
      · cases hs
    · cases hs
  case invokestatic j => exact tr_inv h hs
  case invokevirtual j => exact tr_inv h hs
  case invokespecial j => exact tr_inv h hs
  case ireturn =>
    simp only [pt_step, pt_end] at hs
    split at hs
    · split at hs
      · next h9 => cases hs; exact ⟨M, by simp only [pt_step, eS, List.map_cons, List.map_nil, eV]; rw [h9]; rfl, h, Fw.rfl', rfl, rfl⟩
      · next h9 =>
        split at hs
        · next hw => cases hs; exact ⟨M, by simp only [pt_step, eS, List.map_cons, List.map_nil, eV]; rw [h9]; exact if_pos hw, h, Fw.rfl', rfl, rfl⟩
        · cases hs
      · cases hs
    · cases hs
  case lreturn =>
    simp only [pt_step, pt_end] at hs
    split at hs
    · cases hb : Nat.beq (pt_ret k) 3 with
      | false => rw [hb] at hs; cases hs
      | true => rw [hb] at hs; cases hs; exact ⟨M, by simp only [pt_step, eS, List.map_cons, List.map_nil, eV]; rw [hb]; rfl, h, Fw.rfl', rfl, rfl⟩
    · cases hs
  case dreturn =>
    simp only [pt_step, pt_end] at hs
    split at hs
    · cases hb : Nat.beq (pt_ret k) 4 with
      | false => rw [hb] at hs; cases hs
      | true => rw [hb] at hs; cases hs; exact ⟨M, by simp only [pt_step, eS, List.map_cons, List.map_nil, eV]; rw [hb]; rfl, h, Fw.rfl', rfl, rfl⟩
    · cases hs
  case return_ =>
    simp only [pt_step, pt_end] at hs
    split at hs
    · cases hb : Nat.beq (pt_ret k) 0 with
      | false => rw [hb] at hs; cases hs
      | true => rw [hb] at hs; cases hs; exact ⟨M, by simp only [pt_step, eS, List.map_nil]; rw [hb]; rfl, h, Fw.rfl', rfl, rfl⟩
    · cases hs
  case lshl => simp only [pt_step] at hs; split at hs; · cases hs; exact tr_go h rfl
               · cases hs
  case i2l => simp only [pt_step] at hs; split at hs; · cases hs; exact tr_go h rfl
              · cases hs
  case i2d => simp only [pt_step] at hs; split at hs; · cases hs; exact tr_go h rfl
              · cases hs
  case d2l => simp only [pt_step] at hs; split at hs; · cases hs; exact tr_go h rfl
              · cases hs
  case lcmp => simp only [pt_step] at hs; split at hs; · cases hs; exact tr_go h rfl
               · cases hs
  case dcmp op => simp only [pt_step] at hs; split at hs; · cases hs; exact tr_go h rfl
                  · cases hs
  case dup =>
    simp only [pt_step] at hs
    split at hs
    · cases hs; exact tr_go h rfl
    · next a r =>
      cases hs
      rcases a with a | a
      · cases a with
        | none => exact tr_go h rfl
        | some q => exact tr_go h rfl
      · exact tr_go h rfl
    · cases hs
  case dup2 =>
    simp only [pt_step] at hs
    split at hs
    · cases hs; exact tr_go h rfl
    · next a b r =>
      cases hs
      rcases b with b | b
      · cases b with
        | none => exact tr_go h rfl
        | some q => exact tr_go h rfl
      · exact tr_go h rfl
    · cases hs
  case pop =>
    simp only [pt_step] at hs
    split at hs
    · cases hs; exact tr_go h rfl
    · next a r =>
      cases hs
      rcases a with a | a
      · cases a with
        | none => exact tr_go h rfl
        | some q => exact tr_go h rfl
      · exact tr_go h rfl
    · cases hs
  all_goals (simp only [pt_step] at hs; cases hs)
