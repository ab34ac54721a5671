/-! The model's looks at its row. -/
/-- repeated from n-1 down to 0 -/
def fd {α : Type} (f : Nat → α → α) : Nat → α → α
  | 0, a => a
  | n + 1, a => fd f n (f n a)
theorem fd_dn {α : Type} {E : Nat → α → Prop} {f : Nat → α → α} : ∀ {n : Nat} {a : α}, (∀ p b, p < n → E p (f p b) → E (p + 1) b) → E 0 (fd f n a) → E n a
  | 0, _, _, h => h
  | n + 1, a, st, h => st n a (Nat.lt_succ_self n) (fd_dn (n := n) (fun p b hp => st p b (Nat.lt_succ_of_lt hp)) h)
def sel (P : Nat → Bool) (p : Nat) (r : Option Nat) : Option Nat := if P p = true then some p else r
theorem fd_sel {P : Nat → Bool} : ∀ {n : Nat} {a : Option Nat}, fd (sel P) n a = (match fi P n with | some p => some p | none => a)
  | 0, _ => rfl
  | n + 1, a => by
    show fd (sel P) n (sel P n a) = _
    rw [fd_sel, fi]
    cases fi P n with
    | some p => rfl
    | none =>
      show sel P n a = _
      unfold sel
      by_cases h : P n = true
      · rw [if_pos h, if_pos h]
      · rw [if_neg h, if_neg h]
theorem fo_sel_lt {P : Nat → Bool} : ∀ {n q : Nat}, fo (sel P) n none = some q → q < n ∧ P q = true
  | 0, q, h => by simp [fo] at h
  | n + 1, q, h => by
    have h2 : sel P n (fo (sel P) n none) = some q := h
    by_cases c : P n = true
    · rw [sel, if_pos c] at h2
      simp only [Option.some.injEq] at h2
      subst h2
      exact ⟨Nat.lt_succ_self _, c⟩
    · rw [sel, if_neg c] at h2
      have := fo_sel_lt (n := n) h2
      exact ⟨Nat.lt_succ_of_lt this.1, this.2⟩
def sIn3 (x lo hi : Int32) : Bool := decide (¬ x < lo) && decide (¬ hi < x)
def mBy (S : Nat → Int32) (p q : Nat) : Int32 :=
  let b0 := if S 105 = 1 then S (9 * q + 5) - S (9 * p + 5) else 0
  let b1 := if b0 = 0 then S (9 * p + 4) - S (9 * q + 4) else b0
  if b1 = 0 then S (9 * p + 0) - S (9 * q + 0) else b1
def mAhead (S : Nat → Int32) (p q : Nat) : Bool := decide (¬ 0 ≤ mBy S p q)
def mRank (S : Nat → Int32) (p : Nat) : Int32 := fo (fun q a => if (sIn S q 0 && mAhead S q p) = true then a + 1 else a) 10 0
def mRanked (S : Nat → Int32) (x : Int32) : Option Nat := fo (sel (fun p => sIn S p 0 && decide (mRank S p = x))) 10 none
def mCol (S : Nat → Int32) (m : Int32) : Int32 := fo (fun p a => if sAt S p 1 m then S (9 * p + 1) else a) 10 (-1)
def mShelf (S : Nat → Int32) (x : Int32) : Option Nat := fo (sel (fun p => sAt S p 2 x)) 10 none
def mFreeShelf (S : Nat → Int32) : Option Nat := fi (fun k => (mShelf S (nI k)).isNone) 8
section
variable {mi : Nat → Nat → Nat → Int32} {ml : Nat → Nat → Nat → Int64} {ex p q : Nat}
theorem in9 : ∀ {p : Nat}, p < 10 → sIn3 (nI p) 0 9 = true := by decide +kernel
end
