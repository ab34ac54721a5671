/-! Emptying, pure. -/
theorem sHere_cg {S T : Nat → Int32} {p : Nat} (h : ∀ j, j < 9 → S (9 * p + j) = T (9 * p + j)) : sHere S p = sHere T p := by
  unfold sHere
  rw [h 0 (by omega)]
theorem sAt_cg {S T : Nat → Int32} {p : Nat} {st wh : Int32} (h : ∀ j, j < 9 → S (9 * p + j) = T (9 * p + j)) : sAt S p st wh = sAt T p st wh := by
  unfold sAt
  rw [sHere_cg h, h 6 (by omega), h 7 (by omega)]
theorem sFirst_cg {S T : Nat → Int32} {m : Int32} (h : ∀ p, p < 10 → ∀ j, j < 9 → S (9 * p + j) = T (9 * p + j)) (n : Nat) : n ≤ 10 → fo (sFirstF S m) n none = fo (sFirstF T m) n none := by
  induction n with
  | zero => intro _; simp only [fo]
  | succ n ih =>
    intro hn
    show sFirstF S m n (fo (sFirstF S m) n none) = sFirstF T m n (fo (sFirstF T m) n none)
    rw [← ih (by omega)]
    have hl : ∀ q, fo (sFirstF S m) n none = some q → q < n := fun q hq => (sFirst_lt S m (n := n) hq).1
    revert hl
    generalize fo (sFirstF S m) n none = r
    intro hl
    have h1 : sAt S n 1 m = sAt T n 1 m := sAt_cg (h n (by omega))
    have h2 : sLess S n r = sLess T n r := by
      cases r with
      | none => rfl
      | some q =>
        have hq := hl q rfl
        unfold sLess
        simp only [h n (by omega) 0 (by omega), h q (by omega) 0 (by omega)]
    unfold sFirstF
    rw [h1, h2]
theorem sFirstIn_cg {S T : Nat → Int32} {m : Int32} (h : ∀ p, p < 10 → ∀ j, j < 9 → S (9 * p + j) = T (9 * p + j)) : sFirstIn S m = sFirstIn T m := sFirst_cg h 10 (Nat.le_refl _)
theorem sShelf_cg {S T : Nat → Int32} {x : Int32} (h : ∀ p, p < 10 → ∀ j, j < 9 → S (9 * p + j) = T (9 * p + j)) : sShelf S x = sShelf T x := fi_congr (fun p hp => sAt_cg (h p hp))
theorem sFreeShelf_cg {S T : Nat → Int32} (h : ∀ p, p < 10 → ∀ j, j < 9 → S (9 * p + j) = T (9 * p + j)) : sFreeShelf S = sFreeShelf T := fi_congr (fun k _ => by simp only [sShelf_cg h])
theorem up1_lo {S : Nat → Int32} {k : Nat} {v : Int32} (hk : 90 ≤ k) : ∀ p, p < 10 → ∀ j, j < 9 → up1 S k v (9 * p + j) = S (9 * p + j) := fun p hp j hj => up1_ne _ _ (by omega)
theorem sFirstIn_hi {S : Nat → Int32} {k : Nat} {v m : Int32} (hk : 90 ≤ k) : sFirstIn (up1 S k v) m = sFirstIn S m := sFirstIn_cg (up1_lo hk)
theorem sFreeShelf_hi {S : Nat → Int32} {k : Nat} {v : Int32} (hk : 90 ≤ k) : sFreeShelf (up1 S k v) = sFreeShelf S := sFreeShelf_cg (up1_lo hk)
/-- a pile put on a shelf -/
def sPutT (S : Nat → Int32) (p : Nat) (x : Int32) : Nat → Int32 := up1 (up1 (up1 (up1 S (9 * p + 6) 2) (9 * p + 7) x) (9 * p + 8) (S 96)) 100 (if S 96 ≤ S (9 * p + 4) then S 100 else S 100 + 1)
section
variable {S T : Nat → Int32} {p q k j : Nat} {x m : Int32}
theorem sPutT_hi (hp : p < 10) (hk : 90 ≤ k) (h1 : k ≠ 100) : sPutT S p x k = S k := by
  unfold sPutT
  rw [up1_ne _ _ h1, up1_ne _ _ (by omega), up1_ne _ _ (by omega), up1_ne _ _ (by omega)]
theorem sPutT_ne (hp : p < 10) (hq : q < 10) (hqp : q ≠ p) (hj : j < 9) : sPutT S p x (9 * q + j) = S (9 * q + j) := by
  unfold sPutT
  rw [up1_ne _ _ (by omega), up1_ne _ _ (by omega), up1_ne _ _ (by omega), up1_ne _ _ (by omega)]
theorem sPutT_lo (hp : p < 10) (hj : j < 6) : sPutT S p x (9 * p + j) = S (9 * p + j) := by
  unfold sPutT
  rw [up1_ne _ _ (by omega), up1_ne _ _ (by omega), up1_ne _ _ (by omega), up1_ne _ _ (by omega)]
theorem sPutT_6 (hp : p < 10) : sPutT S p x (9 * p + 6) = 2 := by
  unfold sPutT
  rw [up1_ne _ _ (by omega), up1_ne _ _ (by omega), up1_ne _ _ (by omega), up1_eq]
theorem sPutT_7 (hp : p < 10) : sPutT S p x (9 * p + 7) = x := by
  unfold sPutT
  rw [up1_ne _ _ (by omega), up1_ne _ _ (by omega), up1_eq]
theorem sPutT_8 (hp : p < 10) : sPutT S p x (9 * p + 8) = S 96 := by
  unfold sPutT
  rw [up1_ne _ _ (by omega), up1_eq]
theorem sPutT_100 : sPutT S p x 100 = if S 96 ≤ S (9 * p + 4) then S 100 else S 100 + 1 := by
  unfold sPutT
  rw [up1_eq]
theorem sPutT_103 {w : Int32} (hp : p < 10) : sPutT (up1 S 103 w) p x = up1 (sPutT S p x) 103 w := by
  unfold sPutT
  rw [up1_ne S w (show 96 ≠ 103 by omega), up1_ne S w (show 100 ≠ 103 by omega), up1_ne S w (show 9 * p + 4 ≠ 103 by omega), up1_comm S w _ (show 103 ≠ 9 * p + 6 by omega), up1_comm _ w _ (show 103 ≠ 9 * p + 7 by omega), up1_comm _ w _ (show 103 ≠ 9 * p + 8 by omega), up1_comm _ w _ (show 103 ≠ 100 by omega)]
theorem sHere_put (hp : p < 10) (hq : q < 10) : sHere (sPutT S p x) q = sHere S q := by
  unfold sHere
  by_cases e : q = p
  · subst e
    rw [sPutT_lo hp (by omega)]
  · rw [sPutT_ne hp hq e (by omega)]
theorem sAt_put {st wh : Int32} (hp : p < 10) (hq : q < 10) (hh : sHere S p = true) : sAt (sPutT S p x) q st wh = if q = p then (decide (2 = st) && decide (x = wh)) else sAt S q st wh := by
  by_cases e : q = p
  · subst e
    rw [if_pos rfl, sAt, sHere_put hp hp, hh, sPutT_6 hp, sPutT_7 hp, Bool.true_and]
  · rw [if_neg e]
    exact sAt_cg (fun j hj => sPutT_ne hp hq e hj)
theorem sAt_here {st wh : Int32} (h : sAt S p st wh = true) : sHere S p = true := by
  rw [sAt, Bool.and_eq_true] at h
  exact h.1
theorem sFirst_none : ∀ {n : Nat}, fo (sFirstF S m) n none = none → ∀ p, p < n → sAt S p 1 m = false
  | 0, _, p, hp => absurd hp (Nat.not_lt_zero p)
  | n + 1, h, p, hp => by
    have h2 : sFirstF S m n (fo (sFirstF S m) n none) = none := h
    by_cases c : (sAt S n 1 m && sLess S n (fo (sFirstF S m) n none)) = true
    · rw [sFirstF, if_pos c] at h2; simp at h2
    · rw [sFirstF, if_neg c] at h2
      by_cases e : p = n
      · subst e
        rw [h2] at c
        cases hs : sAt S p 1 m with
        | false => rfl
        | true => rw [hs] at c; exact absurd rfl c
      · exact sFirst_none h2 p (by omega)
/-- on a shelf stands at most one pile -/
def GSh (S : Nat → Int32) : Prop := ∀ p q, p < 10 → q < 10 → ∀ x, sAt S p 2 x = true → sAt S q 2 x = true → p = q
theorem mShelf_same (g : GSh S) (x : Int32) : mShelf S x = sShelf S x := by
  cases h : sShelf S x with
  | some p =>
    have hp := fi_lt h
    exact fo_sel_one (P := fun p => sAt S p 2 x) hp.2 hp.1 (fun q hq hs => g q p hq hp.1 x hs hp.2)
  | none => exact fo_sel_none (P := fun p => sAt S p 2 x) (fi_none h)
theorem mFreeShelf_same (g : GSh S) : mFreeShelf S = sFreeShelf S := fi_congr (fun k _ => by simp only [mShelf_same g])
theorem free_no {f : Nat} (h : sFreeShelf S = some f) : ∀ q, q < 10 → sAt S q 2 (nI f) = false := by
  have h1 := (fi_lt h).2
  exact fi_none (Option.isNone_iff_eq_none.mp h1)
theorem GSh_put {f : Nat} (g : GSh S) (hp : p < 10) (hh : sHere S p = true) (h : sFreeShelf S = some f) : GSh (sPutT S p (nI f)) := by
  intro a b ha hb y h1 h2
  have no := free_no h
  rw [sAt_put hp ha hh] at h1
  rw [sAt_put hp hb hh] at h2
  by_cases ea : a = p
  · by_cases eb : b = p
    · rw [ea, eb]
    · rw [if_pos ea, Bool.and_eq_true, decide_eq_true_eq, decide_eq_true_eq] at h1
      rw [if_neg eb, ← h1.2, no b hb] at h2
      simp at h2
  · rw [if_neg ea] at h1
    by_cases eb : b = p
    · rw [if_pos eb, Bool.and_eq_true, decide_eq_true_eq, decide_eq_true_eq] at h2
      rw [← h2.2, no a ha] at h1
      simp at h1
    · rw [if_neg eb] at h2
      exact g a b ha hb y h1 h2
theorem cnt_put (hp : p < 10) (h : sAt S p 1 m = true) : cnt (fun q => sAt S q 1 m) 10 = cnt (fun q => sAt (sPutT S p x) q 1 m) 10 + 1 := by
  rw [cnt_rm (P := fun q => sAt S q 1 m) h hp]
  congr 1
  refine cnt_congr (fun q hq => ?_)
  rw [sAt_put hp hq (sAt_here h)]
  by_cases e : q = p
  · subst e
    rw [if_pos rfl, show decide (¬ q = q) = false from by simp, Bool.and_false, show decide ((2 : Int32) = 1) = false from by decide, Bool.false_and]
  · rw [if_neg e, show decide (¬ q = p) = true from by simp [e], Bool.and_true]
end
/-- a machine's piles put on shelves, at most d -/
def sEmp1 (f : (Nat → Int32) → (Nat → Int32) × Nat) (T : Nat → Int32) : Option Nat → Option Nat → (Nat → Int32) × Nat
  | some p, some x => ((f (sPutT T p (nI x))).1, (f (sPutT T p (nI x))).2 + 1)
  | _, _ => (T, 0)
def sEmp (m : Int32) : Nat → (Nat → Int32) → (Nat → Int32) × Nat
  | 0, T => (T, 0)
  | d + 1, T => sEmp1 (sEmp m d) T (sFirstIn T m) (sFreeShelf T)
theorem sEmp_s {m : Int32} {d : Nat} {T : Nat → Int32} : sEmp m (d + 1) T = sEmp1 (sEmp m d) T (sFirstIn T m) (sFreeShelf T) := rfl
theorem sEmp1_1 {f : (Nat → Int32) → (Nat → Int32) × Nat} {T : Nat → Int32} {b : Option Nat} : sEmp1 f T none b = (T, 0) := by cases b <;> rfl
theorem sEmp1_2 {f : (Nat → Int32) → (Nat → Int32) × Nat} {T : Nat → Int32} {a : Option Nat} : sEmp1 f T a none = (T, 0) := by cases a <;> rfl
theorem sEmp_1 {m : Int32} {d : Nat} {T : Nat → Int32} (h : sFirstIn T m = none) : sEmp m d T = (T, 0) := by
  cases d with
  | zero => rfl
  | succ d => rw [sEmp_s, h, sEmp1_1]
theorem sEmp_2 {m : Int32} {d : Nat} {T : Nat → Int32} (h : sFreeShelf T = none) : sEmp m d T = (T, 0) := by
  cases d with
  | zero => rfl
  | succ d => rw [sEmp_s, h, sEmp1_2]
theorem sEmp_3 {m : Int32} {d p x : Nat} {T : Nat → Int32} (h1 : sFirstIn T m = some p) (h2 : sFreeShelf T = some x) : sEmp m (d + 1) T = ((sEmp m d (sPutT T p (nI x))).1, (sEmp m d (sPutT T p (nI x))).2 + 1) := by
  rw [sEmp_s, h1, h2, sEmp1]
def sFin (m : Nat) (T : Nat → Int32) (w : Int32) : Nat → Int32 := if sFirstIn T (nI m) = none then up1 (up1 T 103 w) (90 + 3 * m + 1) (-1) else up1 T 103 w
def sEmpM (S : Nat → Int32) (m : Nat) : (Nat → Int32) × Int32 := (sFin m (sEmp (nI m) 10 S).1 (S 103 + nI (sEmp (nI m) 10 S).2), nI (sEmp (nI m) 10 S).2)
def sEnds (S : Nat → Int32) (m : Nat) : (Nat → Int32) × Int32 := if S (90 + 3 * m + 1) = -1 ∨ S 96 < S (90 + 3 * m + 1) then (S, 0) else sEmpM S m
def sAll (S : Nat → Int32) : (Nat → Int32) × Int32 := ((sEnds (sEnds S 0).1 1).1, (sEnds S 0).2 + (sEnds (sEnds S 0).1 1).2)
theorem sFree_q {S : Nat → Int32} : ∀ q, sFreeShelf S = some q → q < 10000 := fun q hq => by have := (fi_lt hq).1; omega
theorem sFirstIn_q {S : Nat → Int32} {m : Int32} : ∀ q, sFirstIn S m = some q → q < 10000 := sFirst_q (Nat.le_refl _)
theorem oI_ne {r : Option Nat} {p : Nat} (h : r = some p) (hq : ∀ q, r = some q → q < 10000) : ¬ oI r = -1 := fun z => by
  have := (oI_eq hq).mp z
  rw [h] at this
  simp at this
