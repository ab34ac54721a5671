/-! The house as the reference's row; loops. -/
/-- counted repetition: place 0, 1, .. n-1 -/
def fo {α : Type} (f : Nat → α → α) : Nat → α → α
  | 0, a => a
  | n + 1, a => f n (fo f n a)
theorem fo_up {α : Type} {E : Nat → α → Prop} {f : Nat → α → α} : ∀ {n : Nat} {a : α}, (∀ p b, p < n → E (p + 1) (f p b) → E p b) → E n (fo f n a) → E 0 a
  | 0, _, _, h => h
  | n + 1, _, st, h => fo_up (n := n) (fun p b hp => st p b (Nat.lt_succ_of_lt hp)) (st n _ (Nat.lt_succ_self n) h)
theorem fo_upI {α : Type} {E : Nat → α → Prop} {f : Nat → α → α} {n : Nat} {a : α} (st : ∀ p, p < n → E (p + 1) (fo f (p + 1) a) → E p (fo f p a)) (h : E n (fo f n a)) : E 0 a := by
  have : ∀ m, m ≤ n → E m (fo f m a) → E 0 a := by
    intro m
    induction m with
    | zero => intro _ h; exact h
    | succ m ih => intro hm h; exact ih (Nat.le_of_succ_le hm) (st m hm h)
  exact this n (Nat.le_refl n) h
theorem fo_congr {α : Type} {f g : Nat → α → α} : ∀ {n : Nat} {a : α}, (∀ p b, p < n → f p b = g p b) → fo f n a = fo g n a
  | 0, _, _ => rfl
  | n + 1, a, h => by
    show f n (fo f n a) = g n (fo g n a)
    rw [fo_congr (fun p b hp => h p b (Nat.lt_succ_of_lt hp)), h n _ (Nat.lt_succ_self n)]
/-- the first place below n where it holds -/
def fi (P : Nat → Bool) : Nat → Option Nat
  | 0 => none
  | n + 1 => match fi P n with
    | some p => some p
    | none => if P n then some n else none
def oI : Option Nat → Int32
  | none => -1
  | some p => nI p
theorem fi_up {E : Nat → Option Nat → Prop} {P : Nat → Bool} {n : Nat} (hit : ∀ p, p < n → P p = true → E p (some p)) (mis : ∀ p r, p < n → P p = false → E (p + 1) r → E p r) (fin : E n none) : E 0 (fi P n) := by
  have : ∀ m, m ≤ n → (fi P m = none → E m (fi P n)) → E 0 (fi P n) := by
    intro m
    induction m with
    | zero => intro _ h; exact h rfl
    | succ m ih =>
      intro hm h
      refine ih (Nat.le_of_succ_le hm) (fun hn => ?_)
      cases hp : P m with
      | true =>
        have h1 : fi P (m + 1) = some m := by
          show (match fi P m with | some p => some p | none => if P m then some m else none) = some m
          rw [hn, hp]; rfl
        have h2 : ∀ d, fi P (m + 1 + d) = some m := by
          intro d
          induction d with
          | zero => exact h1
          | succ d ih2 =>
            show (match fi P (m + 1 + d) with | some p => some p | none => if P (m + 1 + d) then some (m + 1 + d) else none) = some m
            rw [ih2]
        obtain ⟨d, rfl⟩ := Nat.le.dest hm
        rw [h2 d]
        exact hit m hm hp
      | false =>
        refine mis m _ hm hp (h ?_)
        show (match fi P m with | some p => some p | none => if P m then some m else none) = none
        rw [hn, hp]; rfl
  refine this n (Nat.le_refl n) (fun h => ?_)
  rw [h]; exact fin
theorem fi_lt {P : Nat → Bool} : ∀ {n p : Nat}, fi P n = some p → p < n ∧ P p = true
  | 0, p, h => by simp [fi] at h
  | n + 1, p, h => by
    rw [fi] at h
    cases h1 : fi P n with
    | some q =>
      rw [h1] at h
      have := fi_lt h1
      simp only [Option.some.injEq] at h
      subst h
      exact ⟨Nat.lt_succ_of_lt this.1, this.2⟩
    | none =>
      rw [h1] at h
      by_cases hp : P n = true
      · rw [if_pos hp] at h
        simp only [Option.some.injEq] at h
        subst h
        exact ⟨Nat.lt_succ_self _, hp⟩
      · rw [if_neg hp] at h; simp at h
theorem fi_none {P : Nat → Bool} : ∀ {n : Nat}, fi P n = none → ∀ p, p < n → P p = false
  | 0, _, p, hp => absurd hp (Nat.not_lt_zero p)
  | n + 1, h, p, hp => by
    rw [fi] at h
    cases h1 : fi P n with
    | some q => rw [h1] at h; simp at h
    | none =>
      rw [h1] at h
      by_cases hq : P n = true
      · rw [if_pos hq] at h; simp at h
      · by_cases e : p = n
        · subst e; simpa using hq
        · exact fi_none h1 p (by omega)
theorem fi_congr {P Q : Nat → Bool} : ∀ {n : Nat}, (∀ p, p < n → P p = Q p) → fi P n = fi Q n
  | 0, _ => rfl
  | n + 1, h => by
    rw [fi, fi, fi_congr (fun p hp => h p (Nat.lt_succ_of_lt hp)), h n (Nat.lt_succ_self n)]
/-! Small numbers. -/
theorem n10_le : ∀ {p : Nat}, p < 10 → ¬ (10 : Int32) ≤ nI p := by decide +kernel
theorem n2_le : ∀ {p : Nat}, p < 2 → ¬ (2 : Int32) ≤ nI p := by decide +kernel
theorem n6_le : ∀ {p : Nat}, p < 6 → ¬ (6 : Int32) ≤ nI p := by decide +kernel
theorem n8_le : ∀ {p : Nat}, p < 8 → ¬ (8 : Int32) ≤ nI p := by decide +kernel
theorem n10_le' : (10 : Int32) ≤ nI 10 := by decide +kernel
theorem n2_le' : (2 : Int32) ≤ nI 2 := by decide +kernel
theorem n6_le' : (6 : Int32) ≤ nI 6 := by decide +kernel
theorem n8_le' : (8 : Int32) ≤ nI 8 := by decide +kernel
theorem nI_ofP' : ∀ p, p < 10 → ∀ j, j < 9 → (0 + (9 * nI p)) + nI j = nI (9 * p + j) := by decide +kernel
theorem nI_ofP {p j : Nat} (hp : p < 10) (hj : j < 9) : (0 + (9 * nI p)) + nI j = nI (9 * p + j) := nI_ofP' p hp j hj
theorem nI_ofM' : ∀ p, p < 2 → ∀ j, j < 3 → (90 + (3 * nI p)) + nI j = nI (90 + 3 * p + j) := by decide +kernel
theorem nI_ofM {p j : Nat} (hp : p < 2) (hj : j < 3) : (90 + (3 * nI p)) + nI j = nI (90 + 3 * p + j) := nI_ofM' p hp j hj
/-- an int from 0 on, below n -/
theorem nI_range {x : Int32} {n : Nat} (hn : n < 2 ^ 31) (h0 : ¬ x < 0) (h1 : ¬ nI n ≤ x) : ∃ j : Nat, j < n ∧ x = nI j := by
  rcases pk_ix x hn with h | h | h
  · exact absurd h h0
  · exact absurd h h1
  · exact h
/-! The house of number h as the reference's row. -/
def cs (mi : Nat → Nat → Nat → Int32) (h k : Nat) : Int32 :=
  if k < 90 then mi 5 (k / 9 + 10 * h) (k % 9)
  else if k < 96 then mi 4 ((k - 90) / 3 + 2 * h) ((k - 90) % 3)
  else match k with
    | 96 => mi 2 h 3
    | 97 => 100 + mi 2 h 4
    | 98 => mi 2 h 4
    | 99 => mi 2 h 5
    | 100 => mi 2 h 7
    | 101 => mi 2 h 8
    | 102 => mi 2 h 9
    | 103 => mi 2 h 6
    | 104 => mi 10 h 0
    | 105 => mi 10 h 1
    | _ => 0
/-- a row of 106 in a longer one, from a on -/
def rw6 (f : Nat → Int32) (a k : Nat) : Int32 := if k < 106 then f (a + k) else 0
theorem cs_p (mi : Nat → Nat → Nat → Int32) (h : Nat) {p j : Nat} (hp : p < 10) (hj : j < 9) : mi 5 (p + 10 * h) j = cs mi h (9 * p + j) := by
  have h1 : 9 * p + j < 90 := by omega
  have h2 : (9 * p + j) / 9 = p := by omega
  have h3 : (9 * p + j) % 9 = j := by omega
  unfold cs
  rw [if_pos h1, h2, h3]
theorem cs_m (mi : Nat → Nat → Nat → Int32) (h : Nat) {p j : Nat} (hp : p < 2) (hj : j < 3) : mi 4 (p + 2 * h) j = cs mi h (90 + 3 * p + j) := by
  have h1 : ¬ 90 + 3 * p + j < 90 := by omega
  have h1' : 90 + 3 * p + j < 96 := by omega
  have h2 : (90 + 3 * p + j - 90) / 3 = p := by omega
  have h3 : (90 + 3 * p + j - 90) % 3 = j := by omega
  unfold cs
  rw [if_neg h1, if_pos h1', h2, h3]
def up1 (S : Nat → Int32) (k : Nat) (v : Int32) : Nat → Int32 := fun k' => if k' = k then v else S k'
theorem up1_eq (S : Nat → Int32) (k : Nat) (v : Int32) : up1 S k v k = v := if_pos rfl
theorem up1_ne (S : Nat → Int32) {k k' : Nat} (v : Int32) (h : k' ≠ k) : up1 S k v k' = S k' := if_neg h
theorem up3_eq {α : Type} (f : Nat → Nat → Nat → α) (c n j : Nat) (v : α) : pt_up3 f c n j v c n j = v := if_pos ⟨rfl, rfl, rfl⟩
theorem up3_c {α : Type} (f : Nat → Nat → Nat → α) {c n j c' n' j' : Nat} (v : α) (h : c' ≠ c) : pt_up3 f c n j v c' n' j' = f c' n' j' := if_neg (fun z => h z.1)
theorem up3_n {α : Type} (f : Nat → Nat → Nat → α) {c n j c' n' j' : Nat} (v : α) (h : n' ≠ n) : pt_up3 f c n j v c' n' j' = f c' n' j' := if_neg (fun z => h z.2.1)
theorem up3_j {α : Type} (f : Nat → Nat → Nat → α) {c n j c' n' j' : Nat} (v : α) (h : j' ≠ j) : pt_up3 f c n j v c' n' j' = f c' n' j' := if_neg (fun z => h z.2.2)
theorem cs_w5 (mi : Nat → Nat → Nat → Int32) (h : Nat) {p j : Nat} (v : Int32) (hp : p < 10) (hj : j < 9) : cs (pt_up3 mi 5 (p + 10 * h) j v) h = up1 (cs mi h) (9 * p + j) v := by
  funext k
  by_cases hk : k = 9 * p + j
  · subst hk
    rw [up1_eq, ← cs_p _ _ hp hj, up3_eq]
  · rw [up1_ne _ _ hk]
    unfold cs
    by_cases h1 : k < 90
    · rw [if_pos h1, if_pos h1]
      by_cases h2 : k / 9 = p
      · exact up3_j _ _ (by omega)
      · exact up3_n _ _ (by omega)
    · rw [if_neg h1, if_neg h1, up3_c _ _ (by decide), up3_c _ _ (by decide)]
      rfl
theorem cs_w5' (mi : Nat → Nat → Nat → Int32) {h h' : Nat} {p j : Nat} (v : Int32) (hp : p < 10) (hh : h' ≠ h) : cs (pt_up3 mi 5 (p + 10 * h) j v) h' = cs mi h' := by
  funext k
  unfold cs
  by_cases h1 : k < 90
  · rw [if_pos h1, if_pos h1]
    exact up3_n _ _ (by omega)
  · rw [if_neg h1, if_neg h1, up3_c _ _ (by decide), up3_c _ _ (by decide)]
    rfl
theorem cs_w4 (mi : Nat → Nat → Nat → Int32) (h : Nat) {p j : Nat} (v : Int32) (hp : p < 2) (hj : j < 3) : cs (pt_up3 mi 4 (p + 2 * h) j v) h = up1 (cs mi h) (90 + 3 * p + j) v := by
  funext k
  by_cases hk : k = 90 + 3 * p + j
  · subst hk
    rw [up1_eq, ← cs_m _ _ hp hj, up3_eq]
  · rw [up1_ne _ _ hk]
    unfold cs
    by_cases h1 : k < 90
    · rw [if_pos h1, if_pos h1]
      exact up3_c _ _ (by decide)
    · rw [if_neg h1, if_neg h1]
      by_cases h2 : k < 96
      · rw [if_pos h2, if_pos h2]
        by_cases h3 : (k - 90) / 3 = p
        · exact up3_j _ _ (by omega)
        · exact up3_n _ _ (by omega)
      · rw [if_neg h2, if_neg h2]
        rfl
theorem cs_w4' (mi : Nat → Nat → Nat → Int32) {h h' : Nat} {p j : Nat} (v : Int32) (hp : p < 2) (hh : h' ≠ h) : cs (pt_up3 mi 4 (p + 2 * h) j v) h' = cs mi h' := by
  funext k
  unfold cs
  by_cases h1 : k < 90
  · rw [if_pos h1, if_pos h1]
    exact up3_c _ _ (by decide)
  · rw [if_neg h1, if_neg h1]
    by_cases h2 : k < 96
    · rw [if_pos h2, if_pos h2]
      exact up3_n _ _ (by omega)
    · rw [if_neg h2, if_neg h2]
      rfl
