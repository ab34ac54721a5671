/-! What holds of every row beyond Good: where a pile may stand, what machines hold, how the counts add up. -/
theorem sAt_t {S : Nat → Int32} {p : Nat} {st wh : Int32} : sAt S p st wh = true ↔ sHere S p = true ∧ S (9 * p + 6) = st ∧ S (9 * p + 7) = wh := by
  unfold sAt
  rw [Bool.and_eq_true, Bool.and_eq_true, decide_eq_true_eq, decide_eq_true_eq]
theorem sIn_t {S : Nat → Int32} {p : Nat} {st : Int32} : sIn S p st = true ↔ sHere S p = true ∧ S (9 * p + 6) = st := by
  unfold sIn
  rw [Bool.and_eq_true, decide_eq_true_eq]
def pSt (S : Nat → Int32) (p : Nat) : Prop :=
  (S (9 * p + 6) = 0 ∧ S (9 * p + 7) = -1 ∧ S (9 * p + 8) = -1) ∨
  (S (9 * p + 6) = 1 ∧ (∃ m, m < 2 ∧ S (9 * p + 7) = nI m) ∧ S (9 * p + 8) = -1) ∨
  (S (9 * p + 6) = 2 ∧ (∃ x, x < 8 ∧ S (9 * p + 7) = nI x) ∧ 0 ≤ (S (9 * p + 8)).toInt ∧ (S (9 * p + 8)).toInt ≤ (S 96).toInt)
def NPile (S : Nat → Int32) (p : Nat) : Prop := sHere S p = true → (1 ≤ (S (9 * p + 2)).toInt ∧ (S (9 * p + 2)).toInt ≤ 20) ∧ (0 ≤ (S (9 * p + 1)).toInt ∧ (S (9 * p + 1)).toInt ≤ 3) ∧ pSt S p
def cHere (S : Nat → Int32) : Nat := cnt (fun p => sHere S p) 10
def cShelf (S : Nat → Int32) : Nat := cnt (fun p => sIn S p 2) 10
def gw (S : Nat → Int32) (p : Nat) : Nat := (S (9 * p + 2)).toInt.toNat
theorem wt_e {U V : Nat → Bool} {f g : Nat → Nat} {q : Nat} (h1 : U q = V q) (h2 : f q = g q) : wt U f q = wt V g q := by unfold wt; rw [h1, h2]
def wIn (S : Nat → Int32) (m : Nat) : Nat := sg (wt (fun p => sAt S p 1 (nI m)) (gw S)) 10
def NMa (S : Nat → Int32) (A : Int) (m : Nat) : Prop := (10 ≤ (S (90 + 3 * m + 0)).toInt ∧ (S (90 + 3 * m + 0)).toInt ≤ 60) ∧ (wIn S m : Int) ≤ (S (90 + 3 * m + 0)).toInt ∧ (S (90 + 3 * m + 1) = -1 ∨ 0 < (S (90 + 3 * m + 2)).toInt) ∧ 0 ≤ (S (90 + 3 * m + 2)).toInt ∧ (S (90 + 3 * m + 2)).toInt ≤ A
def NEd (S : Nat → Int32) (m : Nat) : Prop := S (90 + 3 * m + 1) = -1 ∨ (S 96).toInt < (S (90 + 3 * m + 1)).toInt ∨ sFreeShelf S = none
def NCt (S : Nat → Int32) : Prop := (S 98).toInt = (S 99).toInt + cHere S ∧ 0 ≤ (S 99).toInt
def NSh (S : Nat → Int32) : Prop := (S 103).toInt = (S 99).toInt + cShelf S
def NX (S : Nat → Int32) (A : Int) : Prop := (∀ p, p < 10 → NPile S p) ∧ (∀ m, m < 2 → NMa S A m) ∧ NCt S ∧ NSh S
def NV (S : Nat → Int32) (A : Int) : Prop := NX S A ∧ ∀ m, m < 2 → NEd S m
theorem NX.mono {S : Nat → Int32} {A A' : Int} (n : NX S A) (h : A ≤ A') : NX S A' := ⟨n.1, fun m hm => by
  obtain ⟨a, b, c, d, e⟩ := n.2.1 m hm
  exact ⟨a, b, c, d, Int.le_trans e h⟩, n.2.2⟩
theorem NV.mono {S : Nat → Int32} {A A' : Int} (n : NV S A) (h : A ≤ A') : NV S A' := ⟨n.1.mono h, n.2⟩
/-- the same piles, but for the rush -/
def EqQ (S T : Nat → Int32) : Prop := ∀ p, p < 10 → ∀ j, j < 9 → j ≠ 5 → T (9 * p + j) = S (9 * p + j)
section
variable {S T : Nat → Int32} {p q m x : Nat} {A : Int}
theorem EqQ.here (h : EqQ S T) (hp : p < 10) : sHere T p = sHere S p := by unfold sHere; rw [h p hp 0 (by omega) (by omega)]
theorem EqQ.at (h : EqQ S T) (hp : p < 10) (st wh : Int32) : sAt T p st wh = sAt S p st wh := by
  unfold sAt
  rw [h.here hp, h p hp 6 (by omega) (by omega), h p hp 7 (by omega) (by omega)]
theorem EqQ.ins (h : EqQ S T) (hp : p < 10) (st : Int32) : sIn T p st = sIn S p st := by
  unfold sIn
  rw [h.here hp, h p hp 6 (by omega) (by omega)]
theorem EqQ.free (h : EqQ S T) : sFreeShelf T = sFreeShelf S := fi_congr (fun k _ => by
  rw [show sShelf T (nI k) = sShelf S (nI k) from fi_congr (fun p hp => h.at hp _ _)])
theorem EqQ.win (h : EqQ S T) (m : Nat) : wIn T m = wIn S m := sg_congr (fun q hq => wt_e (h.at hq _ _) (by unfold gw; rw [h q hq 2 (by omega) (by omega)]))
theorem EqQ.hi {k : Nat} {v : Int32} (hk : 90 ≤ k) : EqQ S (up1 S k v) := fun p hp j hj _ => up1_ne _ _ (by omega)
theorem EqQ.rush {v : Int32} (hp : p < 10) : EqQ S (up1 S (9 * p + 5) v) := fun q hq j hj h5 => up1_ne _ _ (by omega)
theorem EqQ.pile (h : EqQ S T) (h96 : (S 96).toInt ≤ (T 96).toInt) (hp : p < 10) (n : NPile S p) : NPile T p := by
  intro hh
  rw [h.here hp] at hh
  obtain ⟨a, b, c⟩ := n hh
  unfold pSt at c ⊢
  rw [h p hp 1 (by omega) (by omega), h p hp 2 (by omega) (by omega), h p hp 6 (by omega) (by omega), h p hp 7 (by omega) (by omega), h p hp 8 (by omega) (by omega)]
  refine ⟨a, b, ?_⟩
  rcases c with c | c | c
  · exact Or.inl c
  · exact Or.inr (Or.inl c)
  · exact Or.inr (Or.inr ⟨c.1, c.2.1, c.2.2.1, Int.le_trans c.2.2.2 h96⟩)
theorem EqQ.ch (h : EqQ S T) : cHere T = cHere S := cnt_congr (fun q hq => h.here hq)
theorem EqQ.csh (h : EqQ S T) : cShelf T = cShelf S := cnt_congr (fun q hq => h.ins hq 2)
theorem NX.cg (n : NX S A) (h : EqQ S T) (hm : ∀ k, 90 ≤ k → k < 96 → T k = S k) (h96 : (S 96).toInt ≤ (T 96).toInt) (h98 : T 98 = S 98) (h99 : T 99 = S 99) (h103 : T 103 = S 103) : NX T A := by
  refine ⟨fun p hp => h.pile h96 hp (n.1 p hp), fun m hm' => ?_, ?_, ?_⟩
  · have := n.2.1 m hm'
    unfold NMa at this ⊢
    rw [h.win, hm (90 + 3 * m + 0) (by omega) (by omega), hm (90 + 3 * m + 1) (by omega) (by omega), hm (90 + 3 * m + 2) (by omega) (by omega)]
    exact this
  · have := n.2.2.1
    unfold NCt at this ⊢
    rw [h.ch, h98, h99]
    exact this
  · have := n.2.2.2
    unfold NSh at this ⊢
    rw [h.csh, h103, h99]
    exact this
theorem NEd.cg (n : NEd S m) (h : EqQ S T) (hm : T (90 + 3 * m + 1) = S (90 + 3 * m + 1)) (h96 : T 96 = S 96) : NEd T m := by
  unfold NEd at n ⊢
  rw [h.free, hm, h96]
  exact n
theorem NV.hi {k : Nat} {v : Int32} (n : NV S A) (hk : 90 ≤ k) (h9 : ¬ (k < 97 ∨ k = 98 ∨ k = 99 ∨ k = 103)) : NV (up1 S k v) A :=
  ⟨n.1.cg (EqQ.hi hk) (fun k' _ _ => up1_ne _ _ (by omega)) (by rw [up1_ne _ _ (by omega)]; exact Int.le_refl _) (up1_ne _ _ (by omega)) (up1_ne _ _ (by omega)) (up1_ne _ _ (by omega)), fun m hm => (n.2 m hm).cg (EqQ.hi hk) (up1_ne _ _ (by omega)) (up1_ne _ _ (by omega))⟩
theorem NV.rush {v : Int32} (n : NV S A) (hp : p < 10) : NV (up1 S (9 * p + 5) v) A :=
  ⟨n.1.cg (EqQ.rush hp) (fun k' _ _ => up1_ne _ _ (by omega)) (by rw [up1_ne _ _ (by omega)]; exact Int.le_refl _) (up1_ne _ _ (by omega)) (up1_ne _ _ (by omega)) (up1_ne _ _ (by omega)), fun m hm => (n.2 m hm).cg (EqQ.rush hp) (up1_ne _ _ (by omega)) (up1_ne _ _ (by omega))⟩
theorem NX.clock {v : Int32} (n : NX S A) (hv : (S 96).toInt ≤ v.toInt) : NX (up1 S 96 v) A :=
  n.cg (EqQ.hi (by omega)) (fun k' _ _ => up1_ne _ _ (by omega)) (by rw [up1_eq]; exact hv) (up1_ne _ _ (by omega)) (up1_ne _ _ (by omega)) (up1_ne _ _ (by omega))
theorem win_0 (h : ∀ p, p < 10 → sAt S p 1 (nI m) = false) : wIn S m = 0 := sg_zero 10 (fun q hq => wt_f (h q hq))
theorem NV.room {v : Int32} (n : NV S A) (hm : m < 2) (hv : 10 ≤ v.toInt ∧ v.toInt ≤ 60) (hi : ∀ p, p < 10 → sAt S p 1 (nI m) = false) : NV (up1 S (90 + 3 * m + 0) v) A := by
  have e : EqQ S (up1 S (90 + 3 * m + 0) v) := EqQ.hi (by omega)
  have o : ∀ k, k ≠ 90 + 3 * m + 0 → up1 S (90 + 3 * m + 0) v k = S k := fun k hk => up1_ne _ _ hk
  refine ⟨⟨fun p hp => e.pile (by rw [o 96 (by omega)]; exact Int.le_refl _) hp (n.1.1 p hp), fun m' h' => ?_, ?_, ?_⟩, fun m' h' => (n.2 m' h').cg e (o _ (by omega)) (o _ (by omega))⟩
  · have z := n.1.2.1 m' h'
    unfold NMa at z ⊢
    rw [e.win, o (90 + 3 * m' + 1) (by omega), o (90 + 3 * m' + 2) (by omega)]
    by_cases c : m' = m
    · subst c
      rw [up1_eq, win_0 hi]
      exact ⟨hv, by omega, z.2.2⟩
    · rw [o (90 + 3 * m' + 0) (by omega)]
      exact z
  · have := n.1.2.2.1
    unfold NCt at this ⊢
    rw [e.ch, o 98 (by omega), o 99 (by omega)]
    exact this
  · have := n.1.2.2.2
    unfold NSh at this ⊢
    rw [e.csh, o 103 (by omega), o 99 (by omega)]
    exact this
/-! a pile put on a shelf -/
theorem pile_put (hp : p < 10) (hx : x < 8) (h96 : 0 ≤ (S 96).toInt) (n : ∀ q, q < 10 → NPile S q) : ∀ q, q < 10 → NPile (sPutT S p (nI x)) q := by
  intro q hq hh
  rw [sHere_put hp hq] at hh
  obtain ⟨a, b, c⟩ := n q hq hh
  by_cases e : q = p
  · subst e
    rw [sPutT_lo hp (j := 2) (by omega), sPutT_lo hp (j := 1) (by omega)]
    refine ⟨a, b, Or.inr (Or.inr ⟨sPutT_6 hp, ⟨x, hx, sPutT_7 hp⟩, ?_⟩)⟩
    rw [sPutT_8 hp, sPutT_hi hp (k := 96) (by omega) (by omega)]
    exact ⟨h96, Int.le_refl _⟩
  · unfold pSt at c ⊢
    rw [sPutT_ne hp hq e (j := 1) (by omega), sPutT_ne hp hq e (j := 2) (by omega), sPutT_ne hp hq e (j := 6) (by omega), sPutT_ne hp hq e (j := 7) (by omega), sPutT_ne hp hq e (j := 8) (by omega), sPutT_hi hp (k := 96) (by omega) (by omega)]
    exact ⟨a, b, c⟩
theorem win_put (hp : p < 10) (hh : sHere S p = true) (m : Nat) : wIn (sPutT S p (nI x)) m ≤ wIn S m := by
  refine sg_le 10 (fun q hq => ?_)
  by_cases e : q = p
  · subst e
    rw [wt_f (by rw [sAt_put hp hp hh, if_pos rfl]; simp)]
    exact Nat.zero_le _
  · have e2 : gw (sPutT S p (nI x)) q = gw S q := by unfold gw; rw [sPutT_ne hp hq e (by omega)]
    exact Nat.le_of_eq (wt_e (by rw [sAt_put hp hq hh, if_neg e]) e2)
theorem ch_put (hp : p < 10) : cHere (sPutT S p (nI x)) = cHere S := cnt_congr (fun q hq => sHere_put hp hq)
theorem csh_put (hp : p < 10) (hs : sAt S p 1 (nI m) = true) : cShelf (sPutT S p (nI x)) = cShelf S + 1 := by
  obtain ⟨hh, h6, h7⟩ := sAt_t.mp hs
  have e : sIn (sPutT S p (nI x)) p 2 = true := sIn_t.mpr ⟨by rw [sHere_put hp hp]; exact hh, sPutT_6 hp⟩
  unfold cShelf
  rw [cnt_rm (P := fun q => sIn (sPutT S p (nI x)) q 2) e hp]
  congr 1
  refine cnt_congr (fun q hq => ?_)
  by_cases c : q = p
  · subst c
    rw [show sIn S q 2 = false from by unfold sIn; rw [h6]; simp]
    simp
  · rw [show decide (¬ q = p) = true from by simp [c], Bool.and_true]
    unfold sIn
    rw [sHere_put hp hq, sPutT_ne hp hq c (by omega)]
theorem emp_inv (d : Nat) : ∀ S, (∀ q, q < 10 → NPile S q) → 0 ≤ (S 96).toInt → (∀ q, q < 10 → NPile (sEmp (nI m) d S).1 q) ∧ (∀ m', wIn (sEmp (nI m) d S).1 m' ≤ wIn S m') ∧ cHere (sEmp (nI m) d S).1 = cHere S ∧ cShelf (sEmp (nI m) d S).1 = cShelf S + (sEmp (nI m) d S).2 ∧ (∀ k, 90 ≤ k → k ≠ 100 → (sEmp (nI m) d S).1 k = S k) ∧ (sEmp (nI m) d S).2 ≤ d := by
  induction d with
  | zero =>
    intro S n h0
    exact ⟨n, fun _ => Nat.le_refl _, rfl, rfl, fun _ _ _ => rfl, Nat.le_refl _⟩
  | succ d ih =>
    intro S n h0
    cases hf : sFirstIn S (nI m) with
    | none =>
      rw [sEmp_1 hf]
      exact ⟨n, fun _ => Nat.le_refl _, rfl, rfl, fun _ _ _ => rfl, Nat.zero_le _⟩
    | some p =>
      cases hs : sFreeShelf S with
      | none =>
        rw [sEmp_2 hs]
        exact ⟨n, fun _ => Nat.le_refl _, rfl, rfl, fun _ _ _ => rfl, Nat.zero_le _⟩
      | some x =>
        rw [sEmp_3 hf hs]
        have hp := sFirst_lt _ _ hf
        have hp9 : p < 10 := hp.1
        have hx : x < 8 := (fi_lt hs).1
        have hh := sAt_here hp.2
        obtain ⟨q1, q2, q3, q4, q5, q6⟩ := ih (sPutT S p (nI x)) (pile_put hp9 hx h0 n) (by rw [sPutT_hi hp9 (by omega) (by omega)]; exact h0)
        refine ⟨q1, fun m' => Nat.le_trans (q2 m') (win_put hp9 hh m'), q3.trans (ch_put hp9), ?_, fun k hk hk2 => (q5 k hk hk2).trans (sPutT_hi hp9 hk hk2), Nat.succ_le_succ q6⟩
        rw [q4, csh_put hp9 hp.2]
        show cShelf S + 1 + _ = cShelf S + (_ + 1)
        omega
/-- with enough tries the machine is empty, or no shelf is free -/
theorem emp_end (d : Nat) : ∀ S, cnt (fun q => sAt S q 1 (nI m)) 10 ≤ d → sFirstIn (sEmp (nI m) d S).1 (nI m) = none ∨ sFreeShelf (sEmp (nI m) d S).1 = none := by
  induction d with
  | zero =>
    intro S h
    cases hf : sFirstIn S (nI m) with
    | none => exact Or.inl hf
    | some p =>
      have hp := sFirst_lt _ _ hf
      have := cnt_rm (P := fun q => sAt S q 1 (nI m)) hp.2 hp.1
      omega
  | succ d ih =>
    intro S h
    cases hf : sFirstIn S (nI m) with
    | none => rw [sEmp_1 hf]; exact Or.inl hf
    | some p =>
      cases hs : sFreeShelf S with
      | none => rw [sEmp_2 hs]; exact Or.inr hs
      | some x =>
        rw [sEmp_3 hf hs]
        have hp := sFirst_lt _ _ hf
        have := cnt_put (x := nI x) hp.1 hp.2
        exact ih (sPutT S p (nI x)) (by omega)
theorem NEd.emp {m' : Nat} (n : NEd S m') (h : ∀ k, 90 ≤ k → k ≠ 100 → (sEmp (nI m) 10 S).1 k = S k) (hm' : m' < 2) : NEd (sEmp (nI m) 10 S).1 m' := by
  unfold NEd at n ⊢
  rw [h (90 + 3 * m' + 1) (by omega) (by omega), h 96 (by omega) (by omega)]
  rcases n with n | n | n
  · exact Or.inl n
  · exact Or.inr (Or.inl n)
  · exact Or.inr (Or.inr (by rw [sEmp_2 n]; exact n))
theorem empM_inv (n : NX S A) (hm : m < 2) (h0 : 0 ≤ (S 96).toInt) (h3 : (S 103).toInt < 2 ^ 30) : NX (sEmpM S m).1 A ∧ NEd (sEmpM S m).1 m ∧ ∀ m', m' < 2 → m' ≠ m → NEd S m' → NEd (sEmpM S m).1 m' := by
  obtain ⟨q1, q2, q3, q4, q5, q6⟩ := emp_inv (m := m) 10 S n.1 h0
  have qe := emp_end (m := m) 10 S (cnt_le _ 10)
  have qn := fun m' (hm' : m' < 2) (h : NEd S m') => NEd.emp (m := m) h q5 hm'
  unfold sEmpM
  simp only []
  revert q1 q2 q3 q4 q5 q6 qe qn
  generalize (sEmp (nI m) 10 S).1 = T
  generalize (sEmp (nI m) 10 S).2 = c
  intro q1 q2 q3 q4 q5 q6 qe qn
  have s3 := n.2.2.2
  have s99 := n.2.2.1.2
  unfold NSh at s3
  have c31 : (nI c).toInt = c := nI_toInt (by omega)
  have w : (S 103 + nI c).toInt = (S 103).toInt + c := by rw [ad32 (by omega) (by omega), c31]
  have hi : ∀ k, k ≠ 103 → k ≠ 90 + 3 * m + 1 → sFin m T (S 103 + nI c) k = T k := fun k a b => by
    unfold sFin
    by_cases hf : sFirstIn T (nI m) = none
    · rw [if_pos hf, up1_ne _ _ b, up1_ne _ _ a]
    · rw [if_neg hf, up1_ne _ _ a]
  have e103 : sFin m T (S 103 + nI c) 103 = S 103 + nI c := by
    unfold sFin
    by_cases hf : sFirstIn T (nI m) = none
    · rw [if_pos hf, up1_ne _ _ (by omega), up1_eq]
    · rw [if_neg hf, up1_eq]
  have eE : (sFirstIn T (nI m) = none ∧ sFin m T (S 103 + nI c) (90 + 3 * m + 1) = -1) ∨ (¬ sFirstIn T (nI m) = none ∧ sFin m T (S 103 + nI c) (90 + 3 * m + 1) = T (90 + 3 * m + 1)) := by
    unfold sFin
    by_cases hf : sFirstIn T (nI m) = none
    · refine Or.inl ⟨hf, ?_⟩
      rw [if_pos hf, up1_eq]
    · refine Or.inr ⟨hf, ?_⟩
      rw [if_neg hf, up1_ne _ _ (by omega)]
  generalize sFin m T (S 103 + nI c) = U at *
  have eq : EqQ T U := fun p hp j hj _ => hi _ (by omega) (by omega)
  refine ⟨⟨fun p hp => eq.pile (by rw [hi 96 (by omega) (by omega)]; exact Int.le_refl _) hp (q1 p hp), fun m' h' => ?_, ?_, ?_⟩, ?_, fun m' h' hne hn => ?_⟩
  · obtain ⟨a, b, c', d', e'⟩ := n.2.1 m' h'
    unfold NMa
    rw [eq.win, hi (90 + 3 * m' + 0) (by omega) (by omega), hi (90 + 3 * m' + 2) (by omega) (by omega), q5 _ (by omega) (by omega), q5 _ (by omega) (by omega)]
    refine ⟨a, Int.le_trans (by exact_mod_cast q2 m') b, ?_, d', e'⟩
    by_cases hc : m' = m
    · subst hc
      rcases eE with ⟨-, z⟩ | ⟨-, z⟩
      · exact Or.inl z
      · rw [z, q5 _ (by omega) (by omega)]; exact c'
    · rw [hi (90 + 3 * m' + 1) (by omega) (by omega), q5 _ (by omega) (by omega)]
      exact c'
  · have := n.2.2.1
    unfold NCt at this ⊢
    rw [eq.ch, q3, hi 98 (by omega) (by omega), hi 99 (by omega) (by omega), q5 98 (by omega) (by omega), q5 99 (by omega) (by omega)]
    exact this
  · unfold NSh
    rw [eq.csh, q4, e103, w, hi 99 (by omega) (by omega), q5 99 (by omega) (by omega)]
    omega
  · unfold NEd
    rcases eE with ⟨-, z⟩ | ⟨z1, -⟩
    · exact Or.inl z
    · rcases qe with z | z
      · exact absurd z z1
      · exact Or.inr (Or.inr (by rw [eq.free]; exact z))
  · exact (qn m' h' hn).cg eq (hi _ (by omega) (by omega)) (hi _ (by omega) (by omega))
theorem ends_inv (n : NX S A) (hm : m < 2) (h0 : 0 ≤ (S 96).toInt) (h3 : (S 103).toInt < 2 ^ 30) : NX (sEnds S m).1 A ∧ NEd (sEnds S m).1 m ∧ ∀ m', m' < 2 → m' ≠ m → NEd S m' → NEd (sEnds S m).1 m' := by
  unfold sEnds
  by_cases c : S (90 + 3 * m + 1) = -1 ∨ S 96 < S (90 + 3 * m + 1)
  · rw [if_pos c]
    refine ⟨n, ?_, fun m' _ _ h => h⟩
    rcases c with c | c
    · exact Or.inl c
    · exact Or.inr (Or.inl (Int32.lt_iff_toInt_lt.mp c))
  · rw [if_neg c]
    exact empM_inv n hm h0 h3
theorem all_inv {P : Int} (g : Good S A P) (n : NX S A) (hP : P ≤ 400000000) : NV (sAll S).1 A := by
  have u := g.2.2
  unfold GPut at u
  obtain ⟨a1, a2, a3⟩ := ends_inv (m := 0) n (by decide) g.2.1.2.1.1 (by omega)
  have g1 := (sEnds_good (m := 0) (by decide) g (by omega)).1
  have u1 := g1.2.2
  unfold GPut at u1
  obtain ⟨b1, b2, b3⟩ := ends_inv (m := 1) a1 (by decide) g1.2.1.2.1.1 (by omega)
  refine ⟨b1, fun m hm => ?_⟩
  match m, hm with
  | 0, _ => exact b3 0 (by decide) (by decide) a2
  | 1, _ => exact b2
end
