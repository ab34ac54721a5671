/-! The scanner over a text. -/
def ats (X : Nat → Int32) (a : Nat → Int32) : Nat → Option (Nat → Int32)
  | 0 => some a
  | k + 1 => match ats X a k with
    | none => none
    | some b => accP b (X k)
theorem ats_s {X a : Nat → Int32} {k : Nat} {b : Nat → Int32} (h : ats X a k = some b) : ats X a (k + 1) = accP b (X k) := by
  show (match ats X a k with | none => none | some b => accP b (X k)) = _
  rw [h]
theorem ats_n {X a : Nat → Int32} {k : Nat} (h : ats X a k = none) : ats X a (k + 1) = none := by
  show (match ats X a k with | none => none | some b => accP b (X k)) = _
  rw [h]
theorem ats_pre {X a : Nat → Int32} {i : Nat} (d : Nat) : ∀ {b}, ats X a (i + d) = some b → ∃ b', ats X a i = some b' := by
  induction d with
  | zero => intro b h; exact ⟨b, h⟩
  | succ d ih =>
    intro b h
    cases hc : ats X a (i + d) with
    | some b' => exact ih hc
    | none =>
      have := ats_n hc
      rw [show i + (d + 1) = i + d + 1 from rfl, this] at h
      simp at h
theorem ats_lt {X a : Nat → Int32} {i j : Nat} {b : Nat → Int32} (h : ats X a j = some b) (hij : i < j) : ∃ b1 b2, ats X a i = some b1 ∧ accP b1 (X i) = some b2 ∧ ats X a (i + 1) = some b2 := by
  obtain ⟨d, rfl⟩ := Nat.le.dest hij
  obtain ⟨b2, h2⟩ := ats_pre d h
  obtain ⟨b1, h1⟩ := ats_pre 1 h2
  exact ⟨b1, b2, h1, (ats_s h1).symm.trans h2, h2⟩
/-- a and a' go alike: part and number are the same -/
def aSim (a a' : Nat → Int32) : Prop := a 0 = a' 0 ∧ a 4 = a' 4
theorem accP_sim {a a' : Nat → Int32} (c : Int32) (h : aSim a a') : (accP a c = none ∧ accP a' c = none) ∨ ∃ b b', accP a c = some b ∧ accP a' c = some b' ∧ aSim b b' := by
  obtain ⟨h0, h4⟩ := h
  have hE : aEnd a = aEnd a' := by unfold aEnd; rw [h0, h4]
  have hN : (aNext a c = none ∧ aNext a' c = none) ∨ ∃ b b', aNext a c = some b ∧ aNext a' c = some b' ∧ aSim b b' := by
    unfold aNext
    rw [hE]
    by_cases x : c = 59 ∧ aEnd a' = true
    · rw [if_pos x, if_pos x]
      exact Or.inr ⟨_, _, rfl, rfl, by simp [up1], by simp [up1]⟩
    · rw [if_neg x, if_neg x]; exact Or.inl ⟨rfl, rfl⟩
  have hD : ∀ m, (aDig a c m = none ∧ aDig a' c m = none) ∨ ∃ b b', aDig a c m = some b ∧ aDig a' c m = some b' ∧ aSim b b' := by
    intro m
    unfold aDig
    rw [h4]
    by_cases x : c < 48 ∨ ¬ c ≤ 57
    · rw [if_pos x, if_pos x]; exact Or.inl ⟨rfl, rfl⟩
    · rw [if_neg x, if_neg x]
      by_cases y : 10 * a' 4 + (c - 48) < 1 ∨ ¬ 10 * a' 4 + (c - 48) ≤ m
      · rw [if_pos y, if_pos y]; exact Or.inl ⟨rfl, rfl⟩
      · rw [if_neg y, if_neg y]
        exact Or.inr ⟨_, _, rfl, rfl, by rw [up1_ne _ _ (by decide), up1_ne _ _ (by decide), h0], by rw [up1_eq, up1_eq]⟩
  have hO : ∀ {x x' y y' : Option (Nat → Int32)}, ((x = none ∧ x' = none) ∨ ∃ b b', x = some b ∧ x' = some b' ∧ aSim b b') → ((y = none ∧ y' = none) ∨ ∃ b b', y = some b ∧ y' = some b' ∧ aSim b b') → (aOr x y = none ∧ aOr x' y' = none) ∨ ∃ b b', aOr x y = some b ∧ aOr x' y' = some b' ∧ aSim b b' := by
    intro x x' y y' hx hy
    rcases hx with ⟨rfl, rfl⟩ | ⟨b, b', rfl, rfl, hs⟩
    · exact hy
    · exact Or.inr ⟨b, b', rfl, rfl, hs⟩
  unfold accP
  rw [h0]
  by_cases p0 : a' 0 = 0
  · rw [if_pos p0, if_pos p0]
    by_cases x : c < 97 ∨ ¬ c ≤ 100
    · rw [if_pos x, if_pos x]; exact Or.inl ⟨rfl, rfl⟩
    · rw [if_neg x, if_neg x]
      exact Or.inr ⟨_, _, rfl, rfl, by rw [up1_eq, up1_eq], by rw [up1_ne _ _ (by decide), up1_ne _ _ (by decide), up1_ne _ _ (by decide), up1_ne _ _ (by decide), h4]⟩
  · rw [if_neg p0, if_neg p0]
    by_cases p1 : a' 0 = 1
    · rw [if_pos p1, if_pos p1]
      refine hO (hD 20) ?_
      rw [h4]
      by_cases x : c = 47 ∧ ¬ a' 4 = 0
      · rw [if_pos x, if_pos x]
        exact Or.inr ⟨_, _, rfl, rfl, by simp [up1], by simp [up1]⟩
      · rw [if_neg x, if_neg x]; exact Or.inl ⟨rfl, rfl⟩
    · rw [if_neg p1, if_neg p1]
      by_cases p2 : a' 0 = 2
      · rw [if_pos p2, if_pos p2]
        refine hO (hD 60) ?_
        rw [h4]
        by_cases x : c = 64 ∧ ¬ a' 4 = 0
        · rw [if_pos x, if_pos x]
          exact Or.inr ⟨_, _, rfl, rfl, by simp [up1], by simp [up1]⟩
        · rw [if_neg x, if_neg x]; exact Or.inl ⟨rfl, rfl⟩
      · rw [if_neg p2, if_neg p2]
        by_cases p3 : a' 0 = 3
        · rw [if_pos p3, if_pos p3]
          refine hO (hD 999) ?_
          rw [h4]
          by_cases x : c = 33 ∧ ¬ a' 4 = 0
          · rw [if_pos x, if_pos x]
            exact Or.inr ⟨_, _, rfl, rfl, by rw [up1_eq, up1_eq], by rw [up1_ne _ _ (by decide), up1_ne _ _ (by decide), h4]⟩
          · rw [if_neg x, if_neg x]; exact hN
        · rw [if_neg p3, if_neg p3]; exact hN
theorem ats_sim {X a a' : Nat → Int32} (h : aSim a a') : ∀ j, (ats X a j = none ∧ ats X a' j = none) ∨ ∃ b b', ats X a j = some b ∧ ats X a' j = some b' ∧ aSim b b'
  | 0 => Or.inr ⟨a, a', rfl, rfl, h⟩
  | j + 1 => by
    rcases ats_sim h j with ⟨h1, h2⟩ | ⟨b, b', h1, h2, h3⟩
    · exact Or.inl ⟨ats_n h1, ats_n h2⟩
    · rw [ats_s h1, ats_s h2]
      exact accP_sim _ h3
/-- what a state tells is in range -/
def aI (b : Nat → Int32) : Prop :=
  (b 0 = 0 ∧ b 4 = 0) ∨ (b 0 = 1 ∧ (0 ≤ (b 1).toInt ∧ (b 1).toInt ≤ 3) ∧ (0 ≤ (b 4).toInt ∧ (b 4).toInt ≤ 20)) ∨ (b 0 = 2 ∧ (0 ≤ (b 1).toInt ∧ (b 1).toInt ≤ 3) ∧ (1 ≤ (b 2).toInt ∧ (b 2).toInt ≤ 20) ∧ (0 ≤ (b 4).toInt ∧ (b 4).toInt ≤ 60)) ∨ (b 0 = 3 ∧ (0 ≤ (b 1).toInt ∧ (b 1).toInt ≤ 3) ∧ (1 ≤ (b 2).toInt ∧ (b 2).toInt ≤ 20) ∧ (1 ≤ (b 3).toInt ∧ (b 3).toInt ≤ 60) ∧ (0 ≤ (b 4).toInt ∧ (b 4).toInt ≤ 999)) ∨ (b 0 = 4 ∧ (0 ≤ (b 1).toInt ∧ (b 1).toInt ≤ 3) ∧ (1 ≤ (b 2).toInt ∧ (b 2).toInt ≤ 20) ∧ (1 ≤ (b 3).toInt ∧ (b 3).toInt ≤ 60) ∧ (1 ≤ (b 4).toInt ∧ (b 4).toInt ≤ 999))
theorem aI.part {b : Nat → Int32} (h : aI b) : aPart b := by
  rcases h with h | h | h | h | h
  · exact Or.inl h.1
  · exact Or.inr (Or.inl h.1)
  · exact Or.inr (Or.inr (Or.inl h.1))
  · exact Or.inr (Or.inr (Or.inr (Or.inl h.1)))
  · exact Or.inr (Or.inr (Or.inr (Or.inr h.1)))
theorem aDig_some {a b : Nat → Int32} {c m : Int32} (h : aDig a c m = some b) : ∃ l, b = up1 a 4 l ∧ 1 ≤ l.toInt ∧ l.toInt ≤ m.toInt := by
  unfold aDig at h
  by_cases x : c < 48 ∨ ¬ c ≤ 57
  · rw [if_pos x] at h; simp at h
  · rw [if_neg x] at h
    by_cases y : 10 * a 4 + (c - 48) < 1 ∨ ¬ 10 * a 4 + (c - 48) ≤ m
    · rw [if_pos y] at h; simp at h
    · rw [if_neg y, Option.some.injEq] at h
      have y1 : ¬ 10 * a 4 + (c - 48) < 1 := fun z => y (Or.inl z)
      have y2 : 10 * a 4 + (c - 48) ≤ m := Classical.not_not.mp (fun z => y (Or.inr z))
      rw [Int32.lt_iff_toInt_lt, i1] at y1
      rw [Int32.le_iff_toInt_le] at y2
      exact ⟨_, h.symm, by omega, y2⟩
theorem aNext_some {a b : Nat → Int32} {c : Int32} (h : aNext a c = some b) : aI b := by
  unfold aNext at h
  by_cases x : c = 59 ∧ aEnd a = true
  · rw [if_pos x, Option.some.injEq] at h
    subst h
    exact Or.inl ⟨by rw [up1_ne _ _ (by decide), up1_eq], up1_eq _ _ _⟩
  · rw [if_neg x] at h; simp at h
theorem i32_1_0 : ¬ (1 : Int32) = 0 := by decide
theorem accP_I {a b : Nat → Int32} {c : Int32} (hI : aI a) (h : accP a c = some b) : aI b := by
  have n0 : (a 4 = 0 → False) → 0 ≤ (a 4).toInt → 1 ≤ (a 4).toInt := fun h1 h2 => by
    have : ¬ (a 4).toInt = 0 := fun z => h1 (Int32.toInt_inj.mp (by rw [z]; decide))
    omega
  rcases hI with ⟨h0, h4⟩ | ⟨h0, h1, h4⟩ | ⟨h0, h1, h2, h4⟩ | ⟨h0, h1, h2, h3, h4⟩ | ⟨h0, h1, h2, h3, h4⟩
  · unfold accP at h
    rw [if_pos h0] at h
    by_cases x : c < 97 ∨ ¬ c ≤ 100
    · rw [if_pos x] at h; simp at h
    · rw [if_neg x, Option.some.injEq] at h
      subst h
      have x1 : ¬ c < 97 := fun z => x (Or.inl z)
      have x2 : c ≤ 100 := Classical.not_not.mp (fun z => x (Or.inr z))
      rw [Int32.lt_iff_toInt_lt, show (97 : Int32).toInt = 97 from by decide] at x1
      rw [Int32.le_iff_toInt_le, i100] at x2
      have e : (c - 97).toInt = c.toInt - 97 := by rw [sb32 (by rw [show (97 : Int32).toInt = 97 from by decide]; omega) (by rw [show (97 : Int32).toInt = 97 from by decide]; omega), show (97 : Int32).toInt = 97 from by decide]
      refine Or.inr (Or.inl ⟨up1_eq _ _ _, ?_, ?_⟩)
      · rw [up1_ne _ _ (by decide), up1_eq, e]; omega
      · rw [up1_ne _ _ (by decide), up1_ne _ _ (by decide), h4]; decide
  · unfold accP at h
    rw [if_neg (by rw [h0]; decide), if_pos h0] at h
    cases hd : aDig a c 20 with
    | some b' =>
      rw [hd] at h
      simp only [aOr, Option.some.injEq] at h
      subst h
      obtain ⟨l, e, l1, l2⟩ := aDig_some hd
      subst e
      exact Or.inr (Or.inl ⟨by rw [up1_ne _ _ (by decide)]; exact h0, by rw [up1_ne _ _ (by decide)]; exact h1, by rw [up1_eq]; exact ⟨by omega, l2⟩⟩)
    | none =>
      rw [hd] at h
      simp only [aOr] at h
      by_cases x : c = 47 ∧ ¬ a 4 = 0
      · rw [if_pos x, Option.some.injEq] at h
        subst h
        refine Or.inr (Or.inr (Or.inl ⟨up1_eq _ _ _, ?_, ?_, ?_⟩))
        · rw [up1_ne _ _ (by decide), up1_ne _ _ (by decide), up1_ne _ _ (by decide)]; exact h1
        · rw [up1_ne _ _ (by decide), up1_ne _ _ (by decide), up1_eq]; exact ⟨n0 x.2 h4.1, h4.2⟩
        · rw [up1_ne _ _ (by decide), up1_eq]; decide
      · rw [if_neg x] at h; simp at h
  · unfold accP at h
    rw [if_neg (by rw [h0]; decide), if_neg (by rw [h0]; decide), if_pos h0] at h
    cases hd : aDig a c 60 with
    | some b' =>
      rw [hd] at h
      simp only [aOr, Option.some.injEq] at h
      subst h
      obtain ⟨l, e, l1, l2⟩ := aDig_some hd
      subst e
      exact Or.inr (Or.inr (Or.inl ⟨by rw [up1_ne _ _ (by decide)]; exact h0, by rw [up1_ne _ _ (by decide)]; exact h1, by rw [up1_ne _ _ (by decide)]; exact h2, by rw [up1_eq]; exact ⟨by omega, l2⟩⟩))
    | none =>
      rw [hd] at h
      simp only [aOr] at h
      by_cases x : c = 64 ∧ ¬ a 4 = 0
      · rw [if_pos x, Option.some.injEq] at h
        subst h
        refine Or.inr (Or.inr (Or.inr (Or.inl ⟨up1_eq _ _ _, ?_, ?_, ?_, ?_⟩)))
        · rw [up1_ne _ _ (by decide), up1_ne _ _ (by decide), up1_ne _ _ (by decide)]; exact h1
        · rw [up1_ne _ _ (by decide), up1_ne _ _ (by decide), up1_ne _ _ (by decide)]; exact h2
        · rw [up1_ne _ _ (by decide), up1_ne _ _ (by decide), up1_eq]; exact ⟨n0 x.2 h4.1, h4.2⟩
        · rw [up1_ne _ _ (by decide), up1_eq]; decide
      · rw [if_neg x] at h; simp at h
  · unfold accP at h
    rw [if_neg (by rw [h0]; decide), if_neg (by rw [h0]; decide), if_neg (by rw [h0]; decide), if_pos h0] at h
    cases hd : aDig a c 999 with
    | some b' =>
      rw [hd] at h
      simp only [aOr, Option.some.injEq] at h
      subst h
      obtain ⟨l, e, l1, l2⟩ := aDig_some hd
      subst e
      exact Or.inr (Or.inr (Or.inr (Or.inl ⟨by rw [up1_ne _ _ (by decide)]; exact h0, by rw [up1_ne _ _ (by decide)]; exact h1, by rw [up1_ne _ _ (by decide)]; exact h2, by rw [up1_ne _ _ (by decide)]; exact h3, by rw [up1_eq]; exact ⟨by omega, l2⟩⟩)))
    | none =>
      rw [hd] at h
      simp only [aOr] at h
      by_cases x : c = 33 ∧ ¬ a 4 = 0
      · rw [if_pos x, Option.some.injEq] at h
        subst h
        refine Or.inr (Or.inr (Or.inr (Or.inr ⟨up1_eq _ _ _, ?_, ?_, ?_, ?_⟩)))
        · rw [up1_ne _ _ (by decide)]; exact h1
        · rw [up1_ne _ _ (by decide)]; exact h2
        · rw [up1_ne _ _ (by decide)]; exact h3
        · rw [up1_ne _ _ (by decide)]; exact ⟨n0 x.2 h4.1, h4.2⟩
      · rw [if_neg x] at h; exact aNext_some h
  · unfold accP at h
    rw [if_neg (by rw [h0]; decide), if_neg (by rw [h0]; decide), if_neg (by rw [h0]; decide), if_neg (by rw [h0]; decide)] at h
    exact aNext_some h
theorem ats_I {X a : Nat → Int32} (h : aI a) : ∀ {j b}, ats X a j = some b → aI b
  | 0, b, hb => by
    have : a = b := by simpa [ats] using hb
    rw [← this]; exact h
  | j + 1, b, hb => by
    obtain ⟨b1, b2, h1, h2, h3⟩ := ats_lt hb (Nat.lt_succ_self j)
    rw [h3, Option.some.injEq] at hb
    subst hb
    exact accP_I (ats_I h h1) h2
theorem aBeg_I (a : Nat → Int32) : aI (aBeg a) := Or.inl ⟨by unfold aBeg; rw [up1_ne _ _ (by decide), up1_eq], by unfold aBeg; rw [up1_eq]⟩
def aRush (b : Nat → Int32) : Int32 := if b 0 = 4 then 1 else 0
theorem aRush_01 (b : Nat → Int32) : aRush b = 0 ∨ aRush b = 1 := by
  unfold aRush
  split
  · exact Or.inr rfl
  · exact Or.inl rfl
theorem aEnd_ok {b : Nat → Int32} (h : aI b) (he : aEnd b = true) : okT (b 1) (b 2) (b 3) (b 4) = true := by
  have l3 : (3 : Int32).toInt = 3 := by decide
  have l20 : (20 : Int32).toInt = 20 := by decide
  have l60 : (60 : Int32).toInt = 60 := by decide
  have l999 : (999 : Int32).toInt = 999 := by decide
  have l0 : (0 : Int32).toInt = 0 := by decide
  rw [okT_t]
  simp only [Int32.lt_iff_toInt_lt, l3, l20, l60, l999, l0, i1]
  rw [aEnd, Bool.or_eq_true, Bool.and_eq_true, decide_eq_true_eq, decide_eq_true_eq, decide_eq_true_eq, Int32.le_iff_toInt_le, l0] at he
  rcases h with ⟨h0, -⟩ | ⟨h0, -⟩ | ⟨h0, -⟩ | ⟨h0, h1, h2, h3, h4⟩ | ⟨h0, h1, h2, h3, h4⟩
  · rw [h0] at he; exact absurd he (fun z => z.elim (by decide) (fun y => absurd y.1 (by decide)))
  · rw [h0] at he; exact absurd he (fun z => z.elim (by decide) (fun y => absurd y.1 (by decide)))
  · rw [h0] at he; exact absurd he (fun z => z.elim (by decide) (fun y => absurd y.1 (by decide)))
  · have : ¬ (b 4).toInt ≤ 0 := by
      rcases he with z | z
      · rw [h0] at z; exact absurd z (by decide)
      · exact z.2
    omega
  · omega
def aTk (S : Nat → Int32) (b : Nat → Int32) : Int32 × (Nat → Int32) := sTakes S (b 1) (b 2) (b 3) (b 4) (aRush b)
/-- the piles of a text taken in, place by place; g: the scanner's states -/
def adm (X : Nat → Int32) (n : Nat) (g : Nat → Nat → Int32) : Nat → Nat → Nat → (Nat → Int32) → Nat × (Nat → Int32)
  | 0, _, t, S => (t, S)
  | d + 1, i, t, S => if i = n ∨ X i = 59 then (if (aTk S (g i)).1 = -1 then (t, (aTk S (g i)).2) else adm X n g d (i + 1) (t + 1) (aTk S (g i)).2) else adm X n g d (i + 1) t S
def aG (X a : Nat → Int32) (i : Nat) : Nat → Int32 := (ats X a i).getD a
theorem aG_e {X a : Nat → Int32} {i : Nat} {b : Nat → Int32} (h : ats X a i = some b) : aG X a i = b := by unfold aG; rw [h]; rfl
section
variable {mi : Nat → Nat → Nat → Int32} {ml : Nat → Nat → Nat → Int64} {ex : Nat} {S : Nat → Int32} {s : Nat} {H : Nat → Nat → Int32} {K : Nat → Bool} {T : Nat → Nat → Int32} {n : Nat} {X : Nat → Int32} {A P : Int}
theorem c50 {j : Nat} {b : Nat → Int32} (R : RC mi S s H K T n X) (hn : n ≤ 60) (hj : j ≤ n) (h : ats X (aBeg (mi 6 0)) j = some b) (he : j = n ∨ accP b (X j) = none) : ∃ mi', pt_Ca 50 [vR 7 0] (pt_MEM mi ml ex) (.inl (some (vI (nI j))), pt_MEM mi' ml ex) ∧ Fr [6] mi mi' ∧ mi' 6 0 = b := by
  obtain ⟨-, -, -, r4, r5⟩ := R
  have loop : ∀ d i, i + d = j → ∀ m1, Fr [6] mi m1 → ats X (aBeg (mi 6 0)) i = some (m1 6 0) → ∃ mi', pt_Ev 50 none 9 [some (vR 7 0), some (vI (nI i))] [] (pt_MEM m1 ml ex) (.inl (some (vI (nI j))), pt_MEM mi' ml ex) ∧ Fr [6] mi mi' ∧ mi' 6 0 = b := by
    intro d
    induction d with
    | zero =>
      intro i hi m1 f ha
      have hi' : i = j := hi
      subst hi'
      have hb : m1 6 0 = b := by rw [h, Option.some.injEq] at ha; exact ha.symm
      have l1 : m1 7 0 1 = nI n := (f 7 0 1 (by decide)).trans r4
      by_cases c : i = n
      · subst c
        refine ⟨m1, r50_9 (fun _ => ?_) (fun z => absurd (by rw [l1]; exact nI_le (Nat.le_refl i) (by omega)) z), f, hb⟩
        rw [← l1]
        exact r50_41
      · have hlt : i < n := by omega
        have hI := ats_I (aBeg_I (mi 6 0)) ha
        obtain ⟨m2, q1, q2, q3⟩ := c42 (mi := m1) (ml := ml) (ex := ex) (c := m1 11 0 i) hI.part
        have hx : m1 11 0 i = X i := (f 11 0 i (by decide)).trans (r5 i hlt)
        have hno : accP (m1 6 0) (m1 11 0 i) = none := by rw [hb, hx]; exact he.resolve_left c
        rw [hno] at q1 q3
        exact ⟨m2, r50_9 (fun z => absurd (by rw [l1] at z; exact z) (nI_ge hlt (by omega))) (fun _ => r50_17 rfl (by omega) q1 (r50_30 (fun _ => r50_33) (fun z => absurd rfl z))), f.tr q2, (show m2 6 0 = m1 6 0 from q3).trans hb⟩
    | succ d ih =>
      intro i hid m1 f ha
      have l1 : m1 7 0 1 = nI n := (f 7 0 1 (by decide)).trans r4
      obtain ⟨b1, b2, h1, h2, h3⟩ := ats_lt h (show i < j by omega)
      have hb : m1 6 0 = b1 := by rw [h1, Option.some.injEq] at ha; exact ha.symm
      have hI := ats_I (aBeg_I (mi 6 0)) ha
      obtain ⟨m2, q1, q2, q3⟩ := c42 (mi := m1) (ml := ml) (ex := ex) (c := m1 11 0 i) hI.part
      have hx : m1 11 0 i = X i := (f 11 0 i (by decide)).trans (r5 i (by omega))
      have hs : accP (m1 6 0) (m1 11 0 i) = some b2 := by rw [hb, hx]; exact h2
      rw [hs] at q1 q3
      obtain ⟨mi', w1, w2⟩ := ih (i + 1) (by omega) m2 (f.tr q2) (by rw [show m2 6 0 = b2 from q3]; exact h3)
      rw [nI_succ] at w1
      exact ⟨mi', r50_9 (fun z => absurd (by rw [l1] at z; exact z) (nI_ge (show i < n by omega) (by omega))) (fun _ => r50_17 rfl (by omega) q1 (r50_30 (fun z => absurd z (bI_tn rfl)) (fun _ => r50_35 w1))), w2⟩
  obtain ⟨m1, q1, q2, q3⟩ := c39 (mi := mi) (ml := ml) (ex := ex)
  obtain ⟨mi', w1, w2⟩ := loop j 0 (by omega) m1 q2 (by rw [q3]; rfl)
  exact ⟨mi', r50_0 q1 (r50_7 (by rw [← nI_0]; exact w1)), w2⟩
theorem c51 {j : Nat} {b : Nat → Int32} (R : RC mi S s H K T n X) (hn : n ≤ 60) (hj : j ≤ n) (h : ats X (aBeg (mi 6 0)) j = some b) (he : j = n ∨ accP b (X j) = none) : ∃ mi', pt_Ca 51 [vR 7 0] (pt_MEM mi ml ex) (.inl (some (vI (bI (decide (j = n) && aEnd b)))), pt_MEM mi' ml ex) ∧ Fr [6] mi mi' ∧ mi' 6 0 = b := by
  obtain ⟨m1, q1, q2, q3⟩ := c50 (ml := ml) (ex := ex) R hn hj h he
  have l1 : m1 7 0 1 = nI n := (q2 7 0 1 (by decide)).trans R.2.2.2.1
  have e40 := c40 (mi := m1) (ml := ml) (ex := ex)
  rw [q3] at e40
  refine ⟨m1, r51_0 q1 (r51_4 (fun c => ?_) (fun c => ?_)), q2, q3⟩
  · rw [l1] at c
    have := nI_inj (by omega) (by omega) c
    rw [show decide (j = n) = true from by simp [this], Bool.true_and]
    refine r51_11 e40 (r51_18 (fun z => ?_) (fun z => ?_))
    · rw [bI_f z]; exact r51_25
    · rw [bI_t z]; exact r51_21
  · rw [show decide (j = n) = false from by simp; exact fun z => c (by rw [l1, z]), Bool.false_and]
    exact r51_25
theorem c41 {h : Nat} (hh : h < 9) : ∃ mi', pt_Ca 41 [vR 6 0, vR 2 h] (pt_MEM mi ml ex) (.inl (some (vI (bI (decide (¬ (aTk (cs mi h) (mi 6 0)).1 = -1))))), pt_MEM mi' ml ex) ∧ HX mi mi' h (aTk (cs mi h) (mi 6 0)).2 := by
  obtain ⟨w, m1, q1, q2, q3⟩ := c9 (mi := mi) (ml := ml) (ex := ex) (h := h) (x1 := mi 6 0 1) (x2 := mi 6 0 2) (x3 := mi 6 0 3) (x4 := mi 6 0 4) (x5 := aRush (mi 6 0)) hh (aRush_01 _)
  have fin : pt_Ev 41 none 33 [some (vR 6 0), some (vR 2 h)] [vI w] (pt_MEM m1 ml ex) (.inl (some (vI (bI (decide (¬ (aTk (cs mi h) (mi 6 0)).1 = -1))))), pt_MEM m1 ml ex) := by
    have e : (aTk (cs mi h) (mi 6 0)).1 = w := q2.symm
    rw [e]
    refine r41_33 (fun c => ?_) (fun c => ?_)
    · rw [show decide (¬ w = -1) = false from by simp [c]]; exact r41_41
    · rw [show decide (¬ w = -1) = true from by simp [c]]; exact r41_37
  refine ⟨m1, r41_0 (fun c => ?_) (fun c => ?_), q3⟩
  · rw [show aRush (mi 6 0) = 1 from if_pos c] at q1
    exact r41_25 q1 fin
  · rw [show aRush (mi 6 0) = 0 from if_neg c] at q1
    exact r41_29 q1 fin
theorem c52 {b : Nat → Int32} (R : RC mi S s H K T n X) (hn : n ≤ 60) (h : ats X (aBeg (mi 6 0)) n = some b) : ∃ mi', pt_Ca 52 [vR 7 0, vR 2 0] (pt_MEM mi ml ex) (.inl (some (vI (nI (adm X n (aG X (aBeg (mi 6 0))) (n + 1) 0 0 S).1))), pt_MEM mi' ml ex) ∧ RC mi' (adm X n (aG X (aBeg (mi 6 0))) (n + 1) 0 0 S).2 s H K T n X ∧ Fr CK mi mi' := by
  generalize ha0 : aBeg (mi 6 0) = a0 at h
  have hI0 : aI a0 := by rw [← ha0]; exact aBeg_I _
  have loop : ∀ d i, i + d = n + 1 → ∀ t S' m1, RC m1 S' s H K T n X → Fr CK mi m1 → (i ≤ n → m1 6 0 = aG X a0 i) → ∃ mi', pt_Ev 52 none 11 [some (vR 7 0), some (vR 2 0), some (vI (nI t)), some (vI (nI i))] [] (pt_MEM m1 ml ex) (.inl (some (vI (nI (adm X n (aG X a0) d i t S').1))), pt_MEM mi' ml ex) ∧ RC mi' (adm X n (aG X a0) d i t S').2 s H K T n X ∧ Fr CK mi mi' := by
    intro d
    induction d with
    | zero =>
      intro i hi t S' m1 R1 f hg
      have hi' : i = n + 1 := hi
      subst hi'
      exact ⟨m1, r52_11 (fun _ => r52_82) (fun c => absurd (by rw [R1.2.2.2.1]; exact nI_lt (Nat.lt_succ_self n) (by omega)) c), R1, f⟩
    | succ d ih =>
      intro i hid t S' m1 R1 f hg
      have hin : i ≤ n := by omega
      have hg := hg hin
      have l1 : m1 7 0 1 = nI n := R1.2.2.2.1
      -- on to the next place
      have next : ∀ t' S2 m2, RC m2 S2 s H K T n X → Fr CK mi m2 → m2 6 0 = aG X a0 i → ∃ mi', ((i = n → pt_Ev 52 none 76 [some (vR 7 0), some (vR 2 0), some (vI (nI t')), some (vI (nI i))] [] (pt_MEM m2 ml ex) (.inl (some (vI (nI (adm X n (aG X a0) d (i + 1) t' S2).1))), pt_MEM mi' ml ex)) ∧ (¬ i = n → pt_Ev 52 none 62 [some (vR 7 0), some (vR 2 0), some (vI (nI t')), some (vI (nI i))] [] (pt_MEM m2 ml ex) (.inl (some (vI (nI (adm X n (aG X a0) d (i + 1) t' S2).1))), pt_MEM mi' ml ex))) ∧ RC mi' (adm X n (aG X a0) d (i + 1) t' S2).2 s H K T n X ∧ Fr CK mi mi' := by
        intro t' S2 m2 R2 f2 hg2
        by_cases c : i = n
        · obtain ⟨mi', w1, w2⟩ := ih (i + 1) (by omega) t' S2 m2 R2 f2 (fun z => by omega)
          rw [nI_succ] at w1
          exact ⟨mi', ⟨fun _ => r52_76 w1, fun z => absurd c z⟩, w2⟩
        · obtain ⟨b1, b2, h1, h2, h3⟩ := ats_lt h (show i < n by omega)
          have hb : m2 6 0 = b1 := hg2.trans (aG_e h1)
          have hI := ats_I hI0 h1
          obtain ⟨m3, q1, q2, q3⟩ := c42 (mi := m2) (ml := ml) (ex := ex) (c := m2 11 0 i) (by rw [hb]; exact hI.part)
          have hx : m2 11 0 i = X i := R2.2.2.2.2 i (by omega)
          have hs : accP (m2 6 0) (m2 11 0 i) = some b2 := by rw [hb, hx]; exact h2
          rw [hs] at q1 q3
          obtain ⟨mi', w1, w2⟩ := ih (i + 1) (by omega) t' S2 m3 (R2.fr q2 (by decide)) (f2.tr (q2.wd (by decide))) (fun _ => by rw [aG_e h3]; exact q3)
          rw [nI_succ] at w1
          exact ⟨mi', ⟨fun z => absurd z c, fun _ => r52_62 rfl (by omega) q1 (r52_75 w1)⟩, w2⟩
      have hle : ∀ m2, RC m2 S' s H K T n X → True := fun _ _ => trivial
      by_cases c : i = n ∨ X i = 59
      · -- a pile's end
        have e : adm X n (aG X a0) (d + 1) i t S' = (if (aTk S' (aG X a0 i)).1 = -1 then (t, (aTk S' (aG X a0 i)).2) else adm X n (aG X a0) d (i + 1) (t + 1) (aTk S' (aG X a0 i)).2) := if_pos c
        rw [e]
        obtain ⟨m2, q1, q2⟩ := c41 (mi := m1) (ml := ml) (ex := ex) (h := 0) (by decide)
        rw [R1.1, hg] at q1 q2
        obtain ⟨R2, f2⟩ := R1.hx q2
        have hg2 : m2 6 0 = aG X a0 i := (funext (fun k => q2.2.2 6 0 k (by decide))).trans hg
        have start : ∀ {o}, pt_Ev 52 none 38 [some (vR 7 0), some (vR 2 0), some (vI (nI t)), some (vI (nI i))] [] (pt_MEM m1 ml ex) o → pt_Ev 52 none 11 [some (vR 7 0), some (vR 2 0), some (vI (nI t)), some (vI (nI i))] [] (pt_MEM m1 ml ex) o := by
          intro o kk
          refine r52_11 (fun z => absurd (by rw [l1] at z; exact z) (nI_nlt hin (by omega))) (fun _ => r52_19 (fun _ => kk) (fun z => r52_27 (p3 := i) rfl ?_ (fun _ => kk) (fun y => ?_)))
          · have : ¬ i = n := fun y => z (by rw [l1, y])
            omega
          · have hne : ¬ i = n := fun y => z (by rw [l1, y])
            rw [R1.2.2.2.2 i (by omega)] at y
            exact absurd (c.resolve_left hne) y
        by_cases hw : (aTk S' (aG X a0 i)).1 = -1
        · rw [if_pos hw]
          rw [show decide (¬ (aTk S' (aG X a0 i)).1 = -1) = false from by simp [hw]] at q1
          exact ⟨m2, start (r52_38 q1 (r52_46 (fun _ => r52_49) (fun z => absurd rfl z))), R2, f.tr f2⟩
        · rw [if_neg hw]
          rw [show decide (¬ (aTk S' (aG X a0 i)).1 = -1) = true from by simp [hw]] at q1
          obtain ⟨mi', ⟨w1, w2⟩, w3⟩ := next (t + 1) _ m2 R2 (f.tr f2) hg2
          rw [nI_succ t] at w1 w2
          refine ⟨mi', start (r52_38 q1 (r52_46 (fun z => absurd z (by decide)) (fun _ => r52_51 (fun z => w1 ?_) (fun z => w2 ?_)))), w3⟩
          · rw [R2.2.2.2.1] at z
            by_cases y : i = n
            · exact y
            · exact absurd z (nI_ge (show i < n by omega) (by omega))
          · rw [R2.2.2.2.1] at z
            exact fun y => z (nI_le (by omega) (by omega))
      · have e : adm X n (aG X a0) (d + 1) i t S' = adm X n (aG X a0) d (i + 1) t S' := if_neg c
        rw [e]
        have hne : ¬ i = n := fun z => c (Or.inl z)
        obtain ⟨mi', ⟨w1, w2⟩, w3⟩ := next t S' m1 R1 f hg
        refine ⟨mi', r52_11 (fun z => absurd (by rw [l1] at z; exact z) (nI_nlt hin (by omega))) (fun _ => r52_19 (fun z => ?_) (fun _ => r52_27 (p3 := i) rfl (by omega) (fun y => ?_) (fun _ => r52_54 (fun z => ?_) (fun _ => w2 hne)))), w3⟩
        · rw [l1] at z
          exact absurd (nI_inj (by omega) (by omega) z) hne
        · rw [R1.2.2.2.2 i (by omega)] at y
          exact absurd (Or.inr y) c
        · rw [l1] at z
          exact absurd z (nI_ge (show i < n by omega) (by omega))
  obtain ⟨m1, q1, q2, q3⟩ := c39 (mi := mi) (ml := ml) (ex := ex)
  rw [ha0] at q3
  obtain ⟨mi', w1, w2⟩ := loop (n + 1) 0 (by omega) 0 S m1 (R.fr q2 (by decide)) (q2.wd (by decide)) (fun _ => q3)
  rw [nI_0] at w1
  exact ⟨mi', r52_0 q1 (r52_9 w1), w2⟩
end
