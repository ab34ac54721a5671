/-! The model: changing calls. -/
theorem bI_t {b : Bool} (h : ¬ bI b = 0) : b = true := by
  rw [bI_eq0, Bool.not_eq_false] at h
  exact h
theorem bI_f {b : Bool} (h : bI b = 0) : b = false := (bI_eq0 b).mp h
theorem bI_tn {b : Bool} (h : b = true) : ¬ bI b = 0 := by rw [h]; decide
theorem bI_fn {b : Bool} (h : b = false) : bI b = 0 := by rw [h]; rfl
theorem nI_1' : nI 1 = 1 := by decide +kernel
theorem sEmp_hi {x : Int32} {k : Nat} (hk : 90 ≤ k) (h1 : k ≠ 100) (d : Nat) : ∀ S, (sEmp x d S).1 k = S k := by
  induction d with
  | zero => intro S; rfl
  | succ d ih =>
    intro S
    cases hf : sFirstIn S x with
    | none => rw [sEmp_1 hf]
    | some p =>
      cases hs : sFreeShelf S with
      | none => rw [sEmp_2 hs]
      | some f =>
        rw [sEmp_3 hf hs]
        have hp : p < 10 := (sFirst_lt _ _ hf).1
        exact (ih _).trans (sPutT_hi hp hk h1)
theorem sEnds_hi {S : Nat → Int32} {m k : Nat} (hk : 90 ≤ k) (h0 : k ≠ 90 + 3 * m + 1) (h1 : k ≠ 100) (h3 : k ≠ 103) : (sEnds S m).1 k = S k := by
  unfold sEnds
  split
  · rfl
  · show sFin m (sEmp (nI m) 10 S).1 (S 103 + nI (sEmp (nI m) 10 S).2) k = S k
    unfold sFin
    split
    · rw [up1_ne _ _ h0, up1_ne _ _ h3]; exact sEmp_hi hk h1 10 S
    · rw [up1_ne _ _ h3]; exact sEmp_hi hk h1 10 S
theorem sAll_96 {S : Nat → Int32} : (sAll S).1 96 = S 96 := (sEnds_hi (by decide) (by decide) (by decide) (by decide)).trans (sEnds_hi (by decide) (by decide) (by decide) (by decide))
theorem Good.taken {S : Nat → Int32} {A P : Int} {p : Nat} {x : Int32} (g : Good S A P) (hp : p < 10) (ha : sAt S p 2 x = true) : Good (sTaken S p) A P := ((g.gone hp ha).up (k := 101) (by decide)).up (k := 99) (by decide)
theorem Good.give {S : Nat → Int32} {A P : Int} {t x : Int32} (g : Good S A P) (hP : P ≤ 400000000) : Good (sGive S t x).2 A (P + 20) := by
  cases hf : sShelf S x with
  | none => rw [sGive_0 hf]; exact g.ref.mono (Int.le_refl _) (by omega)
  | some p =>
    by_cases e : S (9 * p + 0) = t
    · rw [sGive_1 hf e]
      have h := fi_lt hf
      exact (sAll_good (g.taken h.1 h.2) hP).1
    · rw [sGive_2 hf e]; exact g.ref.mono (Int.le_refl _) (by omega)
theorem Good.takes {S : Nat → Int32} {A P : Int} {x1 x2 x3 x4 x5 : Int32} (g : Good S A P) (hA : A ≤ 100000) (h : okT x1 x2 x3 x4 = true) (h5 : x5 = 0 ∨ x5 = 1) : Good (sTakes S x1 x2 x3 x4 x5).2 (A + 1) P := by
  obtain ⟨⟨a1, a2⟩, ⟨b1, b2⟩, ⟨c1, c2⟩, d1, d2⟩ := okT_t.mp h
  rw [Int32.lt_iff_toInt_lt] at a1 a2 c1 c2 d1 d2
  have l0 : (0 : Int32).toInt = 0 := by decide
  have l60 : (60 : Int32).toInt = 60 := by decide
  have l999 : (999 : Int32).toInt = 999 := by decide
  cases hf : sFree S with
  | none => rw [sTakes_none hf]; exact g.ref.mono (by omega) (Int.le_refl _)
  | some p =>
    rw [sTakes_some hf]
    refine g.adm hA hf ?_ ?_ ?_ h5
    · rw [i32_ne, im1]; omega
    · rw [i1] at c1; omega
    · rw [i1] at d1; omega
theorem Good.col {S : Nat → Int32} {A P : Int} (g : Good S A P) : ∀ p, p < 10 → sW S p = true → ¬ S (9 * p + 1) = -1 := fun p hp h => ((g.1.1 p hp).2 (sW_6 h).1).2.2.2
theorem Good.loads {S : Nat → Int32} {A P : Int} {w : Int32} {m : Nat} (g : Good S A P) (hA : A ≤ 100000) (hm : m < 2) (hw : sWL S (S (90 + 3 * m + 0)) w) : Good (sLoads S w m).2 A P := by
  unfold sLoads
  by_cases c : sIdle S m = true ∧ ¬ w = 0
  · rw [if_pos c]
    have hi := c.1
    rw [sIdle, decide_eq_true_eq] at hi
    exact g.load hm hi (sWL_bits (g.GO hA) hw) c.2
  · rw [if_neg c]; exact g.ref
theorem i99999 : (99999 : Int32).toInt = 99999 := by decide
theorem pass_clock {S : Nat → Int32} {A P : Int} {k : Nat} (g : Good S A P) (hk : k ≤ 240) (h2 : S 96 + nI k ≤ 99999) : (S 96).toInt + k ≤ 99999 := by
  have n := g.2.1.2.1
  have e : (nI k).toInt = k := nI_toInt (by omega)
  rw [Int32.le_iff_toInt_le, ad32 (by omega) (by omega), e, i99999] at h2
  exact h2
theorem sPass_good {S : Nat → Int32} {A P : Int} {k : Nat} (g : Good S A P) (hP : P ≤ 300000000) (hk : k ≤ 240) (h2 : (S 96).toInt + k ≤ 99999) : ∀ i : Nat, i ≤ k → Good (sPass S i).1 A (P + 20 * i) ∧ ((sPass S i).1 96).toInt = (S 96).toInt + i := by
  intro i
  induction i with
  | zero => intro _; exact ⟨g.mono (Int.le_refl _) (by omega), by show (S 96).toInt = _; omega⟩
  | succ i ih =>
    intro hi
    obtain ⟨g1, g2⟩ := ih (by omega)
    have e1 : sPass S (i + 1) = sMin (sPass S i) := rfl
    rw [e1]
    have n := g.2.1.2.1
    generalize sPass S i = a at *
    have ev : (a.1 96 + 1).toInt = (S 96).toInt + i + 1 := by rw [ad32 (by rw [i1]; omega) (by rw [i1]; omega), i1, g2]
    have g3 := (sAll_good (g1.up96 (v := a.1 96 + 1) (by omega)) (by omega)).1
    refine ⟨g3.mono (Int.le_refl _) (by omega), ?_⟩
    show ((sAll (up1 a.1 96 (a.1 96 + 1))).1 96).toInt = _
    rw [sAll_96, up1_eq, ev]
    omega
section
variable {mi : Nat → Nat → Nat → Int32} {ml : Nat → Nat → Nat → Int64} {ex : Nat} {S : Nat → Int32} {s : Nat} {H : Nat → Nat → Int32} {K : Nat → Bool} {T : Nat → Nat → Int32} {n : Nat} {X : Nat → Int32} {A P : Int}
end
