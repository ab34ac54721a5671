/-! The model's looks at its row. -/
def ms (mi : Nat → Nat → Nat → Int32) : Nat → Int32 := rw6 (mi 14 0) 0
theorem ms_e (mi : Nat → Nat → Nat → Int32) {k : Nat} (h : k < 106) : mi 14 0 k = ms mi k := by
  unfold ms rw6
  rw [if_pos h, Nat.zero_add]
/-- repeated from n-1 down to 0 -/
def fd {α : Type} (f : Nat → α → α) : Nat → α → α
  | 0, a => a
  | n + 1, a => fd f n (f n a)
theorem fd_dn {α : Type} {E : Nat → α → Prop} {f : Nat → α → α} : ∀ {n : Nat} {a : α}, (∀ p b, p < n → E p (f p b) → E (p + 1) b) → E 0 (fd f n a) → E n a
  | 0, _, _, h => h
  | n + 1, a, st, h => st n a (Nat.lt_succ_self n) (fd_dn (n := n) (fun p b hp => st p b (Nat.lt_succ_of_lt hp)) h)
def sel (P : Nat → Bool) (p : Nat) (r : Option Nat) : Option Nat := if P p = true then some p else r
theorem fd_sel {P : Nat → Bool} : ∀ {n : Nat} {a : Option Nat}, fd (sel P) n a = (match fi P n with | some p => some p | none => a)
  | 0, _ => rfl
  | n + 1, a => by
    show fd (sel P) n (sel P n a) = _
    rw [fd_sel, fi]
    cases fi P n with
    | some p => rfl
    | none =>
      show sel P n a = _
      unfold sel
      by_cases h : P n = true
      · rw [if_pos h, if_pos h]
      · rw [if_neg h, if_neg h]
theorem fo_sel_lt {P : Nat → Bool} : ∀ {n q : Nat}, fo (sel P) n none = some q → q < n ∧ P q = true
  | 0, q, h => by simp [fo] at h
  | n + 1, q, h => by
    have h2 : sel P n (fo (sel P) n none) = some q := h
    by_cases c : P n = true
    · rw [sel, if_pos c] at h2
      simp only [Option.some.injEq] at h2
      subst h2
      exact ⟨Nat.lt_succ_self _, c⟩
    · rw [sel, if_neg c] at h2
      have := fo_sel_lt (n := n) h2
      exact ⟨Nat.lt_succ_of_lt this.1, this.2⟩
def sIn3 (x lo hi : Int32) : Bool := decide (¬ x < lo) && decide (¬ hi < x)
def mBy (S : Nat → Int32) (p q : Nat) : Int32 :=
  let b0 := if S 105 = 1 then S (9 * q + 5) - S (9 * p + 5) else 0
  let b1 := if b0 = 0 then S (9 * p + 4) - S (9 * q + 4) else b0
  if b1 = 0 then S (9 * p + 0) - S (9 * q + 0) else b1
def mAhead (S : Nat → Int32) (p q : Nat) : Bool := decide (¬ 0 ≤ mBy S p q)
def mRank (S : Nat → Int32) (p : Nat) : Int32 := fo (fun q a => if (sIn S q 0 && mAhead S q p) = true then a + 1 else a) 10 0
def mRanked (S : Nat → Int32) (x : Int32) : Option Nat := fo (sel (fun p => sIn S p 0 && decide (mRank S p = x))) 10 none
def mCol (S : Nat → Int32) (m : Int32) : Int32 := fo (fun p a => if sAt S p 1 m then S (9 * p + 1) else a) 10 (-1)
def mShelf (S : Nat → Int32) (x : Int32) : Option Nat := fo (sel (fun p => sAt S p 2 x)) 10 none
def mFreeShelf (S : Nat → Int32) : Option Nat := fi (fun k => (mShelf S (nI k)).isNone) 8
section
variable {mi : Nat → Nat → Nat → Int32} {ml : Nat → Nat → Nat → Int64} {ex p q : Nat}
theorem m88 {x lo hi : Int32} : pt_Ca 88 [vI x, vI lo, vI hi] (pt_MEM mi ml ex) (.inl (some (vI (bI (sIn3 x lo hi)))), pt_MEM mi ml ex) := by
  refine r88_0 (fun c => ?_) (fun c => ?_)
  · rw [show sIn3 x lo hi = false from by simp only [sIn3, c, not_true, decide_false, Bool.false_and]]; exact r88_14
  · refine r88_5 (fun d => ?_) (fun d => ?_)
    · rw [show sIn3 x lo hi = false from by simp only [sIn3, d, not_true, decide_false, Bool.and_false]]; exact r88_14
    · rw [show sIn3 x lo hi = true from by simp only [sIn3, c, d, not_false_iff, decide_true, Bool.and_self]]; exact r88_10
theorem m90 {j : Nat} {x : Int32} (hp : p < 10) (hj : j < 9) (hx : x = nI j) : pt_Ca 90 [vI (nI p), vI x] (pt_MEM mi ml ex) (.inl (some (vI (nI (9 * p + j)))), pt_MEM mi ml ex) := by
  rw [← nI_ofP hp hj, hx]
  exact r90_0
theorem m91 {j : Nat} {x : Int32} (hp : p < 2) (hj : j < 3) (hx : x = nI j) : pt_Ca 91 [vI (nI p), vI x] (pt_MEM mi ml ex) (.inl (some (vI (nI (90 + 3 * p + j)))), pt_MEM mi ml ex) := by
  rw [← nI_ofM hp hj, hx]
  exact r91_0
theorem m92 {x : Int32} : pt_Ca 92 [vI x] (pt_MEM mi ml ex) (.inl (some (vI (bI (sIn3 x 0 1)))), pt_MEM mi ml ex) := r92_0 m88 (r92_6 (bI_01 _))
theorem in9 : ∀ {p : Nat}, p < 10 → sIn3 (nI p) 0 9 = true := by decide +kernel
theorem m93 (hp : p < 10) : pt_Ca 93 [vR 9 0, vI (nI p)] (pt_MEM mi ml ex) (.inl (some (vI (bI (sHere (ms mi) p)))), pt_MEM mi ml ex) := by
  have e0 := ms_e mi (k := 9 * p + 0) (by omega)
  refine r93_0 m88 (r93_7 (fun c => ?_) (fun _ => r93_10 (m90 (j := 0) hp (by decide) (by decide)) (r93_19 rfl (by omega) (fun c => ?_) (fun c => ?_))))
  · rw [bI_eq0, in9 hp] at c; simp at c
  · rw [e0] at c; rw [show sHere (ms mi) p = false from by simp only [sHere, c]; rfl]; exact r93_28
  · rw [e0] at c; rw [show sHere (ms mi) p = true from by simp only [sHere, c]; rfl]; exact r93_24
theorem m94 (hp : p < 10) : pt_Ca 94 [vR 9 0, vI (nI p)] (pt_MEM mi ml ex) (.inl (some (vI (bI (sIn (ms mi) p 0)))), pt_MEM mi ml ex) := by
  have e6 := ms_e mi (k := 9 * p + 6) (by omega)
  refine r94_0 (m93 hp) (r94_5 (fun c => ?_) (fun c => r94_8 (m90 (j := 6) hp (by decide) (by decide)) (r94_18 rfl (by omega) (fun d => ?_) (fun d => ?_))))
  · rw [bI_eq0] at c; rw [show sIn (ms mi) p 0 = false from by simp only [sIn, c, Bool.false_and]]; exact r94_26
  · rw [bI_eq0, Bool.not_eq_false] at c; rw [e6] at d; rw [show sIn (ms mi) p 0 = true from by simp only [sIn, c, d]; rfl]; exact r94_22
  · rw [bI_eq0, Bool.not_eq_false] at c; rw [e6] at d; rw [show sIn (ms mi) p 0 = false from by simp only [sIn, c, d]; rfl]; exact r94_26
theorem m100 {st x : Int32} (hp : p < 10) : pt_Ca 100 [vR 9 0, vI (nI p), vI st, vI x] (pt_MEM mi ml ex) (.inl (some (vI (bI (sAt (ms mi) p st x)))), pt_MEM mi ml ex) := by
  have e6 := ms_e mi (k := 9 * p + 6) (by omega)
  have e7 := ms_e mi (k := 9 * p + 7) (by omega)
  refine r100_0 (m93 hp) (r100_5 (fun c => ?_) (fun c => r100_8 (m90 (j := 6) hp (by decide) (by decide)) (r100_18 rfl (by omega) (fun d => r100_23 (m90 (j := 7) hp (by decide) (by decide)) (r100_33 rfl (by omega) (fun z => ?_) (fun z => ?_))) (fun d => ?_))))
  · rw [bI_eq0] at c; rw [show sAt (ms mi) p st x = false from by simp only [sAt, c, Bool.false_and]]; exact r100_42
  · rw [bI_eq0, Bool.not_eq_false] at c; rw [e6] at d; rw [e7] at z; rw [show sAt (ms mi) p st x = true from by simp only [sAt, c, d, z]; rfl]; exact r100_38
  · rw [bI_eq0, Bool.not_eq_false] at c; rw [e6] at d; rw [e7] at z; rw [show sAt (ms mi) p st x = false from by simp only [sAt, c, d, z, decide_false, Bool.and_false]]; exact r100_42
  · rw [bI_eq0, Bool.not_eq_false] at c; rw [e6] at d; rw [show sAt (ms mi) p st x = false from by simp only [sAt, c, d, decide_false, Bool.and_false, Bool.false_and]]; exact r100_42
theorem m101 {x : Int32} : pt_Ca 101 [vR 9 0, vI x] (pt_MEM mi ml ex) (.inl (some (vI (sWeightIn (ms mi) x))), pt_MEM mi ml ex) := by
  refine r101_0 (fo_up (E := fun p a => pt_Ev 101 none 4 [some (vR 9 0), some (vI x), some (vI a), some (vI (nI p))] [] (pt_MEM mi ml ex) (.inl (some (vI (sWeightIn (ms mi) x))), pt_MEM mi ml ex)) (f := fun p a => if sAt (ms mi) p 1 x then a + ms mi (9 * p + 2) else a) (n := 10) (a := 0) ?_ ?_)
  · intro p a hp k
    rw [nI_succ] at k
    have e2 := ms_e mi (k := 9 * p + 2) (by omega)
    refine r101_4 (fun c => absurd c (n10_le hp)) (fun _ => r101_10 (m100 hp) (r101_18 (fun c => ?_) (fun c => ?_)))
    · rw [bI_eq0] at c
      rw [if_neg (by rw [c]; decide)] at k
      exact r101_34 (by rw [Int32.add_zero]; exact k)
    · rw [bI_eq0, Bool.not_eq_false] at c
      rw [if_pos c, ← e2] at k
      exact r101_21 (m90 (j := 2) hp (by decide) (by decide)) (r101_30 rfl (by omega) k)
  · exact r101_4 (fun _ => r101_43) (fun c => absurd n10_le' c)
theorem m102 {x : Int32} : pt_Ca 102 [vR 9 0, vI x] (pt_MEM mi ml ex) (.inl (some (vI (sPilesIn (ms mi) x))), pt_MEM mi ml ex) := by
  refine r102_0 (fo_up (E := fun p a => pt_Ev 102 none 4 [some (vR 9 0), some (vI x), some (vI a), some (vI (nI p))] [] (pt_MEM mi ml ex) (.inl (some (vI (sPilesIn (ms mi) x))), pt_MEM mi ml ex)) (f := fun p a => if sAt (ms mi) p 1 x then a + 1 else a) (n := 10) (a := 0) ?_ ?_)
  · intro p a hp k
    rw [nI_succ] at k
    refine r102_4 (fun c => absurd c (n10_le hp)) (fun _ => r102_10 (m100 hp) (r102_18 (fun c => ?_) (fun c => ?_)))
    · rw [bI_eq0] at c
      rw [if_neg (by rw [c]; decide)] at k
      exact r102_25 (by rw [Int32.add_zero]; exact k)
    · rw [bI_eq0, Bool.not_eq_false] at c
      rw [if_pos c] at k
      exact r102_21 k
  · exact r102_4 (fun _ => r102_34) (fun c => absurd n10_le' c)
theorem m103 {x : Int32} : pt_Ca 103 [vR 9 0, vI x] (pt_MEM mi ml ex) (.inl (some (vI (mCol (ms mi) x))), pt_MEM mi ml ex) := by
  refine r103_0 (fo_up (E := fun p a => pt_Ev 103 none 4 [some (vR 9 0), some (vI x), some (vI a), some (vI (nI p))] [] (pt_MEM mi ml ex) (.inl (some (vI (mCol (ms mi) x))), pt_MEM mi ml ex)) (f := fun p a => if sAt (ms mi) p 1 x then ms mi (9 * p + 1) else a) (n := 10) (a := -1) ?_ ?_)
  · intro p a hp k
    rw [nI_succ] at k
    have e2 := ms_e mi (k := 9 * p + 1) (by omega)
    refine r103_4 (fun c => absurd c (n10_le hp)) (fun _ => r103_10 (m100 hp) (r103_17 (fun c => ?_) (fun c => ?_)))
    · rw [bI_eq0] at c
      rw [if_neg (by rw [c]; decide)] at k
      exact r103_33 k
    · rw [bI_eq0, Bool.not_eq_false] at c
      rw [if_pos c, ← e2] at k
      exact r103_20 (m90 (j := 1) hp (by decide) (by decide)) (r103_29 rfl (by omega) k)
  · exact r103_4 (fun _ => r103_41) (fun c => absurd n10_le' c)
theorem m104 (hp : p < 2) : pt_Ca 104 [vR 9 0, vI (nI p)] (pt_MEM mi ml ex) (.inl (some (vI (bI (sIdle (ms mi) p)))), pt_MEM mi ml ex) := by
  have e := ms_e mi (k := 90 + 3 * p + 1) (by omega)
  refine r104_0 (m91 (j := 1) hp (by decide) (by decide)) (r104_9 rfl (by omega) (fun c => ?_) (fun c => ?_))
  · rw [e] at c; rw [show sIdle (ms mi) p = true from by simp only [sIdle, c]; rfl]; exact r104_14
  · rw [e] at c; rw [show sIdle (ms mi) p = false from by simp only [sIdle, c]; rfl]; exact r104_18
end
