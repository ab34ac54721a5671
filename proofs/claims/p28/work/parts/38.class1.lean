/-! The reference's words over the row, and the class's looks at a house. -/
def sHere (S : Nat → Int32) (p : Nat) : Bool := decide (¬ S (9 * p + 0) = -1)
def sAt (S : Nat → Int32) (p : Nat) (st wh : Int32) : Bool := sHere S p && (decide (S (9 * p + 6) = st) && decide (S (9 * p + 7) = wh))
def sIn (S : Nat → Int32) (p : Nat) (st : Int32) : Bool := sHere S p && decide (S (9 * p + 6) = st)
def sLate (S : Nat → Int32) (p : Nat) : Bool := decide (S (9 * p + 6) = 2) && decide (¬ S (9 * p + 8) ≤ S (9 * p + 4))
def sIdle (S : Nat → Int32) (m : Nat) : Bool := decide (S (90 + 3 * m + 1) = -1)
def sFee0 (S : Nat → Int32) (pr : Int32) (p : Nat) : Int32 := if S (9 * p + 5) = 0 then pr * S (9 * p + 2) else pr * S (9 * p + 2) + pr * S (9 * p + 2) / 2
def sFee (S : Nat → Int32) (pr : Int32) (p : Nat) : Int32 := if sLate S p then sFee0 S pr p - sFee0 S pr p / 4 else sFee0 S pr p
def sAhead (S : Nat → Int32) (p q : Nat) (rf : Int32) : Bool :=
  if ¬ rf = 0 ∧ ¬ S (9 * p + 5) = S (9 * q + 5) then decide (¬ S (9 * p + 5) = 0)
  else if ¬ S (9 * p + 4) = S (9 * q + 4) then decide (¬ S (9 * q + 4) ≤ S (9 * p + 4))
  else decide (¬ S (9 * q + 0) ≤ S (9 * p + 0))
section
variable {mi : Nat → Nat → Nat → Int32} {ml : Nat → Nat → Nat → Int64} {ex h p q : Nat}
theorem c29 (hm : p < 2) : pt_Ca 29 [vR 4 (p + 2 * h)] (pt_MEM mi ml ex) (.inl (some (vI (bI (sIdle (cs mi h) p)))), pt_MEM mi ml ex) := by
  have e1 := cs_m mi h hm (j := 1) (by decide)
  refine r29_0 (fun c => ?_) (fun c => ?_)
  · rw [e1] at c; rw [show sIdle (cs mi h) p = true from by simp only [sIdle, c]; rfl]; exact r29_8
  · rw [e1] at c; rw [show sIdle (cs mi h) p = false from by simp only [sIdle, c]; rfl]; exact r29_12
theorem c32 (hp : p < 10) : pt_Ca 32 [vR 5 (p + 10 * h)] (pt_MEM mi ml ex) (.inl (some (vI (bI (sHere (cs mi h) p)))), pt_MEM mi ml ex) := by
  have e0 := cs_p mi h hp (j := 0) (by decide)
  refine r32_0 (fun c => ?_) (fun c => ?_)
  · rw [e0] at c; rw [show sHere (cs mi h) p = false from by simp only [sHere, c]; rfl]; exact r32_12
  · rw [e0] at c; rw [show sHere (cs mi h) p = true from by simp only [sHere, c]; rfl]; exact r32_8
theorem c33 {st wh : Int32} (hp : p < 10) : pt_Ca 33 [vR 5 (p + 10 * h), vI st, vI wh] (pt_MEM mi ml ex) (.inl (some (vI (bI (sAt (cs mi h) p st wh)))), pt_MEM mi ml ex) := by
  have e0 := cs_p mi h hp (j := 0) (by decide)
  have e6 := cs_p mi h hp (j := 6) (by decide)
  have e7 := cs_p mi h hp (j := 7) (by decide)
  refine r33_0 (fun c => ?_) (fun c => ?_)
  · rw [e0] at c; rw [show sAt (cs mi h) p st wh = false from by simp only [sAt, sHere, c]; rfl]; exact r33_28
  rw [e0] at c
  refine r33_8 (fun c2 => ?_) (fun c2 => ?_)
  · rw [e6] at c2
    refine r33_16 (fun c3 => ?_) (fun c3 => ?_)
    · rw [e7] at c3; rw [show sAt (cs mi h) p st wh = true from by simp only [sAt, sHere, c, c2, c3]; rfl]; exact r33_24
    · rw [e7] at c3; rw [show sAt (cs mi h) p st wh = false from by simp [sAt, sHere, c, c2, c3]]; exact r33_28
  · rw [e6] at c2; rw [show sAt (cs mi h) p st wh = false from by simp [sAt, sHere, c, c2]]; exact r33_28
theorem c34 (hp : p < 10) : pt_Ca 34 [vR 5 (p + 10 * h)] (pt_MEM mi ml ex) (.inl (some (vI (bI (sLate (cs mi h) p)))), pt_MEM mi ml ex) := by
  have e4 := cs_p mi h hp (j := 4) (by decide)
  have e6 := cs_p mi h hp (j := 6) (by decide)
  have e8 := cs_p mi h hp (j := 8) (by decide)
  refine r34_0 (fun c => ?_) (fun c => ?_)
  · rw [e6] at c
    refine r34_8 (fun c2 => ?_) (fun c2 => ?_)
    · rw [e4, e8] at c2; rw [show sLate (cs mi h) p = false from by simp only [sLate, c2, not_true, decide_false, Bool.and_false]]; exact r34_23
    · rw [e4, e8] at c2; rw [show sLate (cs mi h) p = true from by simp only [sLate, c, c2, not_false_iff, decide_true, Bool.and_self]]; exact r34_19
  · rw [e6] at c; rw [show sLate (cs mi h) p = false from by simp only [sLate, c, decide_false, Bool.false_and]]; exact r34_23
theorem c35 {pr : Int32} (hp : p < 10) : pt_Ca 35 [vR 5 (p + 10 * h), vI pr] (pt_MEM mi ml ex) (.inl (some (vI (sFee (cs mi h) pr p))), pt_MEM mi ml ex) := by
  have e5 := cs_p mi h hp (j := 5) (by decide)
  have e2 := cs_p mi h hp (j := 2) (by decide)
  have tail : ∀ u : Int32, u = sFee0 (cs mi h) pr p → pt_Ev 35 none 24 [some (vR 5 (p + 10 * h)), some (vI pr), some (vI u)] [vI (bI (sLate (cs mi h) p))] (pt_MEM mi ml ex) (.inl (some (vI (sFee (cs mi h) pr p))), pt_MEM mi ml ex) := by
    intro u hu
    refine r35_24 (fun c => ?_) (fun c => ?_)
    · rw [bI_eq0] at c; rw [sFee, if_neg (by rw [c]; decide), ← hu]; exact r35_35
    · rw [bI_eq0] at c; rw [sFee, if_pos (by simpa using c), ← hu]; exact r35_27
  refine r35_0 (fun c => ?_) (fun c => ?_)
  · rw [e5] at c; refine r35_20 (c34 hp) (tail _ ?_); rw [sFee0, if_pos c, e2]
  · rw [e5] at c; refine r35_14 (c34 hp) (tail _ ?_); rw [sFee0, if_neg c, e2]
theorem c36 {rf : Int32} (hp : p < 10) (hq : q < 10) (h5 : cs mi h (9 * p + 5) = 0 ∨ cs mi h (9 * p + 5) = 1) : pt_Ca 36 [vR 5 (p + 10 * h), vR 5 (q + 10 * h), vI rf] (pt_MEM mi ml ex) (.inl (some (vI (bI (sAhead (cs mi h) p q rf)))), pt_MEM mi ml ex) := by
  have e0 := cs_p mi h hp (j := 0) (by decide)
  have e4 := cs_p mi h hp (j := 4) (by decide)
  have e5 := cs_p mi h hp (j := 5) (by decide)
  have f0 := cs_p mi h hq (j := 0) (by decide)
  have f4 := cs_p mi h hq (j := 4) (by decide)
  have f5 := cs_p mi h hq (j := 5) (by decide)
  have tail : ¬ (¬ rf = 0 ∧ ¬ cs mi h (9 * p + 5) = cs mi h (9 * q + 5)) → pt_Ev 36 none 20 [some (vR 5 (p + 10 * h)), some (vR 5 (q + 10 * h)), some (vI rf)] [] (pt_MEM mi ml ex) (.inl (some (vI (bI (sAhead (cs mi h) p q rf)))), pt_MEM mi ml ex) := by
    intro z
    rw [sAhead, if_neg z]
    refine r36_20 (fun c => ?_) (fun c => ?_)
    · rw [e4, f4] at c
      rw [if_neg (not_not_intro c)]
      refine r36_48 (fun c => ?_) (fun c => ?_)
      · rw [e0, f0] at c; rw [show decide (¬ cs mi h (9 * q + 0) ≤ cs mi h (9 * p + 0)) = false from by simp only [c, not_true, decide_false]]; exact r36_63
      · rw [e0, f0] at c; rw [show decide (¬ cs mi h (9 * q + 0) ≤ cs mi h (9 * p + 0)) = true from by simp only [c, not_false_iff, decide_true]]; exact r36_59
    · rw [e4, f4] at c
      rw [if_pos c]
      refine r36_31 (fun c => ?_) (fun c => ?_)
      · rw [e4, f4] at c; rw [show decide (¬ cs mi h (9 * q + 4) ≤ cs mi h (9 * p + 4)) = false from by simp only [c, not_true, decide_false]]; exact r36_46
      · rw [e4, f4] at c; rw [show decide (¬ cs mi h (9 * q + 4) ≤ cs mi h (9 * p + 4)) = true from by simp only [c, not_false_iff, decide_true]]; exact r36_42
  refine r36_0 (fun c => tail (fun z => z.1 c)) (fun c => ?_)
  refine r36_4 (fun c2 => ?_) (fun c2 => ?_)
  · rw [e5, f5] at c2; exact tail (fun z => z.2 c2)
  · rw [e5, f5] at c2
    rw [sAhead, if_pos ⟨c, c2⟩]
    have e : bI (decide (¬ cs mi h (9 * p + 5) = 0)) = mi 5 (p + 10 * h) 5 := by
      rw [e5]
      rcases h5 with z | z
      · rw [z]; rfl
      · rw [z]; rfl
    rw [e]
    exact r36_15 (by rw [e5]; exact h5)
end
