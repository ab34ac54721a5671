/-! The class's looks at a house: loops. -/
def sFree (S : Nat → Int32) : Option Nat := fi (fun p => !sHere S p) 10
def sShelf (S : Nat → Int32) (x : Int32) : Option Nat := fi (fun p => sAt S p 2 x) 10
def sFreeShelf (S : Nat → Int32) : Option Nat := fi (fun k => (sShelf S (nI k)).isNone) 8
def sMany (S : Nat → Int32) (st : Int32) : Int32 := fo (fun p a => if sIn S p st then a + 1 else a) 10 0
def sPilesIn (S : Nat → Int32) (m : Int32) : Int32 := fo (fun p a => if sAt S p 1 m then a + 1 else a) 10 0
def sWeightIn (S : Nat → Int32) (m : Int32) : Int32 := fo (fun p a => if sAt S p 1 m then a + S (9 * p + 2) else a) 10 0
def sLess (S : Nat → Int32) (p : Nat) : Option Nat → Bool
  | none => true
  | some q => decide (¬ S (9 * q + 0) ≤ S (9 * p + 0))
def sFirstF (S : Nat → Int32) (m : Int32) (p : Nat) (r : Option Nat) : Option Nat := if (sAt S p 1 m && sLess S p r) = true then some p else r
def sFirstIn (S : Nat → Int32) (m : Int32) : Option Nat := fo (sFirstF S m) 10 none
def sColF (S : Nat → Int32) (m : Int32) : Int32 := match sFirstIn S m with | none => -1 | some p => S (9 * p + 1)
theorem sFirst_lt (S : Nat → Int32) (m : Int32) : ∀ {n q : Nat}, fo (sFirstF S m) n none = some q → q < n ∧ sAt S q 1 m = true
  | 0, q, h => by simp [fo] at h
  | n + 1, q, h => by
    have h2 : sFirstF S m n (fo (sFirstF S m) n none) = some q := h
    by_cases c : (sAt S n 1 m && sLess S n (fo (sFirstF S m) n none)) = true
    · rw [sFirstF, if_pos c] at h2
      simp only [Option.some.injEq] at h2
      subst h2
      rw [Bool.and_eq_true] at c
      exact ⟨Nat.lt_succ_self _, c.1⟩
    · rw [sFirstF, if_neg c] at h2
      have := sFirst_lt S m (n := n) h2
      exact ⟨Nat.lt_succ_of_lt this.1, this.2⟩
theorem oI_eq {r : Option Nat} (h : ∀ q, r = some q → q < 10000) : oI r = -1 ↔ r = none := by
  cases r with
  | none => exact ⟨fun _ => rfl, fun _ => rfl⟩
  | some q =>
    refine ⟨fun z => ?_, fun z => by simp at z⟩
    have hq := h q rfl
    have h1 := nI_pos' (n := q) (by omega)
    have z' : nI q = -1 := z
    rw [z'] at h1
    exact absurd h1 (by decide)
section
variable {mi : Nat → Nat → Nat → Int32} {ml : Nat → Nat → Nat → Int64} {ex h p q : Nat}
theorem c10 (hh : h < 9) : pt_Ca 10 [vR 2 h] (pt_MEM mi ml ex) (.inl (some (vI (oI (sFree (cs mi h))))), pt_MEM mi ml ex) := by
  refine r10_0 (fi_up (E := fun p r => pt_Ev 10 none 2 [some (vR 2 h), some (vI (nI p))] [] (pt_MEM mi ml ex) (.inl (some (vI (oI r))), pt_MEM mi ml ex)) (P := fun p => !sHere (cs mi h) p) (n := 10) ?_ ?_ ?_)
  · intro p hp hP
    refine r10_2 (fun c => absurd c (n10_le hp)) (fun _ => r10_8 (pt_MR_h hh).1 rfl hp (pt_MR_p hh hp) (c32 hp) (r10_17 (fun _ => r10_20) (fun c => ?_)))
    rw [bI_eq0] at c
    rw [Bool.not_eq_true'] at hP
    exact absurd hP c
  · intro p r hp hP k
    refine r10_2 (fun c => absurd c (n10_le hp)) (fun _ => r10_8 (pt_MR_h hh).1 rfl hp (pt_MR_p hh hp) (c32 hp) (r10_17 (fun c => ?_) (fun c => r10_22 (by rw [← nI_succ]; exact k))))
    rw [bI_eq0] at c
    rw [c] at hP
    simp at hP
  · exact r10_2 (fun _ => r10_28) (fun c => absurd n10_le' c)
theorem c12 {x : Int32} (hh : h < 9) : pt_Ca 12 [vR 2 h, vI x] (pt_MEM mi ml ex) (.inl (some (vI (oI (sShelf (cs mi h) x)))), pt_MEM mi ml ex) := by
  refine r12_0 (fi_up (E := fun p r => pt_Ev 12 none 2 [some (vR 2 h), some (vI x), some (vI (nI p))] [] (pt_MEM mi ml ex) (.inl (some (vI (oI r))), pt_MEM mi ml ex)) (P := fun p => sAt (cs mi h) p 2 x) (n := 10) ?_ ?_ ?_)
  · intro p hp hP
    refine r12_2 (fun c => absurd c (n10_le hp)) (fun _ => r12_8 (pt_MR_h hh).1 rfl hp (pt_MR_p hh hp) (c33 hp) (r12_19 (fun c => ?_) (fun _ => r12_22)))
    rw [bI_eq0, hP] at c
    simp at c
  · intro p r hp hP k
    refine r12_2 (fun c => absurd c (n10_le hp)) (fun _ => r12_8 (pt_MR_h hh).1 rfl hp (pt_MR_p hh hp) (c33 hp) (r12_19 (fun c => r12_24 (by rw [← nI_succ]; exact k)) (fun c => ?_)))
    rw [bI_eq0] at c
    exact absurd hP c
  · exact r12_2 (fun _ => r12_30) (fun c => absurd n10_le' c)
theorem sShelf_lt {S : Nat → Int32} {x : Int32} : ∀ q, sShelf S x = some q → q < 10000 := fun q hq => by have := (fi_lt hq).1; omega
theorem c13 (hh : h < 9) : pt_Ca 13 [vR 2 h] (pt_MEM mi ml ex) (.inl (some (vI (oI (sFreeShelf (cs mi h))))), pt_MEM mi ml ex) := by
  refine r13_0 (fi_up (E := fun p r => pt_Ev 13 none 2 [some (vR 2 h), some (vI (nI p))] [] (pt_MEM mi ml ex) (.inl (some (vI (oI r))), pt_MEM mi ml ex)) (P := fun k => (sShelf (cs mi h) (nI k)).isNone) (n := 8) ?_ ?_ ?_)
  · intro p hp hP
    refine r13_2 (fun c => absurd c (n8_le hp)) (fun _ => r13_8 (c12 hh) (r13_13 (fun _ => r13_17) (fun c => ?_)))
    exact absurd ((oI_eq sShelf_lt).mpr (Option.isNone_iff_eq_none.mp hP)) c
  · intro p r hp hP k
    refine r13_2 (fun c => absurd c (n8_le hp)) (fun _ => r13_8 (c12 hh) (r13_13 (fun c => ?_) (fun c => r13_19 (by rw [← nI_succ]; exact k))))
    rw [(oI_eq sShelf_lt).mp c] at hP
    simp at hP
  · exact r13_2 (fun _ => r13_25) (fun c => absurd n8_le' c)
theorem c14 {x : Int32} (hh : h < 9) : pt_Ca 14 [vR 2 h, vI x] (pt_MEM mi ml ex) (.inl (some (vI (sMany (cs mi h) x))), pt_MEM mi ml ex) := by
  refine r14_0 (fo_up (E := fun p a => pt_Ev 14 none 4 [some (vR 2 h), some (vI x), some (vI a), some (vI (nI p))] [] (pt_MEM mi ml ex) (.inl (some (vI (sMany (cs mi h) x))), pt_MEM mi ml ex)) (f := fun p a => if sIn (cs mi h) p x then a + 1 else a) (n := 10) (a := 0) ?_ ?_)
  · intro p a hp k
    rw [nI_succ] at k
    have e6 := cs_p mi h hp (j := 6) (by decide)
    refine r14_4 (fun c => absurd c (n10_le hp)) (fun _ => r14_10 (pt_MR_h hh).1 rfl hp (pt_MR_p hh hp) (c32 hp) (r14_19 (fun c => ?_) (fun c => ?_)))
    · rw [bI_eq0] at c
      rw [if_neg (by simp only [sIn, c, Bool.false_and]; decide)] at k
      exact r14_38 k
    · rw [bI_eq0, Bool.not_eq_false] at c
      refine r14_22 (pt_MR_h hh).1 rfl hp (pt_MR_p hh hp) (fun d => ?_) (fun d => ?_)
      · rw [e6] at d
        rw [if_pos (by simp only [sIn, c, d]; decide)] at k
        exact r14_35 k
      · rw [e6] at d
        rw [if_neg (by simp only [sIn, c, d]; decide)] at k
        exact r14_38 k
  · exact r14_4 (fun _ => r14_44) (fun c => absurd n10_le' c)
theorem c15 {x : Int32} (hh : h < 9) : pt_Ca 15 [vR 2 h, vI x] (pt_MEM mi ml ex) (.inl (some (vI (sPilesIn (cs mi h) x))), pt_MEM mi ml ex) := by
  refine r15_0 (fo_up (E := fun p a => pt_Ev 15 none 4 [some (vR 2 h), some (vI x), some (vI a), some (vI (nI p))] [] (pt_MEM mi ml ex) (.inl (some (vI (sPilesIn (cs mi h) x))), pt_MEM mi ml ex)) (f := fun p a => if sAt (cs mi h) p 1 x then a + 1 else a) (n := 10) (a := 0) ?_ ?_)
  · intro p a hp k
    rw [nI_succ] at k
    refine r15_4 (fun c => absurd c (n10_le hp)) (fun _ => r15_10 (pt_MR_h hh).1 rfl hp (pt_MR_p hh hp) (c33 hp) (r15_21 (fun c => ?_) (fun c => ?_)))
    · rw [bI_eq0] at c
      rw [if_neg (by rw [c]; decide)] at k
      exact r15_27 k
    · rw [bI_eq0, Bool.not_eq_false] at c
      rw [if_pos c] at k
      exact r15_24 k
  · exact r15_4 (fun _ => r15_33) (fun c => absurd n10_le' c)
theorem c16 {x : Int32} (hh : h < 9) : pt_Ca 16 [vR 2 h, vI x] (pt_MEM mi ml ex) (.inl (some (vI (sWeightIn (cs mi h) x))), pt_MEM mi ml ex) := by
  refine r16_0 (fo_up (E := fun p a => pt_Ev 16 none 4 [some (vR 2 h), some (vI x), some (vI a), some (vI (nI p))] [] (pt_MEM mi ml ex) (.inl (some (vI (sWeightIn (cs mi h) x))), pt_MEM mi ml ex)) (f := fun p a => if sAt (cs mi h) p 1 x then a + cs mi h (9 * p + 2) else a) (n := 10) (a := 0) ?_ ?_)
  · intro p a hp k
    rw [nI_succ] at k
    have e2 := cs_p mi h hp (j := 2) (by decide)
    refine r16_4 (fun c => absurd c (n10_le hp)) (fun _ => r16_10 (pt_MR_h hh).1 rfl hp (pt_MR_p hh hp) (c33 hp) (r16_21 (fun c => ?_) (fun c => ?_)))
    · rw [bI_eq0] at c
      rw [if_neg (by rw [c]; decide)] at k
      exact r16_36 k
    · rw [bI_eq0, Bool.not_eq_false] at c
      rw [if_pos c, ← e2] at k
      exact r16_24 (pt_MR_h hh).1 rfl hp (pt_MR_p hh hp) k
  · exact r16_4 (fun _ => r16_42) (fun c => absurd n10_le' c)
theorem sFirst_q {S : Nat → Int32} {m : Int32} {n : Nat} (hn : n ≤ 10) : ∀ q, fo (sFirstF S m) n none = some q → q < 10000 := fun q hq => by have := (sFirst_lt S m hq).1; omega
theorem c18 {x : Int32} (hh : h < 9) : pt_Ca 18 [vR 2 h, vI x] (pt_MEM mi ml ex) (.inl (some (vI (oI (sFirstIn (cs mi h) x)))), pt_MEM mi ml ex) := by
  refine r18_0 (fo_upI (E := fun p r => pt_Ev 18 none 4 [some (vR 2 h), some (vI x), some (vI (oI r)), some (vI (nI p))] [] (pt_MEM mi ml ex) (.inl (some (vI (oI (sFirstIn (cs mi h) x)))), pt_MEM mi ml ex)) (f := sFirstF (cs mi h) x) (n := 10) (a := none) ?_ ?_)
  · intro p hp k
    rw [nI_succ] at k
    have hl := sFirst_q (S := cs mi h) (m := x) (n := p) (by omega)
    have hl2 : ∀ q, fo (sFirstF (cs mi h) x) p none = some q → q < 10 := fun q hq => by have := (sFirst_lt _ _ hq).1; omega
    replace k : pt_Ev 18 none 4 [some (vR 2 h), some (vI x), some (vI (oI (sFirstF (cs mi h) x p (fo (sFirstF (cs mi h) x) p none)))), some (vI (nI p + 1))] [] (pt_MEM mi ml ex) (.inl (some (vI (oI (sFirstIn (cs mi h) x)))), pt_MEM mi ml ex) := k
    revert hl hl2 k
    generalize fo (sFirstF (cs mi h) x) p none = r
    intro hl hl2 k
    refine r18_4 (fun c => absurd c (n10_le hp)) (fun _ => r18_10 (pt_MR_h hh).1 rfl hp (pt_MR_p hh hp) (c33 hp) (r18_21 (fun c => ?_) (fun c => ?_)))
    · rw [bI_eq0] at c
      rw [sFirstF, if_neg (by rw [c, Bool.false_and]; decide)] at k
      exact r18_52 k
    · rw [bI_eq0, Bool.not_eq_false] at c
      refine r18_24 (fun d => ?_) (fun d => ?_)
      · rw [(oI_eq hl).mp d] at k ⊢
        rw [sFirstF, if_pos (by rw [c]; rfl)] at k
        exact r18_50 k
      · rw [oI_eq hl] at d
        cases r with
        | none => exact absurd rfl d
        | some q =>
          have hq := hl2 q rfl
          have e0 := cs_p mi h hp (j := 0) (by decide)
          have f0 := cs_p mi h hq (j := 0) (by decide)
          refine r18_29 (pt_MR_h hh).1 rfl hp (pt_MR_p hh hp) (pt_MR_h hh).1 rfl hq (pt_MR_p hh hq) (fun z => ?_) (fun z => ?_)
          · rw [e0, f0] at z
            rw [sFirstF, if_neg (by simp only [c, sLess, z]; decide)] at k
            exact r18_52 k
          · rw [e0, f0] at z
            rw [sFirstF, if_pos (by simp only [c, sLess, z]; decide)] at k
            exact r18_50 k
  · exact r18_4 (fun _ => r18_58) (fun c => absurd n10_le' c)
theorem c17 {x : Int32} (hh : h < 9) : pt_Ca 17 [vR 2 h, vI x] (pt_MEM mi ml ex) (.inl (some (vI (sColF (cs mi h) x))), pt_MEM mi ml ex) := by
  refine r17_0 (c18 hh) ?_
  have hl : ∀ q, sFirstIn (cs mi h) x = some q → q < 10000 := sFirst_q (Nat.le_refl _)
  rw [sColF]
  cases hr : sFirstIn (cs mi h) x with
  | none => exact r17_5 (fun _ => r17_11) (fun c => absurd rfl c)
  | some q =>
    have hq : q < 10 := (sFirst_lt _ _ hr).1
    refine r17_5 (fun c => ?_) (fun _ => ?_)
    · have := (oI_eq (r := some q) (fun q' hq' => hl q' (hr.trans hq'))).mp c
      simp at this
    · show pt_Ev 17 none 15 _ _ _ (.inl (some (vI (cs mi h (9 * q + 1)))), _)
      rw [← cs_p mi h hq (by decide)]
      exact r17_15 (pt_MR_h hh).1 rfl hq (pt_MR_p hh hq)
end
