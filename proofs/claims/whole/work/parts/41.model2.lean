/-! The model's looks: order, shelves, first in a machine, lateness, fee. -/
def sPr (S : Nat → Int32) : Int32 := S 104
def mFee0 (S : Nat → Int32) (p : Nat) : Int32 := if S (9 * p + 5) = 1 then S 104 * S (9 * p + 2) + S 104 * S (9 * p + 2) / 2 else S 104 * S (9 * p + 2)
def mFee (S : Nat → Int32) (p : Nat) : Int32 := if sLate S p = true then mFee0 S p - mFee0 S p / 4 else mFee0 S p
section
variable {mi : Nat → Nat → Nat → Int32} {ml : Nat → Nat → Nat → Int64} {ex p q : Nat}
theorem m97 (hp : p < 10) (hq : q < 10) : pt_Ca 97 [vR 9 0, vI (nI p), vI (nI q)] (pt_MEM mi ml ex) (.inl (some (vI (bI (mAhead (ms mi) p q)))), pt_MEM mi ml ex) := by
  have e105 := ms_e mi (k := 105) (by omega)
  have p0 := ms_e mi (k := 9 * p + 0) (by omega)
  have p4 := ms_e mi (k := 9 * p + 4) (by omega)
  have p5 := ms_e mi (k := 9 * p + 5) (by omega)
  have q0 := ms_e mi (k := 9 * q + 0) (by omega)
  have q4 := ms_e mi (k := 9 * q + 4) (by omega)
  have q5 := ms_e mi (k := 9 * q + 5) (by omega)
  have fin : ∀ (v : Int32) (b : Bool), b = decide (¬ 0 ≤ v) → ((0 : Int32) ≤ v → pt_Ev 97 none 105 [some (vR 9 0), some (vI (nI p)), some (vI (nI q)), some (vI v)] [] (pt_MEM mi ml ex) (.inl (some (vI (bI b))), pt_MEM mi ml ex)) ∧ (¬ (0 : Int32) ≤ v → pt_Ev 97 none 101 [some (vR 9 0), some (vI (nI p)), some (vI (nI q)), some (vI v)] [] (pt_MEM mi ml ex) (.inl (some (vI (bI b))), pt_MEM mi ml ex)) := by
    intro v b hb
    refine ⟨fun c => ?_, fun c => ?_⟩
    · rw [hb, show decide (¬ 0 ≤ v) = false from by simp only [c, not_true, decide_false]]; exact r97_105
    · rw [hb, show decide (¬ 0 ≤ v) = true from by simp only [c, not_false_iff, decide_true]]; exact r97_101
  -- from the second difference on
  have t2 : ∀ (v : Int32), mBy (ms mi) p q = (if v = 0 then ms mi (9 * p + 0) - ms mi (9 * q + 0) else v) → (v = 0 → pt_Ev 97 none 71 [some (vR 9 0), some (vI (nI p)), some (vI (nI q)), some (vI v)] [] (pt_MEM mi ml ex) (.inl (some (vI (bI (mAhead (ms mi) p q)))), pt_MEM mi ml ex)) ∧ (¬ v = 0 → pt_Ev 97 none 95 [some (vR 9 0), some (vI (nI p)), some (vI (nI q)), some (vI v)] [] (pt_MEM mi ml ex) (.inl (some (vI (bI (mAhead (ms mi) p q)))), pt_MEM mi ml ex)) := by
    intro v hv
    refine ⟨fun c => ?_, fun c => ?_⟩
    · rw [if_pos c] at hv
      have f := fin (ms mi (9 * p + 0) - ms mi (9 * q + 0)) (mAhead (ms mi) p q) (by rw [mAhead, hv])
      refine r97_71 (m90 (j := 0) hp (by decide) (by decide)) (r97_80 rfl (by omega) (m90 (j := 0) hq (by decide) (by decide)) (r97_90 rfl (by omega) ?_ ?_))
      · rw [p0, q0]; exact f.1
      · rw [p0, q0]; exact f.2
    · rw [if_neg c] at hv
      have f := fin v (mAhead (ms mi) p q) (by rw [mAhead, hv])
      exact r97_95 f.1 f.2
  -- from the first difference on
  have t1 : ∀ (v : Int32), v = (if ms mi 105 = 1 then ms mi (9 * q + 5) - ms mi (9 * p + 5) else 0) → (v = 0 → pt_Ev 97 none 41 [some (vR 9 0), some (vI (nI p)), some (vI (nI q)), some (vI v)] [] (pt_MEM mi ml ex) (.inl (some (vI (bI (mAhead (ms mi) p q)))), pt_MEM mi ml ex)) ∧ (¬ v = 0 → pt_Ev 97 none 65 [some (vR 9 0), some (vI (nI p)), some (vI (nI q)), some (vI v)] [] (pt_MEM mi ml ex) (.inl (some (vI (bI (mAhead (ms mi) p q)))), pt_MEM mi ml ex)) := by
    intro v hv
    have hb : mBy (ms mi) p q = (if (if v = 0 then ms mi (9 * p + 4) - ms mi (9 * q + 4) else v) = 0 then ms mi (9 * p + 0) - ms mi (9 * q + 0) else (if v = 0 then ms mi (9 * p + 4) - ms mi (9 * q + 4) else v)) := by
      rw [hv]; rfl
    refine ⟨fun c => ?_, fun c => ?_⟩
    · rw [if_pos c] at hb
      have f := t2 _ hb
      refine r97_41 (m90 (j := 4) hp (by decide) (by decide)) (r97_50 rfl (by omega) (m90 (j := 4) hq (by decide) (by decide)) (r97_60 rfl (by omega) ?_ ?_))
      · rw [p4, q4]; exact f.1
      · rw [p4, q4]; exact f.2
    · rw [if_neg c] at hb
      have f := t2 _ hb
      exact r97_65 f.1 f.2
  refine r97_0 (fun c => ?_) (fun c => ?_)
  · rw [e105] at c
    have f := t1 (ms mi (9 * q + 5) - ms mi (9 * p + 5)) (by rw [if_pos c])
    refine r97_11 (m90 (j := 5) hq (by decide) (by decide)) (r97_20 rfl (by omega) (m90 (j := 5) hp (by decide) (by decide)) (r97_30 rfl (by omega) ?_ ?_))
    · rw [p5, q5]; exact f.1
    · rw [p5, q5]; exact f.2
  · rw [e105] at c
    have f := t1 0 (by rw [if_neg c])
    exact r97_35 f.1 f.2
theorem m98 (hp : p < 10) : pt_Ca 98 [vR 9 0, vI (nI p)] (pt_MEM mi ml ex) (.inl (some (vI (mRank (ms mi) p))), pt_MEM mi ml ex) := by
  refine r98_0 (fo_up (E := fun q a => pt_Ev 98 none 4 [some (vR 9 0), some (vI (nI p)), some (vI a), some (vI (nI q))] [] (pt_MEM mi ml ex) (.inl (some (vI (mRank (ms mi) p))), pt_MEM mi ml ex)) (f := fun q a => if (sIn (ms mi) q 0 && mAhead (ms mi) q p) = true then a + 1 else a) (n := 10) (a := 0) ?_ ?_)
  · intro q a hq k
    rw [nI_succ] at k
    refine r98_4 (fun c => absurd c (n10_le hq)) (fun _ => r98_10 (m94 hq) (r98_16 (fun c => ?_) (fun c => ?_)))
    · rw [bI_eq0] at c
      rw [if_neg (by rw [c, Bool.false_and]; decide)] at k
      exact r98_32 (by rw [Int32.add_zero]; exact k)
    · rw [bI_eq0, Bool.not_eq_false] at c
      refine r98_19 (m97 hq hp) (r98_25 (fun d => ?_) (fun d => ?_))
      · rw [bI_eq0] at d
        rw [if_neg (by rw [d, Bool.and_false]; decide)] at k
        exact r98_32 (by rw [Int32.add_zero]; exact k)
      · rw [bI_eq0, Bool.not_eq_false] at d
        rw [if_pos (by rw [c, d]; rfl)] at k
        exact r98_28 k
  · exact r98_4 (fun _ => r98_41) (fun c => absurd n10_le' c)
theorem m99 {x : Int32} : pt_Ca 99 [vR 9 0, vI x] (pt_MEM mi ml ex) (.inl (some (vI (oI (mRanked (ms mi) x)))), pt_MEM mi ml ex) := by
  refine r99_0 (fo_up (E := fun p a => pt_Ev 99 none 4 [some (vR 9 0), some (vI x), some (vI (oI a)), some (vI (nI p))] [] (pt_MEM mi ml ex) (.inl (some (vI (oI (mRanked (ms mi) x)))), pt_MEM mi ml ex)) (f := sel (fun p => sIn (ms mi) p 0 && decide (mRank (ms mi) p = x))) (n := 10) (a := none) ?_ ?_)
  · intro p a hp k
    rw [nI_succ] at k
    refine r99_4 (fun c => absurd c (n10_le hp)) (fun _ => r99_10 (m94 hp) (r99_15 (fun c => ?_) (fun c => ?_)))
    · rw [bI_eq0] at c
      rw [sel, if_neg (by rw [c, Bool.false_and]; decide)] at k
      exact r99_31 k
    · rw [bI_eq0, Bool.not_eq_false] at c
      refine r99_18 (m98 hp) (r99_23 (fun d => ?_) (fun d => ?_))
      · rw [sel, if_pos (by simp only [c, d]; rfl)] at k
        exact r99_27 k
      · rw [sel, if_neg (by simp only [c, d, decide_false, Bool.and_false]; decide)] at k
        exact r99_31 k
  · exact r99_4 (fun _ => r99_39) (fun c => absurd n10_le' c)
theorem m107 {x : Int32} : pt_Ca 107 [vR 9 0, vI x] (pt_MEM mi ml ex) (.inl (some (vI (oI (mShelf (ms mi) x)))), pt_MEM mi ml ex) := by
  refine r107_0 (fo_up (E := fun p a => pt_Ev 107 none 4 [some (vR 9 0), some (vI x), some (vI (oI a)), some (vI (nI p))] [] (pt_MEM mi ml ex) (.inl (some (vI (oI (mShelf (ms mi) x)))), pt_MEM mi ml ex)) (f := sel (fun p => sAt (ms mi) p 2 x)) (n := 10) (a := none) ?_ ?_)
  · intro p a hp k
    rw [nI_succ] at k
    refine r107_4 (fun c => absurd c (n10_le hp)) (fun _ => r107_10 (m100 hp) (r107_17 (fun c => ?_) (fun c => ?_)))
    · rw [bI_eq0] at c
      rw [sel, if_neg (by rw [c]; decide)] at k
      exact r107_24 k
    · rw [bI_eq0, Bool.not_eq_false] at c
      rw [sel, if_pos c] at k
      exact r107_20 k
  · exact r107_4 (fun _ => r107_32) (fun c => absurd n10_le' c)
theorem mShelf_lt {S : Nat → Int32} {x : Int32} : ∀ q, mShelf S x = some q → q < 10000 := fun q hq => by have := (fo_sel_lt hq).1; omega
theorem m108 : pt_Ca 108 [vR 9 0] (pt_MEM mi ml ex) (.inl (some (vI (oI (mFreeShelf (ms mi))))), pt_MEM mi ml ex) := by
  have hfin : fd (sel (fun k => (mShelf (ms mi) (nI k)).isNone)) 8 none = mFreeShelf (ms mi) := by
    rw [fd_sel, mFreeShelf]
    cases fi (fun k => (mShelf (ms mi) (nI k)).isNone) 8 <;> rfl
  have h8 : (7 : Int32) = nI 8 + (-1) := by decide +kernel
  refine r108_0 ?_
  rw [h8]
  refine fd_dn (E := fun p a => pt_Ev 108 none 5 [some (vR 9 0), some (vI (oI a)), some (vI (nI p + (-1)))] [] (pt_MEM mi ml ex) (.inl (some (vI (oI (mFreeShelf (ms mi))))), pt_MEM mi ml ex)) (f := sel (fun k => (mShelf (ms mi) (nI k)).isNone)) (n := 8) (a := none) ?_ ?_
  · intro p a hp k
    show pt_Ev 108 none 5 [some (vR 9 0), some (vI (oI a)), some (vI (nI (p + 1) + (-1)))] [] _ _
    rw [pk_m1]
    refine r108_5 (fun c => absurd c (nI_pos (by omega))) (fun _ => r108_9 m107 (r108_14 (fun c => ?_) (fun c => ?_)))
    · rw [oI_eq mShelf_lt] at c
      rw [sel, if_pos (by rw [c]; rfl)] at k
      exact r108_18 k
    · rw [oI_eq mShelf_lt] at c
      rw [sel, if_neg (by rw [Option.isNone_iff_eq_none]; exact c)] at k
      exact r108_22 k
  · rw [hfin]
    exact r108_5 (fun _ => r108_30) (fun c => absurd (show nI 0 + (-1) < 0 by decide +kernel) c)
theorem m109 {x : Int32} : pt_Ca 109 [vR 9 0, vI x] (pt_MEM mi ml ex) (.inl (some (vI (oI (sFirstIn (ms mi) x)))), pt_MEM mi ml ex) := by
  have key : ∀ u, pt_Ev 109 none 4 [some (vR 9 0), some (vI x), some (vI (oI none)), some (vI (nI 0)), u] [] (pt_MEM mi ml ex) (.inl (some (vI (oI (sFirstIn (ms mi) x)))), pt_MEM mi ml ex) := by
    refine fo_upI (E := fun p r => ∀ u, pt_Ev 109 none 4 [some (vR 9 0), some (vI x), some (vI (oI r)), some (vI (nI p)), u] [] (pt_MEM mi ml ex) (.inl (some (vI (oI (sFirstIn (ms mi) x)))), pt_MEM mi ml ex)) (f := sFirstF (ms mi) x) (n := 10) (a := none) ?_ ?_
    · intro p hp k u
      have hl := sFirst_q (S := ms mi) (m := x) (n := p) (by omega)
      have hl2 : ∀ q, fo (sFirstF (ms mi) x) p none = some q → q < 10 := fun q hq => by have := (sFirst_lt _ _ hq).1; omega
      replace k : ∀ u, pt_Ev 109 none 4 [some (vR 9 0), some (vI x), some (vI (oI (sFirstF (ms mi) x p (fo (sFirstF (ms mi) x) p none)))), some (vI (nI p + 1)), u] [] (pt_MEM mi ml ex) (.inl (some (vI (oI (sFirstIn (ms mi) x)))), pt_MEM mi ml ex) := by
        intro u
        rw [← nI_succ]
        exact k u
      revert hl hl2 k
      generalize fo (sFirstF (ms mi) x) p none = r
      intro hl hl2 k
      refine r109_4 (fun c => absurd c (n10_le hp)) (fun _ => r109_10 (m100 hp) (r109_17 (fun c => ?_) (fun c => ?_)))
      · rw [bI_eq0] at c
        rw [sFirstF, if_neg (by rw [c, Bool.false_and]; decide)] at k
        exact r109_52 (fun _ => r109_64 (k _)) (fun z => absurd rfl z)
      · rw [bI_eq0, Bool.not_eq_false] at c
        refine r109_20 (fun d => ?_) (fun d => ?_)
        · rw [(oI_eq hl).mp d] at k ⊢
          rw [sFirstF, if_pos (by rw [c]; rfl)] at k
          exact r109_48 (fun z => absurd z (by decide)) (fun _ => r109_60 (k _))
        · rw [oI_eq hl] at d
          cases r with
          | none => exact absurd rfl d
          | some q =>
            have hq := hl2 q rfl
            have e0 := ms_e mi (k := 9 * p + 0) (by omega)
            have f0 := ms_e mi (k := 9 * q + 0) (by omega)
            refine r109_25 (m90 (j := 0) hp (by decide) (by decide)) (r109_34 rfl (by omega) (m90 (j := 0) hq (by decide) (by decide)) (r109_44 rfl (by omega) (fun z => ?_) (fun z => ?_)))
            · rw [e0, f0] at z
              rw [sFirstF, if_neg (by simp only [c, sLess, z]; decide)] at k
              exact r109_52 (fun _ => r109_64 (k _)) (fun z => absurd rfl z)
            · rw [e0, f0] at z
              rw [sFirstF, if_pos (by simp only [c, sLess, z]; decide)] at k
              exact r109_48 (fun z => absurd z (by decide)) (fun _ => r109_60 (k _))
    · intro u
      exact r109_4 (fun _ => r109_72) (fun c => absurd n10_le' c)
  exact r109_0 (key _)
theorem m110 (hp : p < 10) : pt_Ca 110 [vR 9 0, vI (nI p)] (pt_MEM mi ml ex) (.inl (some (vI (bI (sLate (ms mi) p)))), pt_MEM mi ml ex) := by
  have e4 := ms_e mi (k := 9 * p + 4) (by omega)
  have e6 := ms_e mi (k := 9 * p + 6) (by omega)
  have e8 := ms_e mi (k := 9 * p + 8) (by omega)
  refine r110_0 (m90 (j := 6) hp (by decide) (by decide)) (r110_10 rfl (by omega) (fun c => ?_) (fun c => ?_))
  · rw [e6] at c
    refine r110_15 (m90 (j := 8) hp (by decide) (by decide)) (r110_25 rfl (by omega) (m90 (j := 4) hp (by decide) (by decide)) (r110_35 rfl (by omega) (fun d => ?_) (fun d => ?_)))
    · rw [e4, e8] at d; rw [show sLate (ms mi) p = false from by simp only [sLate, d, not_true, decide_false, Bool.and_false]]; exact r110_43
    · rw [e4, e8] at d; rw [show sLate (ms mi) p = true from by simp only [sLate, c, d, not_false_iff, decide_true, Bool.and_self]]; exact r110_39
  · rw [e6] at c; rw [show sLate (ms mi) p = false from by simp only [sLate, c, decide_false, Bool.false_and]]; exact r110_43
theorem m112 (hp : p < 10) : pt_Ca 112 [vR 9 0, vI (nI p)] (pt_MEM mi ml ex) (.inl (some (vI (mFee (ms mi) p))), pt_MEM mi ml ex) := by
  have e104 := ms_e mi (k := 104) (by omega)
  have e2 := ms_e mi (k := 9 * p + 2) (by omega)
  have e5 := ms_e mi (k := 9 * p + 5) (by omega)
  have tail : ∀ u : Int32, u = mFee0 (ms mi) p → pt_Ev 112 none 48 [some (vR 9 0), some (vI (nI p)), some (vI u)] [vI (bI (sLate (ms mi) p))] (pt_MEM mi ml ex) (.inl (some (vI (mFee (ms mi) p))), pt_MEM mi ml ex) := by
    intro u hu
    refine r112_48 (fun c => ?_) (fun c => ?_)
    · rw [bI_eq0] at c; rw [mFee, if_neg (by rw [c]; decide), ← hu]; exact r112_59
    · rw [bI_eq0] at c; rw [mFee, if_pos (by simpa using c), ← hu]; exact r112_51
  refine r112_0 (m90 (j := 2) hp (by decide) (by decide)) (r112_16 rfl (by omega) (m90 (j := 5) hp (by decide) (by decide)) (r112_29 rfl (by omega) (fun c => ?_) (fun c => ?_)))
  · rw [e5] at c
    refine r112_34 (m110 hp) (tail _ ?_)
    rw [mFee0, if_pos c, e104, e2]
  · rw [e5] at c
    refine r112_40 (m110 hp) (tail _ ?_)
    rw [mFee0, if_neg c, e104, e2, Int32.add_zero]
end
