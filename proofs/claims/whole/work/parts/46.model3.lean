/-! The model's wouldLoad. -/
def mWL (S : Nat → Int32) (L : Nat → Nat) (n : Nat) (room : Int32) : Int32 := if oI (wlFirst S room) = -1 then 0 else (fo (wlG S L (oI (wlFirst S room))) n (0, -1, room)).1
section
variable {mi : Nat → Nat → Nat → Int32} {ml : Nat → Nat → Nat → Int64} {ex p : Nat}
theorem mRanked_lt {S : Nat → Int32} {x : Int32} : ∀ q, mRanked S x = some q → q < 10 := fun q hq => (fo_sel_lt hq).1
theorem m105 {L : Nat → Nat} {n : Nat} (hp : p < 2) (g : GO (ms mi)) (h : LN (fun a b => sAhead (ms mi) a b (ms mi 105)) (sW (ms mi)) 10 L n) : pt_Ca 105 [vR 9 0, vI (nI p)] (pt_MEM mi ml ex) (.inl (some (vI (mWL (ms mi) L n (ms mi (90 + 3 * p + 0))))), pt_MEM mi ml ex) := by
  have e0 := ms_e mi (k := 90 + 3 * p + 0) (by omega)
  have hn := h.1
  have hR : ∀ r, r < 2 ^ 31 → mRanked (ms mi) (nI r) = if r < n then some (L r) else none := fun r hr => mRanked_LN g h hr
  have hq1 : ∀ x q, mRanked (ms mi) x = some q → q < 10000 := fun x q hq => by have := mRanked_lt q hq; omega
  generalize hroom : ms mi (90 + 3 * p + 0) = room
  rw [hroom] at e0
  have hlt : ∀ q, wlFirst (ms mi) room = some q → q < 10000 := fun q hq => by have := (fi_lt hq).1; omega
  -- the second loop
  have loop2 : ∀ f, oI (wlFirst (ms mi) room) = f → ¬ f = -1 → ∀ u7 u8, pt_Ev 105 none 75 [some (vR 9 0), some (vI (nI p)), some (vI 0), some (vI room), some (vI (-1)), some (vI f), some (vI (nI 0)), u7, u8] [] (pt_MEM mi ml ex) (.inl (some (vI (mWL (ms mi) L n room))), pt_MEM mi ml ex) := by
    intro f hf hf1
    have hres : mWL (ms mi) L n room = (fo (wlG (ms mi) L f) n (0, -1, room)).1 := by rw [mWL, hf, if_neg hf1]
    refine fo_up (E := fun r (a : WL) => ∀ u7 u8, pt_Ev 105 none 75 [some (vR 9 0), some (vI (nI p)), some (vI a.1), some (vI a.2.2), some (vI a.2.1), some (vI f), some (vI (nI r)), u7, u8] [] (pt_MEM mi ml ex) (.inl (some (vI (mWL (ms mi) L n room))), pt_MEM mi ml ex)) (f := wlG (ms mi) L f) (n := n) (a := (0, -1, room)) ?_ ?_
    · intro r a hrn k u7 u8
      rw [nI_succ] at k
      have hLr := (h.2.1 r hrn).1
      have e1 := ms_e mi (k := 9 * L r + 1) (by omega)
      have e2 := ms_e mi (k := 9 * L r + 2) (by omega)
      have hr1 : mRanked (ms mi) (nI r) = some (L r) := by rw [hR r (by omega), if_pos hrn]
      have call := m99 (mi := mi) (ml := ml) (ex := ex) (x := nI r)
      rw [hr1] at call
      have not : (wlG (ms mi) L f r a = a) → ∀ u8, pt_Ev 105 none 147 [some (vR 9 0), some (vI (nI p)), some (vI a.1), some (vI a.2.2), some (vI a.2.1), some (vI f), some (vI (nI r)), some (vI (nI (L r))), u8] [] (pt_MEM mi ml ex) (.inl (some (vI (mWL (ms mi) L n room))), pt_MEM mi ml ex) := by
        intro hw u8
        rw [hw] at k
        refine r105_147 (fun _ => r105_169 (fun _ => r105_193 (fun _ => r105_209 ?_) (fun c => absurd rfl c)) (fun c => absurd rfl c)) (fun c => absurd rfl c)
        rw [Int32.or_zero, Int32.sub_zero]
        exact k _ _
      have yes : (¬ a.2.2 < ms mi (9 * L r + 2) ∧ ¬ nI r < f ∧ (a.2.1 = -1 ∨ ms mi (9 * L r + 1) = a.2.1)) → ∀ u8, pt_Ev 105 none 143 [some (vR 9 0), some (vI (nI p)), some (vI a.1), some (vI a.2.2), some (vI a.2.1), some (vI f), some (vI (nI r)), some (vI (nI (L r))), u8] [] (pt_MEM mi ml ex) (.inl (some (vI (mWL (ms mi) L n room))), pt_MEM mi ml ex) := by
        intro hw u8
        rw [wlG, if_pos hw] at k
        refine r105_143 (fun c => absurd c (by decide)) (fun _ => r105_155 (m90 (j := 1) hLr (by decide) (by decide)) (r105_165 rfl (by omega) (fun c => absurd c (by decide)) (fun _ => r105_179 (m90 (j := 2) hLr (by decide) (by decide)) (r105_189 rfl (by omega) (fun c => absurd c (by decide)) (fun _ => r105_202 ?_)))))
        rw [e1, e2]
        exact k _ _
      have hne : ¬ oI (some (L r)) = -1 := fun z => by
        have := (oI_eq (r := some (L r)) (fun q hq => by simp only [Option.some.injEq] at hq; omega)).mp z
        simp at this
      refine r105_75 (fun c => absurd c hf1) (fun _ => r105_81 call (r105_87 (fun c => absurd c hne) (fun _ => r105_91 call (r105_97 (m90 (j := 2) hLr (by decide) (by decide)) (r105_109 rfl (by omega) (fun c => ?_) (fun c => r105_114 (fun d => ?_) (fun d => r105_121 (fun z => ?_) (fun z => r105_127 (m90 (j := 1) hLr (by decide) (by decide)) (r105_137 rfl (by omega) (fun y => ?_) (fun y => ?_))))))))))
      · rw [e2] at c
        exact not (by rw [wlG, if_neg (fun w => w.1 c)]) _
      · exact not (by rw [wlG, if_neg (fun w => w.2.1 d)]) _
      · rw [e2] at c
        exact yes ⟨c, d, Or.inl z⟩ _
      · rw [e2] at c
        rw [e1] at y
        exact yes ⟨c, d, Or.inr y⟩ _
      · rw [e1] at y
        exact not (by rw [wlG, if_neg (fun w => w.2.2.elim z y)]) _
    · intro u7 u8
      have call := m99 (mi := mi) (ml := ml) (ex := ex) (x := nI n)
      rw [hR n (by omega), if_neg (Nat.lt_irrefl n)] at call
      rw [hres]
      exact r105_75 (fun c => absurd c hf1) (fun _ => r105_81 call (r105_87 (fun _ => r105_218) (fun c => absurd rfl c)))
  -- the first loop
  have h9 : (9 : Int32) = nI 10 + (-1) := by decide +kernel
  have hfin : fd (sel (fun r => match mRanked (ms mi) (nI r) with | none => false | some p => decide (¬ room < ms mi (9 * p + 2)))) 10 none = wlFirst (ms mi) room := by
    rw [fd_sel]
    show (match wlFirst (ms mi) room with | some p => some p | none => none) = _
    cases wlFirst (ms mi) room <;> rfl
  have loop1 : ∀ u7 u8, pt_Ev 105 none 23 [some (vR 9 0), some (vI (nI p)), some (vI 0), some (vI room), some (vI (-1)), some (vI (oI none)), some (vI (nI 10 + (-1))), u7, u8] [] (pt_MEM mi ml ex) (.inl (some (vI (mWL (ms mi) L n room))), pt_MEM mi ml ex) := by
    refine fd_dn (E := fun r a => ∀ u7 u8, pt_Ev 105 none 23 [some (vR 9 0), some (vI (nI p)), some (vI 0), some (vI room), some (vI (-1)), some (vI (oI a)), some (vI (nI r + (-1))), u7, u8] [] (pt_MEM mi ml ex) (.inl (some (vI (mWL (ms mi) L n room))), pt_MEM mi ml ex)) (f := sel (fun r => match mRanked (ms mi) (nI r) with | none => false | some p => decide (¬ room < ms mi (9 * p + 2)))) (n := 10) (a := none) ?_ ?_
    · intro r a hr k u7 u8
      rw [pk_m1]
      refine r105_23 (fun c => absurd c (nI_pos (by omega))) (fun _ => r105_28 m99 (r105_34 (fun c => ?_) (fun c => ?_)))
      · have hN := (oI_eq (hq1 (nI r))).mp c
        rw [sel, if_neg (by rw [hN]; exact Bool.false_ne_true)] at k
        exact r105_62 (k _ _)
      · cases hq : mRanked (ms mi) (nI r) with
        | none => rw [hq] at c; exact absurd rfl c
        | some q =>
          have hq10 := mRanked_lt q hq
          have e2 := ms_e mi (k := 9 * q + 2) (by omega)
          refine r105_42 (m90 (j := 2) hq10 (by decide) (by decide)) (r105_52 rfl (by omega) (fun d => ?_) (fun d => ?_))
          · rw [e2] at d
            rw [sel, if_neg (by rw [hq]; simp only [d, not_true, decide_false]; decide)] at k
            exact r105_62 (k _ _)
          · rw [e2] at d
            rw [sel, if_pos (by rw [hq]; simp only [d, not_false_iff, decide_true])] at k
            exact r105_57 (k _ _)
    · intro u7 u8
      rw [hfin]
      refine r105_23 (fun _ => r105_72 ?_) (fun c => absurd (show nI 0 + (-1) < 0 by decide +kernel) c)
      by_cases c : oI (wlFirst (ms mi) room) = -1
      · refine r105_75 (fun _ => ?_) (fun d => absurd c d)
        rw [mWL, if_pos c]
        exact r105_218
      · exact loop2 _ rfl c _ _
  refine r105_0 (m91 (j := 0) hp (by decide) (by decide)) (r105_11 rfl (by omega) ?_)
  rw [e0, h9]
  exact loop1 _ _
end
