/-! What a machine would be loaded with. -/
abbrev WL : Type := Int32 × Int32 × Int32
/-- mask, colour, room left -/
def wlF (S : Nat → Int32) (L : Nat → Nat) (r : Nat) (a : WL) : WL :=
  if ¬ a.2.2 < S (9 * L r + 2) ∧ (a.1 = 0 ∨ S (9 * L r + 1) = a.2.1) then (a.1 ||| (1 <<< (nI (L r) &&& 31)), S (9 * L r + 1), a.2.2 - S (9 * L r + 2)) else a
def wlM (S : Nat → Int32) (L : Nat → Nat) (n : Nat) (room : Int32) : Int32 := (fo (wlF S L) n (0, -1, room)).1
section
variable {mi : Nat → Nat → Nat → Int32} {ml : Nat → Nat → Nat → Int64} {ex h p : Nat}
theorem c27 {L : Nat → Nat} {n : Nat} {room : Int32} (hh : h < 9) (hn : n ≤ 10) (hr : Row mi L n) (hL : ∀ i, i < n → L i < 10) (hlen : mi 3 0 1 = nI n) : pt_Ca 27 [vR 3 0, vR 2 h, vI room] (pt_MEM mi ml ex) (.inl (some (vI (wlM (cs mi h) L n room))), pt_MEM mi ml ex) := by
  have key : ∀ u, pt_Ev 27 none 11 [some (vR 3 0), some (vR 2 h), some (vI room), some (vI 0), some (vI (-1)), some (vI room), some (vI (nI 0)), u] [] (pt_MEM mi ml ex) (.inl (some (vI (wlM (cs mi h) L n room))), pt_MEM mi ml ex) := by
    refine fo_up (E := fun r (a : WL) => ∀ u, pt_Ev 27 none 11 [some (vR 3 0), some (vR 2 h), some (vI room), some (vI a.1), some (vI a.2.1), some (vI a.2.2), some (vI (nI r)), u] [] (pt_MEM mi ml ex) (.inl (some (vI (wlM (cs mi h) L n room))), pt_MEM mi ml ex)) (f := wlF (cs mi h) L) (n := n) (a := (0, -1, room)) ?_ ?_
    · intro r a hrn k u
      have hp := hL r hrn
      have e1 := cs_p mi h hp (j := 1) (by decide)
      have e2 := cs_p mi h hp (j := 2) (by decide)
      rw [nI_succ] at k
      refine r27_11 (fun c => ?_) (fun _ => r27_20 (pt_MR_h hh).1 rfl (by omega) (hr r hrn) hp (pt_MR_p hh hp) (fun c => ?_) (fun c => ?_))
      · rw [hlen] at c; exact absurd c (nI_ge hrn (by omega))
      · rw [e2] at c
        rw [wlF, if_neg (fun z => z.1 c)] at k
        exact r27_87 (k _)
      · rw [e2] at c
        have take : (a.1 = 0 ∨ cs mi h (9 * L r + 1) = a.2.1) → pt_Ev 27 none 58 [some (vR 3 0), some (vR 2 h), some (vI room), some (vI a.1), some (vI a.2.1), some (vI a.2.2), some (vI (nI r)), some (vR 5 (L r + 10 * h))] [] (pt_MEM mi ml ex) (.inl (some (vI (wlM (cs mi h) L n room))), pt_MEM mi ml ex) := by
          intro d
          rw [wlF, if_pos ⟨c, d⟩] at k
          refine r27_58 (p7 := r) rfl (by omega) ?_
          rw [hr r hrn, e1, e2]
          exact k _
        refine r27_44 (fun d => take (Or.inl d)) (fun d => r27_48 (fun z => ?_) (fun z => ?_))
        · rw [e1] at z; exact take (Or.inr z)
        · rw [e1] at z
          rw [wlF, if_neg (fun y => y.2.elim d z)] at k
          exact r27_87 (k _)
    · intro u
      refine r27_11 (fun _ => r27_93) (fun c => ?_)
      rw [hlen] at c
      exact absurd (nI_le (Nat.le_refl n) (by omega)) c
  exact r27_0 (key _)
end
theorem fi_min {P : Nat → Bool} : ∀ {m q r : Nat}, fi P m = some q → r < q → P r = false
  | 0, q, r, hq, _ => by simp [fi] at hq
  | m + 1, q, r, hq, hr => by
    rw [fi] at hq
    cases h1 : fi P m with
    | some q' =>
      rw [h1] at hq
      simp only [Option.some.injEq] at hq
      subst hq
      exact fi_min h1 hr
    | none =>
      rw [h1] at hq
      by_cases hP : P m = true
      · rw [if_pos hP] at hq
        simp only [Option.some.injEq] at hq
        subst hq
        exact fi_none h1 r hr
      · rw [if_neg hP] at hq; simp at hq
/-- the least rank that fits -/
def wlFirst (S : Nat → Int32) (room : Int32) : Option Nat := fi (fun r => match mRanked S (nI r) with | none => false | some p => decide (¬ room < S (9 * p + 2))) 10
def wlG (S : Nat → Int32) (L : Nat → Nat) (f : Int32) (r : Nat) (a : WL) : WL :=
  if ¬ a.2.2 < S (9 * L r + 2) ∧ ¬ nI r < f ∧ (a.2.1 = -1 ∨ S (9 * L r + 1) = a.2.1) then (a.1 ||| (1 <<< (nI (L r) &&& 31)), S (9 * L r + 1), a.2.2 - S (9 * L r + 2)) else a
theorem bit_ne : ∀ k, k < 10 → ¬ (1 : Int32) <<< (nI k &&& 31) = 0 := by decide +kernel
theorem or_ne {a b : Int32} (h : ¬ b = 0) : ¬ (a ||| b) = 0 := by
  intro z
  apply h
  have := congrArg Int32.toBitVec z
  apply Int32.toBitVec_inj.mp
  simp only [Int32.toBitVec_or] at this
  have h2 : a.toBitVec ||| b.toBitVec = 0#32 := this
  have h3 : b.toBitVec = 0#32 := by
    have := BitVec.or_eq_zero_iff.mp h2
    exact this.2
  exact h3
/-- before the first that fits nothing is taken; from it on both ways are one -/
theorem wl_same {S : Nat → Int32} (g : GO S) {L : Nat → Nat} {n : Nat} (h : LN (fun a b => sAhead S a b (S 105)) (sW S) 10 L n) (hc : ∀ p, p < 10 → sW S p = true → ¬ S (9 * p + 1) = -1) (room : Int32) :
    wlM S L n room = if oI (wlFirst S room) = -1 then 0 else (fo (wlG S L (oI (wlFirst S room))) n (0, -1, room)).1 := by
  have hn := h.1
  have hlt : ∀ q, wlFirst S room = some q → q < 10000 := fun q hq => by have := (fi_lt hq).1; omega
  have hR : ∀ r, r < n → mRanked S (nI r) = some (L r) := fun r hr => by rw [mRanked_LN g h (by omega), if_pos hr]
  -- while nothing fits
  have skip : ∀ m, m ≤ n → (∀ r, r < m → room < S (9 * L r + 2)) → fo (wlF S L) m (0, -1, room) = (0, -1, room) := by
    intro m
    induction m with
    | zero => intro _ _; rfl
    | succ m ih =>
      intro hm hs
      show wlF S L m (fo (wlF S L) m (0, -1, room)) = _
      rw [ih (by omega) (fun r hr => hs r (by omega)), wlF, if_neg (fun z => z.1 (hs m (by omega)))]
  by_cases c : oI (wlFirst S room) = -1
  · rw [if_pos c]
    have hf := (oI_eq hlt).mp c
    have := fi_none hf
    rw [wlM, skip n (Nat.le_refl n) (fun r hr => ?_)]
    have h1 := this r (by omega)
    simp only [hR r hr, decide_eq_false_iff_not, Classical.not_not] at h1
    exact h1
  · rw [if_neg c]
    cases hf : wlFirst S room with
    | none => rw [hf] at c; exact absurd rfl c
    | some f =>
      have hfl := fi_lt hf
      show _ = (fo (wlG S L (nI f)) n (0, -1, room)).1
      have hmin : ∀ r, r < f → r < n → room < S (9 * L r + 2) := by
        intro r hr hrn
        have h1 := fi_min hf hr
        simp only [hR r hrn, decide_eq_false_iff_not, Classical.not_not] at h1
        exact h1
      -- both loops go alike
      have inv : ∀ m, m ≤ n → fo (wlF S L) m (0, -1, room) = fo (wlG S L (nI f)) m (0, -1, room) ∧ ((fo (wlF S L) m (0, -1, room)).1 = 0 ↔ (fo (wlF S L) m (0, -1, room)).2.1 = -1) := by
        intro m
        induction m with
        | zero => intro _; exact ⟨rfl, fun _ => rfl, fun _ => rfl⟩
        | succ m ih =>
          intro hm
          obtain ⟨i1, i2⟩ := ih (by omega)
          have hLm := h.2.1 m (by omega)
          show wlF S L m (fo (wlF S L) m (0, -1, room)) = wlG S L (nI f) m (fo (wlG S L (nI f)) m (0, -1, room)) ∧ ((wlF S L m (fo (wlF S L) m (0, -1, room))).1 = 0 ↔ (wlF S L m (fo (wlF S L) m (0, -1, room))).2.1 = -1)
          rw [← i1]
          by_cases cm : m < f
          · have hs := skip m (by omega) (fun r hr => hmin r (by omega) (by omega))
            have hw := hmin m cm (by omega)
            rw [hs] at i2 ⊢
            have k1 : wlF S L m (0, -1, room) = (0, -1, room) := by rw [wlF, if_neg (fun z => z.1 hw)]
            have k2 : wlG S L (nI f) m (0, -1, room) = (0, -1, room) := by rw [wlG, if_neg (fun z => z.1 hw)]
            rw [k1, k2]
            exact ⟨rfl, i2⟩
          · have hnl : ¬ nI m < nI f := nI_nlt (by omega) (by omega)
            revert i2
            generalize fo (wlF S L) m (0, -1, room) = a
            intro i2
            by_cases d : ¬ a.2.2 < S (9 * L m + 2) ∧ (a.1 = 0 ∨ S (9 * L m + 1) = a.2.1)
            · have d' : ¬ a.2.2 < S (9 * L m + 2) ∧ ¬ nI m < nI f ∧ (a.2.1 = -1 ∨ S (9 * L m + 1) = a.2.1) := ⟨d.1, hnl, d.2.elim (fun z => Or.inl (i2.mp z)) Or.inr⟩
              rw [wlF, if_pos d, wlG, if_pos d']
              refine ⟨rfl, ?_⟩
              constructor
              · intro z; exact absurd z (or_ne (bit_ne _ hLm.1))
              · intro z; exact absurd z (hc _ hLm.1 hLm.2)
            · have d' : ¬ (¬ a.2.2 < S (9 * L m + 2) ∧ ¬ nI m < nI f ∧ (a.2.1 = -1 ∨ S (9 * L m + 1) = a.2.1)) := fun z => d ⟨z.1, z.2.2.elim (fun y => Or.inl (i2.mpr y)) Or.inr⟩
              rw [wlF, if_neg d, wlG, if_neg d']
              exact ⟨rfl, i2⟩
      rw [wlM, (inv n (Nat.le_refl n)).1]
