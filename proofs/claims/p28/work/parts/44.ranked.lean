/-! The model's ranked places are the class's line. -/
theorem mRank_LN {S : Nat → Int32} (g : GO S) {L : Nat → Nat} {n i : Nat} (h : LN (fun a b => sAhead S a b (S 105)) (sW S) 10 L n) (hi : i < n) : mRank S (L i) = nI i := by
  have hLi := h.2.1 i hi
  have e : mRank S (L i) = nI (cnt (fun q => sIn S q 0 && mAhead S q (L i)) 10) := cnt_I (fun q => sIn S q 0 && mAhead S q (L i)) 10
  rw [e]
  refine congrArg nI (Eq.trans (cnt_congr (fun q hq => ?_)) (LN_rank (sSTO (S 105) g) h hi))
  show (sW S q && mAhead S q (L i)) = (sW S q && sAhead S q (L i) (S 105))
  cases hw : sW S q with
  | false => rfl
  | true => rw [mAhead_key g hq hLi.1 (sW_here hw) (sW_here hLi.2), sAhead_key g hq hLi.1 (sW_here hw) (sW_here hLi.2)]
theorem mRanked_LN {S : Nat → Int32} (g : GO S) {L : Nat → Nat} {n : Nat} (h : LN (fun a b => sAhead S a b (S 105)) (sW S) 10 L n) {r : Nat} (hr : r < 2 ^ 31) : mRanked S (nI r) = if r < n then some (L r) else none := by
  have hn := h.1
  by_cases c : r < n
  · rw [if_pos c]
    have hL := h.2.1 r c
    refine fo_sel_one (a := L r) ?_ hL.1 (fun q hq hP => ?_)
    · rw [mRank_LN g h c]
      have : sIn S (L r) 0 = true := hL.2
      rw [this]
      simp
    · rw [Bool.and_eq_true, decide_eq_true_eq] at hP
      obtain ⟨i, hi, e⟩ := h.2.2.2 q hq hP.1
      have h2 := hP.2
      rw [← e, mRank_LN g h hi] at h2
      have := nI_inj (by omega) hr h2
      rw [← e, this]
  · rw [if_neg c]
    refine fo_sel_none (fun q hq => ?_)
    cases hP : (sIn S q 0 && decide (mRank S q = nI r)) with
    | false => rfl
    | true =>
      rw [Bool.and_eq_true, decide_eq_true_eq] at hP
      obtain ⟨i, hi, e⟩ := h.2.2.2 q hq hP.1
      have h2 := hP.2
      rw [← e, mRank_LN g h hi] at h2
      have := nI_inj (by omega) hr h2
      omega
/-- the rank of a place in the line; none -/
def lnk (L : Nat → Nat) (n x : Nat) : Option Nat := fi (fun r => decide (L r = x)) n
theorem lnk_mRank {S : Nat → Int32} (g : GO S) {L : Nat → Nat} {n : Nat} (h : LN (fun a b => sAhead S a b (S 105)) (sW S) 10 L n) {x : Nat} (hx : x < 10) : oI (lnk L n x) = if sIn S x 0 = true then mRank S x else -1 := by
  unfold lnk
  cases hf : fi (fun r => decide (L r = x)) n with
  | some r =>
    have h1 := fi_lt hf
    have e := of_decide_eq_true h1.2
    have hw := (h.2.1 r h1.1).2
    rw [e] at hw
    rw [if_pos (show sIn S x 0 = true from hw), ← e, mRank_LN g h h1.1]
    rfl
  | none =>
    have h1 := fi_none hf
    rw [if_neg]
    · rfl
    · intro hw
      obtain ⟨i, hi, e⟩ := h.2.2.2 x hx hw
      have := h1 i hi
      rw [decide_eq_false_iff_not] at this
      exact this e
section
variable {mi : Nat → Nat → Nat → Int32} {ml : Nat → Nat → Nat → Int64} {ex h p : Nat}
theorem c26 {L : Nat → Nat} {n x : Nat} (hn : n ≤ 10) (hr : Row mi L n) (hL : ∀ i, i < n → L i < 10) (hlen : mi 3 0 1 = nI n) (hx : x < 10) : pt_Ca 26 [vR 3 0, vI (nI x)] (pt_MEM mi ml ex) (.inl (some (vI (oI (lnk L n x)))), pt_MEM mi ml ex) := by
  refine r26_0 (fi_up (E := fun r o => pt_Ev 26 none 2 [some (vR 3 0), some (vI (nI x)), some (vI (nI r))] [] (pt_MEM mi ml ex) (.inl (some (vI (oI o))), pt_MEM mi ml ex)) (P := fun r => decide (L r = x)) (n := n) ?_ ?_ ?_)
  · intro r hr1 hP
    have e := of_decide_eq_true hP
    refine r26_2 (fun c => ?_) (fun _ => r26_10 rfl (by omega) (fun _ => r26_20) (fun c => ?_))
    · rw [hlen] at c; exact absurd c (nI_ge hr1 (by omega))
    · rw [hr r hr1, e] at c; exact absurd rfl c
  · intro r o hr1 hP k
    have e := of_decide_eq_false hP
    refine r26_2 (fun c => ?_) (fun _ => r26_10 rfl (by omega) (fun c => ?_) (fun _ => r26_22 (by rw [← nI_succ]; exact k)))
    · rw [hlen] at c; exact absurd c (nI_ge hr1 (by omega))
    · rw [hr r hr1] at c
      have := hL r hr1
      exact absurd (nI_inj (by omega) (by omega) c) e
  · refine r26_2 (fun _ => r26_28) (fun c => ?_)
    rw [hlen] at c
    exact absurd (nI_le (Nat.le_refl n) (by omega)) c
end
