/-! endsIn on both sides. -/
def cEnd1 (e r : Int32) : Int32 := if e = -1 then r else if r = -1 then e else if r ≤ e then r else e
def cMax0 (x : Int32) : Int32 := if 0 < x then x else 0
def cEnd (S : Nat → Int32) : Int32 := let r := cEnd1 (S 94) (cEnd1 (S 91) (-1)); if r = -1 then -1 else cMax0 (r - S 96)
def mLeft (x : Int32) : Int32 := if 0 ≤ x then x else 0
def mEnd1 (e c r : Int32) : Int32 := if e = -1 then r else if r = -1 then mLeft (e - c) else if r ≤ mLeft (e - c) then r else mLeft (e - c)
def mEnd (S : Nat → Int32) : Int32 := mEnd1 (S 94) (S 96) (mEnd1 (S 91) (S 96) (-1))
section
variable {mi : Nat → Nat → Nat → Int32} {ml : Nat → Nat → Nat → Int64} {ex p : Nat}
theorem c77 : pt_Ca 77 [vR 8 0] (pt_MEM mi ml ex) (.inl (some (vI (cEnd (cs mi 0)))), pt_MEM mi ml ex) := by
  have step : ∀ (m : Nat) (r : Int32) (u : Option pt_V) (hm : m < 2), (∀ u', pt_Ev 77 none 4 [some (vR 8 0), some (vI (cEnd1 (cs mi 0 (90 + 3 * m + 1)) r)), some (vI (nI m + 1)), u'] [] (pt_MEM mi ml ex) (.inl (some (vI (cEnd (cs mi 0)))), pt_MEM mi ml ex)) → pt_Ev 77 none 4 [some (vR 8 0), some (vI r), some (vI (nI m)), u] [] (pt_MEM mi ml ex) (.inl (some (vI (cEnd (cs mi 0)))), pt_MEM mi ml ex) := by
    intro m r u hm k
    have e1 := cs_m mi 0 hm (j := 1) (by decide)
    unfold cEnd1 at k
    refine r77_4 (fun c => absurd c (n2_le hm)) (fun _ => r77_9 rfl rfl hm (pt_MR_m (by decide) hm) (fun c => ?_) (fun c => ?_))
    · rw [e1] at c
      rw [if_pos c] at k
      exact r77_39 (k _)
    · rw [e1] at c
      rw [if_neg c] at k
      refine r77_27 (fun d => ?_) (fun d => r77_32 (fun z => ?_) (fun z => ?_))
      · rw [if_pos d] at k
        rw [e1]
        exact r77_37 (k _)
      · rw [e1] at z
        rw [if_neg d, if_pos z] at k
        exact r77_39 (k _)
      · rw [e1] at z
        rw [if_neg d, if_neg z] at k
        rw [e1]
        exact r77_37 (k _)
  refine r77_0 (step 0 (-1) _ (by decide) (fun u => ?_))
  rw [show nI 0 + 1 = nI 1 from by decide +kernel]
  refine step 1 _ _ (by decide) (fun u => ?_)
  rw [show nI 1 + 1 = nI 2 from by decide +kernel]
  refine r77_4 (fun _ => ?_) (fun c => absurd n2_le' c)
  show pt_Ev 77 none 45 [some (vR 8 0), some (vI (cEnd1 (cs mi 0 94) (cEnd1 (cs mi 0 91) (-1)))), some (vI (nI 2)), u] [] (pt_MEM mi ml ex) _
  unfold cEnd
  simp only []
  generalize cEnd1 (cs mi 0 94) (cEnd1 (cs mi 0 91) (-1)) = r
  by_cases c : r = -1
  · rw [if_pos c]
    exact r77_45 (fun _ => r77_50) (fun d => absurd c d)
  · rw [if_neg c]
    refine r77_45 (fun d => absurd d c) (fun _ => r77_54 ?_ r77_67)
    rw [← cs_96 mi 0]
    unfold cMax0
    refine r158_0 (fun d => ?_) (fun d => ?_)
    · rw [if_pos d]; exact r158_9
    · rw [if_neg d]; exact r158_5
end
