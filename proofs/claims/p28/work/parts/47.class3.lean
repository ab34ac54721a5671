/-! The class: rank, waiting, ifLoaded. -/
theorem nI_nonneg {x : Int32} (h : ¬ x < 0) : ∃ r : Nat, r < 2 ^ 31 ∧ x = nI r := by
  have h0 : 0 ≤ x.toInt := by
    rw [Int32.lt_iff_toInt_lt, Int32.toInt_zero] at h; omega
  have h1 : x.toInt < 2 ^ 31 := Int32.toInt_lt x
  refine ⟨x.toInt.toNat, by omega, ?_⟩
  apply Int32.toInt_inj.mp
  rw [nI_toInt (by omega)]
  omega
/-- the mask of the places that a room gets, by the row alone -/
def sWL (S : Nat → Int32) (room : Int32) (w : Int32) : Prop := ∀ L n, LN (fun a b => sAhead S a b (S 105)) (sW S) 10 L n → w = wlM S L n room
section
variable {mi : Nat → Nat → Nat → Int32} {ml : Nat → Nat → Nat → Int64} {ex p : Nat}
theorem cs_105 (mi : Nat → Nat → Nat → Int32) (h : Nat) : cs mi h 105 = mi 10 h 1 := rfl
theorem cs_104 (mi : Nat → Nat → Nat → Int32) (h : Nat) : cs mi h 104 = mi 10 h 0 := rfl
theorem cs_96 (mi : Nat → Nat → Nat → Int32) (h : Nat) : cs mi h 96 = mi 2 h 3 := rfl
/-- the line as it stands once the house is arranged by its own setting -/
def Arr (mi mi' : Nat → Nat → Nat → Int32) (L : Nat → Nat) (n : Nat) : Prop := LN (fun a b => sAhead (cs mi 0) a b (cs mi 0 105)) (sW (cs mi 0)) 10 L n ∧ Row mi' L n ∧ mi' 3 0 1 = nI n ∧ Fr [3, 12] mi mi'
theorem c24_own (g : GO (cs mi 0)) : ∃ L n mi', pt_Ca 24 [vR 3 0, vR 2 0, vI (cs mi 0 105)] (pt_MEM mi ml ex) (.inl none, pt_MEM mi' ml ex) ∧ Arr mi mi' L n := by
  obtain ⟨L, n, mi', h1, h2, h3, h4, h5⟩ := c24 (mi := mi) (ml := ml) (ex := ex) (h := 0) (rf := cs mi 0 105) (by decide) g.1 (sSTO _ g)
  exact ⟨L, n, mi', h1, h2, h3, h4, h5⟩
theorem Arr.cs {mi mi' : Nat → Nat → Nat → Int32} {L : Nat → Nat} {n : Nat} (a : Arr mi mi' L n) (h : Nat) : cs mi' h = cs mi h := cs_fr h a.2.2.2 (by decide) (by decide) (by decide) (by decide)
theorem c70 {x : Nat} (hx : x < 10) (g : GO (cs mi 0)) : ∃ mi', pt_Ca 70 [vR 8 0, vI (nI x)] (pt_MEM mi ml ex) (.inl (some (vI (if sIn (cs mi 0) x 0 = true then mRank (cs mi 0) x else -1))), pt_MEM mi' ml ex) ∧ Fr [3, 12] mi mi' := by
  obtain ⟨L, n, mi', h1, ha⟩ := c24_own (mi := mi) (ml := ml) (ex := ex) g
  refine ⟨mi', ?_, ha.2.2.2⟩
  have hn := ha.1.1
  have tail : pt_Ev 70 none 29 [some (vR 8 0), some (vI (nI x))] [] (pt_MEM mi' ml ex) (.inl (some (vI (if sIn (cs mi 0) x 0 = true then mRank (cs mi 0) x else -1))), pt_MEM mi' ml ex) := by
    rw [← lnk_mRank g ha.1 hx]
    exact r70_29 (c26 (by omega) ha.2.1 (fun i hi => (ha.1.2.1 i hi).1) ha.2.2.1 hx) r70_37
  refine r70_0 rfl (fun c => ?_) (fun c => ?_)
  · rw [← cs_105 mi 0] at c
    rw [c] at h1
    exact r70_21 h1 tail
  · rw [← cs_105 mi 0] at c
    rw [g.2.2.2.resolve_right c] at h1
    exact r70_25 h1 tail
theorem c75n {x : Int32} (hx : x < 0) : pt_Ca 75 [vR 8 0, vI x] (pt_MEM mi ml ex) (.inr 1, pt_MEM mi ml (ex + 1)) := by
  refine r75_0 (fun c => ?_) (fun _ => r75_4)
  rw [Int32.le_iff_toInt_le] at c
  rw [Int32.lt_iff_toInt_lt] at hx
  omega
theorem c75 {x : Int32} (hx : ¬ x < 0) (g : GO (cs mi 0)) : ∃ mi', pt_Ca 75 [vR 8 0, vI x] (pt_MEM mi ml ex) (.inl (some (vI (oI (mRanked (cs mi 0) x)))), pt_MEM mi' ml ex) ∧ Fr [3, 12] mi mi' := by
  obtain ⟨L, n, mi', h1, ha⟩ := c24_own (mi := mi) (ml := ml) (ex := ex) g
  obtain ⟨r, hr, rfl⟩ := nI_nonneg hx
  have hn := ha.1.1
  refine ⟨mi', ?_, ha.2.2.2⟩
  have tail : pt_Ev 75 none 44 [some (vR 8 0), some (vI (nI r))] [] (pt_MEM mi' ml ex) (.inl (some (vI (oI (mRanked (cs mi 0) (nI r))))), pt_MEM mi' ml ex) := by
    rw [mRanked_LN g ha.1 hr]
    by_cases c : r < n
    · rw [if_pos c]
      refine r75_44 (fun d => ?_) (fun _ => ?_)
      · rw [ha.2.2.1] at d; exact absurd d (nI_ge c (by omega))
      · show pt_Ev 75 none 55 _ _ _ (.inl (some (vI (nI (L r)))), _)
        rw [← ha.2.1 r c]
        exact r75_55 rfl (by omega)
    · rw [if_neg c]
      refine r75_44 (fun _ => r75_67) (fun d => ?_)
      rw [ha.2.2.1] at d
      exact absurd (nI_le (by omega) hr) d
  refine r75_0 (fun _ => r75_15 rfl (fun c => ?_) (fun c => ?_)) (fun c => absurd (nI_pos' hr) c)
  · rw [← cs_105 mi 0] at c
    rw [c] at h1
    exact r75_36 h1 tail
  · rw [← cs_105 mi 0] at c
    rw [g.2.2.2.resolve_right c] at h1
    exact r75_40 h1 tail
theorem c76x {x : Int32} (hx : sIn3 x 0 1 = false) : pt_Ca 76 [vR 8 0, vI x] (pt_MEM mi ml ex) (.inr 3, pt_MEM mi ml (ex + 1)) := by
  refine r76_0 (fun _ => r76_9) (fun c => r76_4 (fun d => ?_) (fun _ => r76_9))
  have : ¬ (1 : Int32) < x := by
    rw [Int32.lt_iff_toInt_lt] at d ⊢
    rw [show (2 : Int32).toInt = 2 from by decide] at d
    rw [show (1 : Int32).toInt = 1 from by decide]
    omega
  simp only [sIn3, c, this, not_false_iff, decide_true] at hx
  exact absurd hx (by decide)
theorem c76 (hp : p < 2) (g : GO (cs mi 0)) : ∃ mi' w, pt_Ca 76 [vR 8 0, vI (nI p)] (pt_MEM mi ml ex) (.inl (some (vI w)), pt_MEM mi' ml ex) ∧ sWL (cs mi 0) (cs mi 0 (90 + 3 * p + 0)) w ∧ Fr [3, 12] mi mi' := by
  obtain ⟨L, n, mi', h1, ha⟩ := c24_own (mi := mi) (ml := ml) (ex := ex) g
  have hn := ha.1.1
  have hcs := ha.cs 0
  have e0 := cs_m mi' 0 hp (j := 0) (by decide)
  rw [hcs] at e0
  refine ⟨mi', wlM (cs mi 0) L n (cs mi 0 (90 + 3 * p + 0)), ?_, ?_, ha.2.2.2⟩
  · have tail : pt_Ev 76 none 48 [some (vR 8 0), some (vI (nI p))] [] (pt_MEM mi' ml ex) (.inl (some (vI (wlM (cs mi 0) L n (cs mi 0 (90 + 3 * p + 0))))), pt_MEM mi' ml ex) := by
      refine r76_48 rfl rfl hp (pt_MR_m (by decide) hp) ?_ r76_71
      rw [e0, ← hcs]
      exact c27 (h := 0) (by decide) (by omega) ha.2.1 (fun i hi => (ha.1.2.1 i hi).1) ha.2.2.1
    have hlt2 : nI p < 2 := by
      have := nI_lt (a := p) (b := 2) hp (by decide)
      exact this
    refine r76_0 (fun c => absurd c (nI_pos (by omega))) (fun _ => r76_4 (fun _ => r76_19 rfl (fun c => ?_) (fun c => ?_)) (fun c => absurd hlt2 c))
    · rw [← cs_105 mi 0] at c
      rw [c] at h1
      exact r76_40 h1 tail
    · rw [← cs_105 mi 0] at c
      rw [g.2.2.2.resolve_right c] at h1
      exact r76_44 h1 tail
  · intro L' n' h'
    -- two lines of one house give the same
    have hnn : n = n' := by
      have a1 := mRanked_LN g ha.1 (r := n) (by omega)
      have a2 := mRanked_LN g h' (r := n) (by omega)
      have b1 := mRanked_LN g ha.1 (r := n') (by have := h'.1; omega)
      have b2 := mRanked_LN g h' (r := n') (by have := h'.1; omega)
      rw [if_neg (Nat.lt_irrefl n)] at a1
      rw [if_neg (Nat.lt_irrefl n')] at b2
      rw [a1] at a2
      rw [b1] at b2
      by_cases c : n < n'
      · rw [if_pos c] at a2; simp at a2
      · by_cases d : n' < n
        · rw [if_pos d] at b2; simp at b2
        · omega
    subst hnn
    have hL : ∀ r, r < n → L r = L' r := by
      intro r hr
      have a1 := mRanked_LN g ha.1 (r := r) (by omega)
      have a2 := mRanked_LN g h' (r := r) (by omega)
      rw [if_pos hr] at a1 a2
      rw [a1] at a2
      simpa using a2
    unfold wlM
    rw [fo_congr (f := wlF (cs mi 0) L) (g := wlF (cs mi 0) L') (fun r a hr => by unfold wlF; rw [hL r hr])]
end
