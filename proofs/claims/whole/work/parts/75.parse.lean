/-! The model's parser. -/
def FT (t : Nat) (mi mi' : Nat → Nat → Nat → Int32) : Prop := ∀ c m k, ¬ (c = 9 ∧ 8 ≤ k ∧ k < t) → mi' c m k = mi c m k
/-- at j in the text X of n; w: something was wrong -/
def MP (mi : Nat → Nat → Nat → Int32) (n : Nat) (X : Nat → Int32) (j : Nat) (w : Bool) : Prop := mi 9 0 7 = nI n ∧ (∀ k, k < n → mi 17 0 k = X k) ∧ mi 9 0 8 = nI j ∧ mi 9 0 9 = bI w ∧ j ≤ n ∧ n ≤ 60
def nx (X : Nat → Int32) (n j : Nat) (w : Bool) (lo hi : Int32) : Bool := !w && (decide (j < n) && sIn3 (X j) lo hi)
theorem FT.rfl' {t : Nat} {mi : Nat → Nat → Nat → Int32} : FT t mi mi := fun _ _ _ _ => rfl
theorem FT.tr {t : Nat} {a b c : Nat → Nat → Nat → Int32} (h1 : FT t a b) (h2 : FT t b c) : FT t a c := fun x m k hk => (h2 x m k hk).trans (h1 x m k hk)
theorem FT.wd {t t' : Nat} {a b : Nat → Nat → Nat → Int32} (h : FT t a b) (ht : t ≤ t') : FT t' a b := fun x m k hk => h x m k (fun z => hk ⟨z.1, z.2.1, by omega⟩)
theorem FT.up {t : Nat} {a b : Nat → Nat → Nat → Int32} {k : Nat} {v : Int32} (h : FT t a b) (h1 : 8 ≤ k) (h2 : k < t) : FT t a (pt_up3 b 9 0 k v) := fun x m k' hk => (if_neg (fun z => hk ⟨z.1, by omega, by omega⟩)).trans (h x m k' hk)
theorem MP.up {mi : Nat → Nat → Nat → Int32} {n : Nat} {X : Nat → Int32} {j k : Nat} {w : Bool} {v : Int32} (h : MP mi n X j w) (hk : 10 ≤ k) : MP (pt_up3 mi 9 0 k v) n X j w :=
  ⟨(up3_j _ _ (by omega)).trans h.1, fun i hi => (up3_c _ _ (by decide)).trans (h.2.1 i hi), (up3_j _ _ (by omega)).trans h.2.2.1, (up3_j _ _ (by omega)).trans h.2.2.2.1, h.2.2.2.2⟩
theorem i_sub1 (x : Int32) : (1 : Int32) + (x - 49) = x - 48 := by
  rw [Int32.sub_eq_add_neg, Int32.sub_eq_add_neg, ← Int32.add_assoc, Int32.add_comm 1 x, Int32.add_assoc, show (1 : Int32) + -49 = -48 from by decide]
theorem i_sub2 (v x : Int32) : (10 * v + x) - 48 = 10 * v + (x - 48) := by
  rw [Int32.sub_eq_add_neg, Int32.sub_eq_add_neg, Int32.add_assoc]
def DG (b : Nat → Int32) (most : Int32) : Prop := ∀ l c b', aDig (up1 b 4 l) c most = some b' → accP (up1 b 4 l) c = some b'
section
variable {mi : Nat → Nat → Nat → Int32} {ml : Nat → Nat → Nat → Int64} {ex : Nat} {n j : Nat} {X a b : Nat → Int32} {w : Bool} {lo hi most : Int32}
theorem m123 (h : MP mi n X j w) : pt_Ca 123 [vR 9 0, vI lo, vI hi] (pt_MEM mi ml ex) (.inl (some (vI (bI (nx X n j w lo hi)))), pt_MEM mi ml ex) := by
  obtain ⟨h7, hX, h8, h9, hj, hn⟩ := h
  refine r123_0 (fun c => ?_) (fun c => ?_)
  · rw [h9] at c
    have hw := bI_f c
    refine r123_7 (fun d => ?_) (fun d => ?_)
    · rw [h7, h8] at d
      have : ¬ j < n := fun z => absurd d (nI_ge z (by omega))
      rw [show nx X n j w lo hi = false from by simp [nx, this]]
      exact r123_39
    · rw [h7, h8] at d
      have hlt : j < n := by
        by_cases z : j < n
        · exact z
        · exact absurd (nI_le (by omega) (by omega)) d
      refine r123_18 h8 (by omega) m88 (r123_32 (fun e => ?_) (fun e => ?_))
      · rw [hX j hlt] at e
        rw [show nx X n j w lo hi = false from by simp [nx, bI_f e]]
        exact r123_39
      · rw [hX j hlt] at e
        rw [show nx X n j w lo hi = true from by simp [nx, bI_t e, hw, hlt]]
        exact r123_35
  · rw [h9] at c
    rw [show nx X n j w lo hi = false from by simp [nx, bI_t c]]
    exact r123_39
theorem m124y (h : MP mi n X j w) (hx : nx X n j w lo hi = true) : ∃ mi', pt_Ca 124 [vR 9 0, vI lo, vI hi] (pt_MEM mi ml ex) (.inl (some (vI (X j - lo))), pt_MEM mi' ml ex) ∧ MP mi' n X (j + 1) false ∧ FT 10 mi mi' := by
  have c123 := m123 (ml := ml) (ex := ex) (lo := lo) (hi := hi) h
  obtain ⟨h7, hX, h8, h9, hj, hn⟩ := h
  rw [hx] at c123
  rw [nx, Bool.and_eq_true, Bool.and_eq_true, decide_eq_true_eq, Bool.not_eq_true'] at hx
  obtain ⟨hw, hlt, -⟩ := hx
  subst hw
  have e9 : (pt_up3 mi 9 0 8 ((mi 9 0 8) + 1)) 9 0 9 = 0 := by rw [up3_j _ _ (by decide), h9]; rfl
  refine ⟨pt_up3 (pt_up3 mi 9 0 8 ((mi 9 0 8) + 1)) 9 0 9 0, ?_, ⟨?_, fun k hk => ?_, ?_, ?_, hlt, hn⟩, (FT.rfl'.up (k := 8) (by decide) (by decide)).up (k := 9) (by decide) (by decide)⟩
  · rw [← hX j hlt]
    exact r124_0 c123 (r124_6 (fun z => absurd z (by decide)) (fun _ => r124_11 h8 (by omega) (fun z => absurd z (by decide)) (fun _ => r124_37 (fun _ => r124_54 (fun z => absurd z (by decide)) (fun _ => r124_62)) (fun z => absurd e9 z))))
  · rw [up3_j _ _ (by decide), up3_j _ _ (by decide)]; exact h7
  · rw [up3_c _ _ (by decide), up3_c _ _ (by decide)]; exact hX k hk
  · rw [up3_j _ _ (by decide), up3_eq, h8, nI_succ]
  · rw [up3_eq]; rfl
theorem m124n (h : MP mi n X j w) (hx : nx X n j w lo hi = false) : ∃ mi', pt_Ca 124 [vR 9 0, vI lo, vI hi] (pt_MEM mi ml ex) (.inl (some (vI 0)), pt_MEM mi' ml ex) ∧ MP mi' n X j true ∧ FT 10 mi mi' := by
  have c123 := m123 (ml := ml) (ex := ex) (lo := lo) (hi := hi) h
  obtain ⟨h7, hX, h8, h9, hj, hn⟩ := h
  rw [hx] at c123
  refine ⟨_, r124_0 c123 (r124_6 (fun _ => r124_25 (fun _ => r124_41 (fun _ => r124_54 (fun _ => r124_58) (fun z => absurd rfl z)) (fun _ => r124_58)) (fun z => absurd rfl z)) (fun z => absurd rfl z)), ⟨?_, fun k hk => ?_, ?_, ?_, hj, hn⟩, (FT.rfl'.up (k := 8) (by decide) (by decide)).up (k := 9) (by decide) (by decide)⟩
  · rw [up3_j _ _ (by decide), up3_j _ _ (by decide)]; exact h7
  · rw [up3_c _ _ (by decide), up3_c _ _ (by decide)]; exact hX k hk
  · rw [up3_j _ _ (by decide), up3_eq, Int32.add_zero]; exact h8
  · rw [up3_eq]; rfl
theorem nx_w {X : Nat → Int32} {n j : Nat} {lo hi : Int32} : nx X n j true lo hi = false := rfl
theorem m125w (h : MP mi n X j true) : ∃ mi' v, pt_Ca 125 [vR 9 0, vI most] (pt_MEM mi ml ex) (.inl (some (vI v)), pt_MEM mi' ml ex) ∧ MP mi' n X j true ∧ FT 10 mi mi' := by
  obtain ⟨m1, q1, q2, q3⟩ := m124n (ml := ml) (ex := ex) (lo := 49) (hi := 57) h nx_w
  exact ⟨m1, _, r125_0 q1 (r125_9 (r125_11 (m123 q2) (r125_19 (fun _ => r125_74) (fun z => absurd rfl z)))), q2, q3⟩
theorem l48 : (48 : Int32).toInt = 48 := by decide
theorem l49 : (49 : Int32).toInt = 49 := by decide
theorem l57 : (57 : Int32).toInt = 57 := by decide
theorem l10 : (10 : Int32).toInt = 10 := by decide
theorem mul10 {v : Int32} (h0 : 0 ≤ v.toInt) (h1 : v.toInt ≤ 1000) : (10 * v).toInt = 10 * v.toInt := by
  rw [Int32.toInt_mul, l10]
  exact Int.bmod_eq_of_le (by omega) (by omega)
theorem m125 (h : MP mi n X j false) (hb : ats X a j = some b) (h4 : b 4 = 0) (hd : DG b most) (hm : 9 ≤ most.toInt ∧ most.toInt ≤ 999) :
    (∃ mi' j' v, pt_Ca 125 [vR 9 0, vI most] (pt_MEM mi ml ex) (.inl (some (vI v)), pt_MEM mi' ml ex) ∧ MP mi' n X j' false ∧ ats X a j' = some (up1 b 4 v) ∧ 1 ≤ v.toInt ∧ j ≤ j' ∧ (∀ t, j ≤ t → t < j' → ¬ X t = 59) ∧ (j' < n → aDig (up1 b 4 v) (X j') most = none) ∧ FT 10 mi mi') ∨
    (∃ mi' v, pt_Ca 125 [vR 9 0, vI most] (pt_MEM mi ml ex) (.inl (some (vI v)), pt_MEM mi' ml ex) ∧ MP mi' n X j true ∧ (j < n → aDig b (X j) most = none) ∧ FT 10 mi mi') := by
  -- further digits
  have loop : ∀ d j1 v m1, n - j1 ≤ d → MP m1 n X j1 false → ats X a j1 = some (up1 b 4 v) → 1 ≤ v.toInt → v.toInt ≤ most.toInt → ∃ mi' j' v', pt_Ev 125 none 11 [some (vR 9 0), some (vI most), some (vI v)] [] (pt_MEM m1 ml ex) (.inl (some (vI v')), pt_MEM mi' ml ex) ∧ MP mi' n X j' false ∧ ats X a j' = some (up1 b 4 v') ∧ 1 ≤ v'.toInt ∧ j1 ≤ j' ∧ (∀ t, j1 ≤ t → t < j' → ¬ X t = 59) ∧ (j' < n → aDig (up1 b 4 v') (X j') most = none) ∧ FT 10 m1 mi' := by
    intro d
    induction d with
    | zero =>
      intro j1 v m1 hd1 hp ha h1 h2
      have hnx : nx X n j1 false 48 57 = false := by
        have : ¬ j1 < n := by omega
        simp [nx, this]
      have c123 := m123 (ml := ml) (ex := ex) (lo := 48) (hi := 57) hp
      rw [hnx] at c123
      exact ⟨m1, j1, v, r125_11 c123 (r125_19 (fun _ => r125_74) (fun z => absurd rfl z)), hp, ha, h1, Nat.le_refl _, fun t t1 t2 => absurd t2 (by omega), fun z => absurd z (by omega), FT.rfl'⟩
    | succ d ih =>
      intro j1 v m1 hd1 hp ha h1 h2
      have c123 := m123 (ml := ml) (ex := ex) (lo := 48) (hi := 57) hp
      have hp' := hp
      obtain ⟨h7, hX, h8, h9, hj, hn⟩ := hp'
      cases hx : nx X n j1 false 48 57 with
      | false =>
        rw [hx] at c123
        refine ⟨m1, j1, v, r125_11 c123 (r125_19 (fun _ => r125_74) (fun z => absurd rfl z)), hp, ha, h1, Nat.le_refl _, fun t t1 t2 => absurd t2 (by omega), fun z => ?_, FT.rfl'⟩
        have hs : sIn3 (X j1) 48 57 = false := by
          rw [nx] at hx
          simpa [z] using hx
        unfold aDig
        rw [if_pos]
        by_cases c : X j1 < 48
        · exact Or.inl c
        · refine Or.inr (fun y => ?_)
          rw [sIn3_t.mpr ⟨c, le_nlt.mp y⟩] at hs
          exact absurd hs (by decide)
      | true =>
        rw [hx] at c123
        have hx' := hx
        rw [nx, Bool.and_eq_true, Bool.and_eq_true, decide_eq_true_eq, sIn3_t] at hx'
        obtain ⟨-, hlt, s1, s2⟩ := hx'
        have e17 : m1 17 0 j1 = X j1 := hX j1 hlt
        have ev : ((10 * v) + (m1 17 0 j1)) - 48 = 10 * v + (X j1 - 48) := by rw [e17]; exact i_sub2 _ _
        have hdig : ∀ y : Prop, (10 * v + (X j1 - 48) ≤ most → aDig (up1 b 4 v) (X j1) most = some (up1 b 4 (10 * v + (X j1 - 48)))) ∧ (¬ 10 * v + (X j1 - 48) ≤ most → aDig (up1 b 4 v) (X j1) most = none) ∧ 1 ≤ (10 * v + (X j1 - 48)).toInt := by
          intro _
          have q1 := s1
          have q2 := s2
          rw [Int32.lt_iff_toInt_lt, l48] at q1
          rw [Int32.lt_iff_toInt_lt, l57] at q2
          have es : (X j1 - 48).toInt = (X j1).toInt - 48 := by rw [sb32 (by rw [l48]; omega) (by rw [l48]; omega), l48]
          have e10 := mul10 (v := v) (by omega) (by omega)
          have et : (10 * v + (X j1 - 48)).toInt = 10 * v.toInt + ((X j1).toInt - 48) := by rw [ad32 (by omega) (by omega), e10, es]
          have n1 : ¬ 10 * v + (X j1 - 48) < 1 := by rw [Int32.lt_iff_toInt_lt, et, i1]; omega
          have nn : ¬ (X j1 < 48 ∨ ¬ X j1 ≤ 57) := fun z => z.elim s1 (fun y => y (le_nlt.mpr s2))
          unfold aDig
          rw [if_neg nn, up1_eq]
          refine ⟨fun z => ?_, fun z => ?_, by rw [et]; omega⟩
          · rw [if_neg (fun y => y.elim n1 (fun x => x z)), up1_up1]
          · rw [if_pos (Or.inr z)]
        obtain ⟨d1, d2, d3⟩ := hdig True
        by_cases c : 10 * v + (X j1 - 48) ≤ most
        · have ha2 : ats X a (j1 + 1) = some (up1 b 4 (10 * v + (X j1 - 48))) := by
            rw [ats_s ha]
            exact hd _ _ _ (d1 c)
          have hp2 : MP (pt_up3 m1 9 0 8 ((m1 9 0 8) + 1)) n X (j1 + 1) false := ⟨(up3_j _ _ (by decide)).trans h7, fun k hk => (up3_c _ _ (by decide)).trans (hX k hk), by rw [up3_eq, h8, nI_succ], (up3_j _ _ (by decide)).trans h9, hlt, hn⟩
          have cI : (10 * v + (X j1 - 48)).toInt ≤ most.toInt := by rw [← Int32.le_iff_toInt_le]; exact c
          obtain ⟨mi', j', v', w1, w2, w3, w4, w5, w6, w7, w8⟩ := ih (j1 + 1) _ _ (by omega) hp2 ha2 d3 cI
          refine ⟨mi', j', v', r125_11 c123 (r125_19 (fun z => absurd z (by decide)) (fun _ => r125_22 h8 (by omega) (fun z => ?_) (fun _ => r125_43 h8 (by omega) ?_))), w2, w3, w4, by omega, fun t t1 t2 => ?_, w7, (FT.rfl'.up (k := 8) (by decide) (by decide)).tr w8⟩
          · rw [ev] at z
            exact absurd z (le_nlt.mp c)
          · rw [ev]; exact w1
          · by_cases e : t = j1
            · subst e
              intro z
              rw [z] at s2
              exact s2 (by decide)
            · exact w6 t (by omega) t2
        · exact ⟨m1, j1, v, r125_11 c123 (r125_19 (fun z => absurd z (by decide)) (fun _ => r125_22 h8 (by omega) (fun _ => r125_74) (fun z => absurd (le_nlt.mpr (by rw [← ev]; exact z)) c))), hp, ha, h1, Nat.le_refl _, fun t t1 t2 => absurd t2 (by omega), fun _ => d2 c, FT.rfl'⟩
  cases hx : nx X n j false 49 57 with
  | false =>
    obtain ⟨m1, q1, q2, q3⟩ := m124n (ml := ml) (ex := ex) h hx
    refine Or.inr ⟨m1, _, r125_0 q1 (r125_9 (r125_11 (m123 q2) (r125_19 (fun _ => r125_74) (fun z => absurd rfl z)))), q2, fun z => ?_, q3⟩
    have hs : sIn3 (X j) 49 57 = false := by
      rw [nx] at hx
      simpa [z] using hx
    unfold aDig
    by_cases c : X j < 48 ∨ ¬ X j ≤ 57
    · rw [if_pos c]
    · rw [if_neg c, if_pos]
      refine Or.inl ?_
      have c1 : ¬ X j < 48 := fun y => c (Or.inl y)
      have c2 : ¬ 57 < X j := le_nlt.mp (Classical.not_not.mp (fun y => c (Or.inr y)))
      have c3 : X j < 49 := by
        by_cases y : X j < 49
        · exact y
        · rw [sIn3_t.mpr ⟨y, c2⟩] at hs
          exact absurd hs (by decide)
      rw [Int32.lt_iff_toInt_lt, l48] at c1
      rw [Int32.lt_iff_toInt_lt, l49] at c3
      have e : X j = 48 := Int32.toInt_inj.mp (by rw [l48]; omega)
      rw [h4, e]
      decide
  | true =>
    obtain ⟨m1, q1, q2, q3⟩ := m124y (ml := ml) (ex := ex) h hx
    have hx' := hx
    rw [nx, Bool.and_eq_true, Bool.and_eq_true, decide_eq_true_eq, sIn3_t] at hx'
    obtain ⟨-, hlt, s1, s2⟩ := hx'
    have q1' := s1
    have q2' := s2
    rw [Int32.lt_iff_toInt_lt, l49] at q1'
    rw [Int32.lt_iff_toInt_lt, l57] at q2'
    have es : (X j - 48).toInt = (X j).toInt - 48 := by rw [sb32 (by rw [l48]; omega) (by rw [l48]; omega), l48]
    have e0 : 10 * b 4 + (X j - 48) = X j - 48 := by
      rw [h4, show (10 : Int32) * 0 = 0 from by decide, Int32.zero_add]
    have hbb : up1 b 4 0 = b := by
      have := up1_self b 4
      rw [h4] at this
      exact this
    have hdig : aDig b (X j) most = some (up1 b 4 (X j - 48)) := by
      unfold aDig
      have nn : ¬ (X j < 48 ∨ ¬ X j ≤ 57) := fun z => z.elim (fun y => by rw [Int32.lt_iff_toInt_lt, l48] at y; omega) (fun y => y (le_nlt.mpr s2))
      rw [if_neg nn, e0, if_neg]
      intro z
      rcases z with z | z
      · rw [Int32.lt_iff_toInt_lt, i1] at z; omega
      · rw [Int32.le_iff_toInt_le] at z; omega
    have ha2 : ats X a (j + 1) = some (up1 b 4 (X j - 48)) := by
      rw [ats_s hb]
      have := hd 0 (X j) (up1 b 4 (X j - 48))
      rw [hbb] at this
      exact this hdig
    obtain ⟨mi', j', v', w1, w2, w3, w4, w5, w6, w7, w8⟩ := loop n (j + 1) (X j - 48) m1 (by omega) q2 ha2 (by omega) (by omega)
    refine Or.inl ⟨mi', j', v', r125_0 q1 (r125_9 (by rw [i_sub1]; exact w1)), w2, w3, w4, by omega, fun t t1 t2 => ?_, w7, q3.tr w8⟩
    by_cases e : t = j
    · subst e
      intro z
      rw [z] at s2
      exact s2 (by decide)
    · exact w6 t (by omega) t2
end
