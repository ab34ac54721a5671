/-! Emptying, in the class. -/
section
variable {mi : Nat → Nat → Nat → Int32} {ml : Nat → Nat → Nat → Int64} {ex h p m : Nat}
theorem c22 {x : Int32} (hp : p < 10) : ∃ mi', pt_Ca 22 [vR 2 h, vR 5 (p + 10 * h), vI x] (pt_MEM mi ml ex) (.inl none, pt_MEM mi' ml ex) ∧ HX mi mi' h (up1 (sPutT (cs mi h) p x) 103 (cs mi h 103 + 1)) := by
  have e2 : ∀ (f : Nat → Nat → Nat → Int32) (q j n' j' : Nat) (v : Int32), pt_up3 f 5 q j v 2 n' j' = f 2 n' j' := fun f q j n' j' v => up3_c _ _ (by decide)
  have rule := @r22_0 mi ml ex h (p + 10 * h) x
  simp only [e2] at rule
  have hx : HX mi (pt_up3 (pt_up3 (pt_up3 (pt_up3 mi 5 (p + 10 * h) 6 2) 5 (p + 10 * h) 7 x) 5 (p + 10 * h) 8 (mi 2 h 3)) 2 h 6 (mi 2 h 6 + 1)) h (up1 (up1 (up1 (up1 (cs mi h) (9 * p + 6) 2) (9 * p + 7) x) (9 * p + 8) (mi 2 h 3)) 103 (mi 2 h 6 + 1)) := (((HX.refl.wp hp (by decide)).wp hp (by decide)).wp hp (by decide)).wh (by decide)
  revert rule hx
  generalize pt_up3 (pt_up3 (pt_up3 (pt_up3 mi 5 (p + 10 * h) 6 2) 5 (p + 10 * h) 7 x) 5 (p + 10 * h) 8 (mi 2 h 3)) 2 h 6 (mi 2 h 6 + 1) = m1
  intro rule hx
  have hl := c34 (mi := m1) (ml := ml) (ex := ex) (h := h) hp
  have hlate : sLate (cs m1 h) p = decide (¬ cs mi h 96 ≤ cs mi h (9 * p + 4)) := by
    rw [hx.1]
    unfold sLate
    rw [up1_ne _ _ (show 9 * p + 6 ≠ 103 by omega), up1_ne _ _ (show 9 * p + 6 ≠ 9 * p + 8 by omega), up1_ne _ _ (show 9 * p + 6 ≠ 9 * p + 7 by omega), up1_eq, up1_ne _ _ (show 9 * p + 8 ≠ 103 by omega), up1_eq, up1_ne _ _ (show 9 * p + 4 ≠ 103 by omega), up1_ne _ _ (show 9 * p + 4 ≠ 9 * p + 8 by omega), up1_ne _ _ (show 9 * p + 4 ≠ 9 * p + 7 by omega), up1_ne _ _ (show 9 * p + 4 ≠ 9 * p + 6 by omega), show decide ((2 : Int32) = 2) = true from by decide, Bool.true_and]
    rfl
  have h100 : m1 2 h 7 = cs mi h 100 := by
    rw [← cs_100 m1 h, hx.1, up1_ne _ _ (by decide), up1_ne _ _ (by omega), up1_ne _ _ (by omega), up1_ne _ _ (by omega)]
  have hrow : ∀ v, up1 (up1 (up1 (up1 (up1 (cs mi h) (9 * p + 6) 2) (9 * p + 7) x) (9 * p + 8) (mi 2 h 3)) 103 (mi 2 h 6 + 1)) 100 v = up1 (up1 (up1 (up1 (up1 (cs mi h) (9 * p + 6) 2) (9 * p + 7) x) (9 * p + 8) (cs mi h 96)) 100 v) 103 (cs mi h 103 + 1) := fun v => by
    rw [up1_comm _ _ _ (show 103 ≠ 100 by decide)]
    rfl
  by_cases c : cs mi h 96 ≤ cs mi h (9 * p + 4)
  · refine ⟨m1, rule hl (r22_32 (fun _ => r22_45) (fun z => ?_)), ?_⟩
    · rw [hlate] at z
      exact absurd (by simp [c, bI]) z
    · refine ⟨?_, hx.2⟩
      rw [hx.1]
      unfold sPutT
      rw [if_pos c, ← hrow]
      refine (Eq.trans (congrArg (up1 _ 100) ?_) (up1_self _ 100)).symm
      rw [up1_ne _ _ (show 100 ≠ 103 by decide), up1_ne _ _ (by omega), up1_ne _ _ (by omega), up1_ne _ _ (by omega)]
  · refine ⟨_, rule hl (r22_32 (fun z => ?_) (fun _ => r22_35)), ?_⟩
    · rw [hlate] at z
      exact absurd z (by simp [c, bI])
    · unfold sPutT
      rw [if_neg c, ← hrow, h100]
      exact hx.wh (by decide)
theorem c21 (hh : h < 9) (hm : m < 2) : ∃ w mi', pt_Ca 21 [vR 2 h, vI (nI m)] (pt_MEM mi ml ex) (.inl (some (vI w)), pt_MEM mi' ml ex) ∧ w = (sEmpM (cs mi h) m).2 ∧ HX mi mi' h (sEmpM (cs mi h) m).1 := by
  have exit : ∀ k T m1 w, HX mi m1 h (up1 T 103 w) → ∃ mi', pt_Ev 21 none 61 [some (vR 2 h), some (vI (nI m)), some (vI (nI k)), some (vI (oI (sFirstIn T (nI m)))), some (vI (oI (sFreeShelf T)))] [] (pt_MEM m1 ml ex) (.inl (some (vI (nI k))), pt_MEM mi' ml ex) ∧ HX mi mi' h (sFin m T w) := by
    intro k T m1 w hx
    cases hf : sFirstIn T (nI m) with
    | none =>
      refine ⟨_, r21_61 (fun _ => r21_66 (pt_MR_h hh).2.1 rfl hm (pt_MR_m hh hm)) (fun c => absurd rfl c), ?_⟩
      rw [sFin, if_pos hf]
      exact hx.wm hm (by decide)
    | some q =>
      refine ⟨m1, r21_61 (fun c => absurd c (oI_ne rfl (fun q' hq' => sFirstIn_q q' (hf.trans hq')))) (fun _ => r21_76), ?_⟩
      rw [sFin, if_neg (by rw [hf]; simp)]
      exact hx
  have loop : ∀ d k T m1 w, k + d = 10 → HX mi m1 h (up1 T 103 (w + nI k)) → ∃ mi', pt_Ev 21 none 14 [some (vR 2 h), some (vI (nI m)), some (vI (nI k)), some (vI (oI (sFirstIn T (nI m)))), some (vI (oI (sFreeShelf T)))] [] (pt_MEM m1 ml ex) (.inl (some (vI (nI (k + (sEmp (nI m) d T).2)))), pt_MEM mi' ml ex) ∧ HX mi mi' h (sFin m (sEmp (nI m) d T).1 (w + nI (k + (sEmp (nI m) d T).2))) := by
    intro d
    induction d with
    | zero =>
      intro k T m1 w hk hx
      have hk' : k = 10 := hk
      subst hk'
      obtain ⟨mi', g1, g2⟩ := exit 10 T m1 _ hx
      exact ⟨mi', r21_14 (fun _ => g1) (fun _ => r21_19 (fun _ => g1) (fun _ => r21_25 (fun _ => g1) (fun c => absurd n10_le' c))), g2⟩
    | succ d ih =>
      intro k T m1 w hkd hx
      have hk : k < 10 := by omega
      cases hf : sFirstIn T (nI m) with
      | none =>
        rw [sEmp_1 hf]
        obtain ⟨mi', g1, g2⟩ := exit k T m1 _ hx
        rw [hf] at g1
        exact ⟨mi', r21_14 (fun _ => g1) (fun c => absurd rfl c), g2⟩
      | some q =>
        have hq : q < 10 := (sFirst_lt _ _ hf).1
        have hne : ¬ oI (some q) = -1 := oI_ne rfl (fun q' hq' => sFirstIn_q q' (hf.trans hq'))
        cases hs : sFreeShelf T with
        | none =>
          rw [sEmp_2 hs]
          obtain ⟨mi', g1, g2⟩ := exit k T m1 _ hx
          rw [hf, hs] at g1
          exact ⟨mi', r21_14 (fun c => absurd c hne) (fun _ => r21_19 (fun _ => g1) (fun c => absurd rfl c)), g2⟩
        | some x =>
          have hne2 : ¬ oI (some x) = -1 := oI_ne rfl (fun q' hq' => sFree_q q' (hs.trans hq'))
          rw [sEmp_3 hf hs]
          obtain ⟨m2, q1, q2⟩ := c22 (mi := m1) (ml := ml) (ex := ex) (h := h) (x := nI x) hq
          have hrow : up1 (sPutT (cs m1 h) q (nI x)) 103 (cs m1 h 103 + 1) = up1 (sPutT T q (nI x)) 103 (w + nI (k + 1)) := by
            rw [hx.1, sPutT_103 hq, up1_eq, up1_up1, nI_succ, Int32.add_assoc]
          rw [hrow] at q2
          have c18' := c18 (mi := m2) (ml := ml) (ex := ex) (h := h) (x := nI m) hh
          have c13' := c13 (mi := m2) (ml := ml) (ex := ex) (h := h) hh
          rw [q2.1, sFirstIn_hi (by decide)] at c18'
          rw [q2.1, sFreeShelf_hi (by decide)] at c13'
          obtain ⟨mi', g1, g2⟩ := ih (k + 1) (sPutT T q (nI x)) m2 w (by omega) (hx.tr q2)
          rw [nI_succ k] at g1
          have ek : k + ((sEmp (nI m) d (sPutT T q (nI x))).2 + 1) = k + 1 + (sEmp (nI m) d (sPutT T q (nI x))).2 := by omega
          simp only [ek]
          exact ⟨mi', r21_14 (fun c => absurd c hne) (fun _ => r21_19 (fun c => absurd c hne2) (fun _ => r21_25 (fun c => absurd c (n10_le hk)) (fun _ => r21_31 (pt_MR_h hh).1 rfl hq (pt_MR_p hh hq) q1 (r21_43 c18' (r21_51 c13' (r21_56 g1)))))), g2⟩
  have h0 : HX mi mi h (up1 (cs mi h) 103 (cs mi h 103 + nI 0)) := by
    rw [nI_0, Int32.add_zero, up1_self]
    exact HX.refl
  obtain ⟨mi', g1, g2⟩ := loop 10 0 (cs mi h) mi (cs mi h 103) rfl h0
  rw [Nat.zero_add] at g1 g2
  exact ⟨_, mi', r21_0 (c18 hh) (r21_7 (c13 hh) (r21_12 g1)), rfl, g2⟩
theorem c20 (hh : h < 9) : ∃ w mi', pt_Ca 20 [vR 2 h] (pt_MEM mi ml ex) (.inl (some (vI w)), pt_MEM mi' ml ex) ∧ w = (sAll (cs mi h)).2 ∧ HX mi mi' h (sAll (cs mi h)).1 := by
  have step : ∀ m T m1 a, m < 2 → HX mi m1 h T → ∃ m2, HX mi m2 h (sEnds T m).1 ∧ ∀ {o}, pt_Ev 20 none 4 [some (vR 2 h), some (vI (a + (sEnds T m).2)), some (vI (nI (m + 1)))] [] (pt_MEM m2 ml ex) o → pt_Ev 20 none 4 [some (vR 2 h), some (vI a), some (vI (nI m))] [] (pt_MEM m1 ml ex) o := by
    intro m T m1 a hm hx
    have hi := c29 (mi := m1) (ml := ml) (ex := ex) (h := h) hm
    have e1 := cs_m m1 h hm (j := 1) (by decide)
    rw [hx.1] at hi e1
    have e96 : m1 2 h 3 = T 96 := by rw [← hx.1]; rfl
    rw [nI_succ m]
    by_cases c : T (90 + 3 * m + 1) = -1 ∨ T 96 < T (90 + 3 * m + 1)
    · refine ⟨m1, by rw [sEnds, if_pos c]; exact hx, fun {o} k => ?_⟩
      rw [sEnds, if_pos c, Int32.add_zero] at k
      refine r20_4 (fun c => absurd c (n2_le hm)) (fun _ => r20_9 (pt_MR_h hh).2.1 rfl hm (pt_MR_m hh hm) hi (r20_18 (fun z => r20_21 (pt_MR_h hh).2.1 rfl hm (pt_MR_m hh hm) (fun _ => r20_45 k) (fun y => ?_)) (fun _ => r20_45 k)))
      rw [bI_eq0, sIdle, decide_eq_false_iff_not] at z
      rw [e1, e96] at y
      exact absurd c (fun x => x.elim z y)
    · obtain ⟨w, m2, q1, q2, q3⟩ := c21 (mi := m1) (ml := ml) (ex := ex) (h := h) (m := m) hh hm
      rw [hx.1] at q2 q3
      refine ⟨m2, by rw [sEnds, if_neg c]; exact hx.tr q3, fun {o} k => ?_⟩
      rw [sEnds, if_neg c, ← q2] at k
      refine r20_4 (fun c => absurd c (n2_le hm)) (fun _ => r20_9 (pt_MR_h hh).2.1 rfl hm (pt_MR_m hh hm) hi (r20_18 (fun z => r20_21 (pt_MR_h hh).2.1 rfl hm (pt_MR_m hh hm) (fun y => ?_) (fun _ => r20_37 q1 (r20_43 k))) (fun z => ?_)))
      · rw [e1, e96] at y
        exact absurd (Or.inr y) c
      · have z' : ¬ bI (sIdle T m) = 0 := z
        rw [bI_eq0, Bool.not_eq_false, sIdle, decide_eq_true_eq] at z'
        exact absurd (Or.inl z') c
  obtain ⟨m2, g1, k1⟩ := step 0 (cs mi h) mi 0 (by decide) HX.refl
  obtain ⟨m3, g2, k2⟩ := step 1 _ m2 (0 + (sEnds (cs mi h) 0).2) (by decide) g1
  refine ⟨_, m3, r20_0 (k1 (k2 (r20_4 (fun _ => r20_51) (fun c => absurd n2_le' c)))), ?_, g2⟩
  rw [Int32.zero_add]
  rfl
end
