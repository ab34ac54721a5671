/-! Emptying, in the model. -/
section
variable {mi : Nat → Nat → Nat → Int32} {ml : Nat → Nat → Nat → Int64} {ex p m : Nat}
theorem m111 (hm : m < 2) (g : GSh (ms mi)) (hne : ¬ ms mi (90 + 3 * m + 1) = -1 → ¬ sFirstIn (ms mi) (nI m) = none) : ∃ w mi', pt_Ca 111 [vR 9 0, vI (nI m)] (pt_MEM mi ml ex) (.inl (some (vI w)), pt_MEM mi' ml ex) ∧ w = (sEnds (ms mi) m).2 ∧ MX mi mi' (sEnds (ms mi) m).1 := by
  have exit : ∀ k T m1 u, MX mi m1 T → ∃ mi', pt_Ev 111 none 127 [some (vR 9 0), some (vI (nI m)), some (vI (nI k)), u] [] (pt_MEM m1 ml ex) (.inl (some (vI (nI k))), pt_MEM mi' ml ex) ∧ MX mi mi' (if sFirstIn T (nI m) = none then up1 (up1 T 103 (T 103 + nI k)) (90 + 3 * m + 1) (-1) else up1 T 103 (T 103 + nI k)) := by
    intro k T m1 u hx
    have e103 : m1 14 0 103 = T 103 := by rw [ms_e m1 (by omega), hx.1]
    have hx2 : MX mi (pt_up3 m1 14 0 103 (m1 14 0 103 + nI k)) (up1 T 103 (T 103 + nI k)) := by
      rw [e103]
      exact hx.w (by omega)
    have rule := @r111_127 m1 ml ex (nI m) (nI k) u
    revert rule hx2
    generalize pt_up3 m1 14 0 103 (m1 14 0 103 + nI k) = m2
    intro hx2 rule
    have call := m109 (mi := m2) (ml := ml) (ex := ex) (x := nI m)
    rw [hx2.1, sFirstIn_hi (by decide)] at call
    cases hf : sFirstIn T (nI m) with
    | none =>
      rw [hf] at call
      refine ⟨_, rule (m91 (j := 1) hm (by decide) (by decide)) (r111_147 call (r111_152 (fun _ => r111_156 rfl (by omega)) (fun c => absurd rfl c))), ?_⟩
      rw [if_pos rfl]
      exact hx2.w (by omega)
    | some q =>
      rw [hf] at call
      refine ⟨_, rule (m91 (j := 1) hm (by decide) (by decide)) (r111_147 call (r111_152 (fun c => absurd c (oI_ne rfl (fun q' hq' => sFirstIn_q q' (hf.trans hq')))) (fun _ => r111_160 (m91 (j := 1) hm (by decide) (by decide)) (r111_169 rfl (by omega) rfl (by omega))))), ?_⟩
      rw [if_neg (by simp), ← up1_self (up1 T 103 (T 103 + nI k)) (90 + 3 * m + 1), ← hx2.1, ← ms_e m2 (by omega), hx2.1]
      exact hx2.w (by omega)
  have e1 : mi 14 0 (90 + 3 * m + 1) = ms mi (90 + 3 * m + 1) := ms_e mi (by omega)
  by_cases c : ms mi (90 + 3 * m + 1) = -1 ∨ ms mi 96 < ms mi (90 + 3 * m + 1)
  · -- it has not ended
    rw [sEnds, if_pos c]
    obtain ⟨mi', g1, g2⟩ := exit 0 (ms mi) mi none MX.refl
    refine ⟨_, mi', r111_0 (r111_2 (m104 hm) (r111_7 (fun z => r111_10 (m91 (j := 1) hm (by decide) (by decide)) (r111_19 rfl (by omega) (fun _ => g1) (fun y => ?_))) (fun _ => g1))), rfl, ?_⟩
    · rw [bI_eq0, sIdle, decide_eq_false_iff_not] at z
      rw [e1, ms_e mi (by omega)] at y
      exact absurd c (fun x => x.elim z y)
    · rw [nI_0, Int32.add_zero, up1_self] at g2
      by_cases hf : sFirstIn (ms mi) (nI m) = none
      · rw [if_pos hf] at g2
        have hE : ms mi (90 + 3 * m + 1) = -1 := Classical.not_not.mp (fun z => hne z hf)
        have e := up1_self (ms mi) (90 + 3 * m + 1)
        rw [hE] at e
        rw [e] at g2
        exact g2
      · rw [if_neg hf] at g2
        exact g2
  · rw [sEnds, if_neg c]
    have cE : ¬ ms mi (90 + 3 * m + 1) = -1 := fun z => c (Or.inl z)
    have cC : ¬ ms mi 96 < ms mi (90 + 3 * m + 1) := fun z => c (Or.inr z)
    have loop : ∀ d k T m1 u, MX mi m1 T → GSh T → T (90 + 3 * m + 1) = ms mi (90 + 3 * m + 1) → T 96 = ms mi 96 → T 103 = ms mi 103 → cnt (fun q => sAt T q 1 (nI m)) 10 ≤ d → ∃ mi', pt_Ev 111 none 2 [some (vR 9 0), some (vI (nI m)), some (vI (nI k)), u] [] (pt_MEM m1 ml ex) (.inl (some (vI (nI (k + (sEmp (nI m) d T).2)))), pt_MEM mi' ml ex) ∧ MX mi mi' (sFin m (sEmp (nI m) d T).1 (ms mi 103 + nI (k + (sEmp (nI m) d T).2))) := by
      intro d
      induction d with
      | zero =>
        intro k T m1 u hx gT tE tC tP hcnt
        have hnone : sFirstIn T (nI m) = none := by
          cases hf : sFirstIn T (nI m) with
          | none => rfl
          | some q =>
            have hq := sFirst_lt _ _ hf
            have := cnt_put (x := 0) hq.1 hq.2
            omega
        obtain ⟨mi', g1, g2⟩ := exit k T m1 u hx
        have e1' : m1 14 0 (90 + 3 * m + 1) = T (90 + 3 * m + 1) := by rw [ms_e m1 (by omega), hx.1]
        have e96' : m1 14 0 96 = T 96 := by rw [ms_e m1 (by omega), hx.1]
        have i104 := m104 (mi := m1) (ml := ml) (ex := ex) hm
        have i109 := m109 (mi := m1) (ml := ml) (ex := ex) (x := nI m)
        rw [hx.1] at i104 i109
        rw [hnone] at i109
        refine ⟨mi', r111_2 i104 (r111_7 (fun z => r111_10 (m91 (j := 1) hm (by decide) (by decide)) (r111_19 rfl (by omega) (fun y => ?_) (fun _ => r111_30 i109 (r111_35 (fun _ => g1) (fun c => absurd rfl c))))) (fun z => ?_)), ?_⟩
        · rw [e1', e96', tE, tC] at y
          exact absurd y cC
        · rw [bI_eq0, Bool.not_eq_false, sIdle, decide_eq_true_eq, tE] at z
          exact absurd z cE
        · rw [tP] at g2
          exact g2
      | succ d ih =>
        intro k T m1 u hx gT tE tC tP hcnt
        have e1' : m1 14 0 (90 + 3 * m + 1) = T (90 + 3 * m + 1) := by rw [ms_e m1 (by omega), hx.1]
        have e96' : m1 14 0 96 = T 96 := by rw [ms_e m1 (by omega), hx.1]
        have i104 := m104 (mi := m1) (ml := ml) (ex := ex) hm
        have i109 := m109 (mi := m1) (ml := ml) (ex := ex) (x := nI m)
        have i108 := m108 (mi := m1) (ml := ml) (ex := ex)
        rw [hx.1] at i104 i109 i108
        rw [mFreeShelf_same gT] at i108
        obtain ⟨mi', g1, g2⟩ := exit k T m1 u hx
        rw [tP] at g2
        have start : ∀ {o}, pt_Ev 111 none 30 [some (vR 9 0), some (vI (nI m)), some (vI (nI k)), u] [] (pt_MEM m1 ml ex) o → pt_Ev 111 none 2 [some (vR 9 0), some (vI (nI m)), some (vI (nI k)), u] [] (pt_MEM m1 ml ex) o := by
          intro o kk
          refine r111_2 i104 (r111_7 (fun z => r111_10 (m91 (j := 1) hm (by decide) (by decide)) (r111_19 rfl (by omega) (fun y => ?_) (fun _ => kk))) (fun z => ?_))
          · rw [e1', e96', tE, tC] at y
            exact absurd y cC
          · rw [bI_eq0, Bool.not_eq_false, sIdle, decide_eq_true_eq, tE] at z
            exact absurd z cE
        cases hf : sFirstIn T (nI m) with
        | none =>
          rw [hf] at i109
          rw [sEmp_1 hf]
          exact ⟨mi', start (r111_30 i109 (r111_35 (fun _ => g1) (fun c => absurd rfl c))), g2⟩
        | some q =>
          have hq := sFirst_lt _ _ hf
          have hq9 : q < 10 := hq.1
          have hh := sAt_here hq.2
          have hne : ¬ oI (some q) = -1 := oI_ne rfl (fun q' hq' => sFirstIn_q q' (hf.trans hq'))
          rw [hf] at i109
          cases hs : sFreeShelf T with
          | none =>
            rw [hs] at i108
            rw [sEmp_2 hs]
            exact ⟨mi', start (r111_30 i109 (r111_35 (fun c => absurd c hne) (fun _ => r111_39 i108 (r111_43 (fun _ => g1) (fun c => absurd rfl c))))), g2⟩
          | some x =>
            have hne2 : ¬ oI (some x) = -1 := oI_ne rfl (fun q' hq' => sFree_q q' (hs.trans hq'))
            rw [hs] at i108
            rw [sEmp_3 hf hs]
            have hx3 : MX mi (pt_up3 (pt_up3 (pt_up3 m1 14 0 (9 * q + 7) (nI x)) 14 0 (9 * q + 6) 2) 14 0 (9 * q + 8) ((pt_up3 (pt_up3 m1 14 0 (9 * q + 7) (nI x)) 14 0 (9 * q + 6) 2) 14 0 96)) (up1 (up1 (up1 T (9 * q + 6) 2) (9 * q + 7) (nI x)) (9 * q + 8) (T 96)) := by
              have e : (pt_up3 (pt_up3 m1 14 0 (9 * q + 7) (nI x)) 14 0 (9 * q + 6) 2) 14 0 96 = T 96 := by
                rw [up3_j _ _ (by omega), up3_j _ _ (by omega), e96']
              rw [e, up1_comm T 2 (nI x) (show 9 * q + 6 ≠ 9 * q + 7 by omega)]
              exact ((hx.w (by omega)).w (by omega)).w (by omega)
            have go : ∀ {o}, pt_Ev 111 none 90 [some (vR 9 0), some (vI (nI m)), some (vI (nI k)), some (vI (nI q))] [vI (nI (9 * q + 8)), vR 14 0] (pt_MEM (pt_up3 (pt_up3 m1 14 0 (9 * q + 7) (nI x)) 14 0 (9 * q + 6) 2) ml ex) o → pt_Ev 111 none 2 [some (vR 9 0), some (vI (nI m)), some (vI (nI k)), u] [] (pt_MEM m1 ml ex) o := by
              intro o kk
              exact start (r111_30 i109 (r111_35 (fun c => absurd c hne) (fun _ => r111_39 i108 (r111_43 (fun c => absurd c hne2) (fun _ => r111_47 i109 (r111_52 (m90 (j := 7) hq9 (by decide) (by decide)) (r111_63 i108 (r111_67 rfl (by omega) (m90 (j := 6) hq9 (by decide) (by decide)) (r111_78 rfl (by omega) (m90 (j := 8) hq9 (by decide) (by decide)) kk)))))))))
            have r90 : ∀ {o}, pt_Ev 111 none 111 [some (vR 9 0), some (vI (nI m)), some (vI (nI k)), some (vI (nI q))] [vI (bI (sLate (up1 (up1 (up1 T (9 * q + 6) 2) (9 * q + 7) (nI x)) (9 * q + 8) (T 96)) q)), vI (T 100), vI 100, vR 14 0] (pt_MEM (pt_up3 (pt_up3 (pt_up3 m1 14 0 (9 * q + 7) (nI x)) 14 0 (9 * q + 6) 2) 14 0 (9 * q + 8) ((pt_up3 (pt_up3 m1 14 0 (9 * q + 7) (nI x)) 14 0 (9 * q + 6) 2) 14 0 96)) ml ex) o → pt_Ev 111 none 90 [some (vR 9 0), some (vI (nI m)), some (vI (nI k)), some (vI (nI q))] [vI (nI (9 * q + 8)), vR 14 0] (pt_MEM (pt_up3 (pt_up3 m1 14 0 (9 * q + 7) (nI x)) 14 0 (9 * q + 6) 2) ml ex) o := by
              intro o kk
              have i110 := m110 (mi := pt_up3 (pt_up3 (pt_up3 m1 14 0 (9 * q + 7) (nI x)) 14 0 (9 * q + 6) 2) 14 0 (9 * q + 8) ((pt_up3 (pt_up3 m1 14 0 (9 * q + 7) (nI x)) 14 0 (9 * q + 6) 2) 14 0 96)) (ml := ml) (ex := ex) hq9
              have e100 : (pt_up3 (pt_up3 (pt_up3 m1 14 0 (9 * q + 7) (nI x)) 14 0 (9 * q + 6) 2) 14 0 (9 * q + 8) ((pt_up3 (pt_up3 m1 14 0 (9 * q + 7) (nI x)) 14 0 (9 * q + 6) 2) 14 0 96)) 14 0 100 = T 100 := by
                rw [up3_j _ _ (by omega), up3_j _ _ (by omega), up3_j _ _ (by omega), ms_e m1 (by omega), hx.1]
              rw [hx3.1] at i110
              exact r111_90 rfl (by omega) i110 (by rw [e100]; exact kk)
            revert hx3 r90
            generalize pt_up3 (pt_up3 (pt_up3 m1 14 0 (9 * q + 7) (nI x)) 14 0 (9 * q + 6) 2) 14 0 (9 * q + 8) ((pt_up3 (pt_up3 m1 14 0 (9 * q + 7) (nI x)) 14 0 (9 * q + 6) 2) 14 0 96) = m3
            intro hx3 r90
            have hlate : sLate (up1 (up1 (up1 T (9 * q + 6) 2) (9 * q + 7) (nI x)) (9 * q + 8) (T 96)) q = decide (¬ T 96 ≤ T (9 * q + 4)) := by
              unfold sLate
              rw [up1_ne _ _ (show 9 * q + 6 ≠ 9 * q + 8 by omega), up1_ne _ _ (show 9 * q + 6 ≠ 9 * q + 7 by omega), up1_eq, up1_eq, up1_ne _ _ (show 9 * q + 4 ≠ 9 * q + 8 by omega), up1_ne _ _ (show 9 * q + 4 ≠ 9 * q + 7 by omega), up1_ne _ _ (show 9 * q + 4 ≠ 9 * q + 6 by omega), show decide ((2 : Int32) = 2) = true from by decide, Bool.true_and]
            rw [hlate] at r90
            have hx4 : MX mi (pt_up3 m3 14 0 100 (if T 96 ≤ T (9 * q + 4) then T 100 else T 100 + 1)) (sPutT T q (nI x)) := hx3.w (by omega)
            have hcnt2 := cnt_put (x := nI x) hq9 hq.2
            obtain ⟨mi2, g3, g4⟩ := ih (k + 1) (sPutT T q (nI x)) (pt_up3 m3 14 0 100 (if T 96 ≤ T (9 * q + 4) then T 100 else T 100 + 1)) (some (vI (nI q))) hx4 (GSh_put gT hq9 hh hs) (by rw [sPutT_hi hq9 (by omega) (by omega), tE]) (by rw [sPutT_hi hq9 (by omega) (by omega), tC]) (by rw [sPutT_hi hq9 (by omega) (by omega), tP]) (by omega)
            rw [nI_succ k] at g3
            have ek : k + ((sEmp (nI m) d (sPutT T q (nI x))).2 + 1) = k + 1 + (sEmp (nI m) d (sPutT T q (nI x))).2 := by omega
            simp only [ek]
            refine ⟨mi2, go (r90 (r111_111 (fun z => r111_118 (p5 := 100) (by decide +kernel) (by omega) ?_) (fun z => r111_114 (p5 := 100) (by decide +kernel) (by omega) ?_))), g4⟩
            · rw [bI_eq0, decide_eq_false_iff_not, Classical.not_not] at z
              rw [if_pos z] at g3
              rw [Int32.add_zero]
              exact g3
            · rw [bI_eq0, Bool.not_eq_false, decide_eq_true_eq] at z
              rw [if_neg z] at g3
              exact g3
    obtain ⟨mi', g1, g2⟩ := loop 10 0 (ms mi) mi none MX.refl g rfl rfl rfl (cnt_le _ _)
    rw [Nat.zero_add] at g1 g2
    exact ⟨_, mi', r111_0 g1, rfl, g2⟩
end
