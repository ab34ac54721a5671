/-! firstError and read on both sides. -/
theorem aI.zero {b : Nat → Int32} (h : aI b) (h0 : b 0 = 0) : b 4 = 0 := by
  rcases h with ⟨-, h⟩ | ⟨z, -⟩ | ⟨z, -⟩ | ⟨z, -⟩ | ⟨z, -⟩
  · exact h
  · rw [z] at h0; exact absurd h0 (by decide)
  · rw [z] at h0; exact absurd h0 (by decide)
  · rw [z] at h0; exact absurd h0 (by decide)
  · rw [z] at h0; exact absurd h0 (by decide)
theorem aBeg_0 (b : Nat → Int32) : aBeg b 0 = 0 ∧ aBeg b 4 = 0 := ⟨by unfold aBeg; rw [up1_ne _ _ (by decide), up1_eq], by unfold aBeg; rw [up1_eq]⟩
theorem adm_skip {X : Nat → Int32} {n : Nat} {g : Nat → Nat → Int32} {t : Nat} {S : Nat → Int32} (k : Nat) : ∀ d i, i + k ≤ n → (∀ u, i ≤ u → u < i + k → ¬ X u = 59) → adm X n g (d + k) i t S = adm X n g d (i + k) t S := by
  induction k with
  | zero => intro d i _ _; rfl
  | succ k ih =>
    intro d i hi hn
    have e : adm X n g (d + k + 1) i t S = adm X n g (d + k) (i + 1) t S := if_neg (fun z => z.elim (fun y => by omega) (hn i (Nat.le_refl _) (by omega)))
    rw [show d + (k + 1) = d + k + 1 from rfl, e, ih d (i + 1) (by omega) (fun u h1 h2 => hn u (by omega) (by omega)), show i + 1 + k = i + (k + 1) from by omega]
section
variable {mi : Nat → Nat → Nat → Int32} {ml : Nat → Nat → Nat → Int64} {ex : Nat} {S : Nat → Int32} {s : Nat} {H : Nat → Nat → Int32} {K : Nat → Bool} {T : Nat → Nat → Int32} {n : Nat} {X : Nat → Int32} {A P : Int} {a : Nat → Int32}
/-- gone through, nothing taken: where the scanner stops -/
theorem m127f (h7 : mi 9 0 7 = nI n) (hX : ∀ k, k < n → mi 17 0 k = X k) (hn : n ≤ 60) (hI : aI a) (h0 : a 0 = 0) :
    ∃ mi' v j b w, pt_Ca 127 [vR 9 0, vI 0] (pt_MEM mi ml ex) (.inl (some (vI v)), pt_MEM mi' ml ex) ∧ MP mi' n X j w ∧ ats X a j = some b ∧ (j = n ∨ accP b (X j) = none) ∧ (decide (j = n) && aEnd b) = !w ∧ FT 15 mi mi' := by
  have stop : ∀ m1 x2 u4, pt_Ev 127 none 14 [some (vR 9 0), some (vI 0), some (vI x2), some (vI 0), u4] [] (pt_MEM m1 ml ex) (.inl (some (vI x2)), pt_MEM m1 ml ex) := fun m1 x2 u4 => r127_14 (fun _ => r127_130) (fun z => absurd rfl z)
  have loop : ∀ d j b m1 cnt u4, n - j ≤ d → MP m1 n X j false → ats X a j = some b → b 0 = 0 → FT 15 mi m1 → ∃ mi' v j' b' w, pt_Ev 127 none 14 [some (vR 9 0), some (vI 0), some (vI cnt), some (vI 1), u4] [] (pt_MEM m1 ml ex) (.inl (some (vI v)), pt_MEM mi' ml ex) ∧ MP mi' n X j' w ∧ ats X a j' = some b' ∧ (j' = n ∨ accP b' (X j') = none) ∧ (decide (j' = n) && aEnd b') = !w ∧ FT 15 mi mi' := by
    intro d
    induction d with
    | zero =>
      intro j b m1 cnt u4 hd hp ha hb f
      have hbI := ats_I hI ha
      obtain ⟨m2, j2, b2, w, q1, q2, q3, q4, q5, q6⟩ := m126 (ml := ml) (ex := ex) hp ha hb (hbI.zero hb)
      have hjn : j2 ≤ n := q2.2.2.2.2.1
      rcases q6 with ⟨hw, he, -, hlt, -⟩ | ⟨hw, he, hno⟩
      · have := hp.2.2.2.2.1
        omega
      · subst hw
        have hne : ¬ j2 < n := by have := hp.2.2.2.2.1; omega
        refine ⟨m2, _, j2, b2, true, r127_14 (fun z => absurd z (by decide)) (fun _ => r127_18 q1 (r127_22 (fun z => absurd (by rw [← q2.2.2.2.1]; exact z) (bI_tn rfl)) (fun _ => r127_65 (fun _ => r127_76 (fun _ => r127_98 (fun _ => stop _ _ _) (fun z => absurd rfl z)) (fun z => absurd rfl z)) (fun z => absurd rfl z)))), q2, q3, Or.inl (by omega), by rw [he]; simp, f.tr q5⟩
    | succ d ih =>
      intro j b m1 cnt u4 hd hp ha hb f
      have hbI := ats_I hI ha
      obtain ⟨m2, j2, b2, w, q1, q2, q3, q4, q5, q6⟩ := m126 (ml := ml) (ex := ex) hp ha hb (hbI.zero hb)
      have hjn : j2 ≤ n := q2.2.2.2.2.1
      have q9 : m2 9 0 9 = bI w := q2.2.2.2.1
      rcases q6 with ⟨hw, he, -, hlt, hno59, hno⟩ | ⟨hw, he, hno⟩
      · subst hw
        have l78 : m2 9 0 7 = nI n ∧ m2 9 0 8 = nI j2 := ⟨q2.1, q2.2.2.1⟩
        have front : ∀ {o}, pt_Ev 127 none 83 [some (vR 9 0), some (vI 0), some (vI (cnt + 1)), some (vI 1), u4] [] (pt_MEM m2 ml ex) o → pt_Ev 127 none 14 [some (vR 9 0), some (vI 0), some (vI cnt), some (vI 1), u4] [] (pt_MEM m1 ml ex) o := fun kk => r127_14 (fun z => absurd z (by decide)) (fun _ => r127_18 q1 (r127_22 (fun _ => r127_29 (fun _ => r127_61 (fun z => absurd z (by decide)) (fun _ => r127_72 (fun z => absurd z (by decide)) (fun _ => kk))) (fun z => absurd rfl z)) (fun z => absurd (by rw [q9]; rfl) z)))
        by_cases c : j2 < n
        · have c2 : ¬ m2 9 0 7 ≤ m2 9 0 8 := by rw [l78.1, l78.2]; exact nI_ge c (by omega)
          cases hx : nx X n j2 false 59 59 with
          | true =>
            obtain ⟨m3, s1, s2, s3⟩ := m124y (ml := ml) (ex := ex) q2 hx
            have h59 := sIn3_eq.mp (nx_t hx).2
            have ha2 : ats X a (j2 + 1) = some (aBeg b2) := by rw [ats_s q3, h59]; exact accP_semi he
            obtain ⟨mi', v, j', b', w', w1, w2⟩ := ih (j2 + 1) (aBeg b2) m3 (cnt + 1) (some (vI (X j2 - 59))) (by omega) s2 ha2 (aBeg_0 _).1 ((f.tr q5).tr (s3.wd (by decide)))
            exact ⟨mi', v, j', b', w', front (r127_83 (fun z => absurd z c2) (fun _ => r127_94 (fun z => absurd z (by decide)) (fun _ => r127_104 s1 (r127_112 (fun _ => r127_121 w1) (fun z => absurd (by rw [s2.2.2.2.1]; rfl) z))))), w2⟩
          | false =>
            obtain ⟨m3, s1, s2, s3⟩ := m124n (ml := ml) (ex := ex) q2 hx
            have h59 : ¬ X j2 = 59 := fun z => by have := nx_f hx c; rw [sIn3_eq.mpr z] at this; simp at this
            refine ⟨m3, _, j2, b2, true, front (r127_83 (fun z => absurd z c2) (fun _ => r127_94 (fun z => absurd z (by decide)) (fun _ => r127_104 s1 (r127_112 (fun z => absurd (by rw [← s2.2.2.2.1]; exact z) (bI_tn rfl)) (fun _ => r127_125 (stop _ _ _)))))), s2, q3, Or.inr (hno c h59), ?_, (f.tr q5).tr (s3.wd (by decide))⟩
            have : ¬ j2 = n := by omega
            simp [this]
        · have e : j2 = n := by omega
          have c2 : m2 9 0 7 ≤ m2 9 0 8 := by rw [l78.1, l78.2, e]; exact nI_le (Nat.le_refl _) (by omega)
          exact ⟨m2, _, j2, b2, false, front (r127_83 (fun _ => r127_98 (fun _ => stop _ _ _) (fun z => absurd rfl z)) (fun z => absurd c2 z)), q2, q3, Or.inl e, by rw [he, e]; simp, f.tr q5⟩
      · subst hw
        refine ⟨m2, _, j2, b2, true, r127_14 (fun z => absurd z (by decide)) (fun _ => r127_18 q1 (r127_22 (fun z => absurd (by rw [← q9]; exact z) (bI_tn rfl)) (fun _ => r127_65 (fun _ => r127_76 (fun _ => r127_98 (fun _ => stop _ _ _) (fun z => absurd rfl z)) (fun z => absurd rfl z)) (fun z => absurd rfl z)))), q2, q3, ?_, by rw [he]; simp, f.tr q5⟩
        by_cases c : j2 < n
        · exact Or.inr (hno c)
        · exact Or.inl (by omega)
  have hp0 : MP (pt_up3 (pt_up3 mi 9 0 8 0) 9 0 9 0) n X 0 false := ⟨(up3_j _ _ (by decide)).trans ((up3_j _ _ (by decide)).trans h7), fun k hk => (up3_c _ _ (by decide)).trans ((up3_c _ _ (by decide)).trans (hX k hk)), (up3_j _ _ (by decide)).trans ((up3_eq _ _ _ _ _).trans nI_0.symm), up3_eq _ _ _ _ _, Nat.zero_le _, hn⟩
  obtain ⟨mi', v, j', b', w', w1, w2⟩ := loop n 0 a (pt_up3 (pt_up3 mi 9 0 8 0) 9 0 9 0) 0 none (by omega) hp0 rfl h0 ((FT.rfl'.up (k := 8) (by decide) (by decide)).up (k := 9) (by decide) (by decide))
  exact ⟨mi', v, j', b', w', r127_0 w1, w2⟩
def Fr2 (mi mi' : Nat → Nat → Nat → Int32) : Prop := ∀ c m k, ¬ (c = 9 ∧ 8 ≤ k ∧ k < 15) → c ≠ 14 → mi' c m k = mi c m k
/-- gone through, the piles taken in -/
theorem m127t {bn : Nat → Int32} (h7 : mi 9 0 7 = nI n) (hX : ∀ k, k < n → mi 17 0 k = X k) (hn : n ≤ 60) (hI : aI a) (h0 : a 0 = 0) (hall : ats X a n = some bn) (hend : aEnd bn = true) :
    ∃ mi', pt_Ca 127 [vR 9 0, vI 1] (pt_MEM mi ml ex) (.inl (some (vI (nI (adm X n (aG X a) (n + 1) 0 0 (ms mi)).1))), pt_MEM mi' ml ex) ∧ ms mi' = (adm X n (aG X a) (n + 1) 0 0 (ms mi)).2 ∧ Fr2 mi mi' := by
  have stop : ∀ m1 x2 u4, pt_Ev 127 none 14 [some (vR 9 0), some (vI 1), some (vI x2), some (vI 0), u4] [] (pt_MEM m1 ml ex) (.inl (some (vI x2)), pt_MEM m1 ml ex) := fun m1 x2 u4 => r127_14 (fun _ => r127_130) (fun z => absurd rfl z)
  have fr2 : ∀ {x y : Nat → Nat → Nat → Int32}, FT 15 x y → Fr2 x y := fun h c m k hk _ => h c m k hk
  have fr2t : ∀ {x y z : Nat → Nat → Nat → Int32}, Fr2 x y → Fr2 y z → Fr2 x z := fun h1 h2 c m k hk hc => (h2 c m k hk hc).trans (h1 c m k hk hc)
  have msT : ∀ {t : Nat} {x y : Nat → Nat → Nat → Int32}, FT t x y → ms y = ms x := by
    intro t x y h
    funext k
    unfold ms rw6
    split
    · exact h _ _ _ (fun z => absurd z.1 (by decide))
    · rfl
  have loop : ∀ d j b m1 t u4, n - j ≤ d → MP m1 n X j false → ats X a j = some b → b 0 = 0 → Fr2 mi m1 → ∃ mi', pt_Ev 127 none 14 [some (vR 9 0), some (vI 1), some (vI (nI t)), some (vI 1), u4] [] (pt_MEM m1 ml ex) (.inl (some (vI (nI (adm X n (aG X a) (n + 1 - j) j t (ms m1)).1))), pt_MEM mi' ml ex) ∧ ms mi' = (adm X n (aG X a) (n + 1 - j) j t (ms m1)).2 ∧ Fr2 mi mi' := by
    intro d
    induction d with
    | zero =>
      intro j b m1 t u4 hd hp ha hb f
      have hbI := ats_I hI ha
      have hj : j = n := by have := hp.2.2.2.2.1; omega
      subst hj
      rw [ha, Option.some.injEq] at hall
      subst hall
      unfold aEnd at hend
      rw [hb] at hend
      exact absurd hend (by simp)
    | succ d ih =>
      intro j b m1 t u4 hd hp ha hb f
      have hbI := ats_I hI ha
      obtain ⟨m2, j2, b2, w, q1, q2, q3, q4, q5, q6⟩ := m126 (ml := ml) (ex := ex) hp ha hb (hbI.zero hb)
      have hjn : j2 ≤ n := q2.2.2.2.2.1
      have q9 : m2 9 0 9 = bI w := q2.2.2.2.1
      have hS : ms m2 = ms m1 := msT q5
      rcases q6 with ⟨hw, he, ⟨v1, v2, v3, v4, v5⟩, hlt, hno59, hno⟩ | ⟨hw, he, hno⟩
      · subst hw
        -- up to the pile's end nothing is taken in
        have eskip : adm X n (aG X a) (n + 1 - j) j t (ms m1) = adm X n (aG X a) (n + 1 - j2) j2 t (ms m1) := by
          have := adm_skip (X := X) (n := n) (g := aG X a) (t := t) (S := ms m1) (j2 - j) (n + 1 - j2) j (by omega) (fun u h1 h2 => hno59 u h1 (by omega))
          rw [show n + 1 - j2 + (j2 - j) = n + 1 - j from by omega, show j + (j2 - j) = j2 from by omega] at this
          exact this
        have hc : j2 = n ∨ X j2 = 59 := by
          by_cases c : j2 < n
          · refine Or.inr ?_
            apply Classical.byContradiction
            intro h59
            obtain ⟨b3, b4, e1, e2, -⟩ := ats_lt hall c
            rw [q3, Option.some.injEq] at e1
            subst e1
            rw [hno c h59] at e2
            simp at e2
          · exact Or.inl (by omega)
        have eone : adm X n (aG X a) (n + 1 - j2) j2 t (ms m1) = (if (aTk (ms m1) b2).1 = -1 then (t, (aTk (ms m1) b2).2) else adm X n (aG X a) (n - j2) (j2 + 1) (t + 1) (aTk (ms m1) b2).2) := by
          rw [show n + 1 - j2 = n - j2 + 1 from by omega]
          rw [adm, if_pos hc, aG_e q3]
        rw [eskip, eone]
        obtain ⟨r, m3, s1, s2, s3⟩ := m113 (mi := m2) (ml := ml) (ex := ex) (x1 := m2 9 0 10) (x2 := m2 9 0 11) (x3 := m2 9 0 12) (x4 := m2 9 0 13) (x5 := m2 9 0 14)
        rw [v1, v2, v3, v4, v5, hS] at s2 s3
        have s2' : r = (aTk (ms m1) b2).1 := s2
        have s3' : MX m2 m3 (aTk (ms m1) b2).2 := s3
        have l7 : m3 9 0 7 = nI n := (s3.2 9 0 7 (by decide)).trans q2.1
        have l8 : m3 9 0 8 = nI j2 := (s3.2 9 0 8 (by decide)).trans q2.2.2.1
        have f3 : Fr2 mi m3 := fr2t (fr2t f (fr2 q5)) (fun c m k _ hc => s3.2 c m k (fun z => hc (List.mem_singleton.mp z)))
        have hp3 : MP m3 n X j2 false := ⟨l7, fun k hk => (s3.2 17 0 k (by decide)).trans (q2.2.1 k hk), l8, (s3.2 9 0 9 (by decide)).trans q9, hjn, hn⟩
        have front : ∀ {o}, pt_Ev 127 none 57 [some (vR 9 0), some (vI 1), some (vI (nI t)), some (vI 1), u4] [vI r] (pt_MEM m3 ml ex) o → pt_Ev 127 none 14 [some (vR 9 0), some (vI 1), some (vI (nI t)), some (vI 1), u4] [] (pt_MEM m1 ml ex) o := fun kk => r127_14 (fun z => absurd z (by decide)) (fun _ => r127_18 q1 (r127_22 (fun _ => r127_29 (fun z => absurd z (by decide)) (fun _ => r127_33 s1 kk)) (fun z => absurd (by rw [q9]; rfl) z)))
        by_cases hr : (aTk (ms m1) b2).1 = -1
        · rw [if_pos hr]
          refine ⟨m3, front (r127_57 (fun _ => r127_65 (fun _ => r127_76 (fun _ => r127_98 (fun _ => ?_) (fun z => absurd rfl z)) (fun z => absurd rfl z)) (fun z => absurd rfl z)) (fun z => absurd (s2'.trans hr) z)), s3'.1, f3⟩
          have := stop m3 (nI t + 0) u4
          rw [Int32.add_zero] at this ⊢
          exact this
        · rw [if_neg hr]
          have front2 : ∀ {o}, pt_Ev 127 none 83 [some (vR 9 0), some (vI 1), some (vI (nI t + 1)), some (vI 1), u4] [] (pt_MEM m3 ml ex) o → pt_Ev 127 none 14 [some (vR 9 0), some (vI 1), some (vI (nI t)), some (vI 1), u4] [] (pt_MEM m1 ml ex) o := fun kk => front (r127_57 (fun z => absurd (s2'.symm.trans z) hr) (fun _ => r127_61 (fun z => absurd z (by decide)) (fun _ => r127_72 (fun z => absurd z (by decide)) (fun _ => kk))))
          by_cases c : j2 < n
          · have h59 := hc.resolve_left (by omega)
            have c2 : ¬ m3 9 0 7 ≤ m3 9 0 8 := by rw [l7, l8]; exact nI_ge c (by omega)
            have hx : nx X n j2 false 59 59 = true := by
              have := sIn3_eq.mpr h59
              simp [nx, c, this]
            obtain ⟨m4, y1, y2, y3⟩ := m124y (ml := ml) (ex := ex) hp3 hx
            have ha2 : ats X a (j2 + 1) = some (aBeg b2) := by rw [ats_s q3, h59]; exact accP_semi he
            obtain ⟨mi', w1, w2, w3⟩ := ih (j2 + 1) (aBeg b2) m4 (t + 1) (some (vI (X j2 - 59))) (by omega) y2 ha2 (aBeg_0 _).1 (fr2t f3 (fr2 (y3.wd (by decide))))
            rw [msT y3, s3'.1, show n + 1 - (j2 + 1) = n - j2 from by omega] at w1 w2
            rw [nI_succ t] at w1
            exact ⟨mi', front2 (r127_83 (fun z => absurd z c2) (fun _ => r127_94 (fun z => absurd z (by decide)) (fun _ => r127_104 y1 (r127_112 (fun _ => r127_121 w1) (fun z => absurd (by rw [y2.2.2.2.1]; rfl) z))))), w2, w3⟩
          · have e : j2 = n := by omega
            have c2 : m3 9 0 7 ≤ m3 9 0 8 := by rw [l7, l8, e]; exact nI_le (Nat.le_refl _) (by omega)
            have ea : adm X n (aG X a) (n - j2) (j2 + 1) (t + 1) (aTk (ms m1) b2).2 = (t + 1, (aTk (ms m1) b2).2) := by rw [show n - j2 = 0 from by omega, adm]
            rw [ea]
            refine ⟨m3, front2 (r127_83 (fun _ => r127_98 (fun _ => ?_) (fun z => absurd rfl z)) (fun z => absurd c2 z)), s3'.1, f3⟩
            rw [nI_succ t]
            exact stop _ _ _
      · -- an error is none here
        subst hw
        by_cases c : j2 < n
        · obtain ⟨b3, b4, e1, e2, -⟩ := ats_lt hall c
          rw [q3, Option.some.injEq] at e1
          subst e1
          rw [hno c] at e2
          simp at e2
        · have e : j2 = n := by omega
          subst e
          rw [q3, Option.some.injEq] at hall
          subst hall
          rw [he] at hend
          simp at hend
  have hp0 : MP (pt_up3 (pt_up3 mi 9 0 8 0) 9 0 9 0) n X 0 false := ⟨(up3_j _ _ (by decide)).trans ((up3_j _ _ (by decide)).trans h7), fun k hk => (up3_c _ _ (by decide)).trans ((up3_c _ _ (by decide)).trans (hX k hk)), (up3_j _ _ (by decide)).trans ((up3_eq _ _ _ _ _).trans nI_0.symm), up3_eq _ _ _ _ _, Nat.zero_le _, hn⟩
  have f0 : FT 15 mi (pt_up3 (pt_up3 mi 9 0 8 0) 9 0 9 0) := (FT.rfl'.up (k := 8) (by decide) (by decide)).up (k := 9) (by decide) (by decide)
  obtain ⟨mi', w1, w2, w3⟩ := loop n 0 a _ 0 none (by omega) hp0 rfl h0 (fr2 f0)
  rw [msT f0, Nat.sub_zero] at w1 w2
  rw [nI_0] at w1
  exact ⟨mi', r127_0 w1, w2, w3⟩
end
