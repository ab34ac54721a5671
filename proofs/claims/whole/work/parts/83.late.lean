/-! The fewest late: the model, and both sides' call. -/
theorem bt_nI {m i : Nat} (hi : i < 32) : bt (nI m) i = m.testBit i := by
  unfold bt nI
  show (BitVec.ofNat 32 m).getLsbD i = _
  rw [BitVec.getLsbD_ofNat]
  simp [hi]
theorem Can.cg {c : Nat} {t d : Nat → Nat} {U V : Nat → Bool} {n : Nat} (h : Can c t d U n) (e : ∀ q, q < n → V q = U q) : Can c t d V n := fun i hi hv => by
  have : sg (wt (fun q => V q && decide (d q ≤ d i)) t) n = sg (wt (fun q => U q && decide (d q ≤ d i)) t) n := sg_congr (fun q hq => wt_cg (by simp only [e q hq]))
  rw [this]
  exact h i hi (by rw [← e i hi]; exact hv)
theorem sub_iff {x y : Int32} : (x &&& (y ^^^ (-1))) = 0 ↔ ∀ i, i < 32 → bt x i = true → bt y i = true := by
  constructor
  · intro h i hi hx
    have := b_and x (y ^^^ (-1)) i
    rw [h, b_0, b_xor, b_m1 i hi, hx] at this
    simpa using this.symm
  · intro h
    refine b_ext (fun i hi => ?_)
    rw [b_and, b_xor, b_m1 i hi, b_0]
    cases hx : bt x i with
    | false => rfl
    | true => rw [h i hi hx]; rfl
theorem bit_bI {x : Int32} {p : Nat} (hp : p < 32) : ((x >>> (nI p &&& 31)) &&& 1) = bI (bt x p) := by
  cases h : bt x p with
  | true => exact (bit_iff hp).mpr h
  | false =>
    refine b_ext (fun i hi => ?_)
    rw [b_and, bt_one i hi]
    by_cases c : i = 0
    · subst c
      rw [b_sshr p hp x (by omega), if_pos (by omega), Nat.add_zero, h]
      decide
    · simp [c, bI, b_0]
section
variable {mi : Nat → Nat → Nat → Int32} {ml : Nat → Nat → Nat → Int64} {ex : Nat} {L : Nat → Nat} {n : Nat} {S : Nat → Int32}
theorem m146 {x : Int32} (hS : ms mi = S) (f : FO S) (hw : ∀ i, i < 32 → bt x i = true → i < 10 ∧ sW S i = true) (hex : ∃ i, i < 10 ∧ bt x i = true) : ∃ e, e < 10 ∧ bt x e = true ∧ (∀ q, q < 10 → bt x q = true → dS S e ≤ dS S q) ∧ pt_Ca 146 [vR 9 0, vI x] (pt_MEM mi ml ex) (.inl (some (vI (nI e))), pt_MEM mi ml ex) := by
  have loop : ∀ d p, p + d = 10 → ∀ r u4, (∀ q, r = some q → q < p ∧ bt x q = true ∧ ∀ i, i < p → bt x i = true → dS S q ≤ dS S i) → (r = none → ∀ i, i < p → bt x i = false) → ∃ e, e < 10 ∧ bt x e = true ∧ (∀ q, q < 10 → bt x q = true → dS S e ≤ dS S q) ∧ pt_Ev 146 none 4 [some (vR 9 0), some (vI x), some (vI (oI r)), some (vI (nI p)), u4] [] (pt_MEM mi ml ex) (.inl (some (vI (nI e))), pt_MEM mi ml ex) := by
    intro d
    induction d with
    | zero =>
      intro p hp r u4 h1 h2
      have hp' : p = 10 := hp
      subst hp'
      cases r with
      | none =>
        obtain ⟨i, i1, i2⟩ := hex
        rw [h2 rfl i i1] at i2
        simp at i2
      | some q =>
        obtain ⟨q1, q2, q3⟩ := h1 q rfl
        exact ⟨q, q1, q2, q3, r146_4 (fun _ => r146_71) (fun c => absurd n10_le' c)⟩
    | succ d ih =>
      intro p hpd r u4 h1 h2
      have hp : p < 10 := by omega
      have keep : ∀ (hk : (∀ q, r = some q → ∀ i, i < p + 1 → bt x i = true → dS S q ≤ dS S i) ∧ (r = none → bt x p = false)), ∃ e, e < 10 ∧ bt x e = true ∧ (∀ q, q < 10 → bt x q = true → dS S e ≤ dS S q) ∧ ∀ u4, pt_Ev 146 none 51 [some (vR 9 0), some (vI x), some (vI (oI r)), some (vI (nI p)), u4] [] (pt_MEM mi ml ex) (.inl (some (vI (nI e))), pt_MEM mi ml ex) := by
        intro hk
        obtain ⟨e, e1, e2, e3, e4⟩ := ih (p + 1) (by omega) r (some (vI 0)) (fun q hq => ⟨by have := (h1 q hq).1; omega, (h1 q hq).2.1, hk.1 q hq⟩) (fun hr i hi => by
          by_cases c : i = p
          · rw [c]; exact hk.2 hr
          · exact h2 hr i (by omega))
        rw [nI_succ] at e4
        exact ⟨e, e1, e2, e3, fun u4 => r146_51 (fun _ => r146_63 e4) (fun z => absurd rfl z)⟩
      have take : ∀ (hk : bt x p = true ∧ ∀ i, i < p → bt x i = true → dS S p ≤ dS S i), ∃ e, e < 10 ∧ bt x e = true ∧ (∀ q, q < 10 → bt x q = true → dS S e ≤ dS S q) ∧ ∀ x2 u4, pt_Ev 146 none 47 [some (vR 9 0), some (vI x), some (vI x2), some (vI (nI p)), u4] [] (pt_MEM mi ml ex) (.inl (some (vI (nI e))), pt_MEM mi ml ex) := by
        intro hk
        obtain ⟨e, e1, e2, e3, e4⟩ := ih (p + 1) (by omega) (some p) (some (vI 1)) (fun q hq => by
          simp only [Option.some.injEq] at hq
          subst hq
          refine ⟨by omega, hk.1, fun i hi hb => ?_⟩
          by_cases c : i = p
          · rw [c]; exact Nat.le_refl _
          · exact hk.2 i (by omega) hb) (fun hr => by simp at hr)
        rw [nI_succ] at e4
        exact ⟨e, e1, e2, e3, fun x2 u4 => r146_47 (fun z => absurd z (by decide)) (fun _ => r146_59 e4)⟩
      by_cases hb : bt x p = true
      · cases r with
        | none =>
          obtain ⟨e, e1, e2, e3, e4⟩ := take ⟨hb, fun i hi hbi => by rw [h2 rfl i hi] at hbi; simp at hbi⟩
          exact ⟨e, e1, e2, e3, r146_4 (fun c => absurd c (n10_le hp)) (fun _ => r146_10 (fun _ => r146_19 (fun _ => e4 _ _) (fun c => absurd rfl c)) (fun c => absurd ((bit_iff (by omega)).mpr hb) c))⟩
        | some q =>
          obtain ⟨q1, q2, q3⟩ := h1 q rfl
          have hq10 : q < 10 := by omega
          have hne : ¬ oI (some q) = -1 := oI_ne rfl (fun q' hq' => by simp only [Option.some.injEq] at hq'; omega)
          have hwp := hw p (by omega) hb
          have hwq := hw q (by omega) q2
          have bp := f.2.2 p hp hwp.2
          have bq := f.2.2 q hq10 hwq.2
          have ep : mi 14 0 (9 * p + 4) = nI (dS S p) := by rw [ms_e mi (by omega), hS]; exact nI_tN (by omega)
          have eq : mi 14 0 (9 * q + 4) = nI (dS S q) := by rw [ms_e mi (by omega), hS]; exact nI_tN (by omega)
          have hdp : dS S p < 2 ^ 20 := by unfold dS; omega
          have hdq : dS S q < 2 ^ 20 := by unfold dS; omega
          by_cases c : dS S q ≤ dS S p
          · obtain ⟨e, e1, e2, e3, e4⟩ := keep ⟨fun q' hq' i hi hbi => by
              simp only [Option.some.injEq] at hq'
              subst hq'
              by_cases ci : i = p
              · rw [ci]; exact c
              · exact q3 i (by omega) hbi, fun hr => by simp at hr⟩
            refine ⟨e, e1, e2, e3, r146_4 (fun c => absurd c (n10_le hp)) (fun _ => r146_10 (fun _ => r146_19 (fun z => absurd z hne) (fun _ => r146_24 (m90 (j := 4) hp (by decide) (by decide)) (r146_33 rfl (by omega) (m90 (j := 4) hq10 (by decide) (by decide)) (r146_43 rfl (by omega) (fun _ => e4 _) (fun z => ?_))))) (fun c => absurd ((bit_iff (by omega)).mpr hb) c))⟩
            rw [ep, eq] at z
            exact absurd (nI_le c (by omega)) z
          · obtain ⟨e, e1, e2, e3, e4⟩ := take ⟨hb, fun i hi hbi => by have := q3 i hi hbi; omega⟩
            refine ⟨e, e1, e2, e3, r146_4 (fun c => absurd c (n10_le hp)) (fun _ => r146_10 (fun _ => r146_19 (fun z => absurd z hne) (fun _ => r146_24 (m90 (j := 4) hp (by decide) (by decide)) (r146_33 rfl (by omega) (m90 (j := 4) hq10 (by decide) (by decide)) (r146_43 rfl (by omega) (fun z => ?_) (fun _ => e4 _ _))))) (fun c => absurd ((bit_iff (by omega)).mpr hb) c))⟩
            rw [ep, eq] at z
            exact absurd z (nI_ge (by omega) (by omega))
      · have hbf : bt x p = false := by cases hc : bt x p with | false => rfl | true => exact absurd hc hb
        obtain ⟨e, e1, e2, e3, e4⟩ := keep ⟨fun q hq i hi hbi => by
          by_cases ci : i = p
          · rw [ci, hbf] at hbi; simp at hbi
          · exact (h1 q hq).2.2 i (by omega) hbi, fun _ => hbf⟩
        exact ⟨e, e1, e2, e3, r146_4 (fun c => absurd c (n10_le hp)) (fun _ => r146_10 (fun c => absurd ((bit_iff (by omega)).mp c) hb) (fun _ => e4 _))⟩
  obtain ⟨e, e1, e2, e3, e4⟩ := loop 10 0 rfl none none (fun q hq => by simp at hq) (fun _ i hi => absurd hi (Nat.not_lt_zero i))
  exact ⟨e, e1, e2, e3, r146_0 e4⟩
theorem m147 {x : Int32} (hS : ms mi = S) (f : FO S) (hw : ∀ i, i < 32 → bt x i = true → i < 10 ∧ sW S i = true) : ∃ r : Bool, (r = true ↔ Can (cS S) (tS S) (dS S) (bt x) 10) ∧ pt_Ca 147 [vR 9 0, vI x] (pt_MEM mi ml ex) (.inl (some (vI (bI r))), pt_MEM mi ml ex) := by
  have loop : ∀ k y cl are u5, cU (bt y) 10 = k → (∀ i, i < 32 → bt y i = true → i < 10 ∧ sW S i = true) → cl + 60 * k ≤ 200000 → ∃ r : Bool, (r = true ↔ are = true ∧ Can cl (tS S) (dS S) (bt y) 10) ∧ pt_Ev 147 none 13 [some (vR 9 0), some (vI x), some (vI y), some (vI (nI cl)), some (vI (bI are)), u5] [] (pt_MEM mi ml ex) (.inl (some (vI (bI r))), pt_MEM mi ml ex) := by
    intro k
    induction k with
    | zero =>
      intro y cl are u5 hk hwy hcl
      have hnone : ∀ q, q < 10 → bt y q = false := by
        intro q hq
        cases hb : bt y q with
        | false => rfl
        | true =>
          have := sg_at (g := wt (bt y) (fun _ => 1)) (a := q) 10 hq
          rw [wt_t hb] at this
          unfold cU at hk
          omega
      have hy : y = 0 := by
        refine b_ext (fun i hi => ?_)
        rw [b_0]
        cases hb : bt y i with
        | false => rfl
        | true =>
          rw [hnone i (hwy i hi hb).1] at hb
          simp at hb
      exact ⟨are, ⟨fun h => ⟨h, Can_none hnone⟩, fun h => h.1⟩, r147_13 (fun _ => r147_75 (bI_01 _)) (fun z => absurd hy z)⟩
    | succ k ih =>
      intro y cl are u5 hk hwy hcl
      have hy : ¬ y = 0 := fun z => by
        rw [z] at hk
        have : cU (bt 0) 10 = 0 := sg_zero 10 (fun q _ => wt_f (b_0 q))
        omega
      obtain ⟨i, i1, i2⟩ := bt_ex hy
      obtain ⟨e, e1, e2, e3, e4⟩ := m146 (ml := ml) (ex := ex) hS f hwy ⟨i, (hwy i i1 i2).1, i2⟩
      have hwe := (hwy e (by omega) e2).2
      have be := f.2.2 e e1 hwe
      have et : mi 14 0 (9 * e + 3) = nI (tS S e) := by rw [ms_e mi (by omega), hS]; exact nI_tN (by omega)
      have ed : mi 14 0 (9 * e + 4) = nI (dS S e) := by rw [ms_e mi (by omega), hS]; exact nI_tN (by omega)
      have htS : tS S e ≤ 60 := by unfold tS; omega
      have hdS : dS S e < 2 ^ 20 := by unfold dS; omega
      have hbR : ∀ i, i < 32 → bt (y ^^^ ((1 : Int32) <<< (nI e &&& 31))) i = sRem (bt y) e i := fun i hi => by
        rw [b_xor, bt_1 e (by omega) i hi]
        by_cases ei : i = e
        · rw [ei, e2, sRem_eq]; simp
        · rw [sRem_ne ei]; simp [ei]
      have hcU : cU (bt (y ^^^ ((1 : Int32) <<< (nI e &&& 31)))) 10 = k := by
        have r := sg_rem (U := bt y) (g := fun _ => 1) e2 10 e1
        have s : cU (bt (y ^^^ ((1 : Int32) <<< (nI e &&& 31)))) 10 = sg (wt (sRem (bt y) e) (fun _ => 1)) 10 := sg_congr (fun q hq => wt_cg (hbR q (by omega)))
        unfold cU at hk s ⊢
        omega
      have hw2 : ∀ i, i < 32 → bt (y ^^^ ((1 : Int32) <<< (nI e &&& 31))) i = true → i < 10 ∧ sW S i = true := fun i hi hb => hwy i hi (by rw [hbR i hi] at hb; exact (sRem_t.mp hb).1)
      have step := Can_step (c := cl) (t := tS S) (d := dS S) e1 e2 e3
      have cgg : Can (cl + tS S e) (tS S) (dS S) (bt (y ^^^ ((1 : Int32) <<< (nI e &&& 31)))) 10 ↔ Can (cl + tS S e) (tS S) (dS S) (sRem (bt y) e) 10 := ⟨fun h => h.cg (fun q hq => (hbR q (by omega)).symm), fun h => h.cg (fun q hq => hbR q (by omega))⟩
      obtain ⟨r1, s1, s2⟩ := ih (y ^^^ ((1 : Int32) <<< (nI e &&& 31))) (cl + tS S e) true (some (vI (nI e))) hcU hw2 (by omega)
      obtain ⟨r2, s3, s4⟩ := ih (y ^^^ ((1 : Int32) <<< (nI e &&& 31))) (cl + tS S e) false (some (vI (nI e))) hcU hw2 (by omega)
      have start : ∀ {o}, pt_Ev 147 none 35 [some (vR 9 0), some (vI x), some (vI y), some (vI (nI cl)), some (vI (bI are)), some (vI (nI e))] [vI (nI (9 * e + 3)), vR 14 0, vI (nI cl)] (pt_MEM mi ml ex) o → pt_Ev 147 none 13 [some (vR 9 0), some (vI x), some (vI y), some (vI (nI cl)), some (vI (bI are)), u5] [] (pt_MEM mi ml ex) o := fun kk => r147_13 (fun z => absurd z hy) (fun _ => r147_17 e4 (r147_22 (m90 (j := 3) e1 (by decide) (by decide)) kk))
      cases are with
      | false =>
        refine ⟨r2, ⟨fun h => absurd (s3.mp h).1 (by decide), fun h => absurd h.1 (by decide)⟩, start (r147_35 rfl (by omega) (fun _ => ?_) (fun z => absurd rfl z))⟩
        rw [et, nI_add]
        exact r147_62 s4
      | true =>
        by_cases c : cl + tS S e ≤ dS S e
        · refine ⟨r1, ?_, start (r147_35 rfl (by omega) (fun z => absurd z (by decide)) (fun _ => ?_))⟩
          · rw [s1, cgg, step]
            exact ⟨fun h => ⟨rfl, c, h.2⟩, fun h => ⟨rfl, h.2.2⟩⟩
          · rw [et, nI_add]
            refine r147_43 (m90 (j := 4) e1 (by decide) (by decide)) (r147_54 rfl (by omega) (fun z => ?_) (fun _ => r147_58 s2))
            rw [ed] at z
            exact absurd z (nI_nlt c (by omega))
        · refine ⟨r2, ?_, start (r147_35 rfl (by omega) (fun z => absurd z (by decide)) (fun _ => ?_))⟩
          · rw [step]
            exact ⟨fun h => absurd (s3.mp h).1 (by decide), fun h => absurd h.2.1 c⟩
          · rw [et, nI_add]
            refine r147_43 (m90 (j := 4) e1 (by decide) (by decide)) (r147_54 rfl (by omega) (fun _ => r147_62 s4) (fun z => ?_))
            rw [ed] at z
            exact absurd (nI_lt (by omega) (by omega)) z
  have hc96 := f.2.1
  have hcS : cS S ≤ 99999 := by unfold cS; omega
  have hcl : mi 14 0 96 = nI (cS S) := by rw [ms_e mi (by omega), hS]; exact nI_tN hc96.1
  obtain ⟨r, s1, s2⟩ := loop _ x (cS S) true none rfl hw (by have := cU_le (bt x) 10; omega)
  refine ⟨r, s1.trans ⟨fun h => h.2, fun h => ⟨rfl, h⟩⟩, r147_0 ?_⟩
  rw [hcl]
  exact s2
theorem m148 {x : Int32} : pt_Ca 148 [vI x] (pt_MEM mi ml ex) (.inl (some (vI (nI (cU (bt x) 10)))), pt_MEM mi ml ex) := by
  have loop : ∀ d p, p + d = 10 → pt_Ev 148 none 4 [some (vI x), some (vI (nI (cU (bt x) p))), some (vI (nI p))] [] (pt_MEM mi ml ex) (.inl (some (vI (nI (cU (bt x) 10)))), pt_MEM mi ml ex) := by
    intro d
    induction d with
    | zero =>
      intro p hp
      have hp' : p = 10 := hp
      subst hp'
      exact r148_4 (fun _ => r148_24) (fun c => absurd n10_le' c)
    | succ d ih =>
      intro p hpd
      have hp : p < 10 := by omega
      have := ih (p + 1) (by omega)
      rw [nI_succ p] at this
      refine r148_4 (fun c => absurd c (n10_le hp)) (fun _ => r148_10 ?_)
      rw [bit_bI (by omega)]
      have e : nI (cU (bt x) p) + bI (bt x p) = nI (cU (bt x) (p + 1)) := by
        unfold cU
        rw [sg_s]
        cases hb : bt x p with
        | true => rw [wt_t hb, nI_succ]; rfl
        | false => rw [wt_f hb]; exact Int32.add_zero _
      rw [e]
      exact this
  have := loop 10 0 rfl
  rw [nI_0] at this
  exact r148_0 this
theorem m149 (hS : ms mi = S) (f : FO S) (h : LPr S L n) : ∃ M, M ≤ n ∧ Best (cS S) (fun j => tS S (L j)) (fun j => dS S (L j)) n M ∧ pt_Ca 149 [vR 9 0] (pt_MEM mi ml ex) (.inl (some (vI (nI (n - M)))), pt_MEM mi ml ex) := by
  have hli := h.li f
  -- the mask of the waiting ones
  have loop1 : ∀ e p, p + e = 10 → ∀ w u3 u4, (∀ i, i < 32 → bt w i = (decide (i < p) && sW S i)) → ∃ W u, (∀ i, i < 32 → bt W i = (decide (i < 10) && sW S i)) ∧ ∀ {o}, pt_Ev 149 none 34 [some (vR 9 0), some (vI W), some (vI (nI 10)), u, u4] [] (pt_MEM mi ml ex) o → pt_Ev 149 none 4 [some (vR 9 0), some (vI w), some (vI (nI p)), u3, u4] [] (pt_MEM mi ml ex) o := by
    intro e
    induction e with
    | zero =>
      intro p hp w u3 u4 hw
      have hp' : p = 10 := hp
      subst hp'
      exact ⟨w, u3, hw, fun kk => r149_4 (fun _ => kk) (fun c => absurd n10_le' c)⟩
    | succ e ih =>
      intro p hpd w u3 u4 hw
      have hp : p < 10 := by omega
      have c94 := m94 (mi := mi) (ml := ml) (ex := ex) hp
      rw [hS] at c94
      cases hs : sIn S p 0 with
      | true =>
        obtain ⟨W, u, g1, g2⟩ := ih (p + 1) (by omega) (w ||| ((1 : Int32) <<< (nI p &&& 31))) u3 u4 (fun i hi => by
          rw [bt_or1 hi (by omega), hw i hi]
          by_cases c : i = p
          · subst c
            have : sW S i = true := hs
            simp [this]
          · have : (i < p) = (i < p + 1) := by rw [eq_iff_iff]; omega
            simp [c, this])
        rw [nI_succ p] at g2
        exact ⟨W, u, g1, fun kk => r149_4 (fun c => absurd c (n10_le hp)) (fun _ => r149_10 c94 (r149_16 (fun z => absurd z (bI_tn hs)) (fun _ => r149_19 (g2 kk))))⟩
      | false =>
        obtain ⟨W, u, g1, g2⟩ := ih (p + 1) (by omega) w u3 u4 (fun i hi => by
          rw [hw i hi]
          by_cases c : i = p
          · subst c
            have : sW S i = false := hs
            simp [this]
          · have : (i < p) = (i < p + 1) := by rw [eq_iff_iff]; omega
            simp [this])
        rw [nI_succ p] at g2
        exact ⟨W, u, g1, fun kk => r149_4 (fun c => absurd c (n10_le hp)) (fun _ => r149_10 c94 (r149_16 (fun _ => r149_25 (by rw [Int32.or_zero]; exact g2 kk)) (fun z => absurd (bI_fn hs) z)))⟩
  obtain ⟨W, u, hW, k1⟩ := loop1 10 0 rfl 0 none none (fun i hi => by rw [b_0]; simp)
  have hW10 : ∀ i, i < 32 → bt W i = true → i < 10 ∧ sW S i = true := fun i hi hb => by
    rw [hW i hi, Bool.and_eq_true, decide_eq_true_eq] at hb
    exact hb
  have hcW : cU (bt W) 10 = n := by
    have a1 : cU (bt W) 10 = sg (wt (sW S) (fun _ => 1)) 10 := sg_congr (fun q hq => wt_cg (by rw [hW q (by omega)]; simp [hq]))
    have a2 := hli.sum (V := sW S) (g := fun _ => 1) (fun q _ hq => hq)
    have a3 : ∀ m, m ≤ n → sg (wt (fun j => sW S (L j)) (fun _ => 1)) m = m := by
      intro m
      induction m with
      | zero => intro _; rfl
      | succ m ihm =>
        intro hm
        rw [sg_s, ihm (by omega), wt_t (U := fun j => sW S (L j)) (hli.1 m (by omega)).2]
    rw [a1, a2, a3 n (Nat.le_refl n)]
  -- all sets
  have loop2 : ∀ e m, m + e = 1024 → 1 ≤ m → ∀ M u4, M ≤ 10 → (∃ V, (∀ q, q < 10 → V q = true → sW S q = true) ∧ Can (cS S) (tS S) (dS S) V 10 ∧ cU V 10 = M) → (∀ m', 1 ≤ m' → m' < m → (∀ i, i < 32 → bt (nI m') i = true → bt W i = true) → Can (cS S) (tS S) (dS S) (bt (nI m')) 10 → cU (bt (nI m')) 10 ≤ M) → ∃ M', (∃ V, (∀ q, q < 10 → V q = true → sW S q = true) ∧ Can (cS S) (tS S) (dS S) V 10 ∧ cU V 10 = M') ∧ (∀ m', 1 ≤ m' → m' < 1024 → (∀ i, i < 32 → bt (nI m') i = true → bt W i = true) → Can (cS S) (tS S) (dS S) (bt (nI m')) 10 → cU (bt (nI m')) 10 ≤ M') ∧ pt_Ev 149 none 38 [some (vR 9 0), some (vI W), some (vI (nI M)), some (vI (nI m)), u4] [] (pt_MEM mi ml ex) (.inl (some (vI (nI n - nI M'))), pt_MEM mi ml ex) := by
    intro e
    induction e with
    | zero =>
      intro m hm hm1 M u4 hM hV hB
      have hm' : m = 1024 := hm
      subst hm'
      have c148 := m148 (mi := mi) (ml := ml) (ex := ex) (x := W)
      rw [hcW] at c148
      exact ⟨M, hV, hB, r149_38 (fun _ => r149_96 c148 r149_100) (fun z => absurd (show (1024 : Int32) ≤ nI 1024 by decide +kernel) z)⟩
    | succ e ih =>
      intro m hmd hm1 M u4 hM hV hB
      have hm : m < 1024 := by omega
      have h1024 : ¬ (1024 : Int32) ≤ nI m := nI_ge (a := m) (b := 1024) hm (by decide)
      have hcm := cU_le (bt (nI m)) 10
      -- nothing new
      have old : (¬ ((∀ i, i < 32 → bt (nI m) i = true → bt W i = true) ∧ Can (cS S) (tS S) (dS S) (bt (nI m)) 10 ∧ M < cU (bt (nI m)) 10)) → ∃ M', (∃ V, (∀ q, q < 10 → V q = true → sW S q = true) ∧ Can (cS S) (tS S) (dS S) V 10 ∧ cU V 10 = M') ∧ (∀ m', 1 ≤ m' → m' < 1024 → (∀ i, i < 32 → bt (nI m') i = true → bt W i = true) → Can (cS S) (tS S) (dS S) (bt (nI m')) 10 → cU (bt (nI m')) 10 ≤ M') ∧ ∀ u4, pt_Ev 149 none 73 [some (vR 9 0), some (vI W), some (vI (nI M)), some (vI (nI m)), u4] [] (pt_MEM mi ml ex) (.inl (some (vI (nI n - nI M'))), pt_MEM mi ml ex) := by
        intro hno
        obtain ⟨M', g1, g2, g3⟩ := ih (m + 1) (by omega) (by omega) M (some (vI 0)) hM hV (fun m' a b hs hcn => by
          by_cases cc : m' = m
          · subst cc
            by_cases w : M < cU (bt (nI m')) 10
            · exact absurd ⟨hs, hcn, w⟩ hno
            · omega
          · exact hB m' a (by omega) hs hcn)
        rw [nI_succ m] at g3
        exact ⟨M', g1, g2, fun u4 => r149_73 (fun _ => r149_88 g3) (fun z => absurd rfl z)⟩
      by_cases hsub : ∀ i, i < 32 → bt (nI m) i = true → bt W i = true
      · have hw2 : ∀ i, i < 32 → bt (nI m) i = true → i < 10 ∧ sW S i = true := fun i hi hb => hW10 i hi (hsub i hi hb)
        by_cases hgt : M < cU (bt (nI m)) 10
        · obtain ⟨r, s1, s2⟩ := m147 (ml := ml) (ex := ex) hS f hw2
          cases r with
          | true =>
            have hcn := s1.mp rfl
            obtain ⟨M', g1, g2, g3⟩ := ih (m + 1) (by omega) (by omega) (cU (bt (nI m)) 10) (some (vI 1)) (by omega) ⟨bt (nI m), fun q hq hb => (hw2 q (by omega) hb).2, hcn, rfl⟩ (fun m' a b hs hcn' => by
              by_cases cc : m' = m
              · rw [cc]; exact Nat.le_refl _
              · have := hB m' a (by omega) hs hcn'; omega)
            rw [nI_succ m] at g3
            exact ⟨M', g1, g2, r149_38 (fun z => absurd z h1024) (fun _ => r149_45 (fun _ => r149_53 m148 (r149_57 (fun z => absurd z (nI_ge hgt (by omega))) (fun _ => r149_61 s2 (r149_66 (fun z => absurd z (by decide)) (fun _ => r149_69 (fun z => absurd z (by decide)) (fun _ => r149_81 m148 (r149_85 g3))))))) (fun z => absurd (sub_iff.mpr hsub) z))⟩
          | false =>
            obtain ⟨M', g1, g2, g3⟩ := old (fun z => absurd (s1.mpr z.2.1) (by decide))
            exact ⟨M', g1, g2, r149_38 (fun z => absurd z h1024) (fun _ => r149_45 (fun _ => r149_53 m148 (r149_57 (fun z => absurd z (nI_ge hgt (by omega))) (fun _ => r149_61 s2 (r149_66 (fun _ => g3 _) (fun z => absurd rfl z))))) (fun z => absurd (sub_iff.mpr hsub) z))⟩
        · obtain ⟨M', g1, g2, g3⟩ := old (fun z => hgt z.2.2)
          exact ⟨M', g1, g2, r149_38 (fun z => absurd z h1024) (fun _ => r149_45 (fun _ => r149_53 m148 (r149_57 (fun _ => g3 _) (fun z => absurd (nI_le (by omega) (by omega)) z))) (fun z => absurd (sub_iff.mpr hsub) z))⟩
      · obtain ⟨M', g1, g2, g3⟩ := old (fun z => hsub z.1)
        exact ⟨M', g1, g2, r149_38 (fun z => absurd z h1024) (fun _ => r149_45 (fun z => absurd (sub_iff.mp z) hsub) (fun _ => g3 _))⟩
  obtain ⟨M, g1, g2, g3⟩ := loop2 1023 1 rfl (by omega) 0 none (by omega) ⟨fun _ => false, fun q _ hq => by simp at hq, Can_none (fun _ _ => rfl), sg_zero 10 (fun q _ => wt_f (U := fun _ => false) rfl)⟩ (fun m' a b => by omega)
  have hB : Best (cS S) (fun j => tS S (L j)) (fun j => dS S (L j)) n M := by
    refine hli.best (h.mono f) g1 (fun V hV hc => ?_)
    obtain ⟨m, m1, m2⟩ := mask_ex V 10
    have hm : m < 1024 := m1
    have eb : ∀ i, i < 10 → bt (nI m) i = V i := fun i hi => by rw [bt_nI (by omega)]; exact m2 i hi
    have ec : cU (bt (nI m)) 10 = cU V 10 := sg_congr (fun q hq => wt_cg (eb q hq))
    by_cases z : m = 0
    · subst z
      have : cU (bt (nI 0)) 10 = 0 := sg_zero 10 (fun q _ => wt_f (b_0 q))
      omega
    · have := g2 m (by omega) hm (fun i hi hb => by
        rw [bt_nI hi] at hb
        have hi10 : i < 10 := by
          by_cases y : i < 10
          · exact y
          · have : 2 ^ 10 ≤ 2 ^ i := Nat.pow_le_pow_right (by decide) (by omega)
            rw [Nat.testBit_lt_two_pow (by omega)] at hb
            simp at hb
        have hv := hV i (by rw [← m2 i hi10]; exact hb)
        rw [hW i hi]
        simp [hi10, hv.2]) (hc.cg eb)
      omega
  have hMn : M ≤ n := by
    obtain ⟨⟨U, -, hU⟩, -⟩ := hB
    rw [← hU]
    exact cU_le U n
  rw [nI_0] at g3
  rw [pk_sub hMn] at g3
  exact ⟨M, hMn, hB, r149_0 (k1 (r149_34 g3))⟩
theorem m150t {x : Int32} (hx : sIn3 x 0 1 = false) : pt_Ca 150 [vR 9 0, vI x] (pt_MEM mi ml ex) (.inl (some (vI 0)), pt_MEM (th mi 1) ml ex) :=
  r150_0 m88 (r150_7 (fun _ => r150_14 (m89f (by decide)) (r150_18 (fun _ => r150_28) (fun c => absurd rfl c))) (fun c => absurd (bI_fn hx) c))
theorem m150 {x : Int32} {M : Nat} (hx : sIn3 x 0 1 = true) (hS : ms mi = S) (f : FO S) (h : LPr S L n) (hB : Best (cS S) (fun j => tS S (L j)) (fun j => dS S (L j)) n M) : pt_Ca 150 [vR 9 0, vI x] (pt_MEM mi ml ex) (.inl (some (vI (nI (n - M)))), pt_MEM (th mi 0) ml ex) := by
  obtain ⟨M', -, m2, m3⟩ := m149 (mi := th mi 0) (ml := ml) (ex := ex) ((ms_th 0).trans hS) f h
  have := hB.un m2
  subst this
  exact r150_0 m88 (r150_7 (fun c => absurd c (bI_tn hx)) (fun _ => r150_10 m89t (r150_18 (fun c => absurd c (by decide)) (fun _ => r150_21 m3 r150_25))))
theorem c78t {x : Int32} (hx : sIn3 x 0 1 = false) : pt_Ca 78 [vR 8 0, vI x] (pt_MEM mi ml ex) (.inr 1, pt_MEM mi ml (ex + 1)) := by
  refine r78_0 (fun _ => r78_9) (fun c => r78_4 (fun d => ?_) (fun _ => r78_9))
  rw [sIn3_t.mpr ⟨c, le_nlt.mp d⟩] at hx
  exact absurd hx (by decide)
theorem c78 {x : Int32} (hx : sIn3 x 0 1 = true) (hS : cs mi 0 = S) (f : FO S) : ∃ L n M mi', M ≤ n ∧ n ≤ 10 ∧ LPr S L n ∧ Best (cS S) (fun j => tS S (L j)) (fun j => dS S (L j)) n M ∧ pt_Ca 78 [vR 8 0, vI x] (pt_MEM mi ml ex) (.inl (some (vI (nI (n - M)))), pt_MEM mi' ml ex) ∧ Fr [3, 12, 13] mi mi' := by
  have hx' := sIn3_t.mp hx
  obtain ⟨L, n, m1, q1, q2, q3, q4, q5⟩ := c24 (mi := mi) (ml := ml) (ex := ex) (h := 0) (rf := 0) (by decide) (by rw [hS]; exact f.1.1) (by rw [hS]; exact sSTO 0 f.1)
  rw [hS] at q2
  have hS1 : cs m1 0 = S := (cs_fr 0 q5 (by decide) (by decide) (by decide) (by decide)).trans hS
  have start : ∀ {o}, pt_Ev 78 none 32 [some (vR 8 0), some (vI x)] [] (pt_MEM m1 ml ex) o → pt_Ca 78 [vR 8 0, vI x] (pt_MEM mi ml ex) o := fun kk => r78_0 (fun c => absurd c hx'.1) (fun _ => r78_4 (fun _ => r78_20 q1 kk) (fun c => absurd (le_nlt.mpr hx'.2) c))
  by_cases c : x = 0
  · obtain ⟨M, w1, w2, w3⟩ := c1 (ml := ml) (ex := ex) hS1 f q2 q3 q4
    exact ⟨L, n, M, m1, w1, q2.1, q2, w2, start (r78_32 (fun _ => r78_36 w3 r78_51) (fun z => absurd c z)), q5.wd (by decide)⟩
  · obtain ⟨M, m2, w1, w2, w3, w4⟩ := c3 (ml := ml) (ex := ex) hS1 f q2 q3 q4
    exact ⟨L, n, M, m2, w1, q2.1, q2, w2, start (r78_32 (fun z => absurd z c) (fun _ => r78_54 w3 r78_69)), (q5.wd (by decide)).tr (w4.wd (by decide))⟩
end
