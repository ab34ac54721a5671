/-! Either object's changes: the law's act. -/
def Ob (v : Bool) (mi : Nat → Nat → Nat → Int32) (S : Nat → Int32) (s : Nat) (H : Nat → Nat → Int32) : Prop := ∃ K T n X, RC (pull v mi) S s H K T n X
theorem Ob.cs {v : Bool} {mi : Nat → Nat → Nat → Int32} {S : Nat → Int32} {s : Nat} {H : Nat → Nat → Int32} (h : Ob v mi S s H) : Cs v mi S := by
  obtain ⟨K, T, n, X, R⟩ := h
  exact R.1
theorem Ob.fr {v : Bool} {mi mi' : Nat → Nat → Nat → Int32} {S : Nat → Int32} {s : Nat} {H : Nat → Nat → Int32} (h : Ob v mi S s H) (f : Fr SK mi mi') : Ob v mi' S s H := by
  obtain ⟨K, T, n, X, R⟩ := h
  exact ⟨K, T, n, X, R.fr (Fr_pull v f) (by decide)⟩
theorem Ob.eq {v : Bool} {mi mi' : Nat → Nat → Nat → Int32} {S : Nat → Int32} {s : Nat} {H : Nat → Nat → Int32} (h : Ob v mi S s H) (e : pull v mi' = pull v mi) : Ob v mi' S s H := by
  unfold Ob
  rw [e]
  exact h
theorem pull_out (v : Bool) (mi : Nat → Nat → Nat → Int32) (w : Int32) : pull v (pt_up3 mi 23 0 0 w) = pull v mi := by
  funext c n j
  show pt_up3 mi 23 0 0 w c (em v c n) j = mi c (em v c n) j
  unfold pt_up3
  by_cases h : c = 23 ∧ em v c n = 0 ∧ j = 0
  · obtain ⟨rfl, h2, -⟩ := h
    exact absurd h2 (em_23 v n)
  · rw [if_neg h]
theorem pull_all {v : Bool} {mi mi' : Nat → Nat → Nat → Int32} (h : pull v mi' = pull v mi) (o : Ot v mi mi') : mi' = mi := by
  funext c N j
  by_cases hN : ∃ n, N = em v c n
  · obtain ⟨n9, rfl⟩ := hN
    exact congrFun (congrFun (congrFun h c) n9) j
  · exact o c N (fun n9 z => hN ⟨n9, z⟩) j
theorem in_240 {x : Int32} (h : sIn3 x 1 240 = true) : ∃ k, k ≤ 240 ∧ x = nI k := by
  have h2 := sIn3_t.mp h
  have h3 : sIn3 x 0 240 = true := sIn3_t.mpr ⟨fun c => h2.1 (Int32.lt_trans c (by decide)), h2.2⟩
  obtain ⟨k, hk, e⟩ := sIn3_nI (n := 240) (by decide) (by decide +kernel) h3
  exact ⟨k, by omega, e⟩
theorem in_2 {x : Int32} (h : sIn3 x 0 1 = true) : ∃ p, p < 2 ∧ x = nI p := by
  obtain ⟨k, hk, e⟩ := sIn3_nI (n := 1) (by decide) (by decide +kernel) h
  exact ⟨k, by omega, e⟩
theorem in_10 {x : Int32} (h : sIn3 x 0 9 = true) : ∃ p, p < 10 ∧ x = nI p := by
  obtain ⟨k, hk, e⟩ := sIn3_nI (n := 9) (by decide) (by decide +kernel) h
  exact ⟨k, by omega, e⟩
/-- what a machine would be loaded with -/
noncomputable def wW (S : Nat → Int32) (m : Nat) : Int32 := Classical.epsilon (fun w => sWL S (S (90 + 3 * m + 0)) w)
theorem wW_eq {S : Nat → Int32} {m : Nat} {w : Int32} (g : GO S) (h : sWL S (S (90 + 3 * m + 0)) w) : wW S m = w := sWL_un g (Classical.epsilon_spec (p := fun w => sWL S (S (90 + 3 * m + 0)) w) ⟨w, h⟩) h
/-- an act's end: the code of what is thrown, what is told, the row then -/
abbrev Rs : Type := Int32 × Int32 × (Nat → Int32)
def chR (S : Nat → Int32) (a : Int32) : Rs := if sIn3 a 0 9 = true then (if sHere S a.toNatClampNeg = true then (if S (9 * a.toNatClampNeg + 6) = 0 then (0, 1 - S (9 * a.toNatClampNeg + 5), up1 S (9 * a.toNatClampNeg + 5) (1 - S (9 * a.toNatClampNeg + 5))) else (3, 0, S)) else (1, 0, S)) else (1, 0, S)
noncomputable def chL (S : Nat → Int32) (a : Int32) : Rs := if sIn3 a 0 1 = true then (0, (sLoads S (wW S a.toNatClampNeg) a.toNatClampNeg).1, (sLoads S (wW S a.toNatClampNeg) a.toNatClampNeg).2) else (1, 0, S)
def chM (S : Nat → Int32) (a b : Int32) : Rs := if sIn3 a 0 1 = true then (if sIn3 b 10 60 = true then (if sIdle S a.toNatClampNeg = true then (0, S (90 + 3 * a.toNatClampNeg + 0), up1 S (90 + 3 * a.toNatClampNeg + 0) b) else (3, 0, S)) else (2, 0, S)) else (1, 0, S)
def chP (S : Nat → Int32) (a : Int32) : Rs := if sIn3 a 1 240 = true then (if S 96 + a ≤ 99999 then (0, (sPass S a.toNatClampNeg).2, (sPass S a.toNatClampNeg).1) else (3, 0, S)) else (2, 0, S)
def chS (S : Nat → Int32) (a b : Int32) : Rs := if sIn3 a 0 1 = true then (if fits a b = true then (0, S (104 + a.toNatClampNeg), up1 S (104 + a.toNatClampNeg) b) else (2, 0, S)) else (1, 0, S)
def chH (S : Nat → Int32) (a b : Int32) : Rs := if sIn3 b 0 7 = true then (0, (sGive S a b).1, (sGive S a b).2) else (1, 0, S)
noncomputable def chF (S : Nat → Int32) (how a b : Int32) : Rs := if how = 0 then chH S a b else if how = 1 then chR S a else if how = 2 then chL S a else if how = 3 then chM S a b else if how = 4 then chP S a else chS S a b
def tkA (S : Nat → Int32) (x1 x2 x3 x4 x5 : Int32) : Rs := if okT x1 x2 x3 x4 = true then (0, (sTakes S x1 x2 x3 x4 x5).1, (sTakes S x1 x2 x3 x4 x5).2) else (2, 0, S)
/-- how an act ends -/
def Pst (v : Bool) (mi mi' : Nat → Nat → Nat → Int32) (S : Nat → Int32) (s : Nat) (H : Nat → Nat → Int32) (r : Rs) : Prop :=
  (∀ S2 s2 H2, Ob (!v) mi S2 s2 H2 → Ob (!v) mi' S2 s2 H2) ∧ ((r.1 = 0 ∧ mi' 23 0 0 = r.2.1 ∧ Ob v mi' r.2.2 (sv s) (svH S s H)) ∨ (¬ r.1 = 0 ∧ Ob v mi' S s H))
/-- the method y, called so, ends with r -/
def Aend (v : Bool) (y : Nat) (as : List pt_V) (mi : Nat → Nat → Nat → Int32) (ml : Nat → Nat → Nat → Int64) (ex : Nat) (S : Nat → Int32) (s : Nat) (H : Nat → Nat → Int32) (r : Rs) : Prop := ∃ mi' ex', pt_Ca y as (pt_MM mi ml ex) (.inl (some (vI r.1)), pt_MM mi' ml ex') ∧ ex' ≤ ex + 1 ∧ Pst v mi mi' S s H r
section
variable {v : Bool} {mi : Nat → Nat → Nat → Int32} {ml : Nat → Nat → Nat → Int64} {ex : Nat} {S S' : Nat → Int32} {s : Nat} {H : Nat → Nat → Int32} {A P : Int} {how a b w : Int32}
theorem ok_of {y : Nat} {as : List pt_V} (hc : ∃ K T n X mi1, pt_Ca y as (pt_MEM (pull v mi) (pull v ml) ex) (.inl (some (vI w)), pt_MEM mi1 (pull v ml) ex) ∧ RC mi1 S' (sv s) (svH S s H) K T n X) : ∃ mi2, pt_Ca y (eS v as) (pt_MM mi ml ex) (.inl (some (vI w)), pt_MM mi2 ml ex) ∧ Pst v mi (pt_up3 mi2 23 0 0 w) S s H (0, w, S') := by
  obtain ⟨K, T, n, X, mi1, c, R⟩ := hc
  obtain ⟨mi2, c2, h2, h4⟩ := xf c
  refine ⟨mi2, c2, fun S2 s2 H2 h => h.eq ?_, Or.inl ⟨rfl, up3_eq _ _ _ _ _, K, T, n, X, ?_⟩⟩
  · rw [pull_out]; exact h4.other
  · rw [pull_out, h2]; exact R
theorem no_of {y : Nat} {as : List pt_V} {E : Nat} (hc : pt_Ca y as (pt_MEM (pull v mi) (pull v ml) ex) (.inr E, pt_MEM (pull v mi) (pull v ml) (ex + 1))) : pt_Ca y (eS v as) (pt_MM mi ml ex) (.inr E, pt_MM mi ml (ex + 1)) := by
  obtain ⟨mi2, c2, h2, h4⟩ := xf hc
  rw [pull_all h2 h4] at c2
  exact c2
theorem Pst.no {k : Int32} (O : Ob v mi S s H) (h : ¬ k = 0) : Pst v mi mi S s H (k, 0, S) := ⟨fun _ _ _ h => h, Or.inr ⟨h, O⟩⟩
theorem d1 : ¬ (1 : Int32) = 0 := by decide
theorem d2 : ¬ (2 : Int32) = 0 := by decide
theorem d3 : ¬ (3 : Int32) = 0 := by decide
/-- hand out -/
theorem ah0 (O : Ob v mi S s H) (g : Good S A P) : Aend v 172 [vR 8 (ob v), vI 0, vI a, vI b, vR 23 0] mi ml ex S s H (chH S a b) := by
  unfold chH
  cases e : sIn3 b 0 7 with
  | true =>
    rw [if_pos rfl]
    obtain ⟨K, T, n, X, R⟩ := id O
    obtain ⟨mi1, c, R1, -⟩ := c55 (ml := pull v ml) (ex := ex) (t := a) R g e
    obtain ⟨mi2, c2, p⟩ := ok_of ⟨K, T, n, X, mi1, c, R1⟩
    exact ⟨_, ex, r172_0 (fun _ => r172_7 c2 (r172_13 nI_0.symm (by decide))) (fun z => absurd rfl z), by omega, p⟩
  | false =>
    rw [if_neg (by decide)]
    have c := no_of (v := v) (mi := mi) (ml := ml) (ex := ex) (c55t (t := a) e)
    exact ⟨mi, ex + 1, r172_0 (fun _ => r172_7_x3 c r172_79) (fun z => absurd rfl z), Nat.le_refl _, Pst.no O d1⟩
theorem n10 : ¬ (1 : Int32) = 0 := by decide
/-- a rush or not -/
theorem ah1 (O : Ob v mi S s H) (g : Good S A P) : Aend v 172 [vR 8 (ob v), vI 1, vI a, vI b, vR 23 0] mi ml ex S s H (chR S a) := by
  have q : ∀ {o}, pt_Ev 172 none 21 [some (vR 8 (ob v)), some (vI 1), some (vI a), some (vI b), some (vR 23 0), none] [vI 0, vR 23 0] (pt_MM mi ml ex) o → pt_Ca 172 [vR 8 (ob v), vI 1, vI a, vI b, vR 23 0] (pt_MM mi ml ex) o := fun k => r172_0 (fun z => absurd z (by decide)) (fun _ => r172_16 (fun _ => k) (fun z => absurd rfl z))
  unfold chR
  cases e : sIn3 a 0 9 with
  | true =>
    rw [if_pos rfl]
    obtain ⟨p, hp, rfl⟩ := in_10 e
    rw [nI_clamp (by omega)]
    obtain ⟨K, T, n, X, R⟩ := id O
    cases eh : sHere S p with
    | true =>
      rw [if_pos rfl]
      by_cases h6 : S (9 * p + 6) = 0
      · rw [if_pos h6]
        obtain ⟨mi1, c, R1, -⟩ := c56 (ml := pull v ml) (ex := ex) hp R g eh h6
        obtain ⟨mi2, c2, ps⟩ := ok_of ⟨K, T, n, X, mi1, c, R1⟩
        exact ⟨_, ex, q (r172_21 c2 (r172_26 nI_0.symm (by decide))), by omega, ps⟩
      · rw [if_neg h6]
        have c := no_of (v := v) (mi := mi) (ml := ml) (ex := ex) (c56c hp R eh h6)
        exact ⟨mi, ex + 1, q (r172_21_x2 c r172_87), Nat.le_refl _, Pst.no O d3⟩
    | false =>
      rw [if_neg (by decide)]
      have c := no_of (v := v) (mi := mi) (ml := ml) (ex := ex) (c56b hp R eh)
      exact ⟨mi, ex + 1, q (r172_21_x3 c r172_79), Nat.le_refl _, Pst.no O d1⟩
  | false =>
    rw [if_neg (by decide)]
    have c := no_of (v := v) (mi := mi) (ml := ml) (ex := ex) (c56a e)
    exact ⟨mi, ex + 1, q (r172_21_x3 c r172_79), Nat.le_refl _, Pst.no O d1⟩
/-- load -/
theorem ah2 (O : Ob v mi S s H) (g : Good S A P) (hA : A ≤ 100000) : Aend v 172 [vR 8 (ob v), vI 2, vI a, vI b, vR 23 0] mi ml ex S s H (chL S a) := by
  have q : ∀ {o}, pt_Ev 172 none 34 [some (vR 8 (ob v)), some (vI 2), some (vI a), some (vI b), some (vR 23 0), none] [vI 0, vR 23 0] (pt_MM mi ml ex) o → pt_Ca 172 [vR 8 (ob v), vI 2, vI a, vI b, vR 23 0] (pt_MM mi ml ex) o := fun k => r172_0 (fun z => absurd z (by decide)) (fun _ => r172_16 (fun z => absurd z (by decide)) (fun _ => r172_29 (fun _ => k) (fun z => absurd rfl z)))
  unfold chL
  cases e : sIn3 a 0 1 with
  | true =>
    rw [if_pos rfl]
    obtain ⟨p, hp, rfl⟩ := in_2 e
    rw [nI_clamp (by omega)]
    obtain ⟨K, T, n, X, R⟩ := id O
    obtain ⟨w, mi1, c, hw, R1, -⟩ := c57 (ml := pull v ml) (ex := ex) hp R g hA
    rw [wW_eq (g.GO hA) hw]
    obtain ⟨mi2, c2, ps⟩ := ok_of ⟨K, T, n, X, mi1, c, R1⟩
    exact ⟨_, ex, q (r172_34 c2 (r172_39 nI_0.symm (by decide))), by omega, ps⟩
  | false =>
    rw [if_neg (by decide)]
    have c := no_of (v := v) (mi := mi) (ml := ml) (ex := ex) (c57t e)
    exact ⟨mi, ex + 1, q (r172_34_x3 c r172_79), Nat.le_refl _, Pst.no O d1⟩
/-- a machine's room -/
theorem ah3 (O : Ob v mi S s H) (g : Good S A P) : Aend v 172 [vR 8 (ob v), vI 3, vI a, vI b, vR 23 0] mi ml ex S s H (chM S a b) := by
  have q : ∀ {o}, pt_Ev 172 none 47 [some (vR 8 (ob v)), some (vI 3), some (vI a), some (vI b), some (vR 23 0), none] [vI 0, vR 23 0] (pt_MM mi ml ex) o → pt_Ca 172 [vR 8 (ob v), vI 3, vI a, vI b, vR 23 0] (pt_MM mi ml ex) o := fun k => r172_0 (fun z => absurd z (by decide)) (fun _ => r172_16 (fun z => absurd z (by decide)) (fun _ => r172_29 (fun z => absurd z (by decide)) (fun _ => r172_42 (fun _ => k) (fun z => absurd rfl z))))
  unfold chM
  cases e : sIn3 a 0 1 with
  | true =>
    rw [if_pos rfl]
    cases ey : sIn3 b 10 60 with
    | true =>
      rw [if_pos rfl]
      obtain ⟨p, hp, rfl⟩ := in_2 e
      rw [nI_clamp (by omega)]
      obtain ⟨K, T, n, X, R⟩ := id O
      cases ei : sIdle S p with
      | true =>
        rw [if_pos rfl]
        obtain ⟨mi1, c, R1, -⟩ := c58 (ml := pull v ml) (ex := ex) hp ey R g ei
        obtain ⟨mi2, c2, ps⟩ := ok_of ⟨K, T, n, X, mi1, c, R1⟩
        exact ⟨_, ex, q (r172_47 c2 (r172_53 nI_0.symm (by decide))), by omega, ps⟩
      | false =>
        rw [if_neg (by decide)]
        have c := no_of (v := v) (mi := mi) (ml := ml) (ex := ex) (c58c hp ey R ei)
        exact ⟨mi, ex + 1, q (r172_47_x2 c r172_87), Nat.le_refl _, Pst.no O d3⟩
    | false =>
      rw [if_neg (by decide)]
      have c := no_of (v := v) (mi := mi) (ml := ml) (ex := ex) (c58b e ey)
      exact ⟨mi, ex + 1, q (r172_47_x1 c r172_83), Nat.le_refl _, Pst.no O d2⟩
  | false =>
    rw [if_neg (by decide)]
    have c := no_of (v := v) (mi := mi) (ml := ml) (ex := ex) (c58a (y := b) e)
    exact ⟨mi, ex + 1, q (r172_47_x3 c r172_79), Nat.le_refl _, Pst.no O d1⟩
/-- minutes -/
theorem ah4 (O : Ob v mi S s H) (g : Good S A P) : Aend v 172 [vR 8 (ob v), vI 4, vI a, vI b, vR 23 0] mi ml ex S s H (chP S a) := by
  have q : ∀ {o}, pt_Ev 172 none 61 [some (vR 8 (ob v)), some (vI 4), some (vI a), some (vI b), some (vR 23 0), none] [vI 0, vR 23 0] (pt_MM mi ml ex) o → pt_Ca 172 [vR 8 (ob v), vI 4, vI a, vI b, vR 23 0] (pt_MM mi ml ex) o := fun k => r172_0 (fun z => absurd z (by decide)) (fun _ => r172_16 (fun z => absurd z (by decide)) (fun _ => r172_29 (fun z => absurd z (by decide)) (fun _ => r172_42 (fun z => absurd z (by decide)) (fun _ => r172_56 (fun _ => k) (fun z => absurd rfl z)))))
  unfold chP
  cases e : sIn3 a 1 240 with
  | true =>
    rw [if_pos rfl]
    obtain ⟨K, T, n, X, R⟩ := id O
    by_cases h2 : S 96 + a ≤ 99999
    · rw [if_pos h2]
      obtain ⟨k, hk, rfl⟩ := in_240 e
      rw [nI_clamp (by omega)]
      obtain ⟨mi1, c, R1, -⟩ := c59 (ml := pull v ml) (ex := ex) R g e hk h2
      obtain ⟨mi2, c2, ps⟩ := ok_of ⟨K, T, n, X, mi1, c, R1⟩
      exact ⟨_, ex, q (r172_61 c2 (r172_66 nI_0.symm (by decide))), by omega, ps⟩
    · rw [if_neg h2]
      have c := no_of (v := v) (mi := mi) (ml := ml) (ex := ex) (c59b R e h2)
      exact ⟨mi, ex + 1, q (r172_61_x2 c r172_87), Nat.le_refl _, Pst.no O d3⟩
  | false =>
    rw [if_neg (by decide)]
    have c := no_of (v := v) (mi := mi) (ml := ml) (ex := ex) (c59a e)
    exact ⟨mi, ex + 1, q (r172_61_x1 c r172_83), Nat.le_refl _, Pst.no O d2⟩
/-- a setting -/
theorem ah5 (O : Ob v mi S s H) (g : Good S A P) : Aend v 172 [vR 8 (ob v), vI 5, vI a, vI b, vR 23 0] mi ml ex S s H (chS S a b) := by
  have q : ∀ {o}, pt_Ev 172 none 69 [some (vR 8 (ob v)), some (vI 5), some (vI a), some (vI b), some (vR 23 0), none] [vI 0, vR 23 0] (pt_MM mi ml ex) o → pt_Ca 172 [vR 8 (ob v), vI 5, vI a, vI b, vR 23 0] (pt_MM mi ml ex) o := fun k => r172_0 (fun z => absurd z (by decide)) (fun _ => r172_16 (fun z => absurd z (by decide)) (fun _ => r172_29 (fun z => absurd z (by decide)) (fun _ => r172_42 (fun z => absurd z (by decide)) (fun _ => r172_56 (fun z => absurd z (by decide)) (fun _ => k)))))
  unfold chS
  cases e : sIn3 a 0 1 with
  | true =>
    rw [if_pos rfl]
    obtain ⟨K, T, n, X, R⟩ := id O
    cases ef : fits a b with
    | true =>
      rw [if_pos rfl]
      obtain ⟨p, hp, rfl⟩ := in_2 e
      rw [nI_clamp (by omega)]
      obtain ⟨mi1, c, R1, -⟩ := c60 (ml := pull v ml) (ex := ex) hp ef R g
      obtain ⟨mi2, c2, ps⟩ := ok_of ⟨K, T, n, X, mi1, c, R1⟩
      exact ⟨_, ex, q (r172_69 c2 (r172_75 nI_0.symm (by decide))), by omega, ps⟩
    | false =>
      rw [if_neg (by decide)]
      have c := no_of (v := v) (mi := mi) (ml := ml) (ex := ex) (c60b e ef)
      exact ⟨mi, ex + 1, q (r172_69_x1 c r172_83), Nat.le_refl _, Pst.no O d2⟩
  | false =>
    rw [if_neg (by decide)]
    have c := no_of (v := v) (mi := mi) (ml := ml) (ex := ex) (c60a (y := b) e)
    exact ⟨mi, ex + 1, q (r172_69_x3 c r172_79), Nat.le_refl _, Pst.no O d1⟩
end
