/-! The model: changing calls. -/
theorem bI_t {b : Bool} (h : ¬ bI b = 0) : b = true := by
  rw [bI_eq0, Bool.not_eq_false] at h
  exact h
theorem bI_f {b : Bool} (h : bI b = 0) : b = false := (bI_eq0 b).mp h
theorem bI_tn {b : Bool} (h : b = true) : ¬ bI b = 0 := by rw [h]; decide
theorem bI_fn {b : Bool} (h : b = false) : bI b = 0 := by rw [h]; rfl
theorem nI_1' : nI 1 = 1 := by decide +kernel
theorem sEmp_hi {x : Int32} {k : Nat} (hk : 90 ≤ k) (h1 : k ≠ 100) (d : Nat) : ∀ S, (sEmp x d S).1 k = S k := by
  induction d with
  | zero => intro S; rfl
  | succ d ih =>
    intro S
    cases hf : sFirstIn S x with
    | none => rw [sEmp_1 hf]
    | some p =>
      cases hs : sFreeShelf S with
      | none => rw [sEmp_2 hs]
      | some f =>
        rw [sEmp_3 hf hs]
        have hp : p < 10 := (sFirst_lt _ _ hf).1
        exact (ih _).trans (sPutT_hi hp hk h1)
theorem sEnds_hi {S : Nat → Int32} {m k : Nat} (hk : 90 ≤ k) (h0 : k ≠ 90 + 3 * m + 1) (h1 : k ≠ 100) (h3 : k ≠ 103) : (sEnds S m).1 k = S k := by
  unfold sEnds
  split
  · rfl
  · show sFin m (sEmp (nI m) 10 S).1 (S 103 + nI (sEmp (nI m) 10 S).2) k = S k
    unfold sFin
    split
    · rw [up1_ne _ _ h0, up1_ne _ _ h3]; exact sEmp_hi hk h1 10 S
    · rw [up1_ne _ _ h3]; exact sEmp_hi hk h1 10 S
theorem sAll_96 {S : Nat → Int32} : (sAll S).1 96 = S 96 := (sEnds_hi (by decide) (by decide) (by decide) (by decide)).trans (sEnds_hi (by decide) (by decide) (by decide) (by decide))
theorem Good.taken {S : Nat → Int32} {A P : Int} {p : Nat} {x : Int32} (g : Good S A P) (hp : p < 10) (ha : sAt S p 2 x = true) : Good (sTaken S p) A P := ((g.gone hp ha).up (k := 101) (by decide)).up (k := 99) (by decide)
theorem Good.give {S : Nat → Int32} {A P : Int} {t x : Int32} (g : Good S A P) (hP : P ≤ 400000000) : Good (sGive S t x).2 A (P + 20) := by
  cases hf : sShelf S x with
  | none => rw [sGive_0 hf]; exact g.ref.mono (Int.le_refl _) (by omega)
  | some p =>
    by_cases e : S (9 * p + 0) = t
    · rw [sGive_1 hf e]
      have h := fi_lt hf
      exact (sAll_good (g.taken h.1 h.2) hP).1
    · rw [sGive_2 hf e]; exact g.ref.mono (Int.le_refl _) (by omega)
theorem Good.takes {S : Nat → Int32} {A P : Int} {x1 x2 x3 x4 x5 : Int32} (g : Good S A P) (hA : A ≤ 100000) (h : okT x1 x2 x3 x4 = true) (h5 : x5 = 0 ∨ x5 = 1) : Good (sTakes S x1 x2 x3 x4 x5).2 (A + 1) P := by
  obtain ⟨⟨a1, a2⟩, ⟨b1, b2⟩, ⟨c1, c2⟩, d1, d2⟩ := okT_t.mp h
  rw [Int32.lt_iff_toInt_lt] at a1 a2 c1 c2 d1 d2
  have l0 : (0 : Int32).toInt = 0 := by decide
  have l60 : (60 : Int32).toInt = 60 := by decide
  have l999 : (999 : Int32).toInt = 999 := by decide
  cases hf : sFree S with
  | none => rw [sTakes_none hf]; exact g.ref.mono (by omega) (Int.le_refl _)
  | some p =>
    rw [sTakes_some hf]
    refine g.adm hA hf ?_ ?_ ?_ h5
    · rw [i32_ne, im1]; omega
    · rw [i1] at c1; omega
    · rw [i1] at d1; omega
theorem Good.col {S : Nat → Int32} {A P : Int} (g : Good S A P) : ∀ p, p < 10 → sW S p = true → ¬ S (9 * p + 1) = -1 := fun p hp h => ((g.1.1 p hp).2 (sW_6 h).1).2.2.2
theorem Good.loads {S : Nat → Int32} {A P : Int} {w : Int32} {m : Nat} (g : Good S A P) (hA : A ≤ 100000) (hm : m < 2) (hw : sWL S (S (90 + 3 * m + 0)) w) : Good (sLoads S w m).2 A P := by
  unfold sLoads
  by_cases c : sIdle S m = true ∧ ¬ w = 0
  · rw [if_pos c]
    have hi := c.1
    rw [sIdle, decide_eq_true_eq] at hi
    exact g.load hm hi (sWL_bits (g.GO hA) hw) c.2
  · rw [if_neg c]; exact g.ref
theorem i99999 : (99999 : Int32).toInt = 99999 := by decide
theorem pass_clock {S : Nat → Int32} {A P : Int} {k : Nat} (g : Good S A P) (hk : k ≤ 240) (h2 : S 96 + nI k ≤ 99999) : (S 96).toInt + k ≤ 99999 := by
  have n := g.2.1.2.1
  have e : (nI k).toInt = k := nI_toInt (by omega)
  rw [Int32.le_iff_toInt_le, ad32 (by omega) (by omega), e, i99999] at h2
  exact h2
theorem sPass_good {S : Nat → Int32} {A P : Int} {k : Nat} (g : Good S A P) (hP : P ≤ 300000000) (hk : k ≤ 240) (h2 : (S 96).toInt + k ≤ 99999) : ∀ i : Nat, i ≤ k → Good (sPass S i).1 A (P + 20 * i) ∧ ((sPass S i).1 96).toInt = (S 96).toInt + i := by
  intro i
  induction i with
  | zero => intro _; exact ⟨g.mono (Int.le_refl _) (by omega), by show (S 96).toInt = _; omega⟩
  | succ i ih =>
    intro hi
    obtain ⟨g1, g2⟩ := ih (by omega)
    have e1 : sPass S (i + 1) = sMin (sPass S i) := rfl
    rw [e1]
    have n := g.2.1.2.1
    generalize sPass S i = a at *
    have ev : (a.1 96 + 1).toInt = (S 96).toInt + i + 1 := by rw [ad32 (by rw [i1]; omega) (by rw [i1]; omega), i1, g2]
    have g3 := (sAll_good (g1.up96 (v := a.1 96 + 1) (by omega)) (by omega)).1
    refine ⟨g3.mono (Int.le_refl _) (by omega), ?_⟩
    show ((sAll (up1 a.1 96 (a.1 96 + 1))).1 96).toInt = _
    rw [sAll_96, up1_eq, ev]
    omega
section
variable {mi : Nat → Nat → Nat → Int32} {ml : Nat → Nat → Nat → Int64} {ex : Nat} {S : Nat → Int32} {s : Nat} {H : Nat → Nat → Int32} {K : Nat → Bool} {T : Nat → Nat → Int32} {n : Nat} {X : Nat → Int32} {A P : Int}
theorem msave (R : RM mi S s H K T n X) : ∃ m1, pt_Ca 95 [vR 9 0] (pt_MEM (th mi 0) ml ex) (.inl none, pt_MEM m1 ml ex) ∧ RM m1 S (sv s) (svH S s H) K T n X ∧ Fr MK mi m1 ∧ m1 9 0 0 = 0 := by
  obtain ⟨r1, r2, r3⟩ := R.th (x := 0)
  obtain ⟨m1, q1, q2, q3, q4⟩ := m95 (ml := ml) (ex := ex) r1
  exact ⟨m1, q1, q2, r2.tr q3, q4.trans r3⟩
theorem m114t {x1 x2 x3 x4 x5 : Int32} (h : okT x1 x2 x3 x4 = false) : pt_Ca 114 [vR 9 0, vI x1, vI x2, vI x3, vI x4, vI x5] (pt_MEM mi ml ex) (.inl (some (vI 0)), pt_MEM (th mi 1) ml ex) := by
  have F : ∀ u, pt_Ev 114 none 45 [some (vR 9 0), some (vI x1), some (vI x2), some (vI x3), some (vI x4), some (vI x5), u] [] (pt_MEM mi ml ex) (.inl (some (vI 0)), pt_MEM (th mi 1) ml ex) := fun u => r114_45 (fun _ => r114_58 (m89f (by decide)) (r114_62 (fun _ => r114_65) (fun c => absurd rfl c))) (fun c => absurd rfl c)
  refine r114_0 m88 (r114_6 (fun _ => F _) (fun a => r114_9 m88 (r114_16 (fun _ => F _) (fun b => r114_19 m88 (r114_26 (fun _ => F _) (fun c => r114_29 m88 (r114_38 (fun _ => F _) (fun d => ?_))))))))
  rw [okT, bI_t a, bI_t b, bI_t c, bI_t d] at h
  exact absurd h (by decide)
theorem m114 {x1 x2 x3 x4 x5 : Int32} (R : RM mi S s H K T n X) (h : okT x1 x2 x3 x4 = true) (h5 : x5 = 0 ∨ x5 = 1) : ∃ mi', pt_Ca 114 [vR 9 0, vI x1, vI x2, vI x3, vI x4, vI x5] (pt_MEM mi ml ex) (.inl (some (vI (sTakes S x1 x2 x3 x4 x5).1)), pt_MEM mi' ml ex) ∧ RM mi' (sTakes S x1 x2 x3 x4 x5).2 (sv s) (svH S s H) K T n X ∧ mi' 9 0 0 = 0 ∧ Fr MK mi mi' := by
  rw [okT, Bool.and_eq_true, Bool.and_eq_true, Bool.and_eq_true] at h
  obtain ⟨a, b, c, d⟩ := h
  obtain ⟨m1, q1, q2, q3, q4⟩ := msave (ml := ml) (ex := ex) R
  obtain ⟨w, m2, w1, w2, w3⟩ := m113 (mi := m1) (ml := ml) (ex := ex) (x1 := x1) (x2 := x2) (x3 := x3) (x4 := x4) (x5 := x5)
  rw [q2.1] at w2 w3
  rw [w2] at w1
  obtain ⟨r1, r2, r3⟩ := q2.mx w3
  refine ⟨m2, r114_0 m88 (r114_6 (fun z => absurd z (bI_tn a)) (fun _ => r114_9 m88 (r114_16 (fun z => absurd z (bI_tn b)) (fun _ => r114_19 m88 (r114_26 (fun z => absurd z (bI_tn c)) (fun _ => r114_29 m88 (r114_38 (fun z => absurd z (bI_tn d)) (fun _ => r114_41 (fun z => absurd z (by decide)) (fun _ => r114_54 m89t (r114_62 (fun z => absurd z (by decide)) (fun _ => r114_67 q1 (r114_71 (fun z => ?_) (fun z => ?_))))))))))))), r1, r3.trans q4, q3.tr r2⟩
  · rw [z] at w1
    rw [z]
    exact r114_86 w1 r114_90
  · rw [h5.resolve_left z] at w1
    rw [h5.resolve_left z]
    exact r114_82 w1 r114_90
theorem m115t {t x : Int32} (h : sIn3 x 0 7 = false) : pt_Ca 115 [vR 9 0, vI t, vI x] (pt_MEM mi ml ex) (.inl (some (vI 0)), pt_MEM (th mi 1) ml ex) :=
  r115_0 m88 (r115_8 (fun _ => r115_15 (m89f (by decide)) (r115_19 (fun _ => r115_22) (fun c => absurd rfl c))) (fun c => absurd (bI_fn h) c))
theorem m115 {t x : Int32} (R : RM mi S s H K T n X) (g : Good S A P) (hP : P ≤ 400000000) (h : sIn3 x 0 7 = true) : ∃ mi', pt_Ca 115 [vR 9 0, vI t, vI x] (pt_MEM mi ml ex) (.inl (some (vI (sGive S t x).1)), pt_MEM mi' ml ex) ∧ RM mi' (sGive S t x).2 (sv s) (svH S s H) K T n X ∧ mi' 9 0 0 = 0 ∧ Fr MK mi mi' := by
  obtain ⟨m1, q1, q2, q3, q4⟩ := msave (ml := ml) (ex := ex) R
  have start : ∀ {o}, pt_Ev 115 none 28 [some (vR 9 0), some (vI t), some (vI x), none, none, none] [] (pt_MEM m1 ml ex) o → pt_Ca 115 [vR 9 0, vI t, vI x] (pt_MEM mi ml ex) o := fun k =>
    r115_0 m88 (r115_8 (fun c => absurd c (bI_tn h)) (fun _ => r115_11 m89t (r115_19 (fun c => absurd c (by decide)) (fun _ => r115_24 q1 k))))
  have call := m107 (mi := m1) (ml := ml) (ex := ex) (x := x)
  rw [q2.1, mShelf_same g.1.2.2.1] at call
  cases hf : sShelf S x with
  | none =>
    rw [hf] at call
    rw [sGive_0 hf]
    obtain ⟨m2, w1, w2⟩ := m96 (mi := m1) (ml := ml) (ex := ex) (x := 1)
    rw [q2.1] at w2
    obtain ⟨r1, r2, r3⟩ := q2.mx w2
    exact ⟨m2, start (r115_28 call (r115_33 (fun _ => r115_53 (fun _ => r115_59 w1 r115_67) (fun c => absurd rfl c)) (fun c => absurd rfl c))), r1, r3.trans q4, q3.tr r2⟩
  | some p =>
    rw [hf] at call
    have hp := fi_lt hf
    have hp9 : p < 10 := hp.1
    have hne : ¬ oI (some p) = -1 := oI_ne rfl (fun q' hq' => sShelf_lt q' (hf.trans hq'))
    have e0 : m1 14 0 (9 * p + 0) = S (9 * p + 0) := by rw [ms_e m1 (by omega), q2.1]
    by_cases e : S (9 * p + 0) = t
    · rw [sGive_1 hf e]
      have fee := m112 (mi := m1) (ml := ml) (ex := ex) hp9
      rw [q2.1] at fee
      have e99 : (pt_up3 m1 14 0 101 (m1 14 0 101 + mFee S p)) 14 0 99 = S 99 := by rw [up3_j _ _ (by decide), ms_e m1 (by omega), q2.1]
      have e101 : m1 14 0 101 = S 101 := by rw [ms_e m1 (by omega), q2.1]
      have rule := @r115_73 m1 ml ex t x (oI (some p)) none none (mFee S p)
      rw [e99, e101] at rule
      have hx : MX m1 (pt_up3 (pt_up3 (pt_up3 m1 14 0 101 (S 101 + mFee S p)) 14 0 99 (S 99 + 1)) 14 0 (9 * p + 0) (-1)) (sTaken S p) := by
        have x1 := ((MX.refl (mi := m1)).w (k := 101) (v := S 101 + mFee S p) (by omega)).w (k := 99) (v := S 99 + 1) (by omega)
        have x2 := x1.w (k := 9 * p + 0) (v := -1) (by omega)
        rw [q2.1] at x2
        unfold sTaken
        rw [up1_comm S (-1) _ (show 9 * p + 0 ≠ 101 by omega), up1_comm _ (-1) _ (show 9 * p + 0 ≠ 99 by omega)]
        exact x2
      have rule2 := @r115_107 (pt_up3 (pt_up3 m1 14 0 101 (S 101 + mFee S p)) 14 0 99 (S 99 + 1)) ml ex t x (oI (some p)) (mFee S p) none (nI (9 * p + 0)) (9 * p + 0)
      revert rule2 hx
      generalize pt_up3 (pt_up3 (pt_up3 m1 14 0 101 (S 101 + mFee S p)) 14 0 99 (S 99 + 1)) 14 0 (9 * p + 0) (-1) = m2
      intro hx rule2
      have g1 := g.taken hp9 hp.2
      obtain ⟨g2, -⟩ := sEnds_good (m := 0) (by decide) g1 (by omega)
      obtain ⟨w, m3, w1, w2, w3⟩ := m111 (mi := m2) (ml := ml) (ex := ex) (m := 0) (by decide) (by rw [hx.1]; exact g1.1.2.2.1) (by rw [hx.1]; exact g1.ne (m := 0) (by decide))
      rw [hx.1] at w2 w3
      obtain ⟨v, m4, v1, v2, v3⟩ := m111 (mi := m3) (ml := ml) (ex := ex) (m := 1) (by decide) (by rw [w3.1]; exact g2.1.2.2.1) (by rw [w3.1]; exact g2.ne (m := 1) (by decide))
      rw [w3.1] at v2 v3
      rw [nI_0] at w1
      rw [nI_1'] at v1
      obtain ⟨r1, r2, r3⟩ := q2.mx ((hx.tr w3).tr v3)
      exact ⟨m4, start (r115_28 call (r115_33 (fun c => absurd c hne) (fun _ => r115_39 (m90 (j := 0) hp9 (by decide) (by decide)) (r115_48 rfl (by omega) (fun _ => r115_68 fee (rule (m90 (j := 0) hp9 (by decide) (by decide)) (rule2 rfl (by omega) w1 (r115_114 v1 r115_119)))) (fun c => absurd (by rw [e0]; exact e) c))))), r1, r3.trans q4, q3.tr r2⟩
    · rw [sGive_2 hf e]
      obtain ⟨m2, w1, w2⟩ := m96 (mi := m1) (ml := ml) (ex := ex) (x := 2)
      rw [q2.1] at w2
      obtain ⟨r1, r2, r3⟩ := q2.mx w2
      exact ⟨m2, start (r115_28 call (r115_33 (fun c => absurd c hne) (fun _ => r115_39 (m90 (j := 0) hp9 (by decide) (by decide)) (r115_48 rfl (by omega) (fun c => absurd (by rw [← e0]; exact c) e) (fun _ => r115_53 (fun c => absurd c hne) (fun _ => r115_63 w1 r115_67)))))), r1, r3.trans q4, q3.tr r2⟩
theorem m93x {x : Int32} (h : sIn3 x 0 9 = false) : pt_Ca 93 [vR 9 0, vI x] (pt_MEM mi ml ex) (.inl (some (vI 0)), pt_MEM mi ml ex) :=
  r93_0 m88 (r93_7 (fun _ => r93_28) (fun c => absurd (bI_fn h) c))
theorem m116a {x : Int32} (h : sIn3 x 0 9 = false) : pt_Ca 116 [vR 9 0, vI x] (pt_MEM mi ml ex) (.inl (some (vI 0)), pt_MEM (th mi 1) ml ex) :=
  r116_0 (m93x h) (r116_6 (fun _ => r116_9 (m89f (by decide)) (r116_29 (fun _ => r116_32) (fun c => absurd rfl c))) (fun c => absurd rfl c))
theorem m116b {p : Nat} (hp : p < 10) (R : RM mi S s H K T n X) (h : sHere S p = false) : pt_Ca 116 [vR 9 0, vI (nI p)] (pt_MEM mi ml ex) (.inl (some (vI 0)), pt_MEM (th mi 1) ml ex) :=
  r116_0 (m93 hp) (r116_6 (fun _ => r116_9 (m89f (by decide)) (r116_29 (fun _ => r116_32) (fun c => absurd rfl c))) (fun c => absurd (bI_fn (by rw [R.1]; exact h)) c))
theorem m116c {p : Nat} (hp : p < 10) (R : RM mi S s H K T n X) (h : sHere S p = true) (h6 : ¬ S (9 * p + 6) = 0) : pt_Ca 116 [vR 9 0, vI (nI p)] (pt_MEM mi ml ex) (.inl (some (vI 0)), pt_MEM (th mi 2) ml ex) :=
  r116_0 (m93 hp) (r116_6 (fun c => absurd c (bI_tn (by rw [R.1]; exact h))) (fun _ => r116_13 (m94 hp) (r116_18 (fun _ => r116_25 (m89f (by decide)) (r116_29 (fun _ => r116_32) (fun c => absurd rfl c))) (fun c => absurd (bI_fn (by rw [R.1, sIn, h]; simp [h6])) c))))
theorem m116 {p : Nat} (hp : p < 10) (R : RM mi S s H K T n X) (h : sHere S p = true) (h6 : S (9 * p + 6) = 0) : ∃ mi', pt_Ca 116 [vR 9 0, vI (nI p)] (pt_MEM mi ml ex) (.inl (some (vI (1 - S (9 * p + 5)))), pt_MEM mi' ml ex) ∧ RM mi' (up1 S (9 * p + 5) (1 - S (9 * p + 5))) (sv s) (svH S s H) K T n X ∧ mi' 9 0 0 = 0 ∧ Fr MK mi mi' := by
  obtain ⟨m1, q1, q2, q3, q4⟩ := msave (ml := ml) (ex := ex) R
  have e5 : m1 14 0 (9 * p + 5) = S (9 * p + 5) := by rw [ms_e m1 (by omega), q2.1]
  have x := (MX.refl (mi := m1)).w (k := 9 * p + 5) (v := 1 - m1 14 0 (9 * p + 5)) (by omega)
  rw [q2.1, e5] at x
  obtain ⟨r1, r2, r3⟩ := q2.mx x
  refine ⟨_, r116_0 (m93 hp) (r116_6 (fun c => absurd c (bI_tn (by rw [R.1]; exact h))) (fun _ => r116_13 (m94 hp) (r116_18 (fun c => absurd c (bI_tn (by rw [R.1, sIn, h, h6]; decide))) (fun _ => r116_21 m89t (r116_29 (fun c => absurd c (by decide)) (fun _ => r116_34 q1 (r116_38 (m90 (j := 5) hp (by decide) (by decide)) (r116_47 (m90 (j := 5) hp (by decide) (by decide)) (r116_57 rfl (by omega) rfl (by omega) (m90 (j := 5) hp (by decide) (by decide)) ?_))))))))), r1, r3.trans q4, q3.tr r2⟩
  rw [e5]
  have rule := @r116_69 (pt_up3 m1 14 0 (9 * p + 5) (1 - S (9 * p + 5))) ml ex (nI p) (nI (9 * p + 5)) (9 * p + 5) rfl (by omega)
  rw [up3_eq] at rule
  exact rule
theorem m117t {x : Int32} (h : sIn3 x 0 1 = false) : pt_Ca 117 [vR 9 0, vI x] (pt_MEM mi ml ex) (.inl (some (vI 0)), pt_MEM (th mi 1) ml ex) :=
  r117_0 m92 (r117_5 (fun _ => r117_12 (m89f (by decide)) (r117_16 (fun _ => r117_19) (fun c => absurd rfl c))) (fun c => absurd (bI_fn h) c))
theorem m117 {m : Nat} {w : Int32} (hm : m < 2) (R : RM mi S s H K T n X) (g : Good S A P) (hA : A ≤ 100000) (hw : sWL S (S (90 + 3 * m + 0)) w) : ∃ mi', pt_Ca 117 [vR 9 0, vI (nI m)] (pt_MEM mi ml ex) (.inl (some (vI (sLoads S w m).1)), pt_MEM mi' ml ex) ∧ RM mi' (sLoads S w m).2 (sv s) (svH S s H) K T n X ∧ mi' 9 0 0 = 0 ∧ Fr MK mi mi' := by
  obtain ⟨m1, q1, q2, q3, q4⟩ := msave (ml := ml) (ex := ex) R
  obtain ⟨v, m2, w1, w2, w3⟩ := m106 (mi := m1) (ml := ml) (ex := ex) (w := w) hm (by rw [q2.1]; exact g.GO hA) (by rw [q2.1]; exact g.col) (by rw [q2.1]; exact hw)
  rw [q2.1] at w2 w3
  rw [w2] at w1
  obtain ⟨r1, r2, r3⟩ := q2.mx w3
  exact ⟨m2, r117_0 m92 (r117_5 (fun c => absurd c (bI_tn (in1 m hm))) (fun _ => r117_8 m89t (r117_16 (fun c => absurd c (by decide)) (fun _ => r117_21 q1 (r117_25 w1 r117_30))))), r1, r3.trans q4, q3.tr r2⟩
theorem m118a {x y : Int32} (h : sIn3 x 0 1 = false) : pt_Ca 118 [vR 9 0, vI x, vI y] (pt_MEM mi ml ex) (.inl (some (vI 0)), pt_MEM (th mi 1) ml ex) :=
  r118_0 m92 (r118_5 (fun _ => r118_8 (m89f (by decide)) (r118_43 (fun _ => r118_46) (fun c => absurd rfl c))) (fun c => absurd (bI_fn h) c))
theorem m118b {x y : Int32} (h : sIn3 x 0 1 = true) (hy : sIn3 y 10 60 = false) : pt_Ca 118 [vR 9 0, vI x, vI y] (pt_MEM mi ml ex) (.inl (some (vI 0)), pt_MEM (th mi 2) ml ex) :=
  r118_0 m92 (r118_5 (fun c => absurd c (bI_tn h)) (fun _ => r118_12 m88 (r118_20 (fun _ => r118_23 (m89f (by decide)) (r118_43 (fun _ => r118_46) (fun c => absurd rfl c))) (fun c => absurd (bI_fn hy) c))))
theorem m118c {m : Nat} {y : Int32} (hm : m < 2) (hy : sIn3 y 10 60 = true) (R : RM mi S s H K T n X) (hI : sIdle S m = false) : pt_Ca 118 [vR 9 0, vI (nI m), vI y] (pt_MEM mi ml ex) (.inl (some (vI 0)), pt_MEM (th mi 3) ml ex) :=
  r118_0 m92 (r118_5 (fun c => absurd c (bI_tn (in1 m hm))) (fun _ => r118_12 m88 (r118_20 (fun c => absurd c (bI_tn hy)) (fun _ => r118_27 (m104 hm) (r118_32 (fun _ => r118_35 (m89f (by decide)) (r118_43 (fun _ => r118_46) (fun c => absurd rfl c))) (fun c => absurd (bI_fn (by rw [R.1]; exact hI)) c))))))
theorem m118 {m : Nat} {y : Int32} (hm : m < 2) (hy : sIn3 y 10 60 = true) (R : RM mi S s H K T n X) (hI : sIdle S m = true) : ∃ mi', pt_Ca 118 [vR 9 0, vI (nI m), vI y] (pt_MEM mi ml ex) (.inl (some (vI (S (90 + 3 * m + 0)))), pt_MEM mi' ml ex) ∧ RM mi' (up1 S (90 + 3 * m + 0) y) (sv s) (svH S s H) K T n X ∧ mi' 9 0 0 = 0 ∧ Fr MK mi mi' := by
  obtain ⟨m1, q1, q2, q3, q4⟩ := msave (ml := ml) (ex := ex) R
  have e0 : m1 14 0 (90 + 3 * m + 0) = S (90 + 3 * m + 0) := by rw [ms_e m1 (by omega), q2.1]
  have x := (MX.refl (mi := m1)).w (k := 90 + 3 * m + 0) (v := y) (by omega)
  rw [q2.1] at x
  obtain ⟨r1, r2, r3⟩ := q2.mx x
  rw [← e0]
  exact ⟨_, r118_0 m92 (r118_5 (fun c => absurd c (bI_tn (in1 m hm))) (fun _ => r118_12 m88 (r118_20 (fun c => absurd c (bI_tn hy)) (fun _ => r118_27 (m104 hm) (r118_32 (fun c => absurd c (bI_tn (by rw [R.1]; exact hI))) (fun _ => r118_39 m89t (r118_43 (fun c => absurd c (by decide)) (fun _ => r118_48 q1 (r118_52 (m91 (j := 0) hm (by decide) (by decide)) (r118_61 rfl (by omega) (m91 (j := 0) hm (by decide) (by decide)) (r118_72 rfl (by omega)))))))))))), r1, r3.trans q4, q3.tr r2⟩
theorem m119a {x : Int32} (h : sIn3 x 1 240 = false) : pt_Ca 119 [vR 9 0, vI x] (pt_MEM mi ml ex) (.inl (some (vI 0)), pt_MEM (th mi 1) ml ex) :=
  r119_0 m88 (r119_9 (fun _ => r119_12 (m89f (by decide)) (r119_38 (fun _ => r119_41) (fun c => absurd rfl c))) (fun c => absurd (bI_fn h) c))
theorem m119b {x : Int32} (R : RM mi S s H K T n X) (h : sIn3 x 1 240 = true) (h2 : ¬ S 96 + x ≤ 99999) : pt_Ca 119 [vR 9 0, vI x] (pt_MEM mi ml ex) (.inl (some (vI 0)), pt_MEM (th mi 2) ml ex) := by
  have e : mi 14 0 96 = S 96 := by rw [ms_e mi (by omega), R.1]
  exact r119_0 m88 (r119_9 (fun c => absurd c (bI_tn h)) (fun _ => r119_16 (fun c => absurd (by rw [← e]; exact c) h2) (fun _ => r119_30 (m89f (by decide)) (r119_38 (fun _ => r119_41) (fun c => absurd rfl c)))))
theorem m119 {k : Nat} (R : RM mi S s H K T n X) (g : Good S A P) (hP : P ≤ 300000000) (h : sIn3 (nI k) 1 240 = true) (hk : k ≤ 240) (h2 : S 96 + nI k ≤ 99999) : ∃ mi', pt_Ca 119 [vR 9 0, vI (nI k)] (pt_MEM mi ml ex) (.inl (some (vI (sPass S k).2)), pt_MEM mi' ml ex) ∧ RM mi' (sPass S k).1 (sv s) (svH S s H) K T n X ∧ mi' 9 0 0 = 0 ∧ Fr MK mi mi' := by
  have e : mi 14 0 96 = S 96 := by rw [ms_e mi (by omega), R.1]
  have hc := pass_clock g hk h2
  have gg := sPass_good g hP hk hc
  have n96 := g.2.1.2.1
  obtain ⟨m1, q1, q2, q3, q4⟩ := msave (ml := ml) (ex := ex) R
  have loop : ∀ d i, i + d = k → ∀ m2, MX m1 m2 (sPass S i).1 → ∃ mi', pt_Ev 119 none 51 [some (vR 9 0), some (vI (nI k)), some (vI (sPass S i).2), some (vI (nI i))] [] (pt_MEM m2 ml ex) (.inl (some (vI (sPass S k).2)), pt_MEM mi' ml ex) ∧ MX m1 mi' (sPass S k).1 := by
    intro d
    induction d with
    | zero =>
      intro i hi m2 hx
      have hi' : i = k := hi
      subst hi'
      exact ⟨m2, r119_51 (fun _ => r119_89) (fun c => absurd (nI_le (Nat.le_refl i) (by omega)) c), hx⟩
    | succ d ih =>
      intro i hid m2 hx
      have ih := ih (i + 1) (by omega)
      have gi := gg i (by omega)
      have e1 : sPass S (i + 1) = sMin (sPass S i) := rfl
      rw [e1, nI_succ] at ih
      revert hx ih gi
      generalize sPass S i = a
      intro hx ih gi
      have ec : m2 14 0 96 = a.1 96 := by rw [ms_e m2 (by omega), hx.1]
      have hx2 : MX m1 (pt_up3 m2 14 0 96 (m2 14 0 96 + 1)) (up1 a.1 96 (a.1 96 + 1)) := by
        rw [ec]
        exact hx.w (by omega)
      have ev : (a.1 96 + 1).toInt = (a.1 96).toInt + 1 := by rw [ad32 (by rw [i1]; omega) (by rw [i1]; omega), i1]
      have g1 := gi.1.up96 (v := a.1 96 + 1) (by omega)
      obtain ⟨g2, -⟩ := sEnds_good (m := 0) (by decide) g1 (by omega)
      have rule := @r119_56 m2 ml ex (nI k) a.2 (nI i)
      revert hx2 rule
      generalize pt_up3 m2 14 0 96 (m2 14 0 96 + 1) = m3
      intro hx2 rule
      obtain ⟨w, m4, w1, w2, w3⟩ := m111 (mi := m3) (ml := ml) (ex := ex) (m := 0) (by decide) (by rw [hx2.1]; exact g1.1.2.2.1) (by rw [hx2.1]; exact g1.ne (m := 0) (by decide))
      rw [hx2.1] at w2 w3
      obtain ⟨v, m5, v1, v2, v3⟩ := m111 (mi := m4) (ml := ml) (ex := ex) (m := 1) (by decide) (by rw [w3.1]; exact g2.1.2.2.1) (by rw [w3.1]; exact g2.ne (m := 1) (by decide))
      rw [w3.1] at v2 v3
      rw [nI_0] at w1
      rw [nI_1'] at v1
      obtain ⟨mi', u1, u2⟩ := ih m5 ((hx2.tr w3).tr v3)
      refine ⟨mi', r119_51 (fun c => absurd c (nI_ge (a := i) (b := k) (by omega) (by omega))) (fun _ => rule w1 (r119_73 v1 (r119_81 ?_))), u2⟩
      rw [w2, v2, Int32.add_assoc]
      exact u1
  have h0 : MX m1 m1 (sPass S 0).1 := by
    have := MX.refl (mi := m1)
    rw [q2.1] at this
    exact this
  obtain ⟨mi', g1, g2⟩ := loop k 0 (by omega) m1 h0
  obtain ⟨r1, r2, r3⟩ := q2.mx g2
  exact ⟨mi', r119_0 m88 (r119_9 (fun c => absurd c (bI_tn h)) (fun _ => r119_16 (fun _ => r119_34 m89t (r119_38 (fun c => absurd c (by decide)) (fun _ => r119_43 q1 (r119_47 (by rw [← nI_0]; exact g1))))) (fun c => absurd (by rw [e]; exact h2) c))), r1, r3.trans q4, q3.tr r2⟩
theorem m120s {x y : Int32} {o : pt_O} (k : pt_Ev 120 none 28 [some (vR 9 0), some (vI x), some (vI y), some (vI (bI (fits x y))), none] [vI (bI (sIn3 x 0 1)), vR 9 0] (pt_MEM mi ml ex) o) : pt_Ca 120 [vR 9 0, vI x, vI y] (pt_MEM mi ml ex) o := by
  unfold fits at k
  refine r120_0 (fun c => ?_) (fun c => ?_)
  · rw [if_pos c] at k
    exact r120_4 m88 (r120_11 m88 k)
  · rw [if_neg c] at k
    exact r120_14 m88 (r120_20 m88 k)
theorem m120a {x y : Int32} (h : sIn3 x 0 1 = false) : pt_Ca 120 [vR 9 0, vI x, vI y] (pt_MEM mi ml ex) (.inl (some (vI 0)), pt_MEM (th mi 1) ml ex) :=
  m120s (r120_28 (fun _ => r120_31 (m89f (by decide)) (r120_47 (fun _ => r120_50) (fun c => absurd rfl c))) (fun c => absurd (bI_fn h) c))
theorem m120b {x y : Int32} (h : sIn3 x 0 1 = true) (hf : fits x y = false) : pt_Ca 120 [vR 9 0, vI x, vI y] (pt_MEM mi ml ex) (.inl (some (vI 0)), pt_MEM (th mi 2) ml ex) :=
  m120s (r120_28 (fun c => absurd c (bI_tn h)) (fun _ => r120_35 (fun _ => r120_43 (m89f (by decide)) (r120_47 (fun _ => r120_50) (fun c => absurd rfl c))) (fun c => absurd (bI_fn hf) c)))
theorem m120 {p : Nat} {y : Int32} (hp : p < 2) (hf : fits (nI p) y = true) (R : RM mi S s H K T n X) : ∃ mi', pt_Ca 120 [vR 9 0, vI (nI p), vI y] (pt_MEM mi ml ex) (.inl (some (vI (S (104 + p)))), pt_MEM mi' ml ex) ∧ RM mi' (up1 S (104 + p) y) (sv s) (svH S s H) K T n X ∧ mi' 9 0 0 = 0 ∧ Fr MK mi mi' := by
  have hs : ∀ p, p < 2 → 104 + nI p = nI (104 + p) := by decide +kernel
  obtain ⟨m1, q1, q2, q3, q4⟩ := msave (ml := ml) (ex := ex) R
  have e0 : m1 14 0 (104 + p) = S (104 + p) := by rw [ms_e m1 (by omega), q2.1]
  have x := (MX.refl (mi := m1)).w (k := 104 + p) (v := y) (by omega)
  rw [q2.1] at x
  obtain ⟨r1, r2, r3⟩ := q2.mx x
  rw [← e0]
  exact ⟨_, m120s (r120_28 (fun c => absurd c (bI_tn (in1 p hp))) (fun _ => r120_35 (fun c => absurd c (bI_tn hf)) (fun _ => r120_39 m89t (r120_47 (fun c => absurd c (by decide)) (fun _ => r120_52 q1 (r120_56 (hs p hp) (by omega) (hs p hp) (by omega))))))), r1, r3.trans q4, q3.tr r2⟩
end
