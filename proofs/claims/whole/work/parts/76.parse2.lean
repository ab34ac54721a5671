/-! The model's parser: a pile. -/
theorem sIn3_eq {x c : Int32} : sIn3 x c c = true ↔ x = c := by
  rw [sIn3_t]
  constructor
  · rintro ⟨h1, h2⟩
    rw [Int32.lt_iff_toInt_lt] at h1 h2
    exact Int32.toInt_inj.mp (by omega)
  · rintro rfl
    rw [Int32.lt_iff_toInt_lt]
    omega
theorem DG1 {b : Nat → Int32} (h : b 0 = 1) : DG b 20 := fun l c b' hd => by
  unfold accP
  rw [up1_ne _ _ (show 0 ≠ 4 by decide), h, if_neg (by decide), if_pos rfl, hd]
  rfl
theorem DG2 {b : Nat → Int32} (h : b 0 = 2) : DG b 60 := fun l c b' hd => by
  unfold accP
  rw [up1_ne _ _ (show 0 ≠ 4 by decide), h, if_neg (by decide), if_neg (by decide), if_pos rfl, hd]
  rfl
theorem DG3 {b : Nat → Int32} (h : b 0 = 3) : DG b 999 := fun l c b' hd => by
  unfold accP
  rw [up1_ne _ _ (show 0 ≠ 4 by decide), h, if_neg (by decide), if_neg (by decide), if_neg (by decide), if_pos rfl, hd]
  rfl
theorem aDig_lo {b : Nat → Int32} {c m : Int32} (h : c < 48) : aDig b c m = none := by
  unfold aDig
  rw [if_pos (Or.inl h)]
theorem aDig_hi {b : Nat → Int32} {c m : Int32} (h : ¬ c ≤ 57) : aDig b c m = none := by
  unfold aDig
  rw [if_pos (Or.inr h)]
theorem acc1 {b : Nat → Int32} {c : Int32} (h : b 0 = 1) (hd : aDig b c 20 = none) : accP b c = if c = 47 ∧ ¬ b 4 = 0 then some (up1 (up1 (up1 b 2 (b 4)) 4 0) 0 2) else none := by
  unfold accP
  rw [if_neg (by rw [h]; decide), if_pos h, hd]
  rfl
theorem acc2 {b : Nat → Int32} {c : Int32} (h : b 0 = 2) (hd : aDig b c 60 = none) : accP b c = if c = 64 ∧ ¬ b 4 = 0 then some (up1 (up1 (up1 b 3 (b 4)) 4 0) 0 3) else none := by
  unfold accP
  rw [if_neg (by rw [h]; decide), if_neg (by rw [h]; decide), if_pos h, hd]
  rfl
theorem acc3 {b : Nat → Int32} {c : Int32} (h : b 0 = 3) (hd : aDig b c 999 = none) : accP b c = if c = 33 ∧ ¬ b 4 = 0 then some (up1 b 0 4) else aNext b c := by
  unfold accP
  rw [if_neg (by rw [h]; decide), if_neg (by rw [h]; decide), if_neg (by rw [h]; decide), if_pos h, hd]
  rfl
theorem acc4 {b : Nat → Int32} {c : Int32} (h : b 0 = 4) : accP b c = aNext b c := by
  unfold accP
  rw [if_neg (by rw [h]; decide), if_neg (by rw [h]; decide), if_neg (by rw [h]; decide), if_neg (by rw [h]; decide)]
theorem aNext_no {b : Nat → Int32} {c : Int32} (h : ¬ c = 59) : aNext b c = none := if_neg (fun z => h z.1)
theorem aNext_no2 {b : Nat → Int32} {c : Int32} (h : aEnd b = false) : aNext b c = none := if_neg (fun z => by rw [h] at z; simp at z)
theorem accP_semi {b : Nat → Int32} (he : aEnd b = true) : accP b 59 = some (aBeg b) := by
  have hn : aNext b 59 = some (aBeg b) := if_pos ⟨rfl, he⟩
  rw [aEnd, Bool.or_eq_true, Bool.and_eq_true, decide_eq_true_eq, decide_eq_true_eq] at he
  rcases he with h | h
  · rw [acc4 h, hn]
  · rw [acc3 h.1 (aDig_hi (by decide)), if_neg (fun z => absurd z.1 (by decide)), hn]
section
variable {mi : Nat → Nat → Nat → Int32} {ml : Nat → Nat → Nat → Int64} {ex : Nat} {n j : Nat} {X a b : Nat → Int32}
theorem nx_t {X : Nat → Int32} {n j : Nat} {lo hi : Int32} (h : nx X n j false lo hi = true) : j < n ∧ sIn3 (X j) lo hi = true := by
  rw [nx, Bool.and_eq_true, Bool.and_eq_true, decide_eq_true_eq] at h
  exact h.2
theorem nx_f {X : Nat → Int32} {n j : Nat} {lo hi : Int32} (h : nx X n j false lo hi = false) (hj : j < n) : sIn3 (X j) lo hi = false := by
  rw [nx] at h
  simpa [hj] using h
theorem m126 (h : MP mi n X j false) (hb : ats X a j = some b) (h0 : b 0 = 0) (h4 : b 4 = 0) :
    ∃ mi' j' b' w, pt_Ca 126 [vR 9 0] (pt_MEM mi ml ex) (.inl none, pt_MEM mi' ml ex) ∧ MP mi' n X j' w ∧ ats X a j' = some b' ∧ j ≤ j' ∧ FT 15 mi mi' ∧
      ((w = false ∧ aEnd b' = true ∧ (mi' 9 0 10 = b' 1 ∧ mi' 9 0 11 = b' 2 ∧ mi' 9 0 12 = b' 3 ∧ mi' 9 0 13 = b' 4 ∧ mi' 9 0 14 = aRush b') ∧ j < j' ∧ (∀ t, j ≤ t → t < j' → ¬ X t = 59) ∧ (j' < n → ¬ X j' = 59 → accP b' (X j') = none)) ∨ (w = true ∧ aEnd b' = false ∧ (j' < n → accP b' (X j') = none))) := by
  -- once wrong, always wrong
  have e58 : ∀ m1 j1 s0 x1, MP m1 n X j1 true → FT 15 mi m1 → ∃ mi', pt_Ev 126 none 58 [some (vR 9 0), some (vI x1)] [vI s0, vR 9 0] (pt_MEM m1 ml ex) (.inl none, pt_MEM mi' ml ex) ∧ MP mi' n X j1 true ∧ FT 15 mi mi' := by
    intro m1 j1 s0 x1 hp f
    have hp2 := hp.up (k := 13) (v := s0) (by decide)
    have f2 := f.up (k := 13) (v := s0) (by decide) (by decide)
    have c123 := m123 (ml := ml) (ex := ex) (lo := 33) (hi := 33) hp2
    rw [nx_w] at c123
    refine ⟨_, r126_58 c123 (r126_70 (fun _ => r126_77) (fun z => absurd rfl z)), ?_, (f2.up (k := 14) (by decide) (by decide)).up (k := 8) (by decide) (by decide)⟩
    obtain ⟨g7, gX, g8, g9, gj, gn⟩ := hp2.up (k := 14) (v := 0) (by decide)
    refine ⟨(up3_j _ _ (by decide)).trans g7, fun k hk => (up3_c _ _ (by decide)).trans (gX k hk), ?_, (up3_j _ _ (by decide)).trans g9, gj, gn⟩
    rw [up3_eq, up3_eq, Int32.add_zero]
    exact g8
  have e49 : ∀ m1 j1 s0 x1, MP m1 n X j1 true → FT 15 mi m1 → ∃ mi', pt_Ev 126 none 49 [some (vR 9 0), some (vI x1)] [vI s0] (pt_MEM m1 ml ex) (.inl none, pt_MEM mi' ml ex) ∧ MP mi' n X j1 true ∧ FT 15 mi mi' := by
    intro m1 j1 s0 x1 hp f
    obtain ⟨m2, v, q1, q2, q3⟩ := m125w (ml := ml) (ex := ex) (most := 999) hp
    obtain ⟨mi', w1, w2⟩ := e58 m2 j1 v s0 q2 (f.tr (q3.wd (by decide)))
    exact ⟨mi', r126_49 q1 w1, w2⟩
  have e38 : ∀ m1 j1 s0 x1, MP m1 n X j1 true → FT 15 mi m1 → ∃ mi', pt_Ev 126 none 38 [some (vR 9 0), some (vI x1)] [vI s0, vR 9 0] (pt_MEM m1 ml ex) (.inl none, pt_MEM mi' ml ex) ∧ MP mi' n X j1 true ∧ FT 15 mi mi' := by
    intro m1 j1 s0 x1 hp f
    obtain ⟨m2, q1, q2, q3⟩ := m124n (ml := ml) (ex := ex) (lo := 64) (hi := 64) (hp.up (k := 12) (v := s0) (by decide)) nx_w
    obtain ⟨mi', w1, w2⟩ := e49 m2 j1 _ x1 q2 ((f.up (k := 12) (v := s0) (by decide) (by decide)).tr (q3.wd (by decide)))
    exact ⟨mi', r126_38 q1 w1, w2⟩
  have e30 : ∀ m1 j1 s0 u1, MP m1 n X j1 true → FT 15 mi m1 → ∃ mi', pt_Ev 126 none 30 [some (vR 9 0), u1] [vI s0] (pt_MEM m1 ml ex) (.inl none, pt_MEM mi' ml ex) ∧ MP mi' n X j1 true ∧ FT 15 mi mi' := by
    intro m1 j1 s0 u1 hp f
    obtain ⟨m2, v, q1, q2, q3⟩ := m125w (ml := ml) (ex := ex) (most := 60) hp
    obtain ⟨mi', w1, w2⟩ := e38 m2 j1 v s0 q2 (f.tr (q3.wd (by decide)))
    exact ⟨mi', r126_30 q1 w1, w2⟩
  have e19 : ∀ m1 j1 s0 u1, MP m1 n X j1 true → FT 15 mi m1 → ∃ mi', pt_Ev 126 none 19 [some (vR 9 0), u1] [vI s0, vR 9 0] (pt_MEM m1 ml ex) (.inl none, pt_MEM mi' ml ex) ∧ MP mi' n X j1 true ∧ FT 15 mi mi' := by
    intro m1 j1 s0 u1 hp f
    obtain ⟨m2, q1, q2, q3⟩ := m124n (ml := ml) (ex := ex) (lo := 47) (hi := 47) (hp.up (k := 11) (v := s0) (by decide)) nx_w
    obtain ⟨mi', w1, w2⟩ := e30 m2 j1 _ u1 q2 ((f.up (k := 11) (v := s0) (by decide) (by decide)).tr (q3.wd (by decide)))
    exact ⟨mi', r126_19 q1 w1, w2⟩
  have e9 : ∀ m1 j1 s0 u1, MP m1 n X j1 true → FT 15 mi m1 → ∃ mi', pt_Ev 126 none 9 [some (vR 9 0), u1] [vI s0, vR 9 0] (pt_MEM m1 ml ex) (.inl none, pt_MEM mi' ml ex) ∧ MP mi' n X j1 true ∧ FT 15 mi mi' := by
    intro m1 j1 s0 u1 hp f
    obtain ⟨m2, v, q1, q2, q3⟩ := m125w (ml := ml) (ex := ex) (most := 20) (hp.up (k := 10) (v := s0) (by decide))
    obtain ⟨mi', w1, w2⟩ := e19 m2 j1 v u1 q2 ((f.up (k := 10) (v := s0) (by decide) (by decide)).tr (q3.wd (by decide)))
    exact ⟨mi', r126_9 q1 w1, w2⟩
  have ae : ∀ (c : Nat → Int32), c 0 = 0 ∨ c 0 = 1 ∨ c 0 = 2 ∨ (c 0 = 3 ∧ c 4 = 0) → aEnd c = false := by
    intro c hc
    unfold aEnd
    rcases hc with z | z | z | ⟨z, z4⟩
    · rw [z]; simp
    · rw [z]; simp
    · rw [z]; simp
    · rw [z, z4]; decide
  have nz : ∀ {v : Int32}, 1 ≤ v.toInt → ¬ v = 0 := fun {v} h z => by rw [z] at h; exact absurd h (by decide)
  -- the letter
  cases hx1 : nx X n j false 97 100 with
  | false =>
    obtain ⟨m1, q1, q2, q3⟩ := m124n (ml := ml) (ex := ex) h hx1
    obtain ⟨mi', w1, w2, w3⟩ := e9 m1 j 0 none q2 (q3.wd (by decide))
    refine ⟨mi', j, b, true, r126_0 q1 w1, w2, hb, Nat.le_refl _, w3, Or.inr ⟨rfl, ae b (Or.inl h0), fun hj => ?_⟩⟩
    have hs := nx_f hx1 hj
    unfold accP
    rw [if_pos h0, if_pos]
    by_cases c : X j < 97
    · exact Or.inl c
    · refine Or.inr (fun y => ?_)
      rw [sIn3_t.mpr ⟨c, le_nlt.mp y⟩] at hs
      exact absurd hs (by decide)
  | true =>
    obtain ⟨m1, q1, q2, q3⟩ := m124y (ml := ml) (ex := ex) h hx1
    obtain ⟨hj, hs⟩ := nx_t hx1
    rw [sIn3_t] at hs
    have hb1 : ats X a (j + 1) = some (up1 (up1 b 1 (X j - 97)) 0 1) := by
      rw [ats_s hb]
      unfold accP
      rw [if_pos h0, if_neg (fun z => z.elim hs.1 (fun y => y (le_nlt.mpr hs.2)))]
    have n59 : ¬ X j = 59 := fun z => by rw [z] at hs; exact hs.1 (by decide)
    generalize hB1 : up1 (up1 b 1 (X j - 97)) 0 1 = b1 at hb1
    have b10 : b1 0 = 1 := by rw [← hB1]; exact up1_eq _ _ _
    have b14 : b1 4 = 0 := by rw [← hB1]; simp [up1, h4]
    have b11 : b1 1 = X j - 97 := by rw [← hB1]; simp [up1]
    -- the weight
    have f1 : FT 15 mi (pt_up3 m1 9 0 10 (X j - 97)) := (q3.wd (by decide)).up (by decide) (by decide)
    rcases m125 (ml := ml) (ex := ex) (most := 20) (q2.up (k := 10) (v := X j - 97) (by decide)) hb1 b14 (DG1 b10) (by decide) with ⟨m2, j2, v2, p1, p2, p3, p4, p5, p6, p7, p8⟩ | ⟨m2, v2, p1, p2, p3, p4⟩
    case inr =>
      obtain ⟨mi', w1, w2, w3⟩ := e19 m2 (j + 1) v2 none p2 (f1.tr (p4.wd (by decide)))
      refine ⟨mi', j + 1, b1, true, r126_0 q1 (r126_9 p1 w1), w2, hb1, by omega, w3, Or.inr ⟨rfl, ae b1 (Or.inr (Or.inl b10)), fun hj => ?_⟩⟩
      rw [acc1 b10 (p3 hj), if_neg (fun z => z.2 b14)]
    have g10 : m2 9 0 10 = X j - 97 := (p8 9 0 10 (by omega)).trans (up3_eq _ _ _ _ _)
    have f2 : FT 15 mi (pt_up3 m2 9 0 11 v2) := (f1.tr (p8.wd (by decide))).up (by decide) (by decide)
    generalize hB2 : up1 b1 4 v2 = b2 at p3 p7
    have b20 : b2 0 = 1 := by rw [← hB2]; simp [up1, b10]
    have b24 : b2 4 = v2 := by rw [← hB2]; exact up1_eq _ _ _
    have b21 : b2 1 = X j - 97 := by rw [← hB2]; simp [up1, b11]
    -- the stroke
    cases hx3 : nx X n j2 false 47 47 with
    | false =>
      obtain ⟨m3, s1, s2, s3⟩ := m124n (ml := ml) (ex := ex) (p2.up (k := 11) (v := v2) (by decide)) hx3
      obtain ⟨mi', w1, w2, w3⟩ := e30 m3 j2 0 none s2 (f2.tr (s3.wd (by decide)))
      refine ⟨mi', j2, b2, true, r126_0 q1 (r126_9 p1 (r126_19 s1 w1)), w2, p3, by omega, w3, Or.inr ⟨rfl, ae b2 (Or.inr (Or.inl b20)), fun hj => ?_⟩⟩
      have hs := nx_f hx3 hj
      rw [acc1 b20 (p7 hj), if_neg (fun z => by rw [sIn3_eq.mpr z.1] at hs; simp at hs)]
    | true =>
      obtain ⟨m3, s1, s2, s3⟩ := m124y (ml := ml) (ex := ex) (p2.up (k := 11) (v := v2) (by decide)) hx3
      obtain ⟨hj2, hs2⟩ := nx_t hx3
      rw [sIn3_eq] at hs2
      have hb3 : ats X a (j2 + 1) = some (up1 (up1 (up1 b2 2 (b2 4)) 4 0) 0 2) := by
        rw [ats_s p3, acc1 b20 (by rw [hs2]; exact aDig_lo (by decide)), if_pos ⟨hs2, by rw [b24]; exact nz p4⟩]
      generalize hB3 : up1 (up1 (up1 b2 2 (b2 4)) 4 0) 0 2 = b3 at hb3
      have b30 : b3 0 = 2 := by rw [← hB3]; exact up1_eq _ _ _
      have b34 : b3 4 = 0 := by rw [← hB3]; simp [up1]
      have b31 : b3 1 = X j - 97 := by rw [← hB3]; simp [up1, b21]
      have b32 : b3 2 = v2 := by rw [← hB3]; simp [up1, b24]
      have f3 : FT 15 mi m3 := f2.tr (s3.wd (by decide))
      have g10' : m3 9 0 10 = X j - 97 := (s3 9 0 10 (by omega)).trans ((up3_j _ _ (by decide)).trans g10)
      have g11 : m3 9 0 11 = v2 := (s3 9 0 11 (by omega)).trans (up3_eq _ _ _ _ _)
      -- the time
      rcases m125 (ml := ml) (ex := ex) (most := 60) s2 hb3 b34 (DG2 b30) (by decide) with ⟨m4, j4, v4, t1, t2, t3, t4, t5, t6, t7, t8⟩ | ⟨m4, v4, t1, t2, t3, t4⟩
      case inr =>
        obtain ⟨mi', w1, w2, w3⟩ := e38 m4 (j2 + 1) v4 _ t2 (f3.tr (t4.wd (by decide)))
        refine ⟨mi', j2 + 1, b3, true, r126_0 q1 (r126_9 p1 (r126_19 s1 (r126_30 t1 w1))), w2, hb3, by omega, w3, Or.inr ⟨rfl, ae b3 (Or.inr (Or.inr (Or.inl b30))), fun hj => ?_⟩⟩
        rw [acc2 b30 (t3 hj), if_neg (fun z => z.2 b34)]
      have k10 : m4 9 0 10 = X j - 97 := (t8 9 0 10 (by omega)).trans g10'
      have k11 : m4 9 0 11 = v2 := (t8 9 0 11 (by omega)).trans g11
      have f4 : FT 15 mi (pt_up3 m4 9 0 12 v4) := (f3.tr (t8.wd (by decide))).up (by decide) (by decide)
      generalize hB4 : up1 b3 4 v4 = b4 at t3 t7
      have b40 : b4 0 = 2 := by rw [← hB4]; simp [up1, b30]
      have b44 : b4 4 = v4 := by rw [← hB4]; exact up1_eq _ _ _
      have b41 : b4 1 = X j - 97 := by rw [← hB4]; simp [up1, b31]
      have b42 : b4 2 = v2 := by rw [← hB4]; simp [up1, b32]
      -- the at
      cases hx5 : nx X n j4 false 64 64 with
      | false =>
        obtain ⟨m5, y1, y2, y3⟩ := m124n (ml := ml) (ex := ex) (t2.up (k := 12) (v := v4) (by decide)) hx5
        obtain ⟨mi', w1, w2, w3⟩ := e49 m5 j4 0 _ y2 (f4.tr (y3.wd (by decide)))
        refine ⟨mi', j4, b4, true, r126_0 q1 (r126_9 p1 (r126_19 s1 (r126_30 t1 (r126_38 y1 w1)))), w2, t3, by omega, w3, Or.inr ⟨rfl, ae b4 (Or.inr (Or.inr (Or.inl b40))), fun hj => ?_⟩⟩
        have hs := nx_f hx5 hj
        rw [acc2 b40 (t7 hj), if_neg (fun z => by rw [sIn3_eq.mpr z.1] at hs; simp at hs)]
      | true =>
        obtain ⟨m5, y1, y2, y3⟩ := m124y (ml := ml) (ex := ex) (t2.up (k := 12) (v := v4) (by decide)) hx5
        obtain ⟨hj4, hs4⟩ := nx_t hx5
        rw [sIn3_eq] at hs4
        have hb5 : ats X a (j4 + 1) = some (up1 (up1 (up1 b4 3 (b4 4)) 4 0) 0 3) := by
          rw [ats_s t3, acc2 b40 (by rw [hs4]; exact aDig_hi (by decide)), if_pos ⟨hs4, by rw [b44]; exact nz t4⟩]
        generalize hB5 : up1 (up1 (up1 b4 3 (b4 4)) 4 0) 0 3 = b5 at hb5
        have b50 : b5 0 = 3 := by rw [← hB5]; exact up1_eq _ _ _
        have b54 : b5 4 = 0 := by rw [← hB5]; simp [up1]
        have b51 : b5 1 = X j - 97 := by rw [← hB5]; simp [up1, b41]
        have b52 : b5 2 = v2 := by rw [← hB5]; simp [up1, b42]
        have b53 : b5 3 = v4 := by rw [← hB5]; simp [up1, b44]
        have f5 : FT 15 mi m5 := f4.tr (y3.wd (by decide))
        have o10 : m5 9 0 10 = X j - 97 := (y3 9 0 10 (by omega)).trans ((up3_j _ _ (by decide)).trans k10)
        have o11 : m5 9 0 11 = v2 := (y3 9 0 11 (by omega)).trans ((up3_j _ _ (by decide)).trans k11)
        have o12 : m5 9 0 12 = v4 := (y3 9 0 12 (by omega)).trans (up3_eq _ _ _ _ _)
        -- the promise
        rcases m125 (ml := ml) (ex := ex) (most := 999) y2 hb5 b54 (DG3 b50) (by decide) with ⟨m6, j6, v6, z1, z2, z3, z4, z5, z6, z7, z8⟩ | ⟨m6, v6, z1, z2, z3, z4⟩
        case inr =>
          obtain ⟨mi', w1, w2, w3⟩ := e58 m6 (j4 + 1) v6 _ z2 (f5.tr (z4.wd (by decide)))
          refine ⟨mi', j4 + 1, b5, true, r126_0 q1 (r126_9 p1 (r126_19 s1 (r126_30 t1 (r126_38 y1 (r126_49 z1 w1))))), w2, hb5, by omega, w3, Or.inr ⟨rfl, ae b5 (Or.inr (Or.inr (Or.inr ⟨b50, b54⟩))), fun hj => ?_⟩⟩
          rw [acc3 b50 (z3 hj), if_neg (fun z => z.2 b54), aNext_no2 (ae b5 (Or.inr (Or.inr (Or.inr ⟨b50, b54⟩))))]
        have r10 : m6 9 0 10 = X j - 97 := (z8 9 0 10 (by omega)).trans o10
        have r11 : m6 9 0 11 = v2 := (z8 9 0 11 (by omega)).trans o11
        have r12 : m6 9 0 12 = v4 := (z8 9 0 12 (by omega)).trans o12
        have f6 : FT 15 mi (pt_up3 m6 9 0 13 v6) := (f5.tr (z8.wd (by decide))).up (by decide) (by decide)
        have hp6 := z2.up (k := 13) (v := v6) (by decide)
        have i13 : (pt_up3 m6 9 0 13 v6) 9 0 13 = v6 := up3_eq _ _ _ _ _
        have i10 : (pt_up3 m6 9 0 13 v6) 9 0 10 = X j - 97 := (up3_j _ _ (by decide)).trans r10
        have i11 : (pt_up3 m6 9 0 13 v6) 9 0 11 = v2 := (up3_j _ _ (by decide)).trans r11
        have i12 : (pt_up3 m6 9 0 13 v6) 9 0 12 = v4 := (up3_j _ _ (by decide)).trans r12
        have rule := @r126_58 m6 ml ex
        generalize hB6 : up1 b5 4 v6 = b6 at z3 z7
        have b60 : b6 0 = 3 := by rw [← hB6]; simp [up1, b50]
        have b64 : b6 4 = v6 := by rw [← hB6]; exact up1_eq _ _ _
        have b61 : b6 1 = X j - 97 := by rw [← hB6]; simp [up1, b51]
        have b62 : b6 2 = v2 := by rw [← hB6]; simp [up1, b52]
        have b63 : b6 3 = v4 := by rw [← hB6]; simp [up1, b53]
        have no59 : ∀ t, j ≤ t → t < j6 → ¬ X t = 59 := by
          intro t u1 u2
          by_cases c1 : t = j
          · rw [c1]; exact n59
          by_cases c2 : t < j2
          · exact p6 t (by omega) c2
          by_cases c3 : t = j2
          · rw [c3, hs2]; decide
          by_cases c4 : t < j4
          · exact t6 t (by omega) c4
          by_cases c5 : t = j4
          · rw [c5, hs4]; decide
          exact z6 t (by omega) u2
        have c123 := m123 (ml := ml) (ex := ex) (lo := 33) (hi := 33) hp6
        obtain ⟨g7, gX, g8, g9, gj, gn⟩ := hp6
        have e6 : aEnd b6 = true := by
          have := z4
          unfold aEnd
          rw [b60, b64]
          have : ¬ v6 ≤ 0 := by rw [Int32.le_iff_toInt_le, show (0 : Int32).toInt = 0 from by decide]; omega
          simp [this]
        cases hx7 : nx X n j6 false 33 33 with
        | false =>
          rw [hx7] at c123
          refine ⟨_, j6, b6, false, r126_0 q1 (r126_9 p1 (r126_19 s1 (r126_30 t1 (r126_38 y1 (r126_49 z1 (r126_58 c123 (r126_70 (fun _ => r126_77) (fun z => absurd rfl z)))))))), ⟨?_, fun k hk => ?_, ?_, ?_, gj, gn⟩, z3, by omega, (f6.up (k := 14) (by decide) (by decide)).up (k := 8) (by decide) (by decide), Or.inl ⟨rfl, e6, ⟨?_, ?_, ?_, ?_, ?_⟩, by omega, no59, fun hj h59 => ?_⟩⟩
          · rw [up3_j _ _ (by decide), up3_j _ _ (by decide)]; exact g7
          · rw [up3_c _ _ (by decide), up3_c _ _ (by decide)]; exact gX k hk
          · rw [up3_eq, up3_eq, up3_j _ _ (by decide), Int32.add_zero]; exact g8
          · rw [up3_j _ _ (by decide), up3_j _ _ (by decide)]; exact g9
          · rw [up3_j _ _ (by decide), up3_j _ _ (by decide), i10, b61]
          · rw [up3_j _ _ (by decide), up3_j _ _ (by decide), i11, b62]
          · rw [up3_j _ _ (by decide), up3_j _ _ (by decide), i12, b63]
          · rw [up3_j _ _ (by decide), up3_j _ _ (by decide), i13, b64]
          · rw [up3_j _ _ (by decide), up3_eq, aRush, if_neg (by rw [b60]; decide)]
          · have hs := nx_f hx7 hj
            rw [acc3 b60 (z7 hj), if_neg (fun z => by rw [sIn3_eq.mpr z.1] at hs; simp at hs), aNext_no h59]
        | true =>
          rw [hx7] at c123
          obtain ⟨hj6, hs6⟩ := nx_t hx7
          rw [sIn3_eq] at hs6
          have hb7 : ats X a (j6 + 1) = some (up1 b6 0 4) := by
            rw [ats_s z3, acc3 b60 (by rw [hs6]; exact aDig_lo (by decide)), if_pos ⟨hs6, by rw [b64]; exact nz z4⟩]
          refine ⟨_, j6 + 1, up1 b6 0 4, false, r126_0 q1 (r126_9 p1 (r126_19 s1 (r126_30 t1 (r126_38 y1 (r126_49 z1 (r126_58 c123 (r126_70 (fun z => absurd z (by decide)) (fun _ => r126_73)))))))), ⟨?_, fun k hk => ?_, ?_, ?_, hj6, gn⟩, hb7, by omega, (f6.up (k := 14) (by decide) (by decide)).up (k := 8) (by decide) (by decide), Or.inl ⟨rfl, ?_, ⟨?_, ?_, ?_, ?_, ?_⟩, by omega, fun t u1 u2 => ?_, fun hj h59 => ?_⟩⟩
          · rw [up3_j _ _ (by decide), up3_j _ _ (by decide)]; exact g7
          · rw [up3_c _ _ (by decide), up3_c _ _ (by decide)]; exact gX k hk
          · rw [up3_eq, up3_eq, up3_j _ _ (by decide), g8, nI_succ]
          · rw [up3_j _ _ (by decide), up3_j _ _ (by decide)]; exact g9
          · unfold aEnd; rw [up1_eq]; simp
          · rw [up3_j _ _ (by decide), up3_j _ _ (by decide), i10, up1_ne _ _ (by decide), b61]
          · rw [up3_j _ _ (by decide), up3_j _ _ (by decide), i11, up1_ne _ _ (by decide), b62]
          · rw [up3_j _ _ (by decide), up3_j _ _ (by decide), i12, up1_ne _ _ (by decide), b63]
          · rw [up3_j _ _ (by decide), up3_j _ _ (by decide), i13, up1_ne _ _ (by decide), b64]
          · rw [up3_j _ _ (by decide), up3_eq, aRush, if_pos (up1_eq _ _ _)]
          · by_cases c : t = j6
            · rw [c, hs6]; decide
            · exact no59 t u1 (by omega)
          · rw [acc4 (up1_eq _ _ _), aNext_no h59]
end
