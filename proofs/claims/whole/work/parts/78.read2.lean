/-! firstError and read, as calls. -/
theorem ats_ex (X a : Nat → Int32) : ∀ n, ∃ j b, j ≤ n ∧ ats X a j = some b ∧ (j = n ∨ accP b (X j) = none)
  | 0 => ⟨0, a, Nat.le_refl _, rfl, Or.inl rfl⟩
  | n + 1 => by
    obtain ⟨j, b, h1, h2, h3⟩ := ats_ex X a n
    rcases h3 with h | h
    · subst h
      cases hc : accP b (X j) with
      | none => exact ⟨j, b, by omega, h2, Or.inr hc⟩
      | some c => exact ⟨j + 1, c, Nat.le_refl _, (ats_s h2).trans hc, Or.inl rfl⟩
    · exact ⟨j, b, by omega, h2, Or.inr h⟩
theorem ats_un {X a : Nat → Int32} {n j j' : Nat} {b b' : Nat → Int32} (hj : j ≤ n) (hj' : j' ≤ n) (h : ats X a j = some b) (h' : ats X a j' = some b') (e : j = n ∨ accP b (X j) = none) (e' : j' = n ∨ accP b' (X j') = none) : j = j' ∧ b = b' := by
  have key : ∀ {i i' : Nat} {c c' : Nat → Int32}, i' ≤ n → ats X a i = some c → ats X a i' = some c' → (i = n ∨ accP c (X i) = none) → ¬ i < i' := by
    intro i i' c c' hi g g' e hlt
    obtain ⟨b1, b2, k1, k2, -⟩ := ats_lt g' hlt
    rw [g, Option.some.injEq] at k1
    subst k1
    rcases e with z | z
    · omega
    · rw [z] at k2; simp at k2
  have h1 := key hj' h h' e
  have h2 := key hj h' h e'
  have : j = j' := by omega
  subst this
  rw [h, Option.some.injEq] at h'
  exact ⟨rfl, h'⟩
theorem accP_59 {b c : Nat → Int32} (hI : aI b) (h : accP b 59 = some c) : aEnd b = true := by
  have hN : ∀ {x}, aNext b 59 = some x → aEnd b = true := by
    intro x hx
    unfold aNext at hx
    by_cases z : (59 : Int32) = 59 ∧ aEnd b = true
    · exact z.2
    · rw [if_neg z] at hx; simp at hx
  have hD : ∀ m, aDig b 59 m = none := fun m => aDig_hi (by decide)
  rcases hI with ⟨h0, -⟩ | ⟨h0, -⟩ | ⟨h0, -⟩ | ⟨h0, -⟩ | ⟨h0, -⟩
  · unfold accP at h
    rw [if_pos h0, if_pos (Or.inl (by decide))] at h
    simp at h
  · rw [acc1 h0 (hD _), if_neg (fun z => absurd z.1 (by decide))] at h
    simp at h
  · rw [acc2 h0 (hD _), if_neg (fun z => absurd z.1 (by decide))] at h
    simp at h
  · rw [acc3 h0 (hD _), if_neg (fun z => absurd z.1 (by decide))] at h
    exact hN h
  · rw [acc4 h0] at h
    exact hN h
theorem adm_good {X : Nat → Int32} {n : Nat} {a bn : Nat → Int32} {P : Int} (hI : aI a) (hall : ats X a n = some bn) (hend : aEnd bn = true) : ∀ d i t S (A : Int), i + d = n + 1 → A + d ≤ 100000 → Good S A P → Good (adm X n (aG X a) d i t S).2 (A + d) P := by
  intro d
  induction d with
  | zero => intro i t S A _ _ g; exact g.mono (by omega) (Int.le_refl _)
  | succ d ih =>
    intro i t S A hi hA g
    rw [adm]
    by_cases c : i = n ∨ X i = 59
    · rw [if_pos c]
      have hok : ∃ b, aG X a i = b ∧ aI b ∧ aEnd b = true := by
        by_cases e : i = n
        · subst e
          exact ⟨bn, aG_e hall, ats_I hI hall, hend⟩
        · obtain ⟨b1, b2, h1, h2, -⟩ := ats_lt hall (show i < n by omega)
          have hb := ats_I hI h1
          rw [c.resolve_left e] at h2
          exact ⟨b1, aG_e h1, hb, accP_59 hb h2⟩
      obtain ⟨b, hb, hbI, hbE⟩ := hok
      rw [hb]
      have g1 : Good (aTk S b).2 (A + 1) P := g.takes (by omega) (aEnd_ok hbI hbE) (aRush_01 b)
      by_cases r : (aTk S b).1 = -1
      · rw [if_pos r]
        exact g1.mono (by omega) (Int.le_refl _)
      · rw [if_neg r]
        exact (ih (i + 1) (t + 1) _ (A + 1) (by omega) (by omega) g1).mono (by omega) (Int.le_refl _)
    · rw [if_neg c]
      exact (ih (i + 1) t S A (by omega) (by omega) g).mono (by omega) (Int.le_refl _)
section
variable {mi mi' : Nat → Nat → Nat → Int32} {ml : Nat → Nat → Nat → Int64} {ex : Nat} {S : Nat → Int32} {s : Nat} {H : Nat → Nat → Int32} {K : Nat → Bool} {T : Nat → Nat → Int32} {n : Nat} {X : Nat → Int32} {A P : Int} {a : Nat → Int32}
theorem c64 {j : Nat} {b : Nat → Int32} (R : RC mi S s H K T n X) (hn : n ≤ 60) (hj : j ≤ n) (h : ats X (aBeg (mi 6 0)) j = some b) (he : j = n ∨ accP b (X j) = none) : ∃ mi', pt_Ca 64 [vR 8 0] (pt_MEM mi ml ex) (.inl (some (vI (nI j))), pt_MEM mi' ml ex) ∧ RC mi' S s H K T n X ∧ Fr CK mi mi' := by
  obtain ⟨m1, q1, q2, -⟩ := c50 (ml := ml) (ex := ex) R hn hj h he
  exact ⟨m1, r64_0 q1 r64_7, R.fr q2 (by decide), q2.wd (by decide)⟩
theorem c65t {j : Nat} {b : Nat → Int32} (R : RC mi S s H K T n X) (hn : n ≤ 60) (hj : j ≤ n) (h : ats X (aBeg (mi 6 0)) j = some b) (he : j = n ∨ accP b (X j) = none) (hw : (decide (j = n) && aEnd b) = false) : ∃ mi', pt_Ca 65 [vR 8 0] (pt_MEM mi ml ex) (.inr 1, pt_MEM mi' ml (ex + 1)) ∧ RC mi' S s H K T n X ∧ Fr CK mi mi' := by
  obtain ⟨m1, q1, q2, -⟩ := c51 (ml := ml) (ex := ex) R hn hj h he
  rw [hw] at q1
  exact ⟨m1, r65_0 q1 (r65_7 (fun _ => r65_10) (fun z => absurd rfl z)), R.fr q2 (by decide), q2.wd (by decide)⟩
theorem c65 {b : Nat → Int32} (R : RC mi S s H K T n X) (g : Good S A P) (hn : n ≤ 60) (h : ats X (aBeg (mi 6 0)) n = some b) (hE : aEnd b = true) : ∃ mi' a' b', a' 0 = 0 ∧ aI a' ∧ ats X a' n = some b' ∧ aEnd b' = true ∧ pt_Ca 65 [vR 8 0] (pt_MEM mi ml ex) (.inl (some (vI (nI (adm X n (aG X a') (n + 1) 0 0 S).1))), pt_MEM mi' ml ex) ∧ RC mi' (adm X n (aG X a') (n + 1) 0 0 S).2 (sv s) (svH S s H) K T 0 X ∧ Fr CK mi mi' := by
  obtain ⟨m1, q1, q2, -⟩ := c51 (ml := ml) (ex := ex) R hn (Nat.le_refl n) h (Or.inl rfl)
  rw [show (decide (n = n) && aEnd b) = true from by simp [hE]] at q1
  obtain ⟨m2, p1, p2, p3⟩ := c5 (ml := ml) (ex := ex) (R.fr q2 (by decide)) (fun p hp => (g.1.1 p hp).1)
  have hs : aSim (aBeg (mi 6 0)) (aBeg (m2 6 0)) := ⟨(aBeg_0 _).1.trans (aBeg_0 _).1.symm, (aBeg_0 _).2.trans (aBeg_0 _).2.symm⟩
  rcases ats_sim (X := X) hs n with ⟨h1, -⟩ | ⟨c, c', h1, h2, h3⟩
  · rw [h] at h1; simp at h1
  · rw [h, Option.some.injEq] at h1
    subst h1
    obtain ⟨m3, w1, w2, w3⟩ := c52 (ml := ml) (ex := ex) p2 hn h2
    have f : Fr [7, 11] m3 (pt_up3 m3 7 0 1 0) := Fr.rfl'.up (by decide)
    refine ⟨_, aBeg (m2 6 0), c', (aBeg_0 _).1, aBeg_I _, h2, ?_, r65_0 q1 (r65_7 (fun z => absurd z (by decide)) (fun _ => r65_20 p1 (r65_31 w1 r65_42))), w2.txt f (by rw [up3_eq]; rfl) (fun k hk => absurd hk (Nat.not_lt_zero k)), (((q2.wd (by decide)).tr p3).tr w3).tr (f.wd (by decide))⟩
    unfold aEnd at hE ⊢
    rw [← h3.1, ← h3.2]
    exact hE
theorem RM.ft (R : RM mi S s H K T n X) (f : FT 15 mi mi') : RM mi' S s H K T n X ∧ Fr MK mi mi' ∧ mi' 9 0 0 = mi 9 0 0 := by
  have o : ∀ c m k, c ≠ 9 → mi' c m k = mi c m k := fun c m k hc => f c m k (fun z => hc z.1)
  have o9 : ∀ k, k < 8 → mi' 9 0 k = mi 9 0 k := fun k hk => f 9 0 k (fun z => by omega)
  have fr : Fr [9, 17] mi mi' := fun c m k hc => o c m k (fun z => hc (by rw [z]; decide))
  exact ⟨R.txt fr (o9 3 (by decide)) (o9 5 (by decide)) ((o9 7 (by decide)).trans R.2.2.2.1) (fun k hk => (o 17 0 k (by decide)).trans (R.2.2.2.2 k hk)), fr.wd (by decide), o9 0 (by decide)⟩
theorem m128 {j : Nat} {b : Nat → Int32} (R : RM mi S s H K T n X) (hn : n ≤ 60) (hI : aI a) (h0 : a 0 = 0) (hj : j ≤ n) (h : ats X a j = some b) (he : j = n ∨ accP b (X j) = none) : ∃ mi', pt_Ca 128 [vR 9 0] (pt_MEM mi ml ex) (.inl (some (vI (nI j))), pt_MEM mi' ml ex) ∧ RM mi' S s H K T n X ∧ mi' 9 0 0 = 0 ∧ Fr MK mi mi' := by
  obtain ⟨r1, r2, r3⟩ := R.th (x := 0)
  obtain ⟨m1, v, j', b', w, q1, q2, q3, q4, q5, q6⟩ := m127f (mi := th mi 0) (ml := ml) (ex := ex) r1.2.2.2.1 r1.2.2.2.2 hn hI h0
  obtain ⟨rfl, rfl⟩ := ats_un hj q2.2.2.2.2.1 h q3 he q4
  obtain ⟨s1, s2, s3⟩ := r1.ft q6
  refine ⟨m1, r128_0 q1 ?_, s1, s3.trans r3, r2.tr s2⟩
  refine r128_10 (fun c => ?_) (fun c => ?_)
  · rw [q2.2.2.2.1] at c
    rw [bI_f c] at q5
    have hjn : j = n := by
      rw [Bool.not_false, Bool.and_eq_true, decide_eq_true_eq] at q5
      exact q5.1
    have := r128_25 (mi := m1) (ml := ml) (ex := ex) (x1 := v)
    rw [q2.1, ← hjn] at this
    exact this
  · have := r128_18 (mi := m1) (ml := ml) (ex := ex) (x1 := v)
    rw [q2.2.2.1] at this
    exact this
theorem m129t {j : Nat} {b : Nat → Int32} (R : RM mi S s H K T n X) (hn : n ≤ 60) (hI : aI a) (h0 : a 0 = 0) (hj : j ≤ n) (h : ats X a j = some b) (he : j = n ∨ accP b (X j) = none) (hw : (decide (j = n) && aEnd b) = false) : ∃ mi', pt_Ca 129 [vR 9 0] (pt_MEM mi ml ex) (.inl (some (vI 0)), pt_MEM mi' ml ex) ∧ RM mi' S s H K T n X ∧ mi' 9 0 0 = 1 ∧ Fr MK mi mi' := by
  obtain ⟨m1, v, j', b', w, q1, q2, q3, q4, q5, q6⟩ := m127f (ml := ml) (ex := ex) R.2.2.2.1 R.2.2.2.2 hn hI h0
  obtain ⟨rfl, rfl⟩ := ats_un hj q2.2.2.2.2.1 h q3 he q4
  obtain ⟨s1, s2, s3⟩ := R.ft q6
  rw [hw] at q5
  have hw1 : w = true := by cases w with | true => rfl | false => simp at q5
  subst hw1
  obtain ⟨t1, t2, t3⟩ := s1.th (x := 1)
  exact ⟨_, r129_0 q1 (r129_5 (fun z => absurd (by rw [← q2.2.2.2.1]; exact z) (bI_tn rfl)) (fun _ => r129_14 (m89f (by decide)) (r129_22 (fun _ => r129_25) (fun z => absurd rfl z)))), t1, t3, s2.tr t2⟩
theorem m129 {a' b b' : Nat → Int32} (R : RM mi S s H K T n X) (hn : n ≤ 60) (hI : aI a) (h0 : a 0 = 0) (h : ats X a n = some b) (hE : aEnd b = true) (hI' : aI a') (h0' : a' 0 = 0) (h' : ats X a' n = some b') (hE' : aEnd b' = true) : ∃ mi', pt_Ca 129 [vR 9 0] (pt_MEM mi ml ex) (.inl (some (vI (nI (adm X n (aG X a') (n + 1) 0 0 S).1))), pt_MEM mi' ml ex) ∧ RM mi' (adm X n (aG X a') (n + 1) 0 0 S).2 (sv s) (svH S s H) K T 0 X ∧ mi' 9 0 0 = 0 ∧ Fr MK mi mi' := by
  obtain ⟨m1, v, j', c', w, q1, q2, q3, q4, q5, q6⟩ := m127f (ml := ml) (ex := ex) R.2.2.2.1 R.2.2.2.2 hn hI h0
  obtain ⟨rfl, rfl⟩ := ats_un (Nat.le_refl n) q2.2.2.2.2.1 h q3 (Or.inl rfl) q4
  obtain ⟨s1, s2, s3⟩ := R.ft q6
  rw [hE] at q5
  have hw0 : w = false := by cases w with | false => rfl | true => simp at q5
  subst hw0
  obtain ⟨m2, p1, p2, p3, p4⟩ := msave (ml := ml) (ex := ex) s1
  obtain ⟨m3, w1, w2, w3⟩ := m127t (ml := ml) (ex := ex) p2.2.2.2.1 p2.2.2.2.2 hn hI' h0' h' hE'
  rw [p2.1] at w1 w2
  have e9 : ∀ k, k < 8 → m3 9 0 k = m2 9 0 k := fun k hk => w3 9 0 k (fun z => by omega) (by decide)
  have e15 : m3 15 0 = m2 15 0 := funext (fun j => w3 15 0 j (fun z => absurd z.1 (by decide)) (by decide))
  have e16 : m3 16 0 = m2 16 0 := funext (fun j => w3 16 0 j (fun z => absurd z.1 (by decide)) (by decide))
  obtain ⟨-, ⟨a2, a3, a4⟩, ⟨a5, a6⟩, a7, a8⟩ := p2
  have R3 : RM m3 (adm X n (aG X a') (n + 1) 0 0 S).2 (sv s) (svH S s H) K T n X := ⟨w2, ⟨(e9 3 (by decide)).trans a2, a3, fun j hj => by rw [e15]; exact a4 j hj⟩, ⟨(e9 5 (by decide)).trans a5, fun j hj hk => by rw [e16]; exact a6 j hj hk⟩, (e9 7 (by decide)).trans a7, fun k hk => (w3 17 0 k (fun z => absurd z.1 (by decide)) (by decide)).trans (a8 k hk)⟩
  have f3 : Fr MK m2 m3 := fun c m k hc => w3 c m k (fun z => hc (by rw [z.1]; decide)) (fun z => hc (by rw [z]; decide))
  have f4 : Fr [9, 17] m3 (pt_up3 m3 9 0 7 0) := Fr.rfl'.up (by decide)
  refine ⟨_, r129_0 q1 (r129_5 (fun _ => r129_18 m89t (r129_22 (fun z => absurd z (by decide)) (fun _ => r129_27 p1 (r129_31 w1 r129_36)))) (fun z => absurd (by rw [q2.2.2.2.1]; rfl) z)), R3.txt f4 (up3_j _ _ (by decide)) (up3_j _ _ (by decide)) (by rw [up3_eq]; rfl) (fun k hk => absurd hk (Nat.not_lt_zero k)), ?_, ((s2.tr p3).tr f3).tr (f4.wd (by decide))⟩
  rw [up3_j _ _ (by decide), e9 0 (by decide)]
  exact p4
end
