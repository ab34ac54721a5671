/-! The whole state, as the class and as the model hold it. -/
/-- the row S; s saved rows H; K which slots are kept, T what is in them; n characters X -/
def RC (mi : Nat → Nat → Nat → Int32) (S : Nat → Int32) (s : Nat) (H : Nat → Nat → Int32) (K : Nat → Bool) (T : Nat → Nat → Int32) (n : Nat) (X : Nat → Int32) : Prop :=
  cs mi 0 = S ∧ (∃ o, HI mi o s H) ∧ (∀ j, j < 2 → mi 18 0 j = bI (K j) ∧ (K j = true → cs mi (7 + j) = T j)) ∧ (mi 7 0 1 = nI n ∧ ∀ k, k < n → mi 11 0 k = X k)
def kI (K : Nat → Bool) : Int32 := bI (K 0) + 2 * bI (K 1)
def RM (mi : Nat → Nat → Nat → Int32) (S : Nat → Int32) (s : Nat) (H : Nat → Nat → Int32) (K : Nat → Bool) (T : Nat → Nat → Int32) (n : Nat) (X : Nat → Int32) : Prop :=
  ms mi = S ∧ (mi 9 0 3 = nI s ∧ s ≤ 6 ∧ ∀ j, j < s → rw6 (mi 15 0) (106 * j) = H j) ∧ (mi 9 0 5 = kI K ∧ ∀ j, j < 2 → K j = true → rw6 (mi 16 0) (106 * j) = T j) ∧ (mi 9 0 7 = nI n ∧ ∀ k, k < n → mi 17 0 k = X k)
abbrev CK : List Nat := [0, 1, 2, 3, 4, 5, 6, 7, 8, 10, 11, 12, 13, 18, 19, 20, 21, 22]
abbrev MK : List Nat := [9, 14, 15, 16, 17]
/-- one more saved -/
def sv (s : Nat) : Nat := if s < 6 then s + 1 else 6
def svH (S : Nat → Int32) (s : Nat) (H : Nat → Nat → Int32) : Nat → Nat → Int32 := if s < 6 then (fun j => if j < s then H j else S) else (fun j => if j < 5 then H (j + 1) else S)
section
variable {mi mi' : Nat → Nat → Nat → Int32} {ml : Nat → Nat → Nat → Int64} {ex : Nat} {S S' : Nat → Int32} {s : Nat} {H : Nat → Nat → Int32} {K : Nat → Bool} {T : Nat → Nat → Int32} {n : Nat} {X : Nat → Int32}
theorem RC.fr {L : List Nat} (R : RC mi S s H K T n X) (f : Fr L mi mi') (hL : ∀ c, c ∈ L → c ∉ [1, 2, 4, 5, 7, 10, 11, 18]) : RC mi' S s H K T n X := by
  have o : ∀ c, c ∈ [1, 2, 4, 5, 7, 10, 11, 18] → c ∉ L := fun c hc hcL => hL c hcL hc
  have oc : ∀ h, cs mi' h = cs mi h := fun h => cs_fr h f (o 2 (by decide)) (o 4 (by decide)) (o 5 (by decide)) (o 10 (by decide))
  obtain ⟨r1, ⟨q, h1, h2, h3, h4, h5⟩, r3, r4, r5⟩ := R
  refine ⟨(oc 0).trans r1, ⟨q, (f 1 0 1 (o 1 (by decide))).trans h1, h2, (f 1 0 2 (o 1 (by decide))).trans h3, h4, fun j hj => (oc _).trans (h5 j hj)⟩, fun j hj => ⟨(f 18 0 j (o 18 (by decide))).trans (r3 j hj).1, fun hk => (oc _).trans ((r3 j hj).2 hk)⟩, (f 7 0 1 (o 7 (by decide))).trans r4, fun k hk => (f 11 0 k (o 11 (by decide))).trans (r5 k hk)⟩
theorem RM.fr {L : List Nat} (R : RM mi S s H K T n X) (f : Fr L mi mi') (hL : ∀ c, c ∈ L → c ∉ MK) : RM mi' S s H K T n X := by
  have o : ∀ c, c ∈ MK → c ∉ L := fun c hc hcL => hL c hcL hc
  obtain ⟨r1, ⟨r2, r3, r4⟩, ⟨r5, r6⟩, r7, r8⟩ := R
  have e15 : mi' 15 0 = mi 15 0 := funext (fun j => f 15 0 j (o 15 (by decide)))
  have e16 : mi' 16 0 = mi 16 0 := funext (fun j => f 16 0 j (o 16 (by decide)))
  exact ⟨(ms_fr f (o 14 (by decide))).trans r1, ⟨(f 9 0 3 (o 9 (by decide))).trans r2, r3, fun j hj => by rw [e15]; exact r4 j hj⟩, ⟨(f 9 0 5 (o 9 (by decide))).trans r5, fun j hj hk => by rw [e16]; exact r6 j hj hk⟩, (f 9 0 7 (o 9 (by decide))).trans r7, fun k hk => (f 17 0 k (o 17 (by decide))).trans (r8 k hk)⟩
theorem RC.hx (R : RC mi S s H K T n X) (x : HX mi mi' 0 S') : RC mi' S' s H K T n X ∧ Fr CK mi mi' := by
  have f := x.2.2
  obtain ⟨r1, ⟨q, h1, h2, h3, h4, h5⟩, r3, r4, r5⟩ := R
  refine ⟨⟨x.1, ⟨q, (f 1 0 1 (by decide)).trans h1, h2, (f 1 0 2 (by decide)).trans h3, h4, fun j hj => (x.2.1 _ (by omega)).trans (h5 j hj)⟩, fun j hj => ⟨(f 18 0 j (by decide)).trans (r3 j hj).1, fun hk => (x.2.1 _ (by omega)).trans ((r3 j hj).2 hk)⟩, (f 7 0 1 (by decide)).trans r4, fun k hk => (f 11 0 k (by decide)).trans (r5 k hk)⟩, f.wd (by decide)⟩
theorem RM.mx (R : RM mi S s H K T n X) (x : MX mi mi' S') : RM mi' S' s H K T n X ∧ Fr MK mi mi' ∧ mi' 9 0 0 = mi 9 0 0 := by
  have f := x.2
  obtain ⟨r1, ⟨r2, r3, r4⟩, ⟨r5, r6⟩, r7, r8⟩ := R
  have e15 : mi' 15 0 = mi 15 0 := funext (fun j => f 15 0 j (by decide))
  have e16 : mi' 16 0 = mi 16 0 := funext (fun j => f 16 0 j (by decide))
  exact ⟨⟨x.1, ⟨(f 9 0 3 (by decide)).trans r2, r3, fun j hj => by rw [e15]; exact r4 j hj⟩, ⟨(f 9 0 5 (by decide)).trans r5, fun j hj hk => by rw [e16]; exact r6 j hj hk⟩, (f 9 0 7 (by decide)).trans r7, fun k hk => (f 17 0 k (by decide)).trans (r8 k hk)⟩, f.wd (by decide), f 9 0 0 (by decide)⟩
theorem RM.th {x : Int32} (R : RM mi S s H K T n X) : RM (th mi x) S s H K T n X ∧ Fr MK mi (th mi x) ∧ (th mi x) 9 0 0 = x := by
  obtain ⟨r1, ⟨r2, r3, r4⟩, ⟨r5, r6⟩, r7, r8⟩ := R
  exact ⟨⟨(ms_th x).trans r1, ⟨(up3_j _ _ (by decide)).trans r2, r3, r4⟩, ⟨(up3_j _ _ (by decide)).trans r5, r6⟩, (up3_j _ _ (by decide)).trans r7, r8⟩, Fr.rfl'.up (by decide), up3_eq _ _ _ _ _⟩
/-- saved, in the class -/
theorem c5 (R : RC mi S s H K T n X) (h5 : ∀ p, p < 10 → S (9 * p + 5) = 0 ∨ S (9 * p + 5) = 1) : ∃ mi', pt_Ca 5 [vR 1 0, vR 2 0] (pt_MEM mi ml ex) (.inl none, pt_MEM mi' ml ex) ∧ RC mi' S (sv s) (svH S s H) K T n X ∧ Fr CK mi mi' := by
  obtain ⟨r1, ⟨q, hi⟩, r3, r4, r5⟩ := R
  have key : ∃ mi' q', pt_Ca 5 [vR 1 0, vR 2 0] (pt_MEM mi ml ex) (.inl none, pt_MEM mi' ml ex) ∧ HI mi' q' (sv s) (svH S s H) ∧ cs mi' 0 = cs mi 0 ∧ (∀ h, 6 < h → cs mi' h = cs mi h) ∧ Fr [1, 2, 4, 5, 10] mi mi' := by
    by_cases c : s < 6
    · obtain ⟨mi', g1, g2, g3, g4, g5⟩ := c5r (ml := ml) (ex := ex) hi c (by rw [r1]; exact h5)
      refine ⟨mi', q, g1, ?_, g3, g4, g5⟩
      rw [sv, if_pos c, svH, if_pos c, ← r1]
      exact g2
    · have h6 : s = 6 := by have := hi.2.2.2.1; omega
      subst h6
      obtain ⟨mi', g1, g2, g3, g4, g5⟩ := c5f (ml := ml) (ex := ex) hi (by rw [r1]; exact h5)
      refine ⟨mi', (q + 1) % 6, g1, ?_, g3, g4, g5⟩
      rw [sv, if_neg c, svH, if_neg c, ← r1]
      exact g2
  obtain ⟨mi', q', g1, g2, g3, g4, f⟩ := key
  exact ⟨mi', g1, ⟨g3.trans r1, ⟨q', g2⟩, fun j hj => ⟨(f 18 0 j (by decide)).trans (r3 j hj).1, fun hk => (g4 _ (by omega)).trans ((r3 j hj).2 hk)⟩, (f 7 0 1 (by decide)).trans r4, fun k hk => (f 11 0 k (by decide)).trans (r5 k hk)⟩, f.wd (by decide)⟩
/-- saved, in the model: first the shift of a full row -/
theorem m95s : ∃ mi', (∀ {o}, pt_Ev 95 none 39 [some (vR 9 0), some (vI (nI 530))] [] (pt_MEM mi' ml ex) o → pt_Ev 95 none 9 [some (vR 9 0), none] [] (pt_MEM mi ml ex) o) ∧ (∀ j, j < 530 → mi' 15 0 j = mi 15 0 (j + 106)) ∧ Fr [15] mi mi' := by
  have loop : ∀ d k, k + d = 530 → ∀ m1, (∀ j, j < k → m1 15 0 j = mi 15 0 (j + 106)) → (∀ j, k ≤ j → m1 15 0 j = mi 15 0 j) → Fr [15] mi m1 → ∃ mi', (∀ {o}, pt_Ev 95 none 39 [some (vR 9 0), some (vI (nI 530))] [] (pt_MEM mi' ml ex) o → pt_Ev 95 none 11 [some (vR 9 0), some (vI (nI k))] [] (pt_MEM m1 ml ex) o) ∧ (∀ j, j < 530 → mi' 15 0 j = mi 15 0 (j + 106)) ∧ Fr [15] mi mi' := by
    intro d
    induction d with
    | zero =>
      intro k hk m1 g1 g2 f
      have hk' : k = 530 := hk
      subst hk'
      exact ⟨m1, fun kk => r95_11 (fun _ => kk) (fun c => absurd (show (530 : Int32) ≤ nI 530 by decide +kernel) c), g1, f⟩
    | succ d ih =>
      intro k hkd m1 g1 g2 f
      obtain ⟨mi', w1, w2, w3⟩ := ih (k + 1) (by omega) (pt_up3 m1 15 0 k (m1 15 0 (k + 106))) (fun j hj => by
          by_cases e : j = k
          · subst e; rw [up3_eq]; exact g2 _ (by omega)
          · rw [up3_j _ _ e]; exact g1 j (by omega)) (fun j hj => by rw [up3_j _ _ (by omega)]; exact g2 j (by omega)) (f.up (by decide))
      refine ⟨mi', fun kk => r95_11 (fun c => absurd c (nI_ge (a := k) (b := 530) (by omega) (by decide))) (fun _ => r95_18 (p1 := k + 106) (nI_add k 106) (by omega) rfl (by omega) ?_), w2, w3⟩
      have := w1 kk
      rw [nI_succ] at this
      exact this
  obtain ⟨mi', w1, w2, w3⟩ := loop 530 0 rfl mi (fun j hj => absurd hj (Nat.not_lt_zero j)) (fun j _ => rfl) Fr.rfl'
  exact ⟨mi', fun kk => r95_9 (w1 kk), w2, w3⟩
/-- then the copy behind c rows -/
theorem m95c {c : Nat} (hc : c < 6) (h3 : mi 9 0 3 = nI c) : ∃ mi', pt_Ev 95 none 51 [some (vR 9 0), some (vI (nI 0))] [] (pt_MEM mi ml ex) (.inl none, pt_MEM mi' ml ex) ∧ (∀ j, j < 106 * c → mi' 15 0 j = mi 15 0 j) ∧ (∀ k, k < 106 → mi' 15 0 (106 * c + k) = mi 14 0 k) ∧ mi' 9 0 3 = nI (c + 1) ∧ (∀ j, j ≠ 3 → mi' 9 0 j = mi 9 0 j) ∧ Fr [9, 15] mi mi' := by
  have loop : ∀ d k, k + d = 106 → ∀ m1, (∀ j, j < 106 * c → m1 15 0 j = mi 15 0 j) → (∀ i, i < k → m1 15 0 (106 * c + i) = mi 14 0 i) → Fr [15] mi m1 → ∃ mi', pt_Ev 95 none 51 [some (vR 9 0), some (vI (nI k))] [] (pt_MEM m1 ml ex) (.inl none, pt_MEM mi' ml ex) ∧ (∀ j, j < 106 * c → mi' 15 0 j = mi 15 0 j) ∧ (∀ k, k < 106 → mi' 15 0 (106 * c + k) = mi 14 0 k) ∧ mi' 9 0 3 = nI (c + 1) ∧ (∀ j, j ≠ 3 → mi' 9 0 j = mi 9 0 j) ∧ Fr [9, 15] mi mi' := by
    intro d
    induction d with
    | zero =>
      intro k hk m1 g1 g2 f
      have hk' : k = 106 := hk
      subst hk'
      refine ⟨_, r95_51 (fun _ => r95_83) (fun c => absurd (show (106 : Int32) ≤ nI 106 by decide +kernel) c), fun j hj => ?_, fun i hi => ?_, ?_, fun j hj => ?_, (f.wd (by decide)).up (by decide)⟩
      · rw [up3_c _ _ (by decide)]; exact g1 j hj
      · rw [up3_c _ _ (by decide)]; exact g2 i hi
      · rw [up3_eq, f 9 0 3 (by decide), h3, nI_succ]
      · rw [up3_j _ _ hj]; exact f 9 0 j (by decide)
    | succ d ih =>
      intro k hkd m1 g1 g2 f
      obtain ⟨mi', w1, w2⟩ := ih (k + 1) (by omega) (pt_up3 m1 15 0 (106 * c + k) (m1 14 0 k)) (fun j hj => by rw [up3_j _ _ (by omega)]; exact g1 j hj) (fun i hi => by
          by_cases e : i = k
          · subst e; rw [up3_eq]; exact f 14 0 i (by decide)
          · rw [up3_j _ _ (by omega)]; exact g2 i (by omega)) (f.up (by decide))
      rw [nI_succ] at w1
      refine ⟨mi', r95_51 (fun c => absurd c (nI_ge (a := k) (b := 106) (by omega) (by decide))) (fun _ => r95_57 rfl (by omega) (p2 := 106 * c + k) ?_ (by omega) w1), w2⟩
      rw [f 9 0 3 (by decide), h3, show (106 : Int32) = nI 106 from by decide +kernel, pk_mul, nI_add]
  exact loop 106 0 rfl mi (fun _ _ => rfl) (fun i hi => absurd hi (Nat.not_lt_zero i)) Fr.rfl'
theorem rw6_eq {f : Nat → Int32} {a : Nat} {S : Nat → Int32} (h : ∀ k, k < 106 → f (a + k) = S k) (hb : ∀ k, 106 ≤ k → S k = 0) : rw6 f a = S := by
  funext k
  unfold rw6
  by_cases c : k < 106
  · rw [if_pos c]; exact h k c
  · rw [if_neg c]; exact (hb k (by omega)).symm
theorem rw6_k {f : Nat → Int32} {a k : Nat} (h : k < 106) : rw6 f a k = f (a + k) := if_pos h
theorem rw6_b {f : Nat → Int32} {a k : Nat} (h : 106 ≤ k) : rw6 f a k = 0 := if_neg (by omega)
theorem ms_b {k : Nat} (h : 106 ≤ k) : ms mi k = 0 := rw6_b h
theorem m95 (R : RM mi S s H K T n X) : ∃ mi', pt_Ca 95 [vR 9 0] (pt_MEM mi ml ex) (.inl none, pt_MEM mi' ml ex) ∧ RM mi' S (sv s) (svH S s H) K T n X ∧ Fr MK mi mi' ∧ mi' 9 0 0 = mi 9 0 0 := by
  obtain ⟨r1, ⟨r2, r3, r4⟩, ⟨r5, r6⟩, r7, r8⟩ := R
  -- the end, out of a memory m1 with c rows
  have tail : ∀ c m1, c < 6 → m1 9 0 3 = nI c → (∀ j, j ≠ 3 → m1 9 0 j = mi 9 0 j) → Fr [9, 15] mi m1 → ∃ mi', pt_Ev 95 none 51 [some (vR 9 0), some (vI (nI 0))] [] (pt_MEM m1 ml ex) (.inl none, pt_MEM mi' ml ex) ∧ (∀ j, j < 106 * c → mi' 15 0 j = m1 15 0 j) ∧ rw6 (mi' 15 0) (106 * c) = S ∧ mi' 9 0 3 = nI (c + 1) ∧ (∀ j, j ≠ 3 → mi' 9 0 j = mi 9 0 j) ∧ Fr [9, 15] mi mi' := by
    intro c m1 hc h3 h9 f
    obtain ⟨mi', g1, g2, g3, g4, g5, g6⟩ := m95c (ml := ml) (ex := ex) hc h3
    refine ⟨mi', g1, g2, ?_, g4, fun j hj => (g5 j hj).trans (h9 j hj), f.tr g6⟩
    rw [← r1]
    refine rw6_eq (fun k hk => ?_) (fun k hk => ms_b hk)
    rw [g3 k hk, f 14 0 k (by decide), ms_e mi hk]
  have fin : ∀ mi', ms mi' = ms mi → mi' 9 0 3 = nI (sv s) → (∀ j, j < sv s → rw6 (mi' 15 0) (106 * j) = svH S s H j) → (∀ j, j ≠ 3 → mi' 9 0 j = mi 9 0 j) → Fr [9, 15] mi mi' → RM mi' S (sv s) (svH S s H) K T n X ∧ Fr MK mi mi' ∧ mi' 9 0 0 = mi 9 0 0 := by
    intro mi' e1 e2 e3 e4 f
    have e16 : mi' 16 0 = mi 16 0 := funext (fun j => f 16 0 j (by decide))
    refine ⟨⟨e1.trans r1, ⟨e2, ?_, e3⟩, ⟨(e4 5 (by decide)).trans r5, fun j hj hk => by rw [e16]; exact r6 j hj hk⟩, (e4 7 (by decide)).trans r7, fun k hk => (f 17 0 k (by decide)).trans (r8 k hk)⟩, f.wd (by decide), e4 0 (by decide)⟩
    unfold sv
    split <;> omega
  by_cases c : s < 6
  · have hne : ¬ nI s = 6 := fun z => by
      have z' : nI s = nI 6 := z
      have := nI_inj (by omega) (by decide) z'
      omega
    obtain ⟨mi', g1, g2, g3, g4, g5, g6⟩ := tail s mi c r2 (fun _ _ => rfl) Fr.rfl'
    refine ⟨mi', r95_0 (fun z => absurd (by rw [← r2]; exact z) hne) (fun _ => r95_49 (by rw [← nI_0]; exact g1)), fin mi' (ms_fr g6 (by decide)) (by rw [sv, if_pos c]; exact g4) (fun j hj => ?_) g5 g6⟩
    rw [sv, if_pos c] at hj
    rw [svH, if_pos c]
    by_cases e : j < s
    · simp only [if_pos e]
      rw [← r4 j e]
      refine rw6_eq (fun k hk => ?_) (fun k hk => rw6_b hk)
      rw [rw6_k hk]
      exact g2 _ (by omega)
    · have : j = s := by omega
      subst this
      simp only [if_neg (Nat.lt_irrefl j)]
      exact g3
  · have h6 : s = 6 := by omega
    subst h6
    obtain ⟨m1, w1, w2, w3⟩ := m95s (mi := mi) (ml := ml) (ex := ex)
    have h3 : (pt_up3 m1 9 0 3 ((m1 9 0 3) - 1)) 9 0 3 = nI 5 := by
      rw [up3_eq, w3 9 0 3 (by decide), r2]
      decide +kernel
    obtain ⟨mi', g1, g2, g3, g4, g5, g6⟩ := tail 5 (pt_up3 m1 9 0 3 ((m1 9 0 3) - 1)) (by decide) h3 (fun j hj => by rw [up3_j _ _ hj]; exact w3 9 0 j (by decide)) ((w3.wd (by decide)).up (by decide))
    refine ⟨mi', r95_0 (fun _ => w1 (r95_39 (by rw [← nI_0]; exact g1))) (fun z => absurd r2 z), fin mi' (ms_fr g6 (by decide)) (by rw [sv, if_neg c]; exact g4) (fun j hj => ?_) g5 g6⟩
    rw [sv, if_neg c] at hj
    rw [svH, if_neg c]
    by_cases e : j < 5
    · simp only [if_pos e]
      rw [← r4 (j + 1) (by omega)]
      refine rw6_eq (fun k hk => ?_) (fun k hk => rw6_b hk)
      rw [rw6_k hk, g2 _ (by omega), up3_c _ _ (by decide), w2 _ (by omega)]
      congr 1
      omega
    · have : j = 5 := by omega
      subst this
      simp only [if_neg (Nat.lt_irrefl 5)]
      exact g3
end
