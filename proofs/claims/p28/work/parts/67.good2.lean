/-! What holds of every row stays: emptying, handing out. -/
section
variable {S : Nat → Int32} {A P : Int} {M : Nat → Prop} {p m : Nat}
theorem nI_m_ne {m m' : Nat} (h : m < 2) (h' : m' < 2) (hn : m' ≠ m) : ¬ nI m' = nI m := fun z => hn (nI_inj (by omega) (by omega) z)
theorem GoodX_put {f : Nat} (g : GoodX M S) (hp : p < 10) (hm : m < 2) (ha : sAt S p 1 (nI m) = true) (hx : sFreeShelf S = some f) (hM : ¬ M m) : GoodX M (sPutT S p (nI f)) := by
  obtain ⟨pl, di, sh, co, ma, mb⟩ := g
  have hh := sAt_here ha
  have lo : ∀ q, q < 10 → ∀ j, j < 6 → sPutT S p (nI f) (9 * q + j) = S (9 * q + j) := fun q hq j hj => by
    by_cases e : q = p
    · subst e; exact sPutT_lo hp hj
    · exact sPutT_ne hp hq e (by omega)
  have a1 : ∀ q, q < 10 → ∀ wh, sAt (sPutT S p (nI f)) q 1 wh = true → q ≠ p ∧ sAt S q 1 wh = true := fun q hq wh h => by
    rw [sAt_put hp hq hh] at h
    by_cases e : q = p
    · rw [if_pos e] at h
      simp at h
    · rw [if_neg e] at h
      exact ⟨e, h⟩
  refine ⟨fun q h => ?_, fun a b ha hb h3 h4 hn => ?_, GSh_put sh hp hh hx, fun a b ha hb x h3 h4 => ?_, fun m' h => ?_, fun m' h hM' => ?_⟩
  · have z := pl q h
    unfold GPile at z ⊢
    rw [sHere_put hp h, lo q h 0 (by omega), lo q h 1 (by omega), lo q h 3 (by omega), lo q h 4 (by omega), lo q h 5 (by omega), sPutT_hi hp (by omega) (by omega)]
    exact z
  · rw [sHere_put hp ha] at h3
    rw [sHere_put hp hb] at h4
    rw [lo a ha 0 (by omega), lo b hb 0 (by omega)]
    exact di a b ha hb h3 h4 hn
  · rw [lo a ha 1 (by omega), lo b hb 1 (by omega)]
    exact co a b ha hb x (a1 a ha x h3).2 (a1 b hb x h4).2
  · rw [sPutT_hi hp (by omega) (by omega)]
    rcases ma m' h with ⟨a, b⟩ | a
    · refine Or.inl ⟨a, fun q hq => ?_⟩
      cases hs : sAt (sPutT S p (nI f)) q 1 (nI m') with
      | false => rfl
      | true =>
        have := (a1 q hq _ hs).2
        rw [b q hq] at this
        simp at this
    · exact Or.inr a
  · unfold GMb
    rw [sPutT_hi hp (by omega) (by omega)]
    rcases mb m' h hM' with a | ⟨q, hq, b⟩
    · exact Or.inl a
    · refine Or.inr ⟨q, hq, ?_⟩
      have hne : m' ≠ m := fun z => hM (z ▸ hM')
      rw [sAt_put hp hq hh]
      by_cases e : q = p
      · subst e
        rw [sAt, Bool.and_eq_true, Bool.and_eq_true, decide_eq_true_eq, decide_eq_true_eq] at ha b
        exact absurd (b.2.2.symm.trans ha.2.2) (nI_m_ne hm h hne)
      · rw [if_neg e]
        exact b
theorem sEmp_good (hm : m < 2) (hM : ¬ M m) (d : Nat) : ∀ S, GoodX M S → 0 ≤ (S 100).toInt → (S 100).toInt + d < 2 ^ 30 → GoodX M (sEmp (nI m) d S).1 ∧ (∀ k, 90 ≤ k → k ≠ 100 → (sEmp (nI m) d S).1 k = S k) ∧ (S 100).toInt ≤ ((sEmp (nI m) d S).1 100).toInt ∧ ((sEmp (nI m) d S).1 100).toInt ≤ (S 100).toInt + (sEmp (nI m) d S).2 ∧ (sEmp (nI m) d S).2 ≤ d := by
  induction d with
  | zero =>
    intro S g h0 h1
    exact ⟨g, fun _ _ _ => rfl, Int.le_refl _, by simp [sEmp], Nat.le_refl _⟩
  | succ d ih =>
    intro S g h0 h1
    cases hf : sFirstIn S (nI m) with
    | none =>
      rw [sEmp_1 hf]
      exact ⟨g, fun _ _ _ => rfl, Int.le_refl _, by simp, Nat.zero_le _⟩
    | some p =>
      cases hs : sFreeShelf S with
      | none =>
        rw [sEmp_2 hs]
        exact ⟨g, fun _ _ _ => rfl, Int.le_refl _, by simp, Nat.zero_le _⟩
      | some x =>
        rw [sEmp_3 hf hs]
        have hp := sFirst_lt _ _ hf
        have hp9 : p < 10 := hp.1
        have e100 : (S 100).toInt ≤ (sPutT S p (nI x) 100).toInt ∧ (sPutT S p (nI x) 100).toInt ≤ (S 100).toInt + 1 := by
          rw [sPutT_100]
          by_cases c : S 96 ≤ S (9 * p + 4)
          · rw [if_pos c]; omega
          · rw [if_neg c, ad32 (by rw [i1]; omega) (by rw [i1]; omega), i1]; omega
        obtain ⟨q1, q2, q3, q4, q5⟩ := ih (sPutT S p (nI x)) (GoodX_put g hp9 hm hp.2 hs hM) (by omega) (by omega)
        refine ⟨q1, fun k hk hk2 => (q2 k hk hk2).trans (sPutT_hi hp9 hk hk2), Int.le_trans e100.1 q3, ?_, Nat.succ_le_succ q5⟩
        simp only [Int.natCast_add, Int.natCast_one]
        omega
theorem GoodX.none {T : Nat → Int32} (hm : m < 2) (g : GoodX (fun m' => m' ≠ m) T) (hn : ∀ p, p < 10 → sAt T p 1 (nI m) = false) : GoodX (fun _ => True) (up1 T (90 + 3 * m + 1) (-1)) := by
  obtain ⟨pl, di, sh, co, ma, mb⟩ := g
  have lo := up1_lo (S := T) (k := 90 + 3 * m + 1) (v := -1) (by omega)
  have eh : ∀ p, p < 10 → sHere (up1 T (90 + 3 * m + 1) (-1)) p = sHere T p := fun p h => sHere_cg (lo p h)
  have ea : ∀ p, p < 10 → ∀ st wh, sAt (up1 T (90 + 3 * m + 1) (-1)) p st wh = sAt T p st wh := fun p h st wh => sAt_cg (lo p h)
  refine ⟨fun p h => ?_, fun p q h1 h2 h3 h4 hn => ?_, fun p q h1 h2 x h3 h4 => ?_, fun p q h1 h2 x h3 h4 => ?_, fun m' h => ?_, fun m' h _ => ?_⟩
  · have z := pl p h
    unfold GPile at z ⊢
    rw [eh p h, lo p h 0 (by omega), lo p h 1 (by omega), lo p h 3 (by omega), lo p h 4 (by omega), lo p h 5 (by omega), up1_ne _ _ (show 98 ≠ 90 + 3 * m + 1 by omega)]
    exact z
  · rw [eh p h1] at h3
    rw [eh q h2] at h4
    rw [lo p h1 0 (by omega), lo q h2 0 (by omega)]
    exact di p q h1 h2 h3 h4 hn
  · rw [ea p h1] at h3
    rw [ea q h2] at h4
    exact sh p q h1 h2 x h3 h4
  · rw [ea p h1] at h3
    rw [ea q h2] at h4
    rw [lo p h1 1 (by omega), lo q h2 1 (by omega)]
    exact co p q h1 h2 x h3 h4
  · by_cases e : m' = m
    · subst e
      exact Or.inl ⟨up1_eq _ _ _, fun p hp => by rw [ea p hp]; exact hn p hp⟩
    · rw [up1_ne _ _ (by omega)]
      rcases ma m' h with ⟨a, b⟩ | a
      · exact Or.inl ⟨a, fun q hq => by rw [ea q hq]; exact b q hq⟩
      · exact Or.inr a
  · by_cases e : m' = m
    · subst e
      exact Or.inl (up1_eq _ _ _)
    · unfold GMb
      rw [up1_ne _ _ (by omega)]
      rcases mb m' h e with a | ⟨q, hq, b⟩
      · exact Or.inl a
      · exact Or.inr ⟨q, hq, by rw [ea q hq]; exact b⟩
theorem sEmpM_good (hm : m < 2) (g : Good S A P) (hP : P ≤ 500000000) : Good (sEmpM S m).1 A (P + 10) ∧ ∃ n : Nat, n ≤ 10 ∧ (sEmpM S m).2 = nI n := by
  obtain ⟨gx, n, u⟩ := g
  have gx' : GoodX (fun m' => m' ≠ m) S := ⟨gx.1, gx.2.1, gx.2.2.1, gx.2.2.2.1, gx.2.2.2.2.1, fun m' h _ => gx.2.2.2.2.2 m' h trivial⟩
  have u1 := u.1
  have u2 := u.2.1
  have u3 := u.2.2
  obtain ⟨q1, q2, q3, q4, q5⟩ := sEmp_good (M := fun m' => m' ≠ m) hm (fun z => z rfl) 10 S gx' u1 (by omega)
  refine ⟨?_, _, q5, rfl⟩
  unfold sEmpM
  simp only []
  revert q1 q2 q3 q4 q5
  generalize (sEmp (nI m) 10 S).1 = T
  generalize (sEmp (nI m) 10 S).2 = c
  intro q1 q2 q3 q4 q5
  have c31 : (nI c).toInt = c := nI_toInt (by omega)
  have w : (S 103 + nI c).toInt = (S 103).toInt + c := by rw [ad32 (by omega) (by omega), c31]
  have hi : ∀ k, k ≠ 103 → k ≠ 100 → k ≠ 90 + 3 * m + 1 → 90 ≤ k → sFin m T (S 103 + nI c) k = S k := fun k a b d e => by
    unfold sFin
    by_cases hf : sFirstIn T (nI m) = none
    · rw [if_pos hf, up1_ne _ _ d, up1_ne _ _ a, q2 k e b]
    · rw [if_neg hf, up1_ne _ _ a, q2 k e b]
  have e103 : sFin m T (S 103 + nI c) 103 = S 103 + nI c := by
    unfold sFin
    by_cases hf : sFirstIn T (nI m) = none
    · rw [if_pos hf, up1_ne _ _ (by omega), up1_eq]
    · rw [if_neg hf, up1_eq]
  have e100 : sFin m T (S 103 + nI c) 100 = T 100 := by
    unfold sFin
    by_cases hf : sFirstIn T (nI m) = none
    · rw [if_pos hf, up1_ne _ _ (by omega), up1_ne _ _ (by omega)]
    · rw [if_neg hf, up1_ne _ _ (by omega)]
  refine ⟨?_, ?_, ?_⟩
  · have g1 : GoodX (fun m' => m' ≠ m) (up1 T 103 (S 103 + nI c)) := q1.cg (up1_lo (by omega)) (fun m' h => up1_ne _ _ (by omega)) (by rw [up1_ne _ _ (by omega)]; exact Int.le_refl _)
    unfold sFin
    by_cases hf : sFirstIn T (nI m) = none
    · rw [if_pos hf]
      refine GoodX.none hm g1 (fun p hp => ?_)
      rw [sAt_cg (up1_lo (by omega) p hp)]
      exact sFirst_none (n := 10) hf p hp
    · rw [if_neg hf]
      refine ⟨g1.1, g1.2.1, g1.2.2.1, g1.2.2.2.1, g1.2.2.2.2.1, fun m' h _ => ?_⟩
      by_cases e : m' = m
      · subst e
        cases hs : sFirstIn T (nI m') with
        | none => exact absurd hs hf
        | some q =>
          have hq := sFirst_lt _ _ hs
          exact Or.inr ⟨q, hq.1, by rw [sAt_cg (up1_lo (by omega) q hq.1)]; exact hq.2⟩
      · exact g1.2.2.2.2.2 m' h e
  · unfold GNum at n ⊢
    rw [hi 105 (by omega) (by omega) (by omega) (by omega), hi 96 (by omega) (by omega) (by omega) (by omega), hi 97 (by omega) (by omega) (by omega) (by omega), hi 98 (by omega) (by omega) (by omega) (by omega)]
    exact n
  · unfold GPut
    rw [e100, e103, w]
    exact ⟨by omega, by omega, by omega⟩
theorem sEnds_good (hm : m < 2) (g : Good S A P) (hP : P ≤ 500000000) : Good (sEnds S m).1 A (P + 10) ∧ ∃ n : Nat, n ≤ 10 ∧ (sEnds S m).2 = nI n := by
  unfold sEnds
  by_cases c : S (90 + 3 * m + 1) = -1 ∨ S 96 < S (90 + 3 * m + 1)
  · rw [if_pos c]
    exact ⟨g.mono (Int.le_refl _) (by omega), 0, by omega, nI_0.symm⟩
  · rw [if_neg c]
    exact sEmpM_good hm g hP
theorem sAll_good (g : Good S A P) (hP : P ≤ 400000000) : Good (sAll S).1 A (P + 20) ∧ ∃ n : Nat, n ≤ 20 ∧ (sAll S).2 = nI n := by
  obtain ⟨g1, n1, a1, b1⟩ := sEnds_good (m := 0) (by decide) g (by omega)
  obtain ⟨g2, n2, a2, b2⟩ := sEnds_good (m := 1) (by decide) g1 (by omega)
  refine ⟨g2.mono (Int.le_refl _) (by omega), n1 + n2, by omega, ?_⟩
  show (sEnds S 0).2 + (sEnds (sEnds S 0).1 1).2 = _
  rw [b1, b2, nI_add]
theorem Good.ne (g : Good S A P) (hm : m < 2) : ¬ S (90 + 3 * m + 1) = -1 → ¬ sFirstIn S (nI m) = none := by
  intro h hn
  rcases g.1.2.2.2.2.2 m hm trivial with a | ⟨q, hq, b⟩
  · exact h a
  · rw [sFirst_none (n := 10) hn q hq] at b
    simp at b
/-- a pile gone from its shelf -/
theorem Good.gone (g : Good S A P) (hp : p < 10) {x : Int32} (ha : sAt S p 2 x = true) : Good (up1 S (9 * p + 0) (-1)) A P := by
  obtain ⟨⟨pl, di, sh, co, ma, mb⟩, n, u⟩ := g
  have e : ∀ j, j ≠ 9 * p + 0 → up1 S (9 * p + 0) (-1) j = S j := fun j hj => up1_ne _ _ hj
  have hno : sHere (up1 S (9 * p + 0) (-1)) p = false := by
    unfold sHere
    rw [up1_eq]
    decide
  have ne : ∀ q, q ≠ p → ∀ j, j < 9 → up1 S (9 * p + 0) (-1) (9 * q + j) = S (9 * q + j) := fun q hq j hj => e _ (by omega)
  have eh : ∀ q, sHere (up1 S (9 * p + 0) (-1)) q = true → q ≠ p ∧ sHere S q = true := fun q h => by
    by_cases c : q = p
    · subst c; rw [hno] at h; simp at h
    · rw [sHere_cg (ne q c)] at h; exact ⟨c, h⟩
  have ea : ∀ q st wh, sAt (up1 S (9 * p + 0) (-1)) q st wh = true → q ≠ p ∧ sAt S q st wh = true := fun q st wh h => by
    have c := (eh q (sAt_here h)).1
    rw [sAt_cg (ne q c)] at h
    exact ⟨c, h⟩
  refine ⟨⟨fun q h => ?_, fun a b h1 h2 h3 h4 hn => ?_, fun a b h1 h2 x h3 h4 => ?_, fun a b h1 h2 x h3 h4 => ?_, fun m h => ?_, fun m h hM => ?_⟩, ?_, ?_⟩
  · have z := pl q h
    unfold GPile at z ⊢
    rw [e (9 * q + 5) (by omega)]
    refine ⟨z.1, fun hh => ?_⟩
    obtain ⟨c, hh'⟩ := eh q hh
    rw [e (9 * q + 0) (by omega), e (9 * q + 1) (by omega), e (9 * q + 3) (by omega), e (9 * q + 4) (by omega), e 98 (by omega)]
    exact z.2 hh'
  · obtain ⟨c1, h3'⟩ := eh a h3
    obtain ⟨c2, h4'⟩ := eh b h4
    rw [e _ (by omega), e _ (by omega)]
    exact di a b h1 h2 h3' h4' hn
  · exact sh a b h1 h2 x (ea a _ _ h3).2 (ea b _ _ h4).2
  · rw [e _ (by omega), e _ (by omega)]
    exact co a b h1 h2 x (ea a _ _ h3).2 (ea b _ _ h4).2
  · rw [e _ (by omega)]
    rcases ma m h with ⟨a, b⟩ | a
    · refine Or.inl ⟨a, fun q hq => ?_⟩
      cases hs : sAt (up1 S (9 * p + 0) (-1)) q 1 (nI m) with
      | false => rfl
      | true =>
        have := (ea q _ _ hs).2
        rw [b q hq] at this
        simp at this
    · exact Or.inr a
  · unfold GMb
    rw [e _ (by omega)]
    rcases mb m h hM with a | ⟨q, hq, b⟩
    · exact Or.inl a
    · refine Or.inr ⟨q, hq, ?_⟩
      have c : q ≠ p := fun z => by
        subst z
        rw [sAt, Bool.and_eq_true, Bool.and_eq_true, decide_eq_true_eq, decide_eq_true_eq] at ha b
        have := b.2.1.symm.trans ha.2.1
        exact absurd this (by decide)
      rw [sAt_cg (ne q c)]
      exact b
  · unfold GNum at n ⊢
    rw [e 105 (by omega), e 96 (by omega), e 97 (by omega), e 98 (by omega)]
    exact n
  · unfold GPut at u ⊢
    rw [e 100 (by omega), e 103 (by omega)]
    exact u
end
/-- one colour a machine: the first one's is the last one's -/
theorem col_same {S : Nat → Int32} (g : GCol S) (m : Int32) : sColF S m = mCol S m := by
  have key : ∀ n, n ≤ 10 → ((∀ p, p < n → sAt S p 1 m = false) ∧ fo (fun p a => if sAt S p 1 m then S (9 * p + 1) else a) n (-1) = -1) ∨ ∃ p, p < n ∧ sAt S p 1 m = true ∧ fo (fun p a => if sAt S p 1 m then S (9 * p + 1) else a) n (-1) = S (9 * p + 1) := by
    intro n
    induction n with
    | zero => intro _; exact Or.inl ⟨fun p hp => absurd hp (Nat.not_lt_zero p), by simp only [fo]⟩
    | succ n ih =>
      intro hn
      have e : fo (fun p a => if sAt S p 1 m then S (9 * p + 1) else a) (n + 1) (-1) = if sAt S n 1 m then S (9 * n + 1) else fo (fun p a => if sAt S p 1 m then S (9 * p + 1) else a) n (-1) := by simp only [fo]
      rw [e]
      cases c : sAt S n 1 m with
      | true => exact Or.inr ⟨n, Nat.lt_succ_self n, c, by simp⟩
      | false =>
        rcases ih (by omega) with ⟨h1, h2⟩ | ⟨p, h1, h2, h3⟩
        · refine Or.inl ⟨fun p hp => ?_, by simpa using h2⟩
          by_cases q : p = n
          · rw [q]; exact c
          · exact h1 p (by omega)
        · exact Or.inr ⟨p, by omega, h2, by simpa using h3⟩
  unfold sColF mCol
  rcases key 10 (Nat.le_refl _) with ⟨h1, h2⟩ | ⟨p, h1, h2, h3⟩
  · rw [h2]
    cases hf : sFirstIn S m with
    | none => rfl
    | some q =>
      have hq := sFirst_lt _ _ hf
      rw [h1 q hq.1] at hq
      simp at hq
  · rw [h3]
    cases hf : sFirstIn S m with
    | none =>
      rw [sFirst_none (n := 10) hf p h1] at h2
      simp at h2
    | some q =>
      have hq := sFirst_lt _ _ hf
      exact g q p hq.1 h1 m hq.2 h2
