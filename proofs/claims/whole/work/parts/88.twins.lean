/-! Rows that differ only in what nobody reads: the shelf and its minute at a place never taken. -/
def Twn (S S' : Nat → Int32) : Prop := ∀ k, S k = S' k ∨ ∃ p, p < 10 ∧ (k = 9 * p + 7 ∨ k = 9 * p + 8) ∧ S (9 * p + 0) = -1 ∧ S (9 * p + 6) = 0
section
variable {S S' : Nat → Int32} {A P : Int}
theorem Twn.rf : Twn S S := fun _ => Or.inl rfl
theorem Twn.k (e : Twn S S') {k : Nat} (h : 90 ≤ k ∨ k % 9 < 7) : S k = S' k := by
  rcases e k with h1 | ⟨p, hp, h2, -⟩
  · exact h1
  · omega
theorem Twn.j (e : Twn S S') (p : Nat) {j : Nat} (hj : j < 7) : S (9 * p + j) = S' (9 * p + j) := e.k (by omega)
theorem Twn.here (e : Twn S S') (p : Nat) : sHere S p = sHere S' p := by unfold sHere; rw [e.j p (j := 0) (by decide)]
theorem here_ne {p : Nat} (h : sHere S p = true) : ¬ S (9 * p + 0) = -1 := by
  unfold sHere at h
  exact of_decide_eq_true h
theorem Twn.v (e : Twn S S') {p j : Nat} (hp : p < 10) (h : ¬ S (9 * p + 6) = 0 ∨ sHere S p = true) (hj : j < 9) : S (9 * p + j) = S' (9 * p + j) := by
  rcases e (9 * p + j) with h1 | ⟨q, hq, h2, h3, h4⟩
  · exact h1
  · have hqp : q = p := by omega
    subst hqp
    rcases h with h | h
    · exact absurd h4 h
    · exact absurd h3 (here_ne h)
theorem Twn.at (e : Twn S S') {p : Nat} {st wh : Int32} (hp : p < 10) (hst : ¬ st = 0) : sAt S p st wh = sAt S' p st wh := by
  unfold sAt
  rw [e.here]
  by_cases c : S (9 * p + 6) = st
  · rw [e.v hp (Or.inl (by rw [c]; exact hst)) (j := 7) (by decide), e.j p (j := 6) (by decide)]
  · have c' : ¬ S' (9 * p + 6) = st := by rw [← e.j p (j := 6) (by decide)]; exact c
    rw [decide_eq_false c, decide_eq_false c', Bool.false_and, Bool.false_and]
theorem Twn.inn (e : Twn S S') (p : Nat) (st : Int32) : sIn S p st = sIn S' p st := by unfold sIn; rw [e.here, e.j p (j := 6) (by decide)]
theorem Twn.late (e : Twn S S') {p : Nat} (hp : p < 10) : sLate S p = sLate S' p := by
  unfold sLate
  by_cases c : S (9 * p + 6) = 2
  · rw [e.v hp (Or.inl (by rw [c]; decide)) (j := 8) (by decide), e.j p (j := 6) (by decide), e.j p (j := 4) (by decide)]
  · have c' : ¬ S' (9 * p + 6) = 2 := by rw [← e.j p (j := 6) (by decide)]; exact c
    rw [decide_eq_false c, decide_eq_false c', Bool.false_and, Bool.false_and]
theorem Twn.w (e : Twn S S') : sW S = sW S' := funext (fun p => e.inn p 0)
theorem Twn.ahead (e : Twn S S') : sAhead S = sAhead S' := by
  funext p q rf
  unfold sAhead
  rw [e.j p (j := 5) (by decide), e.j q (j := 5) (by decide), e.j p (j := 4) (by decide), e.j q (j := 4) (by decide), e.j p (j := 0) (by decide), e.j q (j := 0) (by decide)]
theorem Twn.free (e : Twn S S') : sFree S = sFree S' := fi_congr (fun p _ => by rw [e.here])
theorem Twn.shelf (e : Twn S S') (x : Int32) : sShelf S x = sShelf S' x := fi_congr (fun p hp => e.at hp (by decide))
theorem Twn.freeShelf (e : Twn S S') : sFreeShelf S = sFreeShelf S' := fi_congr (fun k _ => by simp only [e.shelf])
theorem Twn.many (e : Twn S S') (st : Int32) : sMany S st = sMany S' st := fo_congr (fun p a _ => by simp only [e.inn])
theorem Twn.pilesIn (e : Twn S S') (m : Int32) : sPilesIn S m = sPilesIn S' m := fo_congr (fun p a hp => by simp only [e.at hp (show ¬ (1 : Int32) = 0 by decide)])
theorem Twn.weightIn (e : Twn S S') (m : Int32) : sWeightIn S m = sWeightIn S' m := fo_congr (fun p a hp => by simp only [e.at hp (show ¬ (1 : Int32) = 0 by decide), e.j p (j := 2) (by decide)])
theorem Twn.firstIn (e : Twn S S') (m : Int32) : sFirstIn S m = sFirstIn S' m := fo_congr (fun p r hp => by
  have hl : sLess S p r = sLess S' p r := by
    cases r with
    | none => rfl
    | some q => unfold sLess; simp only [e.j p (j := 0) (by decide), e.j q (j := 0) (by decide)]
  unfold sFirstF
  rw [e.at hp (by decide), hl])
theorem Twn.colF (e : Twn S S') (m : Int32) : sColF S m = sColF S' m := by
  unfold sColF
  rw [e.firstIn]
  cases sFirstIn S' m with
  | none => rfl
  | some p => exact e.j p (j := 1) (by decide)
theorem Twn.mAhead (e : Twn S S') (p q : Nat) : mAhead S p q = mAhead S' p q := by
  unfold _root_.Jvm.Pilot.CPileTicketsLaw_law_r4543_8263e8.mAhead mBy
  rw [e.j p (j := 5) (by decide), e.j q (j := 5) (by decide), e.j p (j := 4) (by decide), e.j q (j := 4) (by decide), e.j p (j := 0) (by decide), e.j q (j := 0) (by decide), e.k (k := 105) (by decide)]
theorem Twn.rank (e : Twn S S') (p : Nat) : mRank S p = mRank S' p := fo_congr (fun q a _ => by simp only [e.inn, e.mAhead])
theorem Twn.ranked (e : Twn S S') (x : Int32) : mRanked S x = mRanked S' x := fo_congr (fun p r _ => by
  unfold sel
  simp only [e.inn, e.rank])
theorem Twn.fee (e : Twn S S') {p : Nat} (hp : p < 10) : mFee S p = mFee S' p := by
  unfold mFee mFee0
  rw [e.late hp, e.j p (j := 5) (by decide), e.j p (j := 2) (by decide), e.k (k := 104) (by decide)]
theorem Twn.idle (e : Twn S S') {m : Nat} : sIdle S m = sIdle S' m := by unfold sIdle; rw [e.k (by omega)]
theorem Twn.up (e : Twn S S') {k : Nat} {v : Int32} (hk : ∀ q, q < 10 → (k = 9 * q + 0 ∨ k = 9 * q + 6) → sHere S q = true) : Twn (up1 S k v) (up1 S' k v) := by
  intro k'
  by_cases c : k' = k
  · subst c
    exact Or.inl (by rw [up1_eq, up1_eq])
  · rcases e k' with h | ⟨p, hp, h2, h3, h4⟩
    · exact Or.inl (by rw [up1_ne _ _ c, up1_ne _ _ c]; exact h)
    · have n0 : 9 * p + 0 ≠ k := fun z => here_ne (hk p hp (Or.inl z.symm)) h3
      have n6 : 9 * p + 6 ≠ k := fun z => here_ne (hk p hp (Or.inr z.symm)) h3
      exact Or.inr ⟨p, hp, h2, by rw [up1_ne _ _ n0]; exact h3, by rw [up1_ne _ _ n6]; exact h4⟩
theorem Twn.up' (e : Twn S S') {k : Nat} {v v' : Int32} (hv : v = v') (hk : 90 ≤ k ∨ (¬ k % 9 = 0 ∧ ¬ k % 9 = 6)) : Twn (up1 S k v) (up1 S' k v') := by
  subst hv
  exact e.up (fun q _ h => by omega)
theorem Twn.pw (e : Twn S S') {p : Nat} {f : Nat → Int32} : Twn (pw S p f) (pw S' p f) := by
  intro k
  by_cases c : 9 * p ≤ k ∧ k < 9 * p + 9
  · exact Or.inl (by unfold _root_.Jvm.Pilot.CPileTicketsLaw_law_r4543_8263e8.pw; rw [if_pos c, if_pos c])
  · rcases e k with h | ⟨q, hq, h2, h3, h4⟩
    · exact Or.inl (by unfold _root_.Jvm.Pilot.CPileTicketsLaw_law_r4543_8263e8.pw; rw [if_neg c, if_neg c]; exact h)
    · have hqp : q ≠ p := by omega
      exact Or.inr ⟨q, hq, h2, by rw [pw_ne hqp (by decide)]; exact h3, by rw [pw_ne hqp (by decide)]; exact h4⟩
theorem Twn.ref (e : Twn S S') : Twn (sRef S) (sRef S') := e.up' (by rw [e.k (k := 102) (by decide)]) (by decide)
theorem Twn.admt (e : Twn S S') {p : Nat} {x1 x2 x3 x4 x5 : Int32} : Twn (sAdm S p x1 x2 x3 x4 x5) (sAdm S' p x1 x2 x3 x4 x5) := by
  unfold sAdm
  rw [e.k (k := 97) (by decide), e.k (k := 96) (by decide), e.k (k := 98) (by decide)]
  exact (e.pw.up' rfl (by decide)).up' rfl (by decide)
theorem Twn.takes (e : Twn S S') {x1 x2 x3 x4 x5 : Int32} : (sTakes S x1 x2 x3 x4 x5).1 = (sTakes S' x1 x2 x3 x4 x5).1 ∧ Twn (sTakes S x1 x2 x3 x4 x5).2 (sTakes S' x1 x2 x3 x4 x5).2 := by
  have ef := e.free
  cases h : sFree S with
  | none =>
    rw [h] at ef
    rw [sTakes_none h, sTakes_none ef.symm]
    exact ⟨rfl, e.ref⟩
  | some p =>
    rw [h] at ef
    rw [sTakes_some h, sTakes_some ef.symm]
    exact ⟨e.k (by decide), e.admt⟩
theorem Twn.putT (e : Twn S S') {p : Nat} {x : Int32} (hp : p < 10) (hh : sHere S p = true) : Twn (sPutT S p x) (sPutT S' p x) := by
  unfold sPutT
  rw [e.k (k := 96) (by decide), e.k (k := 100) (by decide), e.j p (j := 4) (by decide)]
  refine Twn.up' (Twn.up' (Twn.up' (Twn.up e (fun q hq h => ?_)) rfl (by omega)) rfl (by omega)) rfl (by decide)
  have hqp : q = p := by omega
  rw [hqp]; exact hh
theorem at_here {p : Nat} {st wh : Int32} (h : sAt S p st wh = true) : sHere S p = true := by
  unfold sAt at h
  rw [Bool.and_eq_true] at h
  exact h.1
theorem Twn.emp {m : Int32} : ∀ d {T T' : Nat → Int32}, Twn T T' → Twn (sEmp m d T).1 (sEmp m d T').1 ∧ (sEmp m d T).2 = (sEmp m d T').2
  | 0, T, T', e => ⟨e, rfl⟩
  | d + 1, T, T', e => by
    show Twn (sEmp1 (sEmp m d) T (sFirstIn T m) (sFreeShelf T)).1 (sEmp1 (sEmp m d) T' (sFirstIn T' m) (sFreeShelf T')).1 ∧ (sEmp1 (sEmp m d) T (sFirstIn T m) (sFreeShelf T)).2 = (sEmp1 (sEmp m d) T' (sFirstIn T' m) (sFreeShelf T')).2
    rw [← e.firstIn, ← e.freeShelf]
    cases hf : sFirstIn T m with
    | none => exact ⟨e, rfl⟩
    | some p =>
      cases sFreeShelf T with
      | none => exact ⟨e, rfl⟩
      | some x =>
        have hp := sFirst_lt T m hf
        obtain ⟨q1, q2⟩ := Twn.emp d (e.putT (x := nI x) hp.1 (at_here hp.2))
        exact ⟨q1, congrArg (· + 1) q2⟩
theorem Twn.fin (e : Twn S S') {m : Nat} {w : Int32} (hm : m < 2) : Twn (sFin m S w) (sFin m S' w) := by
  unfold sFin
  rw [e.firstIn]
  by_cases c : sFirstIn S' (nI m) = none
  · rw [if_pos c, if_pos c]
    exact (e.up' rfl (by decide)).up' rfl (by omega)
  · rw [if_neg c, if_neg c]
    exact e.up' rfl (by decide)
theorem Twn.ends (e : Twn S S') {m : Nat} (hm : m < 2) : Twn (sEnds S m).1 (sEnds S' m).1 ∧ (sEnds S m).2 = (sEnds S' m).2 := by
  unfold sEnds
  rw [e.k (k := 90 + 3 * m + 1) (by omega), e.k (k := 96) (by decide)]
  by_cases c : S' (90 + 3 * m + 1) = -1 ∨ S' 96 < S' (90 + 3 * m + 1)
  · rw [if_pos c, if_pos c]
    exact ⟨e, rfl⟩
  · rw [if_neg c, if_neg c]
    unfold sEmpM
    obtain ⟨q1, q2⟩ := Twn.emp (m := nI m) 10 e
    rw [q2, e.k (k := 103) (by decide)]
    exact ⟨q1.fin hm, rfl⟩
theorem Twn.all (e : Twn S S') : Twn (sAll S).1 (sAll S').1 ∧ (sAll S).2 = (sAll S').2 := by
  obtain ⟨q1, q2⟩ := e.ends (m := 0) (by decide)
  obtain ⟨q3, q4⟩ := q1.ends (m := 1) (by decide)
  refine ⟨q3, ?_⟩
  unfold sAll
  rw [q2, q4]
theorem Twn.taken (e : Twn S S') {p : Nat} (hp : p < 10) (hh : sHere S p = true) : Twn (sTaken S p) (sTaken S' p) := by
  unfold sTaken
  rw [e.k (k := 101) (by decide), e.k (k := 99) (by decide), e.fee hp]
  refine Twn.up' (Twn.up' (Twn.up e (fun q hq h => ?_)) rfl (by decide)) rfl (by decide)
  have hqp : q = p := by omega
  rw [hqp]; exact hh
theorem Twn.give (e : Twn S S') {t x : Int32} : (sGive S t x).1 = (sGive S' t x).1 ∧ Twn (sGive S t x).2 (sGive S' t x).2 := by
  have es := e.shelf x
  cases h : sShelf S x with
  | none =>
    rw [h] at es
    rw [sGive_0 h, sGive_0 es.symm]
    exact ⟨rfl, e.ref⟩
  | some p =>
    have hp := fi_lt h
    rw [h] at es
    by_cases c : S (9 * p + 0) = t
    · rw [sGive_1 h c, sGive_1 es.symm (by rw [← e.j p (by decide)]; exact c), e.fee hp.1]
      exact ⟨rfl, (e.taken hp.1 (at_here hp.2)).all.1⟩
    · rw [sGive_2 h c, sGive_2 es.symm (by rw [← e.j p (by decide)]; exact c)]
      exact ⟨rfl, e.ref⟩
theorem Twn.pass (e : Twn S S') : ∀ k, Twn (sPass S k).1 (sPass S' k).1 ∧ (sPass S k).2 = (sPass S' k).2
  | 0 => ⟨e, rfl⟩
  | k + 1 => by
    obtain ⟨q1, q2⟩ := e.pass k
    show Twn (sMin (sPass S k)).1 (sMin (sPass S' k)).1 ∧ (sMin (sPass S k)).2 = (sMin (sPass S' k)).2
    unfold sMin
    have q3 := q1.up' (k := 96) (v := (sPass S k).1 96 + 1) (v' := (sPass S' k).1 96 + 1) (by rw [q1.k (k := 96) (by decide)]) (by decide)
    obtain ⟨q4, q5⟩ := q3.all
    exact ⟨q4, by rw [q2, q5]⟩
theorem Twn.ld (e : Twn S S') {w : Int32} {m : Nat} (hw : ∀ p, p < 10 → bt w p = true → sHere S p = true) : ∀ n, n ≤ 10 → Twn (fo (sLdF w m) n (S, 0)).1 (fo (sLdF w m) n (S', 0)).1 ∧ (fo (sLdF w m) n (S, 0)).2 = (fo (sLdF w m) n (S', 0)).2 ∧ ∀ p, p < 10 → (fo (sLdF w m) n (S, 0)).1 (9 * p + 0) = S (9 * p + 0)
  | 0, _ => ⟨e, rfl, fun _ _ => rfl⟩
  | n + 1, hn => by
    obtain ⟨q1, q2, q3⟩ := e.ld (m := m) hw n (by omega)
    have e1 : ∀ T, fo (sLdF w m) (n + 1) (T, 0) = sLdF w m n (fo (sLdF w m) n (T, 0)) := fun _ => rfl
    rw [e1, e1]
    have step : ∀ a, sLdF w m n a = if bt w n = true then (up1 (up1 a.1 (9 * n + 6) 1) (9 * n + 7) (nI m), sMax a.2 (a.1 (9 * n + 3))) else a := fun _ => rfl
    rw [step, step]
    by_cases c : bt w n = true
    · rw [if_pos c, if_pos c]
      refine ⟨?_, by rw [q2, q1.j n (j := 3) (by decide)], fun p hp => ?_⟩
      · refine Twn.up' (Twn.up q1 (fun q hq h => ?_)) rfl (by omega)
        have hqp : q = n := by omega
        have h2 := hw n (by omega) c
        rw [hqp]
        unfold sHere at h2 ⊢
        rw [q3 n (by omega)]
        exact h2
      · show up1 (up1 _ (9 * n + 6) 1) (9 * n + 7) (nI m) (9 * p + 0) = _
        rw [up1_ne _ _ (by omega), up1_ne _ _ (by omega)]
        exact q3 p hp
    · rw [if_neg c, if_neg c]
      exact ⟨q1, q2, q3⟩
theorem Twn.loads (e : Twn S S') {w : Int32} {m : Nat} (hm : m < 2) (hw : Wm S w) : (sLoads S w m).1 = (sLoads S' w m).1 ∧ Twn (sLoads S w m).2 (sLoads S' w m).2 := by
  unfold sLoads
  rw [e.idle]
  by_cases c : sIdle S' m = true ∧ ¬ w = 0
  · rw [if_pos c, if_pos c]
    have q : Twn (sLoad S w m) (sLoad S' w m) := by
      unfold sLoad sLd
      obtain ⟨q1, q2, -⟩ := e.ld (w := w) (m := m) (fun p hp h => by
        have h2 := (hw.1 p (by omega) h).2
        unfold sW sIn at h2
        rw [Bool.and_eq_true] at h2
        exact h2.1) 10 (Nat.le_refl _)
      exact (q1.up' (by rw [q2, e.k (k := 96) (by decide)]) (by omega)).up' (by rw [e.k (k := 90 + 3 * m + 2) (by omega)]) (by omega)
    exact ⟨q.weightIn _, q⟩
  · rw [if_neg c, if_neg c]
    exact ⟨rfl, e.ref⟩
theorem Twn.wl (e : Twn S S') {room w : Int32} (h : sWL S room w) : sWL S' room w := by
  intro L n hL
  rw [← e.ahead, ← e.w, ← e.k (k := 105) (by decide)] at hL
  rw [h L n hL]
  unfold wlM
  have hf : wlF S L = wlF S' L := by
    funext r a
    unfold wlF
    rw [e.j (L r) (j := 2) (by decide), e.j (L r) (j := 1) (by decide)]
  rw [hf]
theorem Twn.admX (X : Nat → Int32) (n : Nat) (g : Nat → Nat → Int32) : ∀ d i t {S S' : Nat → Int32}, Twn S S' → (adm X n g d i t S).1 = (adm X n g d i t S').1 ∧ Twn (adm X n g d i t S).2 (adm X n g d i t S').2
  | 0, i, t, S, S', e => ⟨rfl, e⟩
  | d + 1, i, t, S, S', e => by
    unfold adm
    by_cases c : i = n ∨ X i = 59
    · rw [if_pos c, if_pos c]
      have q : (aTk S (g i)).1 = (aTk S' (g i)).1 ∧ Twn (aTk S (g i)).2 (aTk S' (g i)).2 := e.takes
      rw [q.1]
      by_cases c2 : (aTk S' (g i)).1 = -1
      · rw [if_pos c2, if_pos c2]
        exact ⟨rfl, q.2⟩
      · rw [if_neg c2, if_neg c2]
        exact Twn.admX X n g d (i + 1) (t + 1) q.2
    · rw [if_neg c, if_neg c]
      exact Twn.admX X n g d (i + 1) t e
theorem Twn.of (e : Twn S S') {p j : Nat} (hp : p < 10) (hj : j < 11) : mOf S p j = mOf S' p j := by
  unfold mOf
  rw [e.here]
  by_cases c : sHere S' p = true
  · have c' : sHere S p = true := by rw [e.here]; exact c
    rw [if_pos c, if_pos c, e.inn, e.rank, e.fee hp, e.v hp (Or.inr c') (j := 8) (by decide)]
    by_cases c8 : j = 8
    · rw [if_pos c8, if_pos c8]
    · rw [if_neg c8, if_neg c8]
      by_cases c9 : j = 9
      · rw [if_pos c9, if_pos c9]
      · rw [if_neg c9, if_neg c9]
        by_cases c10 : j = 10
        · rw [if_pos c10, if_pos c10]
        · rw [if_neg c10, if_neg c10, e.v hp (Or.inr c') (by omega)]
  · rw [if_neg c, if_neg c]
theorem Twn.mach (e : Twn S S') {p j : Nat} : sMach S p j = sMach S' p j := by
  unfold sMach
  rw [e.k (k := 90 + 3 * p + 0) (by omega), e.k (k := 90 + 3 * p + 1) (by omega), e.k (k := 90 + 3 * p + 2) (by omega), e.weightIn, e.colF, e.pilesIn]
theorem Twn.count (e : Twn S S') {j : Nat} : sCount S j = sCount S' j := by
  unfold sCount
  rw [e.many, e.many, e.many, e.k (k := 96) (by decide), e.k (k := 98) (by decide), e.k (k := 99) (by decide), e.k (k := 100) (by decide), e.k (k := 101) (by decide), e.k (k := 102) (by decide)]
theorem Twn.cEnd (e : Twn S S') : cEnd S = cEnd S' := by
  unfold _root_.Jvm.Pilot.CPileTicketsLaw_law_r4543_8263e8.cEnd
  rw [e.k (k := 94) (by decide), e.k (k := 91) (by decide), e.k (k := 96) (by decide)]
theorem Twn.sh (e : Twn S S') : shW S = shW S' := by
  unfold shW
  rw [e.k (k := 103) (by decide), e.k (k := 100) (by decide)]
theorem Twn.tdc (e : Twn S S') : tS S = tS S' ∧ dS S = dS S' ∧ cS S = cS S' := by
  refine ⟨?_, ?_, ?_⟩
  · funext p; unfold tS; rw [e.j p (j := 3) (by decide)]
  · funext p; unfold dS; rw [e.j p (j := 4) (by decide)]
  · unfold cS; rw [e.k (k := 96) (by decide)]
theorem Twn.fl (e : Twn S S') {v : Int32} (h : sFL S v) : sFL S' v := by
  unfold sFL BestP at h ⊢
  obtain ⟨e1, e2, e3⟩ := e.tdc
  rw [e.w, e1, e2, e3] at h
  exact h
theorem Twn.dig (e : Twn S S') {s : Nat} {K : Nat → Bool} {n : Nat} {X : Nat → Int32} {w0 w1 fl : Int32} : dig S s K n X w0 w1 fl = dig S' s K n X w0 w1 fl := by
  unfold _root_.Jvm.Pilot.CPileTicketsLaw_law_r4543_8263e8.dig
  have h1 : dg1 S s = dg1 S' s := by
    unfold dg1
    simp only [e.count]
    rw [e.k (k := 104) (by decide), e.k (k := 105) (by decide)]
  have h2 : ∀ a, dg2 S a = dg2 S' a := fun a => fo_congr (fun p a hp => fo_congr (fun j a hj => by simp only [e.of hp hj]))
  have hM : ∀ m w a, dgM S m w a = dgM S' m w a := fun m w a => by
    unfold dgM
    simp only [e.mach]
  have h3 : ∀ a, dg3 S w0 w1 a = dg3 S' w0 w1 a := fun a => by
    unfold dg3
    simp only [e.shelf, hM]
  have h4 : ∀ a, dg4 S fl a = dg4 S' fl a := fun a => by
    unfold dg4
    simp only [e.ranked]
    rw [e.cEnd, e.sh]
  rw [h1, h2, h3, h4]
theorem Twn.good (e : Twn S S') (g : Good S A P) : Good S' A P := by
  obtain ⟨⟨g1, g2, g3, g4, g5, g6⟩, n, u⟩ := g
  have j0 := fun p => e.j p (j := 0) (by decide)
  have j1 := fun p => e.j p (j := 1) (by decide)
  have j3 := fun p => e.j p (j := 3) (by decide)
  have j4 := fun p => e.j p (j := 4) (by decide)
  have j5 := fun p => e.j p (j := 5) (by decide)
  refine ⟨⟨fun p hp => ?_, fun p q hp hq h1 h2 h3 => ?_, fun p q hp hq x h1 h2 => ?_, fun p q hp hq x h1 h2 => ?_, fun m hm => ?_, fun m hm hM => ?_⟩, ?_, ?_⟩
  · have := g1 p hp
    unfold GPile at this ⊢
    rw [e.here, j0, j1, j3, j4, j5, e.k (k := 98) (by decide)] at this
    exact this
  · have := g2 p q hp hq (by rw [e.here]; exact h1) (by rw [e.here]; exact h2) h3
    rw [j0, j0] at this
    exact this
  · exact g3 p q hp hq x (by rw [e.at hp (by decide)]; exact h1) (by rw [e.at hq (by decide)]; exact h2)
  · have := g4 p q hp hq x (by rw [e.at hp (by decide)]; exact h1) (by rw [e.at hq (by decide)]; exact h2)
    rw [j1, j1] at this
    exact this
  · rw [← e.k (k := 90 + 3 * m + 1) (by omega)]
    exact (g5 m hm).imp (fun z => ⟨z.1, fun p hp => by rw [← e.at hp (by decide)]; exact z.2 p hp⟩) id
  · have := g6 m hm hM
    unfold GMb at this ⊢
    rw [← e.k (k := 90 + 3 * m + 1) (by omega)]
    exact this.imp id (fun ⟨p, hp, z⟩ => ⟨p, hp, by rw [← e.at hp (by decide)]; exact z⟩)
  · unfold GNum at n ⊢
    rw [← e.k (k := 105) (by decide), ← e.k (k := 96) (by decide), ← e.k (k := 97) (by decide), ← e.k (k := 98) (by decide)]
    exact n
  · unfold GPut at u ⊢
    rw [← e.k (k := 100) (by decide), ← e.k (k := 103) (by decide)]
    exact u
end
