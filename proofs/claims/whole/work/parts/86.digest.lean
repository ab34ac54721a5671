/-! The digest, pure and in the class. -/
/-- the fewest late, told by places alone -/
def BestP (S : Nat → Int32) (M : Nat) : Prop := (∃ V, (∀ q, q < 10 → V q = true → sW S q = true) ∧ Can (cS S) (tS S) (dS S) V 10 ∧ cU V 10 = M) ∧ ∀ V, (∀ q, q < 10 → V q = true → sW S q = true) → Can (cS S) (tS S) (dS S) V 10 → cU V 10 ≤ M
def sFL (S : Nat → Int32) (v : Int32) : Prop := ∃ M, BestP S M ∧ v = nI (cU (sW S) 10 - M)
theorem sFL_un {S : Nat → Int32} {v v' : Int32} (h : sFL S v) (h' : sFL S v') : v = v' := by
  obtain ⟨M, ⟨⟨V, a1, a2, a3⟩, b⟩, rfl⟩ := h
  obtain ⟨M', ⟨⟨V', a1', a2', a3'⟩, b'⟩, rfl⟩ := h'
  have h1 := b V' a1' a2'
  have h2 := b' V a1 a2
  have : M = M' := by omega
  rw [this]
theorem sFL_of {S : Nat → Int32} {L : Nat → Nat} {n M : Nat} (f : FO S) (h : LPr S L n) (hB : Best (cS S) (fun j => tS S (L j)) (fun j => dS S (L j)) n M) : sFL S (nI (n - M)) := by
  have hli := h.li f
  have hm := h.mono f
  have hn : cU (sW S) 10 = n := by
    have a2 := hli.sum (V := sW S) (g := fun _ => 1) (fun q _ hq => hq)
    have a3 : ∀ m, m ≤ n → sg (wt (fun j => sW S (L j)) (fun _ => 1)) m = m := by
      intro m
      induction m with
      | zero => intro _; rfl
      | succ m ihm =>
        intro hm
        rw [sg_s, ihm (by omega), wt_t (U := fun j => sW S (L j)) (hli.1 m (by omega)).2]
    unfold cU
    rw [a2, a3 n (Nat.le_refl n)]
  refine ⟨M, ⟨?_, fun V hV hc => ?_⟩, by rw [hn]⟩
  · obtain ⟨⟨U, hU, hM⟩, -⟩ := hB
    have hW : ∀ q, plc L n U q = true → q < 10 ∧ sW S q = true := fun q hq => plc_W hli hq
    have e : ∀ j, j < n → (fun j => plc L n U (L j)) j = U j := fun j hj => plc_L hli hj
    refine ⟨plc L n U, fun q _ hq => (hW q hq).2, (hli.can (fun q _ hq => (hW q hq).2)).mpr ((Feas_Can hm).mp (hU.cg e)), ?_⟩
    have s := hli.sum (V := plc L n U) (g := fun _ => 1) (fun q _ hq => (hW q hq).2)
    have s2 : sg (wt (fun j => plc L n U (L j)) (fun _ => 1)) n = sg (wt U (fun _ => 1)) n := sg_congr (fun j hj => wt_cg (e j hj))
    unfold cU at hM ⊢
    rw [s, s2, hM]
  · have h1 := hB.2 (fun j => V (L j)) ((Feas_Can hm).mpr ((hli.can hV).mp hc))
    have s := hli.sum (V := V) (g := fun _ => 1) hV
    unfold cU at h1 ⊢
    rw [s]
    exact h1
theorem sWL_un {S : Nat → Int32} {room w w' : Int32} (g : GO S) (h : sWL S room w) (h' : sWL S room w') : w = w' := by
  obtain ⟨L, n, hL⟩ := LN_ex (sSTO (S 105) g) 10 (Nat.le_refl 10)
  rw [h L n hL, h' L n hL]
def h64 (a : Int64) (v : Int32) : Int64 := 31 * a + Int32.toInt64 v
def dg1 (S : Nat → Int32) (s : Nat) : Int64 := h64 (h64 (fo (fun k a => h64 a (if k = 10 then nI s else sCount S k)) 11 3557) (S 104)) (S 105)
def dg2 (S : Nat → Int32) (a : Int64) : Int64 := fo (fun p a => fo (fun j a => h64 a (mOf S p j)) 11 a) 10 a
def dgM (S : Nat → Int32) (m : Nat) (w : Int32) (a : Int64) : Int64 := h64 (fo (fun j a => h64 a (sMach S m j)) 6 a) w
def dg3 (S : Nat → Int32) (w0 w1 : Int32) (a : Int64) : Int64 := fo (fun k a => h64 a (oI (sShelf S (nI k)))) 8 (dgM S 1 w1 (dgM S 0 w0 a))
def dg4 (S : Nat → Int32) (fl : Int32) (a : Int64) : Int64 := 31 * h64 (h64 (h64 (fo (fun r a => h64 a (oI (mRanked S (nI r)))) 10 a) (cEnd S)) fl) fl + bV (shW S)
def dg5 (K : Nat → Bool) (n : Nat) (X : Nat → Int32) (a : Int64) : Int64 := fo (fun k a => h64 a (X k)) n (h64 (h64 (h64 a (bI (K 0))) (bI (K 1))) (nI n))
def dig (S : Nat → Int32) (s : Nat) (K : Nat → Bool) (n : Nat) (X : Nat → Int32) (w0 w1 fl : Int32) : Int64 := dg5 K n X (dg4 S fl (dg3 S w0 w1 (dg2 S (dg1 S s))))
section
variable {mi : Nat → Nat → Nat → Int32} {ml : Nat → Nat → Nat → Int64} {ex : Nat} {S : Nat → Int32} {s : Nat} {H : Nat → Nat → Int32} {K : Nat → Bool} {T : Nat → Nat → Int32} {n : Nat} {X : Nat → Int32} {A P : Int}
/-- a loop that scribbles: f is what it does to the hash -/
theorem scr {D : List Nat} {Q : Nat → (Nat → Nat → Nat → Int32) → Int64 → Prop} {f : Nat → Int64 → Int64} {N : Nat} {mi : Nat → Nat → Nat → Int32} (hstep : ∀ k m a, k < N → Fr D mi m → (∀ m', Fr D mi m' → Q (k + 1) m' (f k a)) → Q k m a) : ∀ d k m a, k + d = N → Fr D mi m → (∀ m', Fr D mi m' → Q N m' (fo (fun i => f (k + i)) d a)) → Q k m a
  | 0, k, m, a, hk, fr, hq => by
    have e : k = N := hk
    subst e
    exact hq m fr
  | d + 1, k, m, a, hk, fr, hq => by
    refine hstep k m a (by omega) fr (fun m' fr' => scr hstep d (k + 1) m' (f k a) (by omega) fr' (fun m2 fr2 => ?_))
    have := hq m2 fr2
    have e : ∀ d a, fo (fun i => f (k + i)) (d + 1) a = fo (fun i => f (k + 1 + i)) d (f k a) := by
      intro d
      induction d with
      | zero => intro a; rfl
      | succ d ih =>
        intro a
        show f (k + (d + 1)) (fo (fun i => f (k + i)) (d + 1) a) = f (k + 1 + d) (fo (fun i => f (k + 1 + i)) d (f k a))
        rw [ih a, show k + (d + 1) = k + 1 + d from by omega]
    rw [e] at this
    exact this
theorem c81 (R : RC mi S s H K T n X) : pt_Ca 81 [vR 8 0, vJ 3557] (pt_MEM mi ml ex) (.inl (some (vJ (dg1 S s))), pt_MEM mi ml ex) := by
  obtain ⟨r1, ⟨q, hi⟩, -⟩ := R
  have set : ∀ p a, p < 2 → (pt_Ev 81 none 35 [some (vR 8 0), some (vJ 3557), none, some (vJ (h64 a (S (104 + p)))), none, some (vI (nI p + 1))] [] (pt_MEM mi ml ex) (.inl (some (vJ (dg1 S s))), pt_MEM mi ml ex)) → pt_Ev 81 none 35 [some (vR 8 0), some (vJ 3557), none, some (vJ a), none, some (vI (nI p))] [] (pt_MEM mi ml ex) (.inl (some (vJ (dg1 S s))), pt_MEM mi ml ex) := by
    intro p a hp k
    have call := c74 (mi := mi) (ml := ml) (ex := ex) hp
    rw [r1] at call
    exact r81_35 (fun c => absurd c (n2_le hp)) (fun _ => r81_41 call (r81_52 k))
  have fin : ∀ a, a = fo (fun k a => h64 a (if k = 10 then nI s else sCount S k)) 11 3557 → pt_Ev 81 none 35 [some (vR 8 0), some (vJ 3557), none, some (vJ a), none, some (vI (nI 0))] [] (pt_MEM mi ml ex) (.inl (some (vJ (dg1 S s))), pt_MEM mi ml ex) := by
    intro a ha
    refine set 0 a (by decide) ?_
    rw [show nI 0 + 1 = nI 1 from by decide +kernel]
    refine set 1 _ (by decide) ?_
    rw [show nI 1 + 1 = nI 2 from by decide +kernel]
    refine r81_35 (fun _ => ?_) (fun c => absurd n2_le' c)
    have : h64 (h64 a (S (104 + 0))) (S (104 + 1)) = dg1 S s := by rw [ha]; rfl
    rw [this]
    exact r81_61
  have n10 : ∀ k, k < 11 → ¬ (10 : Int32) < nI k := by decide +kernel
  refine r81_0 (fo_up (E := fun k a => pt_Ev 81 none 5 [some (vR 8 0), some (vJ 3557), none, some (vJ a), none, some (vI (nI k))] [] (pt_MEM mi ml ex) (.inl (some (vJ (dg1 S s))), pt_MEM mi ml ex)) (f := fun k a => h64 a (if k = 10 then nI s else sCount S k)) (n := 11) (a := 3557) ?_ ?_)
  · intro k a hk kk
    rw [nI_succ] at kk
    have call : pt_Ca 73 [vR 8 0, vI (nI k)] (pt_MEM mi ml ex) (.inl (some (vI (if k = 10 then nI s else sCount S k))), pt_MEM mi ml ex) := by
      by_cases c : k = 10
      · subst c
        rw [if_pos rfl, ← hi.2.2.1]
        exact c73h
      · rw [if_neg c, ← r1]
        exact c73 (by omega)
    exact r81_5 (fun c => absurd c (n10 k hk)) (fun _ => r81_12 call (r81_23 kk))
  · exact r81_5 (fun _ => r81_32 (by rw [← nI_0]; exact fin _ rfl)) (fun c => absurd (show (10 : Int32) < nI 11 by decide +kernel) c)
theorem c82 {h : Int64} (hS : cs mi 0 = S) (g : GO S) : ∃ mi', pt_Ca 82 [vR 8 0, vJ h] (pt_MEM mi ml ex) (.inl (some (vJ (dg2 S h))), pt_MEM mi' ml ex) ∧ Fr [3, 12] mi mi' := by
  have n10 : ∀ k, k < 11 → ¬ (10 : Int32) < nI k := by decide +kernel
  have hcs : ∀ m, Fr [3, 12] mi m → cs m 0 = S := fun m f => (cs_fr 0 f (by decide) (by decide) (by decide) (by decide)).trans hS
  have inner : ∀ p, p < 10 → ∀ m a, Fr [3, 12] mi m → (∀ m', Fr [3, 12] mi m' → ∃ mi', pt_Ev 82 none 44 [some (vR 8 0), some (vJ h), none, some (vJ (fo (fun j a => h64 a (mOf S p j)) 11 a)), none, some (vI (nI p)), some (vI (nI 11))] [] (pt_MEM m' ml ex) (.inl (some (vJ (dg2 S h))), pt_MEM mi' ml ex) ∧ Fr [3, 12] mi mi') → ∃ mi', pt_Ev 82 none 15 [some (vR 8 0), some (vJ h), none, some (vJ a), none, some (vI (nI p)), some (vI (nI 0))] [] (pt_MEM m ml ex) (.inl (some (vJ (dg2 S h))), pt_MEM mi' ml ex) ∧ Fr [3, 12] mi mi' := by
    intro p hp m a fr hq
    refine scr (D := [3, 12]) (mi := mi) (Q := fun k m a => ∃ mi', pt_Ev 82 none 15 [some (vR 8 0), some (vJ h), none, some (vJ a), none, some (vI (nI p)), some (vI (nI k))] [] (pt_MEM m ml ex) (.inl (some (vJ (dg2 S h))), pt_MEM mi' ml ex) ∧ Fr [3, 12] mi mi') (f := fun j a => h64 a (mOf S p j)) (N := 11) (fun k m a hk fr kk => ?_) 11 0 m a rfl fr (fun m' fr' => ?_)
    · obtain ⟨m2, q1, q2⟩ := c69 (mi := m) (ml := ml) (ex := ex) hp hk (by rw [hcs m fr]; exact g)
      rw [hcs m fr] at q1
      obtain ⟨mi', w1, w2⟩ := kk m2 (fr.tr q2)
      rw [nI_succ k] at w1
      exact ⟨mi', r82_15 (fun c => absurd c (n10 k hk)) (fun _ => r82_22 q1 (r82_35 w1)), w2⟩
    · obtain ⟨mi', w1, w2⟩ := hq m' fr'
      simp only [Nat.zero_add]
      exact ⟨mi', r82_15 (fun _ => w1) (fun c => absurd (show (10 : Int32) < nI 11 by decide +kernel) c), w2⟩
  have outer : ∃ mi', pt_Ev 82 none 5 [some (vR 8 0), some (vJ h), none, some (vJ h), none, some (vI (nI 0)), none] [] (pt_MEM mi ml ex) (.inl (some (vJ (dg2 S h))), pt_MEM mi' ml ex) ∧ Fr [3, 12] mi mi' := by
    have := scr (D := [3, 12]) (mi := mi) (Q := fun p m a => ∀ u6, ∃ mi', pt_Ev 82 none 5 [some (vR 8 0), some (vJ h), none, some (vJ a), none, some (vI (nI p)), u6] [] (pt_MEM m ml ex) (.inl (some (vJ (dg2 S h))), pt_MEM mi' ml ex) ∧ Fr [3, 12] mi mi') (f := fun p a => fo (fun j a => h64 a (mOf S p j)) 11 a) (N := 10) (fun p m a hp fr kk u6 => ?_) 10 0 mi h rfl Fr.rfl' (fun m' fr' u6 => ?_)
    · exact this none
    · obtain ⟨mi', w1, w2⟩ := inner p hp m a fr (fun m' fr' => by
        obtain ⟨mi', w1, w2⟩ := kk m' fr' (some (vI (nI 11)))
        rw [nI_succ p] at w1
        exact ⟨mi', r82_44 w1, w2⟩)
      rw [nI_0] at w1
      exact ⟨mi', r82_5 (fun c => absurd c (n10_le hp)) (fun _ => r82_12 w1), w2⟩
    · simp only [Nat.zero_add]
      exact ⟨m', r82_5 (fun _ => r82_50) (fun c => absurd n10_le' c), fr'⟩
  obtain ⟨mi', w1, w2⟩ := outer
  rw [nI_0] at w1
  exact ⟨mi', r82_0 w1, w2⟩
theorem c83 {h : Int64} (hS : cs mi 0 = S) (g : GO S) : ∃ w0 w1 mi', sWL S (S 90) w0 ∧ sWL S (S 93) w1 ∧ pt_Ca 83 [vR 8 0, vJ h] (pt_MEM mi ml ex) (.inl (some (vJ (dg3 S w0 w1 h))), pt_MEM mi' ml ex) ∧ Fr [3, 12] mi mi' := by
  have n5 : ∀ k, k < 6 → ¬ (5 : Int32) < nI k := by decide +kernel
  have hcs : ∀ m, Fr [3, 12] mi m → cs m 0 = S := fun m f => (cs_fr 0 f (by decide) (by decide) (by decide) (by decide)).trans hS
  -- a machine
  have mach : ∀ m, m < 2 → ∀ m1, Fr [3, 12] mi m1 → ∃ w m2, sWL S (S (90 + 3 * m + 0)) w ∧ Fr [3, 12] mi m2 ∧ ∀ {a u6 o}, pt_Ev 83 none 5 [some (vR 8 0), some (vJ h), none, some (vJ (dgM S m w a)), none, some (vI (nI (m + 1))), some (vI (nI 6))] [] (pt_MEM m2 ml ex) o → pt_Ev 83 none 5 [some (vR 8 0), some (vJ h), none, some (vJ a), none, some (vI (nI m)), u6] [] (pt_MEM m1 ml ex) o := by
    intro m hm m1 fr
    obtain ⟨m2, w, q1, q2, q3⟩ := c76 (mi := m1) (ml := ml) (ex := ex) hm (by rw [hcs m1 fr]; exact g)
    rw [hcs m1 fr] at q2
    refine ⟨w, m2, q2, fr.tr q3, fun {a u6 o} kk => ?_⟩
    rw [nI_succ m] at kk
    refine r83_5 (fun c => absurd c (n2_le hm)) (fun _ => r83_11 ?_)
    rw [← nI_0]
    refine fo_up (E := fun k b => pt_Ev 83 none 14 [some (vR 8 0), some (vJ h), none, some (vJ b), none, some (vI (nI m)), some (vI (nI k))] [] (pt_MEM m1 ml ex) o) (f := fun j b => h64 b (sMach S m j)) (n := 6) (a := a) ?_ ?_
    · intro k b hk k2
      rw [nI_succ k] at k2
      have call := c71 (mi := m1) (ml := ml) (ex := ex) hm hk
      rw [hcs m1 fr] at call
      exact r83_14 (fun c => absurd c (n5 k hk)) (fun _ => r83_20 call (r83_33 k2))
    · exact r83_14 (fun _ => r83_42 q1 (r83_53 kk)) (fun c => absurd (show (5 : Int32) < nI 6 by decide +kernel) c)
  obtain ⟨w0, m1, a1, a2, a3⟩ := mach 0 (by decide) mi Fr.rfl'
  obtain ⟨w1, m2, b1, b2, b3⟩ := mach 1 (by decide) m1 a2
  refine ⟨w0, w1, m2, a1, b1, r83_0 ?_, b2⟩
  have l0 := a3 (a := h) (u6 := none) (b3 (a := dgM S 0 w0 h) (u6 := some (vI (nI 6))) (o := (.inl (some (vJ (dg3 S w0 w1 h))), pt_MEM m2 ml ex)) ?_)
  · rw [nI_0] at l0
    exact l0
  · refine r83_5 (fun _ => r83_62 ?_) (fun c => absurd n2_le' c)
    rw [← nI_0]
    refine fo_up (E := fun k b => pt_Ev 83 none 65 [some (vR 8 0), some (vJ h), none, some (vJ b), none, some (vI (nI k)), some (vI (nI 6))] [] (pt_MEM m2 ml ex) (.inl (some (vJ (dg3 S w0 w1 h))), pt_MEM m2 ml ex)) (f := fun k a => h64 a (oI (sShelf S (nI k)))) (n := 8) (a := dgM S 1 w1 (dgM S 0 w0 h)) ?_ ?_
    · intro k b hk k2
      rw [nI_succ k] at k2
      have in7 : ∀ k, k < 8 → sIn3 (nI k) 0 7 = true := by decide +kernel
      have call := c72 (mi := m2) (ml := ml) (ex := ex) (in7 k hk)
      rw [hcs m2 b2] at call
      exact r83_65 (fun c => absurd c (n8_le hk)) (fun _ => r83_72 call (r83_83 k2))
    · exact r83_65 (fun _ => r83_92) (fun c => absurd n8_le' c)
theorem c84 {h : Int64} {P : Int} (hS : cs mi 0 = S) (f : FO S) (u : GPut S P) : ∃ fl mi', sFL S fl ∧ pt_Ca 84 [vR 8 0, vJ h] (pt_MEM mi ml ex) (.inl (some (vJ (dg4 S fl h))), pt_MEM mi' ml ex) ∧ Fr [3, 12, 13] mi mi' := by
  have hcs : ∀ m, Fr [3, 12, 13] mi m → cs m 0 = S := fun m f => (cs_fr 0 f (by decide) (by decide) (by decide) (by decide)).trans hS
  have n10 : ∀ k, k < 11 → ¬ (10 : Int32) < nI k := by decide +kernel
  -- what stands behind the ranks
  have tail : ∀ m, Fr [3, 12, 13] mi m → ∃ fl mi', sFL S fl ∧ (∀ a x5, a = fo (fun r a => h64 a (oI (mRanked S (nI r)))) 10 h → pt_Ev 84 none 32 [some (vR 8 0), some (vJ h), none, some (vJ a), none, some (vI x5)] [] (pt_MEM m ml ex) (.inl (some (vJ (dg4 S fl h))), pt_MEM mi' ml ex)) ∧ Fr [3, 12, 13] mi mi' := by
    intro m fr
    have e77 := c77 (mi := m) (ml := ml) (ex := ex)
    rw [hcs m fr] at e77
    obtain ⟨L1, n1, M1, m1, -, -, p1, p2, p3, p4⟩ := c78 (mi := m) (ml := ml) (ex := ex) (x := 0) (by decide) (hcs m fr) f
    have fr1 := fr.tr p4
    obtain ⟨L2, n2, M2, m2, -, -, q1, q2, q3, q4⟩ := c78 (mi := m1) (ml := ml) (ex := ex) (x := 1) (by decide) (hcs m1 fr1) f
    have fr2 := fr1.tr q4
    have s1 := sFL_of f p1 p2
    have s2 := sFL_of f q1 q2
    have e := sFL_un s1 s2
    rw [← e] at q3
    have e79 := c79 (mi := m2) (ml := ml) (ex := ex) (P := P) (by rw [hcs m2 fr2]; exact u)
    rw [hcs m2 fr2] at e79
    have e85 := c85 (mi := m2) (ml := ml) (ex := ex) (shW_ok u)
    refine ⟨_, m2, s1, fun a x5 ha => ?_, fr2⟩
    refine r84_32 e77 (r84_41 p3 (r84_54 q3 (r84_67 e79 (r84_79 e85 ?_))))
    have ev : dg4 S (nI (n1 - M1)) h = 31 * (31 * (31 * (31 * a + Int32.toInt64 (cEnd S)) + Int32.toInt64 (nI (n1 - M1))) + Int32.toInt64 (nI (n1 - M1))) + bV (shW S) := by rw [ha]; rfl
    rw [ev]
    exact r84_82
  have ranks : ∃ fl mi', sFL S fl ∧ pt_Ev 84 none 5 [some (vR 8 0), some (vJ h), none, some (vJ h), none, some (vI (nI 0))] [] (pt_MEM mi ml ex) (.inl (some (vJ (dg4 S fl h))), pt_MEM mi' ml ex) ∧ Fr [3, 12, 13] mi mi' := by
    refine scr (D := [3, 12, 13]) (mi := mi) (Q := fun k m a => ∃ fl mi', sFL S fl ∧ pt_Ev 84 none 5 [some (vR 8 0), some (vJ h), none, some (vJ a), none, some (vI (nI k))] [] (pt_MEM m ml ex) (.inl (some (vJ (dg4 S fl h))), pt_MEM mi' ml ex) ∧ Fr [3, 12, 13] mi mi') (f := fun r a => h64 a (oI (mRanked S (nI r)))) (N := 10) (fun k m a hk fr kk => ?_) 10 0 mi h rfl Fr.rfl' (fun m' fr' => ?_)
    · obtain ⟨m2, q1, q2⟩ := c75 (mi := m) (ml := ml) (ex := ex) (x := nI k) (nI_pos (by omega)) (by rw [hcs m fr]; exact f.1)
      rw [hcs m fr] at q1
      obtain ⟨fl, mi', w1, w2, w3⟩ := kk m2 (fr.tr (q2.wd (by decide)))
      rw [nI_succ k] at w2
      exact ⟨fl, mi', w1, r84_5 (fun c => absurd c (n10_le hk)) (fun _ => r84_12 q1 (r84_23 w2)), w3⟩
    · obtain ⟨fl, mi', w1, w2, w3⟩ := tail m' fr'
      simp only [Nat.zero_add]
      exact ⟨fl, mi', w1, r84_5 (fun _ => w2 _ _ rfl) (fun c => absurd n10_le' c), w3⟩
  obtain ⟨fl, mi', w1, w2, w3⟩ := ranks
  rw [nI_0] at w2
  exact ⟨fl, mi', w1, r84_0 w2, w3⟩
theorem c80 (R : RC mi S s H K T n X) (g : Good S A P) (hA : A ≤ 100000) (hn : n ≤ 60) : ∃ w0 w1 fl mi', sWL S (S 90) w0 ∧ sWL S (S 93) w1 ∧ sFL S fl ∧ pt_Ca 80 [vR 8 0] (pt_MEM mi ml ex) (.inl (some (vJ (dig S s K n X w0 w1 fl))), pt_MEM mi' ml ex) ∧ Fr [3, 12, 13] mi mi' := by
  have gO := g.GO hA
  have e81 := c81 (ml := ml) (ex := ex) R
  obtain ⟨m1, p1, p2⟩ := c82 (mi := mi) (ml := ml) (ex := ex) (h := dg1 S s) R.1 gO
  have R1 := R.fr p2 (by decide)
  obtain ⟨w0, w1, m2, q1, q2, q3, q4⟩ := c83 (mi := m1) (ml := ml) (ex := ex) (h := dg2 S (dg1 S s)) R1.1 gO
  have R2 := R1.fr q4 (by decide)
  obtain ⟨fl, m3, s1, s2, s3⟩ := c84 (mi := m2) (ml := ml) (ex := ex) (h := dg3 S w0 w1 (dg2 S (dg1 S s))) R2.1 (g.FO hA) g.2.2
  have R3 := R2.fr s3 (by decide)
  refine ⟨w0, w1, fl, m3, q1, q2, s1, r80_0 e81 (r80_8 p1 (r80_11 q3 (r80_18 s2 (r80_21 ?_)))), ((p2.wd (by decide)).tr (q4.wd (by decide))).tr s3⟩
  have l1 : m3 7 0 1 = nI n := R3.2.2.2.1
  have slot : ∀ p a, p < 2 → pt_Ev 80 none 24 [some (vR 8 0), some (vJ (h64 a (bI (K p)))), none, some (vI (nI p + 1))] [] (pt_MEM m3 ml ex) (.inl (some (vJ (dig S s K n X w0 w1 fl))), pt_MEM m3 ml ex) → pt_Ev 80 none 24 [some (vR 8 0), some (vJ a), none, some (vI (nI p))] [] (pt_MEM m3 ml ex) (.inl (some (vJ (dig S s K n X w0 w1 fl))), pt_MEM m3 ml ex) := by
    intro p a hp kk
    have e := (R3.2.2.1 p hp).1
    refine r80_24 (fun c => absurd c (n2_le hp)) (fun _ => r80_29 rfl hp (fun c => ?_) (fun c => ?_))
    · rw [e] at c
      rw [bI_f c] at kk
      exact r80_47 kk
    · rw [e] at c
      rw [bI_t c] at kk
      exact r80_43 kk
  have l0 := slot 0 (dg4 S fl (dg3 S w0 w1 (dg2 S (dg1 S s)))) (by decide) ?_
  · rw [nI_0] at l0
    exact l0
  rw [show nI 0 + 1 = nI 1 from by decide +kernel]
  refine slot 1 _ (by decide) ?_
  rw [show nI 1 + 1 = nI 2 from by decide +kernel]
  refine r80_24 (fun _ => r80_57 ?_) (fun c => absurd n2_le' c)
  rw [l1, ← nI_0]
  refine fo_up (E := fun k b => pt_Ev 80 none 74 [some (vR 8 0), some (vJ b), none, some (vI (nI k))] [] (pt_MEM m3 ml ex) (.inl (some (vJ (dig S s K n X w0 w1 fl))), pt_MEM m3 ml ex)) (f := fun k a => h64 a (X k)) (n := n) (a := h64 (h64 (h64 (dg4 S fl (dg3 S w0 w1 (dg2 S (dg1 S s)))) (bI (K 0))) (bI (K 1))) (nI n)) ?_ ?_
  · intro k b hk kk
    rw [nI_succ k] at kk
    have ex1 : m3 11 0 k = X k := R3.2.2.2.2 k hk
    refine r80_74 (fun c => absurd (by rw [l1] at c; exact c) (nI_ge hk (by omega))) (fun _ => r80_85 rfl (by omega) ?_)
    rw [ex1]
    exact kk
  · exact r80_74 (fun _ => r80_108) (fun c => absurd (by rw [l1]; exact nI_le (Nat.le_refl n) (by omega)) c)
end
