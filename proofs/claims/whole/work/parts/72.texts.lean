/-! append, clearBuffer, keep, goBack, undo on both sides. -/
def kpK (K : Nat → Bool) (p : Nat) : Nat → Bool := fun j => if j = p then true else K j
def kpT (T : Nat → Nat → Int32) (p : Nat) (S : Nat → Int32) : Nat → Nat → Int32 := fun j => if j = p then S else T j
theorem kI_keep (K : Nat → Bool) {p : Nat} (hp : p < 2) : kI K ||| ((1 : Int32) <<< (nI p &&& 31)) = kI (kpK K p) := by
  have h : p = 0 ∨ p = 1 := by omega
  unfold kI kpK
  rcases h with q | q <;> subst q <;> cases K 0 <;> cases K 1 <;> decide +kernel
theorem kI_bit (K : Nat → Bool) {p : Nat} (hp : p < 2) : ((kI K >>> (nI p &&& 31)) &&& 1) = bI (K p) := by
  have h : p = 0 ∨ p = 1 := by omega
  unfold kI
  rcases h with q | q <;> subst q <;> cases K 0 <;> cases K 1 <;> decide +kernel
section
variable {mi mi' : Nat → Nat → Nat → Int32} {ml : Nat → Nat → Nat → Int64} {ex : Nat} {S S' : Nat → Int32} {s : Nat} {H : Nat → Nat → Int32} {K : Nat → Bool} {T : Nat → Nat → Int32} {n n' : Nat} {X X' : Nat → Int32} {A P : Int}
theorem RC.txt (R : RC mi S s H K T n X) (f : Fr [7, 11] mi mi') (h1 : mi' 7 0 1 = nI n') (h2 : ∀ k, k < n' → mi' 11 0 k = X' k) : RC mi' S s H K T n' X' := by
  obtain ⟨r1, ⟨q, a1, a2, a3, a4, a5⟩, r3, -, -⟩ := R
  have oc : ∀ h, cs mi' h = cs mi h := fun h => cs_fr h f (by decide) (by decide) (by decide) (by decide)
  exact ⟨(oc 0).trans r1, ⟨q, (f 1 0 1 (by decide)).trans a1, a2, (f 1 0 2 (by decide)).trans a3, a4, fun j hj => (oc _).trans (a5 j hj)⟩, fun j hj => ⟨(f 18 0 j (by decide)).trans (r3 j hj).1, fun hk => (oc _).trans ((r3 j hj).2 hk)⟩, h1, h2⟩
theorem RM.txt (R : RM mi S s H K T n X) (f : Fr [9, 17] mi mi') (h3 : mi' 9 0 3 = mi 9 0 3) (h5 : mi' 9 0 5 = mi 9 0 5) (h7 : mi' 9 0 7 = nI n') (h8 : ∀ k, k < n' → mi' 17 0 k = X' k) : RM mi' S s H K T n' X' := by
  obtain ⟨r1, ⟨r2, r3, r4⟩, ⟨r5, r6⟩, -, -⟩ := R
  have e15 : mi' 15 0 = mi 15 0 := funext (fun j => f 15 0 j (by decide))
  have e16 : mi' 16 0 = mi 16 0 := funext (fun j => f 16 0 j (by decide))
  exact ⟨(ms_fr f (by decide)).trans r1, ⟨h3.trans r2, r3, fun j hj => by rw [e15]; exact r4 j hj⟩, ⟨h5.trans r5, fun j hj hk => by rw [e16]; exact r6 j hj hk⟩, h7, h8⟩
theorem c62a {x : Int32} (h : sIn3 x 33 126 = false) : pt_Ca 62 [vR 8 0, vI x] (pt_MEM mi ml ex) (.inr 1, pt_MEM mi ml (ex + 1)) := by
  refine r62_0 (fun _ => r62_12) (fun c => r62_6 (fun d => ?_) (fun _ => r62_12))
  rw [sIn3_t.mpr ⟨c, le_nlt.mp d⟩] at h
  exact absurd h (by decide)
theorem c62b {x : Int32} (R : RC mi S s H K T 60 X) (h : sIn3 x 33 126 = true) : pt_Ca 62 [vR 8 0, vI x] (pt_MEM mi ml ex) (.inr 2, pt_MEM mi ml (ex + 1)) := by
  have h' := sIn3_t.mp h
  refine r62_0 (fun c => absurd c h'.1) (fun _ => r62_6 (fun _ => r62_22 (fun c => ?_) (fun _ => r62_34)) (fun c => absurd (le_nlt.mpr h'.2) c))
  rw [R.2.2.2.1] at c
  exact absurd c (by decide +kernel)
theorem c62 {x : Int32} (R : RC mi S s H K T n X) (hn : n < 60) (h : sIn3 x 33 126 = true) : ∃ mi', pt_Ca 62 [vR 8 0, vI x] (pt_MEM mi ml ex) (.inl (some (vI (nI (n + 1)))), pt_MEM mi' ml ex) ∧ RC mi' S s H K T (n + 1) (up1 X n x) ∧ Fr CK mi mi' := by
  have h' := sIn3_t.mp h
  have hl := R.2.2.2.1
  have f : Fr [7, 11] mi (pt_up3 (pt_up3 mi 11 0 n x) 7 0 1 (((pt_up3 mi 11 0 n x) 7 0 1) + 1)) := (Fr.rfl'.up (by decide)).up (by decide)
  have e1 : (pt_up3 (pt_up3 mi 11 0 n x) 7 0 1 (((pt_up3 mi 11 0 n x) 7 0 1) + 1)) 7 0 1 = nI (n + 1) := by
    rw [up3_eq, up3_c _ _ (by decide), hl, nI_succ]
  refine ⟨_, ?_, R.txt f e1 (fun k hk => ?_), f.wd (by decide)⟩
  · refine r62_0 (fun c => absurd c h'.1) (fun _ => r62_6 (fun _ => r62_22 (fun _ => ?_) (fun c => ?_)) (fun c => absurd (le_nlt.mpr h'.2) c))
    · rw [← e1]
      exact r62_44 hl hn
    · rw [hl] at c
      exact absurd (nI_lt (a := n) (b := 60) hn (by decide)) c
  · rw [up3_c _ _ (by decide)]
    by_cases e : k = n
    · subst e; rw [up3_eq, up1_eq]
    · rw [up3_j _ _ e, up1_ne _ _ e]; exact R.2.2.2.2 k (by omega)
theorem m121a {x : Int32} (h : sIn3 x 33 126 = false) : pt_Ca 121 [vR 9 0, vI x] (pt_MEM mi ml ex) (.inl (some (vI 0)), pt_MEM (th mi 1) ml ex) :=
  r121_0 m88 (r121_9 (fun _ => r121_12 (m89f (by decide)) (r121_33 (fun _ => r121_36) (fun c => absurd rfl c))) (fun c => absurd (bI_fn h) c))
theorem m121b {x : Int32} (R : RM mi S s H K T 60 X) (h : sIn3 x 33 126 = true) : pt_Ca 121 [vR 9 0, vI x] (pt_MEM mi ml ex) (.inl (some (vI 0)), pt_MEM (th mi 2) ml ex) :=
  r121_0 m88 (r121_9 (fun c => absurd c (bI_tn h)) (fun _ => r121_16 (fun _ => r121_25 (m89f (by decide)) (r121_33 (fun _ => r121_36) (fun c => absurd rfl c))) (fun c => absurd (by rw [R.2.2.2.1]; decide +kernel) c)))
theorem m121 {x : Int32} (R : RM mi S s H K T n X) (hn : n < 60) (h : sIn3 x 33 126 = true) : ∃ mi', pt_Ca 121 [vR 9 0, vI x] (pt_MEM mi ml ex) (.inl (some (vI (nI (n + 1)))), pt_MEM mi' ml ex) ∧ RM mi' S s H K T (n + 1) (up1 X n x) ∧ mi' 9 0 0 = 0 ∧ Fr MK mi mi' := by
  obtain ⟨r1, r2, r3⟩ := R.th (x := 0)
  have hl : (th mi 0) 9 0 7 = nI n := r1.2.2.2.1
  have hl' := R.2.2.2.1
  have f : Fr [9, 17] (th mi 0) (pt_up3 (pt_up3 (th mi 0) 17 0 n x) 9 0 7 (((pt_up3 (th mi 0) 17 0 n x) 9 0 7) + 1)) := (Fr.rfl'.up (by decide)).up (by decide)
  have e1 : (pt_up3 (pt_up3 (th mi 0) 17 0 n x) 9 0 7 (((pt_up3 (th mi 0) 17 0 n x) 9 0 7) + 1)) 9 0 7 = nI (n + 1) := by
    rw [up3_eq, up3_c _ _ (by decide), hl, nI_succ]
  refine ⟨_, ?_, r1.txt f ?_ ?_ e1 (fun k hk => ?_), ?_, r2.tr (f.wd (by decide))⟩
  · refine r121_0 m88 (r121_9 (fun c => absurd c (bI_tn h)) (fun _ => r121_16 (fun c => ?_) (fun _ => r121_29 m89t (r121_33 (fun c => absurd c (by decide)) (fun _ => ?_)))))
    · rw [hl'] at c
      have c' : nI n = nI 60 := c
      have := nI_inj (by omega) (by decide) c'
      omega
    · rw [← e1]
      exact r121_38 hl hn
  · rw [up3_j _ _ (by decide), up3_c _ _ (by decide)]
  · rw [up3_j _ _ (by decide), up3_c _ _ (by decide)]
  · rw [up3_c _ _ (by decide)]
    by_cases e : k = n
    · subst e; rw [up3_eq, up1_eq]
    · rw [up3_j _ _ e, up1_ne _ _ e]; exact r1.2.2.2.2 k (by omega)
  · rw [up3_j _ _ (by decide), up3_c _ _ (by decide)]; exact r3
theorem c63 (R : RC mi S s H K T n X) : ∃ mi', pt_Ca 63 [vR 8 0] (pt_MEM mi ml ex) (.inl (some (vI (nI n))), pt_MEM mi' ml ex) ∧ RC mi' S s H K T 0 X ∧ Fr CK mi mi' := by
  have f : Fr [7, 11] mi (pt_up3 mi 7 0 1 0) := Fr.rfl'.up (by decide)
  refine ⟨_, ?_, R.txt f (by rw [up3_eq]; rfl) (fun k hk => absurd hk (Nat.not_lt_zero k)), f.wd (by decide)⟩
  rw [← R.2.2.2.1]
  exact r63_0
theorem m122 (R : RM mi S s H K T n X) : ∃ mi', pt_Ca 122 [vR 9 0] (pt_MEM mi ml ex) (.inl (some (vI (nI n))), pt_MEM mi' ml ex) ∧ RM mi' S s H K T 0 X ∧ mi' 9 0 0 = 0 ∧ Fr MK mi mi' := by
  obtain ⟨r1, r2, r3⟩ := R.th (x := 0)
  have f : Fr [9, 17] (th mi 0) (pt_up3 (th mi 0) 9 0 7 0) := Fr.rfl'.up (by decide)
  refine ⟨_, ?_, r1.txt f (up3_j _ _ (by decide)) (up3_j _ _ (by decide)) (by rw [up3_eq]; rfl) (fun k hk => absurd hk (Nat.not_lt_zero k)), ?_, r2.tr (f.wd (by decide))⟩
  · rw [← r1.2.2.2.1]
    exact r122_0
  · rw [up3_j _ _ (by decide)]; exact r3
theorem c66t {x : Int32} (h : sIn3 x 0 1 = false) : pt_Ca 66 [vR 8 0, vI x] (pt_MEM mi ml ex) (.inr 1, pt_MEM mi ml (ex + 1)) := by
  refine r66_0 (fun _ => r66_9) (fun c => r66_4 (fun d => ?_) (fun _ => r66_9))
  rw [lt_lit (a := 1) (by decide)] at d
  rw [sIn3_t.mpr ⟨c, d⟩] at h
  exact absurd h (by decide)
theorem c66 {p : Nat} (hp : p < 2) (R : RC mi S s H K T n X) (g : Good S A P) : ∃ mi', pt_Ca 66 [vR 8 0, vI (nI p)] (pt_MEM mi ml ex) (.inl (some (vI (S 96))), pt_MEM mi' ml ex) ∧ RC mi' S s H (kpK K p) (kpT T p S) n X ∧ Fr CK mi mi' := by
  have h := sIn3_t.mp (in1 p hp)
  obtain ⟨r1, ⟨q, a1, a2, a3, a4, a5⟩, r3, r4, r5⟩ := R
  obtain ⟨m1, q1, q2⟩ := c8 (mi := mi) (ml := ml) (ex := ex) (a := p + 7) (b := 0) (by omega) (by decide) (by omega) (by rw [r1]; exact fun p hp => (g.1.1 p hp).1)
  have f : Fr [2, 4, 5, 10, 18] mi (pt_up3 m1 18 0 p 1) := (q2.2.2.wd (by decide)).up (by decide)
  have oc : ∀ h, cs (pt_up3 m1 18 0 p 1) h = cs m1 h := fun h => cs_fr (K := [18]) h (Fr.rfl'.up (by decide)) (by decide) (by decide) (by decide) (by decide)
  have e96 : (pt_up3 m1 18 0 p 1) 2 0 3 = S 96 := by
    rw [← cs_96 (pt_up3 m1 18 0 p 1) 0, oc, q2.2.1 0 (by omega), r1]
  refine ⟨_, ?_, ⟨(oc 0).trans ((q2.2.1 0 (by omega)).trans r1), ⟨q, (f 1 0 1 (by decide)).trans a1, a2, (f 1 0 2 (by decide)).trans a3, a4, fun j hj => (oc _).trans ((q2.2.1 _ (by omega)).trans (a5 j hj))⟩, fun j hj => ?_, (f 7 0 1 (by decide)).trans r4, fun k hk => (f 11 0 k (by decide)).trans (r5 k hk)⟩, f.wd (by decide)⟩
  · rw [← e96]
    exact r66_0 (fun c => absurd c h.1) (fun _ => r66_4 (fun _ => r66_19 rfl hp (pt_MR_l hp) q1 (r66_32 rfl hp)) (fun d => absurd ((lt_lit (a := 1) (by decide)).mpr h.2) d))
  · unfold kpK kpT
    by_cases e : j = p
    · subst e
      refine ⟨by rw [up3_eq, if_pos rfl]; rfl, fun _ => ?_⟩
      rw [if_pos rfl, oc, Nat.add_comm 7 j, q2.1, r1]
    · rw [up3_j _ _ e, if_neg e, if_neg e, q2.2.2 18 0 j (by decide)]
      refine ⟨(r3 j hj).1, fun hk => ?_⟩
      rw [oc, q2.2.1 _ (by omega)]
      exact (r3 j hj).2 hk
theorem m130t {x : Int32} (h : sIn3 x 0 1 = false) : pt_Ca 130 [vR 9 0, vI x] (pt_MEM mi ml ex) (.inl (some (vI 0)), pt_MEM (th mi 1) ml ex) :=
  r130_0 m88 (r130_7 (fun _ => r130_14 (m89f (by decide)) (r130_18 (fun _ => r130_21) (fun c => absurd rfl c))) (fun c => absurd (bI_fn h) c))
theorem n106 {p k : Nat} (hp : p < 6) (hk : k < 106) : (106 : Int32) * nI p + nI k = nI (106 * p + k) := by
  rw [show (106 : Int32) = nI 106 from by decide +kernel, pk_mul, nI_add]
theorem n106_le {k : Nat} (h : k < 106) : ¬ (106 : Int32) ≤ nI k := nI_ge (a := k) (b := 106) h (by decide)
theorem n106_le' : (106 : Int32) ≤ nI 106 := by decide +kernel
theorem m130 {p : Nat} (hp : p < 2) (R : RM mi S s H K T n X) : ∃ mi', pt_Ca 130 [vR 9 0, vI (nI p)] (pt_MEM mi ml ex) (.inl (some (vI (S 96))), pt_MEM mi' ml ex) ∧ RM mi' S s H (kpK K p) (kpT T p S) n X ∧ mi' 9 0 0 = 0 ∧ Fr MK mi mi' := by
  obtain ⟨r1, r2, r3⟩ := R.th (x := 0)
  obtain ⟨s1, ⟨s2, s3, s4⟩, ⟨s5, s6⟩, s7, s8⟩ := r1
  have loop : ∀ d k, k + d = 106 → ∀ m1, (∀ i, i < k → m1 16 0 (106 * p + i) = S i) → (∀ j, (j < 106 * p ∨ 106 * p + 106 ≤ j) → m1 16 0 j = (th mi 0) 16 0 j) → Fr [16] (th mi 0) m1 → ∃ m2, (∀ {o}, pt_Ev 130 none 54 [some (vR 9 0), some (vI (nI p)), some (vI (nI 106))] [] (pt_MEM m2 ml ex) o → pt_Ev 130 none 25 [some (vR 9 0), some (vI (nI p)), some (vI (nI k))] [] (pt_MEM m1 ml ex) o) ∧ (∀ i, i < 106 → m2 16 0 (106 * p + i) = S i) ∧ (∀ j, (j < 106 * p ∨ 106 * p + 106 ≤ j) → m2 16 0 j = (th mi 0) 16 0 j) ∧ Fr [16] (th mi 0) m2 := by
    intro d
    induction d with
    | zero =>
      intro k hk m1 g1 g2 f
      have hk' : k = 106 := hk
      subst hk'
      exact ⟨m1, fun kk => r130_25 (fun _ => kk) (fun c => absurd n106_le' c), g1, g2, f⟩
    | succ d ih =>
      intro k hkd m1 g1 g2 f
      obtain ⟨m2, w1, w2⟩ := ih (k + 1) (by omega) (pt_up3 m1 16 0 (106 * p + k) (m1 14 0 k)) (fun i hi => by
          by_cases e : i = k
          · subst e; rw [up3_eq, f 14 0 i (by decide), ms_e (th mi 0) (by omega), s1]
          · rw [up3_j _ _ (by omega)]; exact g1 i (by omega)) (fun j hj => by rw [up3_j _ _ (by omega)]; exact g2 j hj) (f.up (by decide))
      refine ⟨m2, fun kk => r130_25 (fun c => absurd c (n106_le (by omega))) (fun _ => r130_31 rfl (by omega) (p3 := 106 * p + k) (n106 (by omega) (by omega)) (by omega) ?_), w2⟩
      have := w1 kk
      rw [nI_succ] at this
      exact this
  obtain ⟨m2, w1, w2, w3, f⟩ := loop 106 0 rfl (th mi 0) (fun i hi => absurd hi (Nat.not_lt_zero i)) (fun _ _ => rfl) Fr.rfl'
  have f2 : Fr [9, 16] (th mi 0) (pt_up3 m2 9 0 5 ((m2 9 0 5) ||| (1 <<< (nI p &&& 31)))) := (f.wd (by decide)).up (by decide)
  have e15 : (pt_up3 m2 9 0 5 ((m2 9 0 5) ||| (1 <<< (nI p &&& 31)))) 15 0 = (th mi 0) 15 0 := funext (fun j => f2 15 0 j (by decide))
  have e16 : ∀ j, (pt_up3 m2 9 0 5 ((m2 9 0 5) ||| (1 <<< (nI p &&& 31)))) 16 0 j = m2 16 0 j := fun j => up3_c _ _ (by decide)
  have eo : ∀ j, j ≠ 5 → (pt_up3 m2 9 0 5 ((m2 9 0 5) ||| (1 <<< (nI p &&& 31)))) 9 0 j = (th mi 0) 9 0 j := fun j hj => (up3_j _ _ hj).trans (f 9 0 j (by decide))
  have e96 : (pt_up3 m2 9 0 5 ((m2 9 0 5) ||| (1 <<< (nI p &&& 31)))) 14 0 96 = S 96 := by rw [f2 14 0 96 (by decide), ms_e (th mi 0) (by omega), s1]
  have hS : ∀ k, 106 ≤ k → S k = 0 := fun k hk => by rw [← s1]; exact ms_b hk
  refine ⟨_, ?_, ⟨(ms_fr f2 (by decide)).trans s1, ⟨(eo 3 (by decide)).trans s2, s3, fun j hj => by rw [e15]; exact s4 j hj⟩, ⟨?_, fun j hj hk => ?_⟩, (eo 7 (by decide)).trans s7, fun k hk => (f2 17 0 k (by decide)).trans (s8 k hk)⟩, (eo 0 (by decide)).trans r3, r2.tr (f2.wd (by decide))⟩
  · rw [← e96]
    exact r130_0 m88 (r130_7 (fun c => absurd c (bI_tn (in1 p hp))) (fun _ => r130_10 m89t (r130_18 (fun c => absurd c (by decide)) (fun _ => r130_23 (by rw [← nI_0]; exact w1 r130_54)))))
  · rw [up3_eq, f 9 0 5 (by decide), s5]
    exact kI_keep K hp
  · unfold kpK at hk
    unfold kpT
    by_cases e : j = p
    · subst e
      rw [if_pos rfl]
      refine rw6_eq (fun k hk => ?_) hS
      rw [e16]; exact w2 k hk
    · rw [if_neg e] at hk ⊢
      rw [← s6 j hj hk]
      refine rw6_eq (fun k hk => ?_) (fun k hk => rw6_b hk)
      rw [rw6_k hk, e16]
      exact w3 _ (by omega)
theorem c67a {x : Int32} (h : sIn3 x 0 1 = false) : pt_Ca 67 [vR 8 0, vI x] (pt_MEM mi ml ex) (.inr 1, pt_MEM mi ml (ex + 1)) := by
  refine r67_0 (fun _ => r67_9) (fun c => r67_4 (fun d => ?_) (fun _ => r67_9))
  rw [lt_lit (a := 1) (by decide)] at d
  rw [sIn3_t.mpr ⟨c, d⟩] at h
  exact absurd h (by decide)
theorem c67s {p : Nat} {o : pt_O} (hp : p < 2) (k : pt_Ev 67 none 19 [some (vR 8 0), some (vI (nI p))] [] (pt_MEM mi ml ex) o) : pt_Ca 67 [vR 8 0, vI (nI p)] (pt_MEM mi ml ex) o := by
  have h := sIn3_t.mp (in1 p hp)
  exact r67_0 (fun c => absurd c h.1) (fun _ => r67_4 (fun _ => k) (fun d => absurd ((lt_lit (a := 1) (by decide)).mpr h.2) d))
theorem c67b {p : Nat} (hp : p < 2) (R : RC mi S s H K T n X) (hK : K p = false) : pt_Ca 67 [vR 8 0, vI (nI p)] (pt_MEM mi ml ex) (.inr 2, pt_MEM mi ml (ex + 1)) :=
  c67s hp (r67_19 rfl hp (fun _ => r67_28) (fun c => absurd (by rw [(R.2.2.1 p hp).1, hK]; rfl) c))
theorem c67 {p : Nat} (hp : p < 2) (R : RC mi S s H K T n X) (g : Good S A P) (gT : Good (T p) A P) (hK : K p = true) : ∃ mi', pt_Ca 67 [vR 8 0, vI (nI p)] (pt_MEM mi ml ex) (.inl (some (vI (T p 96))), pt_MEM mi' ml ex) ∧ RC mi' (T p) (sv s) (svH S s H) K T n X ∧ Fr CK mi mi' := by
  obtain ⟨m1, q1, q2, q3⟩ := c5 (ml := ml) (ex := ex) R (fun p hp => (g.1.1 p hp).1)
  have hT : cs m1 (p + 7) = T p := by rw [Nat.add_comm]; exact (q2.2.2.1 p hp).2 hK
  obtain ⟨m2, w1, w2⟩ := c8 (mi := m1) (ml := ml) (ex := ex) (a := 0) (b := p + 7) (by decide) (by omega) (by omega) (by rw [hT]; exact fun p hp => (gT.1.1 p hp).1)
  rw [hT] at w2
  have r := q2.hx w2
  refine ⟨m2, ?_, r.1, q3.tr r.2⟩
  have e : m2 2 0 3 = T p 96 := by rw [← cs_96 m2 0, w2.1]
  rw [← e]
  exact c67s hp (r67_19 rfl hp (fun c => absurd c (by rw [(R.2.2.1 p hp).1, hK]; decide)) (fun _ => r67_38 q1 (r67_49 rfl hp (pt_MR_l hp) w1 r67_62)))
theorem m131a {x : Int32} (h : sIn3 x 0 1 = false) : pt_Ca 131 [vR 9 0, vI x] (pt_MEM mi ml ex) (.inl (some (vI 0)), pt_MEM (th mi 1) ml ex) :=
  r131_0 m88 (r131_7 (fun _ => r131_10 (m89f (by decide)) (r131_33 (fun _ => r131_36) (fun c => absurd rfl c))) (fun c => absurd (bI_fn h) c))
theorem m131b {p : Nat} (hp : p < 2) (R : RM mi S s H K T n X) (hK : K p = false) : pt_Ca 131 [vR 9 0, vI (nI p)] (pt_MEM mi ml ex) (.inl (some (vI 0)), pt_MEM (th mi 2) ml ex) :=
  r131_0 m88 (r131_7 (fun c => absurd c (bI_tn (in1 p hp))) (fun _ => r131_14 (fun _ => r131_25 (m89f (by decide)) (r131_33 (fun _ => r131_36) (fun c => absurd rfl c))) (fun c => absurd (by rw [R.2.2.1.1, kI_bit K hp, hK]; rfl) c)))
theorem m131 {p : Nat} (hp : p < 2) (R : RM mi S s H K T n X) (hK : K p = true) : ∃ mi', pt_Ca 131 [vR 9 0, vI (nI p)] (pt_MEM mi ml ex) (.inl (some (vI (T p 96))), pt_MEM mi' ml ex) ∧ RM mi' (T p) (sv s) (svH S s H) K T n X ∧ mi' 9 0 0 = 0 ∧ Fr MK mi mi' := by
  obtain ⟨m1, q1, q2, q3, q4⟩ := msave (ml := ml) (ex := ex) R
  have hT := q2.2.2.1.2 p hp hK
  have loop : ∀ d k, k + d = 106 → ∀ m2, (∀ i, i < k → m2 14 0 i = m1 16 0 (106 * p + i)) → Fr [14] m1 m2 → ∃ m3, (∀ {o}, pt_Ev 131 none 73 [some (vR 9 0), some (vI (nI p)), some (vI (nI 106))] [] (pt_MEM m3 ml ex) o → pt_Ev 131 none 44 [some (vR 9 0), some (vI (nI p)), some (vI (nI k))] [] (pt_MEM m2 ml ex) o) ∧ (∀ i, i < 106 → m3 14 0 i = m1 16 0 (106 * p + i)) ∧ Fr [14] m1 m3 := by
    intro d
    induction d with
    | zero =>
      intro k hk m2 g1 f
      have hk' : k = 106 := hk
      subst hk'
      exact ⟨m2, fun kk => r131_44 (fun _ => kk) (fun c => absurd n106_le' c), g1, f⟩
    | succ d ih =>
      intro k hkd m2 g1 f
      obtain ⟨m3, w1, w2⟩ := ih (k + 1) (by omega) (pt_up3 m2 14 0 k (m2 16 0 (106 * p + k))) (fun i hi => by
          by_cases e : i = k
          · subst e; rw [up3_eq]; exact f 16 0 _ (by decide)
          · rw [up3_j _ _ e]; exact g1 i (by omega)) (f.up (by decide))
      refine ⟨m3, fun kk => r131_44 (fun c => absurd c (n106_le (by omega))) (fun _ => r131_50 (p2 := 106 * p + k) (n106 (by omega) (by omega)) (by omega) rfl (by omega) ?_), w2⟩
      have := w1 kk
      rw [nI_succ] at this
      exact this
  obtain ⟨m3, w1, w2, f⟩ := loop 106 0 rfl m1 (fun i hi => absurd hi (Nat.not_lt_zero i)) Fr.rfl'
  have hx : MX m1 m3 (T p) := by
    refine ⟨?_, f⟩
    rw [← hT]
    refine rw6_eq (fun k hk => ?_) (fun k hk => rw6_b hk)
    rw [rw6_k hk, Nat.zero_add]
    exact w2 k hk
  obtain ⟨r1, r2, r3⟩ := q2.mx hx
  refine ⟨m3, ?_, r1, r3.trans q4, q3.tr r2⟩
  have e : m3 14 0 96 = T p 96 := by rw [ms_e m3 (by omega), hx.1]
  rw [← e]
  exact r131_0 m88 (r131_7 (fun c => absurd c (bI_tn (in1 p hp))) (fun _ => r131_14 (fun c => absurd c (by rw [R.2.2.1.1, kI_bit K hp, hK]; decide)) (fun _ => r131_29 m89t (r131_33 (fun c => absurd c (by decide)) (fun _ => r131_38 q1 (r131_42 (by rw [← nI_0]; exact w1 r131_73)))))))
theorem c68t (R : RC mi S 0 H K T n X) : pt_Ca 68 [vR 8 0] (pt_MEM mi ml ex) (.inr 2, pt_MEM mi ml (ex + 1)) := by
  obtain ⟨q, hi⟩ := R.2.1
  exact r68_0 (fun _ => r68_10) (fun c => absurd (by rw [hi.2.2.1]; rfl) c)
theorem c68 (R : RC mi S (s + 1) H K T n X) (g : Good (H s) A P) : ∃ mi', pt_Ca 68 [vR 8 0] (pt_MEM mi ml ex) (.inl (some (vI (nI s))), pt_MEM mi' ml ex) ∧ RC mi' (H s) s H K T n X ∧ Fr CK mi mi' := by
  obtain ⟨r1, ⟨q, hi⟩, r3, r4, r5⟩ := R
  obtain ⟨m1, q1, q2, q3, q4, f⟩ := c6 (ml := ml) (ex := ex) hi (fun p hp => (g.1.1 p hp).1)
  have h4 := hi.2.2.2.1
  refine ⟨m1, ?_, ⟨q3, ⟨q, q2⟩, fun j hj => ⟨(f 18 0 j (by decide)).trans (r3 j hj).1, fun hk => (q4 _ (by omega)).trans ((r3 j hj).2 hk)⟩, (f 7 0 1 (by decide)).trans r4, fun k hk => (f 11 0 k (by decide)).trans (r5 k hk)⟩, f.wd (by decide)⟩
  rw [← q2.2.2.1]
  refine r68_0 (fun c => ?_) (fun _ => r68_20 q1 r68_31)
  rw [hi.2.2.1] at c
  exact absurd c (nI_ne0 (by omega) (by omega))
theorem m132t (R : RM mi S 0 H K T n X) : pt_Ca 132 [vR 9 0] (pt_MEM mi ml ex) (.inl (some (vI 0)), pt_MEM (th mi 1) ml ex) :=
  r132_0 (fun _ => r132_12 (m89f (by decide)) (r132_16 (fun _ => r132_19) (fun c => absurd rfl c))) (fun c => absurd (by rw [R.2.1.1]; decide +kernel) c)
theorem m132 (R : RM mi S (s + 1) H K T n X) : ∃ mi', pt_Ca 132 [vR 9 0] (pt_MEM mi ml ex) (.inl (some (vI (nI s))), pt_MEM mi' ml ex) ∧ RM mi' (H s) s H K T n X ∧ mi' 9 0 0 = 0 ∧ Fr MK mi mi' := by
  have h3 := R.2.1.1
  have h6 := R.2.1.2.1
  obtain ⟨r1, r2, r3⟩ := R.th (x := 0)
  obtain ⟨s1, ⟨s2, s3, s4⟩, ⟨s5, s6⟩, s7, s8⟩ := r1
  have e3 : (pt_up3 (th mi 0) 9 0 3 (((th mi 0) 9 0 3) - 1)) 9 0 3 = nI s := by rw [up3_eq, s2]; exact nI_pred s
  have f0 : Fr [9] (th mi 0) (pt_up3 (th mi 0) 9 0 3 (((th mi 0) 9 0 3) - 1)) := Fr.rfl'.up (by decide)
  have eo0 : ∀ j, j ≠ 3 → (pt_up3 (th mi 0) 9 0 3 (((th mi 0) 9 0 3) - 1)) 9 0 j = (th mi 0) 9 0 j := fun j hj => up3_j _ _ hj
  have rule := @r132_21 (th mi 0) ml ex none
  revert rule e3 f0 eo0
  generalize pt_up3 (th mi 0) 9 0 3 (((th mi 0) 9 0 3) - 1) = m1
  intro e3 f0 eo0 rule
  have loop : ∀ d k, k + d = 106 → ∀ m2, (∀ i, i < k → m2 14 0 i = m1 15 0 (106 * s + i)) → Fr [14] m1 m2 → ∃ m3, (∀ {o}, pt_Ev 132 none 65 [some (vR 9 0), some (vI (nI 106))] [] (pt_MEM m3 ml ex) o → pt_Ev 132 none 33 [some (vR 9 0), some (vI (nI k))] [] (pt_MEM m2 ml ex) o) ∧ (∀ i, i < 106 → m3 14 0 i = m1 15 0 (106 * s + i)) ∧ Fr [14] m1 m3 := by
    intro d
    induction d with
    | zero =>
      intro k hk m2 g1 f
      have hk' : k = 106 := hk
      subst hk'
      exact ⟨m2, fun kk => r132_33 (fun _ => kk) (fun c => absurd n106_le' c), g1, f⟩
    | succ d ih =>
      intro k hkd m2 g1 f
      obtain ⟨m3, w1, w2⟩ := ih (k + 1) (by omega) (pt_up3 m2 14 0 k (m2 15 0 (106 * s + k))) (fun i hi => by
          by_cases e : i = k
          · subst e; rw [up3_eq]; exact f 15 0 _ (by decide)
          · rw [up3_j _ _ e]; exact g1 i (by omega)) (f.up (by decide))
      refine ⟨m3, fun kk => r132_33 (fun c => absurd c (n106_le (by omega))) (fun _ => r132_39 (p1 := 106 * s + k) (by rw [f 9 0 3 (by decide), e3]; exact n106 (by omega) (by omega)) (by omega) rfl (by omega) ?_), w2⟩
      have := w1 kk
      rw [nI_succ] at this
      exact this
  obtain ⟨m3, w1, w2, f⟩ := loop 106 0 rfl m1 (fun i hi => absurd hi (Nat.not_lt_zero i)) Fr.rfl'
  have f9 : Fr [9, 14] (th mi 0) m3 := (f0.wd (by decide)).tr (f.wd (by decide))
  have e15 : m3 15 0 = (th mi 0) 15 0 := funext (fun j => f9 15 0 j (by decide))
  have e16 : m3 16 0 = (th mi 0) 16 0 := funext (fun j => f9 16 0 j (by decide))
  have eo : ∀ j, j ≠ 3 → m3 9 0 j = (th mi 0) 9 0 j := fun j hj => (f 9 0 j (by decide)).trans (eo0 j hj)
  refine ⟨m3, ?_, ⟨?_, ⟨(f 9 0 3 (by decide)).trans e3, by omega, fun j hj => by rw [e15]; exact s4 j (by omega)⟩, ⟨(eo 5 (by decide)).trans s5, fun j hj hk => by rw [e16]; exact s6 j hj hk⟩, (eo 7 (by decide)).trans s7, fun k hk => (f9 17 0 k (by decide)).trans (s8 k hk)⟩, (eo 0 (by decide)).trans r3, r2.tr (f9.wd (by decide))⟩
  · have e : m3 9 0 3 = nI s := (f 9 0 3 (by decide)).trans e3
    rw [← e]
    exact r132_0 (fun c => absurd (by rw [← h3]; exact c) (nI_nle (n := s + 1) (by omega) (by omega))) (fun _ => r132_8 m89t (r132_16 (fun c => absurd c (by decide)) (fun _ => rule (by rw [← nI_0]; exact w1 r132_65))))
  · rw [← s4 s (by omega)]
    refine rw6_eq (fun k hk => ?_) (fun k hk => rw6_b hk)
    rw [rw6_k hk, Nat.zero_add, w2 k hk, f0 15 0 _ (by decide)]
end
