/-! Both sides take one step. -/
def GG (S : Nat → Int32) (s : Nat) (H : Nat → Nat → Int32) (K : Nat → Bool) (T : Nat → Nat → Int32) (n : Nat) (A P : Int) : Prop := Good S A P ∧ (∀ j, j < s → Good (H j) A P) ∧ (∀ j, j < 2 → K j = true → Good (T j) A P) ∧ n ≤ 60
/-- the rows of the class and of the model are twins -/
def TT (S : Nat → Int32) (s : Nat) (H : Nat → Nat → Int32) (K : Nat → Bool) (T : Nat → Nat → Int32) (S' : Nat → Int32) (H' T' : Nat → Nat → Int32) : Prop := Twn S S' ∧ (∀ j, j < s → Twn (H j) (H' j)) ∧ (∀ j, j < 2 → K j = true → Twn (T j) (T' j))
def Sim (mi : Nat → Nat → Nat → Int32) (A P : Int) : Prop := ∃ S s H K T n X S' H' T', RC mi S s H K T n X ∧ RM mi S' s H' K T' n X ∧ GG S s H K T n A P ∧ TT S s H K T S' H' T'
/-- a caught call of the class, then the same of the model -/
def LStp (Hh : Nat) (a1 : List pt_V) (M : Nat) (a2 : List pt_V) (mi : Nat → Nat → Nat → Int32) (ml : Nat → Nat → Nat → Int64) (ex : Nat) (A P : Int) : Prop := ∃ k b mi1 ml1 ex1 mi2, pt_Ca Hh a1 (pt_MEM mi ml ex) (.inl (some (vI k)), pt_MEM mi1 ml1 ex1) ∧ pt_Ca M a2 (pt_MEM mi1 ml1 ex1) (.inl (some (vI b)), pt_MEM mi2 ml1 ex1) ∧ mi2 9 0 0 = k ∧ (k = 0 → ml1 23 0 0 = Int32.toInt64 b) ∧ ex1 ≤ ex + 1 ∧ Sim mi2 (A + 100) (P + 5000)
section
variable {mi mi1 : Nat → Nat → Nat → Int32} {ml : Nat → Nat → Nat → Int64} {ex : Nat} {S S' S2 S3 : Nat → Int32} {s s2 : Nat} {H H' H2 H3 : Nat → Nat → Int32} {K K2 : Nat → Bool} {T T' T2 T3 : Nat → Nat → Int32} {n n2 : Nat} {X X2 : Nat → Int32} {A P A' P' : Int} {Hh M : Nat} {a1 a2 : List pt_V} {w k b : Int32}
theorem GG.mono (G : GG S s H K T n A P) (hA : A ≤ A') (hP : P ≤ P') : GG S s H K T n A' P' := ⟨G.1.mono hA hP, fun j hj => (G.2.1 j hj).mono hA hP, fun j hj hk => (G.2.2.1 j hj hk).mono hA hP, G.2.2.2⟩
theorem GG.up (G : GG S s H K T n A P) : GG S s H K T n (A + 100) (P + 5000) := G.mono (by omega) (by omega)
theorem GG.push (G : GG S s H K T n A P) (g : Good S2 (A + 100) (P + 5000)) : GG S2 (sv s) (svH S s H) K T n (A + 100) (P + 5000) := by
  have u := G.up
  refine ⟨g, fun j hj => ?_, u.2.2⟩
  unfold svH
  by_cases c : s < 6
  · rw [if_pos c]
    by_cases d : j < s
    · show Good (if j < s then H j else S) _ _
      rw [if_pos d]; exact u.2.1 j d
    · show Good (if j < s then H j else S) _ _
      rw [if_neg d]; exact u.1
  · rw [if_neg c]
    by_cases d : j < 5
    · show Good (if j < 5 then H (j + 1) else S) _ _
      rw [if_pos d]; exact u.2.1 (j + 1) (by omega)
    · show Good (if j < 5 then H (j + 1) else S) _ _
      rw [if_neg d]; exact u.1
theorem GG.push' (G : GG S s H K T n A P) (g : Good S2 A P) : GG S2 (sv s) (svH S s H) K T n (A + 100) (P + 5000) := G.push (g.mono (by omega) (by omega))
theorem TT.push (E : TT S s H K T S' H' T') (e : Twn S2 S3) : TT S2 (sv s) (svH S s H) K T S3 (svH S' s H') T' := by
  refine ⟨e, fun j hj => ?_, E.2.2⟩
  unfold svH
  by_cases c : s < 6
  · rw [if_pos c, if_pos c]
    by_cases d : j < s
    · show Twn (if j < s then H j else S) (if j < s then H' j else S')
      rw [if_pos d, if_pos d]; exact E.2.1 j d
    · show Twn (if j < s then H j else S) (if j < s then H' j else S')
      rw [if_neg d, if_neg d]; exact E.1
  · rw [if_neg c, if_neg c]
    by_cases d : j < 5
    · show Twn (if j < 5 then H (j + 1) else S) (if j < 5 then H' (j + 1) else S')
      rw [if_pos d, if_pos d]; exact E.2.1 (j + 1) (by omega)
    · show Twn (if j < 5 then H (j + 1) else S) (if j < 5 then H' (j + 1) else S')
      rw [if_neg d, if_neg d]; exact E.1
theorem LS_ok (c : pt_Ca Hh a1 (pt_MEM mi ml ex) (.inl (some (vI 0)), pt_MEM mi1 (pt_up3 ml 23 0 0 (Int32.toInt64 w)) ex)) (Rm : RM mi S' s H' K T' n X) (R1 : RC mi1 S2 s2 H2 K2 T2 n2 X2) (fr : Fr CK mi mi1) (hm : ∀ ml, RM mi1 S' s H' K T' n X → ∃ mi2, pt_Ca M a2 (pt_MEM mi1 ml ex) (.inl (some (vI w)), pt_MEM mi2 ml ex) ∧ RM mi2 S3 s2 H3 K2 T3 n2 X2 ∧ mi2 9 0 0 = 0 ∧ Fr MK mi1 mi2) (G : GG S2 s2 H2 K2 T2 n2 (A + 100) (P + 5000)) (E : TT S2 s2 H2 K2 T2 S3 H3 T3) : LStp Hh a1 M a2 mi ml ex A P := by
  obtain ⟨mi2, q1, q2, q3, q4⟩ := hm _ (Rm.fr fr (by decide))
  exact ⟨0, w, mi1, _, ex, mi2, c, q1, q3, fun _ => up3_eq _ _ _ _ _, by omega, S2, s2, H2, K2, T2, n2, X2, S3, H3, T3, R1.fr q4 (by decide), q2, G, E⟩
theorem LS_no (c : pt_Ca Hh a1 (pt_MEM mi ml ex) (.inl (some (vI k)), pt_MEM mi ml (ex + 1))) (hk : ¬ k = 0) (hm : pt_Ca M a2 (pt_MEM mi ml (ex + 1)) (.inl (some (vI b)), pt_MEM (th mi k) ml (ex + 1))) (R : RC mi S s H K T n X) (Rm : RM mi S' s H' K T' n X) (G : GG S s H K T n A P) (E : TT S s H K T S' H' T') : LStp Hh a1 M a2 mi ml ex A P := by
  obtain ⟨q1, q2, q3⟩ := Rm.th (x := k)
  exact ⟨k, b, mi, ml, ex + 1, th mi k, c, hm, q3, fun e => absurd e hk, by omega, S, s, H, K, T, n, X, S', H', T', R.fr q2 (by decide), q1, G.up, E⟩
theorem LS_lk (c : pt_Ca Hh a1 (pt_MEM mi ml ex) (.inl (some (vI 0)), pt_MEM mi1 (pt_up3 ml 23 0 0 (Int32.toInt64 w)) ex)) (fr : Fr [3, 12, 13] mi mi1) (R : RC mi S s H K T n X) (Rm : RM mi S' s H' K T' n X) (hm : ∀ ml, RM mi1 S' s H' K T' n X → pt_Ca M a2 (pt_MEM mi1 ml ex) (.inl (some (vI w)), pt_MEM (th mi1 0) ml ex)) (G : GG S s H K T n A P) (E : TT S s H K T S' H' T') : LStp Hh a1 M a2 mi ml ex A P :=
  LS_ok c Rm (R.fr fr (by decide)) (fr.wd (by decide)) (fun ml r => ⟨th mi1 0, hm ml r, (r.th (x := 0)).1, (r.th (x := 0)).2.2, (r.th (x := 0)).2.1⟩) G.up E
theorem in_240 {x : Int32} (h : sIn3 x 1 240 = true) : ∃ k, k ≤ 240 ∧ x = nI k := by
  have h2 := sIn3_t.mp h
  have h3 : sIn3 x 0 240 = true := sIn3_t.mpr ⟨fun c => h2.1 (Int32.lt_trans c (by decide)), h2.2⟩
  obtain ⟨k, hk, e⟩ := sIn3_nI (n := 240) (by decide) (by decide +kernel) h3
  exact ⟨k, by omega, e⟩
theorem in_2 {x : Int32} (h : sIn3 x 0 1 = true) : ∃ p, p < 2 ∧ x = nI p := by
  obtain ⟨k, hk, e⟩ := sIn3_nI (n := 1) (by decide) (by decide +kernel) h
  exact ⟨k, by omega, e⟩
theorem in_10 {x : Int32} (h : sIn3 x 0 9 = true) : ∃ p, p < 10 ∧ x = nI p := by
  obtain ⟨k, hk, e⟩ := sIn3_nI (n := 9) (by decide) (by decide +kernel) h
  exact ⟨k, by omega, e⟩
theorem in_11 {x : Int32} (h : sIn3 x 0 10 = true) : ∃ p, p < 11 ∧ x = nI p := by
  obtain ⟨k, hk, e⟩ := sIn3_nI (n := 10) (by decide) (by decide +kernel) h
  exact ⟨k, by omega, e⟩
theorem in_6 {x : Int32} (h : sIn3 x 0 5 = true) : ∃ p, p < 6 ∧ x = nI p := by
  obtain ⟨k, hk, e⟩ := sIn3_nI (n := 5) (by decide) (by decide +kernel) h
  exact ⟨k, by omega, e⟩
theorem st0 {x1 x2 x3 x4 x5 : Int32} (Z : Sim mi A P) (hA : A ≤ 90000) (h5 : x5 = 0 ∨ x5 = 1) : LStp 159 [vR 8 0, vI x1, vI x2, vI x3, vI x4, vI x5, vR 23 0] 114 [vR 9 0, vI x1, vI x2, vI x3, vI x4, vI x5] mi ml ex A P := by
  obtain ⟨S, s, H, K, T, n, X, S', H', T', R, Rm, G, E⟩ := Z
  cases e : okT x1 x2 x3 x4 with
  | false => exact LS_no (h159x1 (c54t e)) (by decide) (m114t e) R Rm G E
  | true =>
    obtain ⟨mi1, c, R1, f⟩ := c54 (ml := ml) (ex := ex) R G.1 e h5
    have tw := E.1.takes (x1 := x1) (x2 := x2) (x3 := x3) (x4 := x4) (x5 := x5)
    exact LS_ok (h159 c) Rm R1 f (fun _ r => by rw [tw.1]; exact m114 r e h5) (G.push ((G.1.takes (by omega) e h5).mono (by omega) (by omega))) (E.push tw.2)
theorem st1 {t x : Int32} (Z : Sim mi A P) (hP : P ≤ 3000000) : LStp 160 [vR 8 0, vI t, vI x, vR 23 0] 115 [vR 9 0, vI t, vI x] mi ml ex A P := by
  obtain ⟨S, s, H, K, T, n, X, S', H', T', R, Rm, G, E⟩ := Z
  cases e : sIn3 x 0 7 with
  | false => exact LS_no (h160x3 (c55t e)) (by decide) (m115t e) R Rm G E
  | true =>
    obtain ⟨mi1, c, R1, f⟩ := c55 (ml := ml) (ex := ex) (t := t) R G.1 e
    have tw := E.1.give (t := t) (x := x)
    exact LS_ok (h160 c) Rm R1 f (fun _ r => by rw [tw.1]; exact m115 r (E.1.good G.1) (by omega) e) (G.push ((G.1.give (by omega)).mono (by omega) (by omega))) (E.push tw.2)
theorem st2 {x : Int32} (Z : Sim mi A P) : LStp 161 [vR 8 0, vI x, vR 23 0] 116 [vR 9 0, vI x] mi ml ex A P := by
  obtain ⟨S, s, H, K, T, n, X, S', H', T', R, Rm, G, E⟩ := Z
  cases e : sIn3 x 0 9 with
  | false => exact LS_no (h161x3 (c56a e)) (by decide) (m116a e) R Rm G E
  | true =>
    obtain ⟨p, hp, rfl⟩ := in_10 e
    have e5 := E.1.j p (j := 5) (by decide)
    have e6 := E.1.j p (j := 6) (by decide)
    cases h : sHere S p with
    | false => exact LS_no (h161x3 (c56b hp R h)) (by decide) (m116b hp Rm (by rw [← E.1.here]; exact h)) R Rm G E
    | true =>
      have h' : sHere S' p = true := by rw [← E.1.here]; exact h
      by_cases h6 : S (9 * p + 6) = 0
      · obtain ⟨mi1, c, R1, f⟩ := c56 (ml := ml) (ex := ex) hp R G.1 h h6
        refine LS_ok (h161 c) Rm R1 f (fun _ r => by rw [e5]; exact m116 hp r h' (by rw [← e6]; exact h6)) (G.push' (G.1.rush hp ?_)) (E.push (E.1.up' (by rw [e5]) (by omega)))
        rcases (G.1.1.1 p hp).1 with z | z
        · rw [z]; exact Or.inr (by decide)
        · rw [z]; exact Or.inl (by decide)
      · exact LS_no (h161x2 (c56c hp R h h6)) (by decide) (m116c hp Rm h' (by rw [← e6]; exact h6)) R Rm G E
theorem st3 {x : Int32} (Z : Sim mi A P) (hA : A ≤ 90000) : LStp 162 [vR 8 0, vI x, vR 23 0] 117 [vR 9 0, vI x] mi ml ex A P := by
  obtain ⟨S, s, H, K, T, n, X, S', H', T', R, Rm, G, E⟩ := Z
  cases e : sIn3 x 0 1 with
  | false => exact LS_no (h162x3 (c57t e)) (by decide) (m117t e) R Rm G E
  | true =>
    obtain ⟨p, hp, rfl⟩ := in_2 e
    obtain ⟨w, mi1, c, hw, R1, f⟩ := c57 (ml := ml) (ex := ex) hp R G.1 (by omega)
    have tw := E.1.loads hp (sWL_bits (G.1.GO (by omega)) hw)
    have hw' : sWL S' (S' (90 + 3 * p + 0)) w := by rw [← E.1.k (by omega)]; exact E.1.wl hw
    exact LS_ok (h162 c) Rm R1 f (fun _ r => by rw [tw.1]; exact m117 hp r (E.1.good G.1) (by omega) hw') (G.push' (G.1.loads (by omega) hp hw)) (E.push tw.2)
theorem st4 {x y : Int32} (Z : Sim mi A P) : LStp 163 [vR 8 0, vI x, vI y, vR 23 0] 118 [vR 9 0, vI x, vI y] mi ml ex A P := by
  obtain ⟨S, s, H, K, T, n, X, S', H', T', R, Rm, G, E⟩ := Z
  cases e : sIn3 x 0 1 with
  | false => exact LS_no (h163x3 (c58a e)) (by decide) (m118a e) R Rm G E
  | true =>
    cases hy : sIn3 y 10 60 with
    | false => exact LS_no (h163x1 (c58b e hy)) (by decide) (m118b e hy) R Rm G E
    | true =>
      obtain ⟨p, hp, rfl⟩ := in_2 e
      cases hI : sIdle S p with
      | false => exact LS_no (h163x2 (c58c hp hy R hI)) (by decide) (m118c hp hy Rm (by rw [← E.1.idle]; exact hI)) R Rm G E
      | true =>
        obtain ⟨mi1, c, R1, f⟩ := c58 (ml := ml) (ex := ex) hp hy R G.1 hI
        exact LS_ok (h163 c) Rm R1 f (fun _ r => by rw [E.1.k (k := 90 + 3 * p + 0) (by omega)]; exact m118 hp hy r (by rw [← E.1.idle]; exact hI)) (G.push' (G.1.up (by omega))) (E.push (E.1.up' rfl (by omega)))
theorem st5 {x : Int32} (Z : Sim mi A P) (hP : P ≤ 3000000) : LStp 164 [vR 8 0, vI x, vR 23 0] 119 [vR 9 0, vI x] mi ml ex A P := by
  obtain ⟨S, s, H, K, T, n, X, S', H', T', R, Rm, G, E⟩ := Z
  cases e : sIn3 x 1 240 with
  | false => exact LS_no (h164x1 (c59a e)) (by decide) (m119a e) R Rm G E
  | true =>
    obtain ⟨k, hk, rfl⟩ := in_240 e
    have e96 := E.1.k (k := 96) (by decide)
    by_cases h2 : S 96 + nI k ≤ 99999
    · obtain ⟨mi1, c, R1, f⟩ := c59 (ml := ml) (ex := ex) R G.1 e hk h2
      have gg := (sPass_good G.1 (by omega) hk (pass_clock G.1 hk h2) k (Nat.le_refl k)).1
      have tw := E.1.pass k
      exact LS_ok (h164 c) Rm R1 f (fun _ r => by rw [tw.2]; exact m119 r (E.1.good G.1) (by omega) e hk (by rw [← e96]; exact h2)) (G.push (gg.mono (by omega) (by omega))) (E.push tw.1)
    · exact LS_no (h164x2 (c59b R e h2)) (by decide) (m119b Rm e (by rw [← e96]; exact h2)) R Rm G E
theorem st6 {x y : Int32} (Z : Sim mi A P) : LStp 165 [vR 8 0, vI x, vI y, vR 23 0] 120 [vR 9 0, vI x, vI y] mi ml ex A P := by
  obtain ⟨S, s, H, K, T, n, X, S', H', T', R, Rm, G, E⟩ := Z
  cases e : sIn3 x 0 1 with
  | false => exact LS_no (h165x3 (c60a e)) (by decide) (m120a e) R Rm G E
  | true =>
    cases hy : fits x y with
    | false => exact LS_no (h165x1 (c60b e hy)) (by decide) (m120b e hy) R Rm G E
    | true =>
      obtain ⟨p, hp, rfl⟩ := in_2 e
      obtain ⟨mi1, c, R1, f⟩ := c60 (ml := ml) (ex := ex) hp hy R G.1
      refine LS_ok (h165 c) Rm R1 f (fun _ r => by rw [E.1.k (k := 104 + p) (by omega)]; exact m120 hp hy r) (G.push' ?_) (E.push (E.1.up' rfl (by omega)))
      match p, hp with
      | 0, _ => exact G.1.up (by decide)
      | 1, _ =>
        refine G.1.up105 ?_
        have hy2 : sIn3 y 0 1 = true := hy
        obtain ⟨q, hq, rfl⟩ := in_2 hy2
        match q, hq with
        | 0, _ => exact Or.inl (by decide +kernel)
        | 1, _ => exact Or.inr (by decide +kernel)
theorem st7 {x : Int32} (Z : Sim mi A P) : LStp 166 [vR 8 0, vI x, vR 23 0] 121 [vR 9 0, vI x] mi ml ex A P := by
  obtain ⟨S, s, H, K, T, n, X, S', H', T', R, Rm, G, E⟩ := Z
  cases e : sIn3 x 33 126 with
  | false => exact LS_no (h166x1 (c62a e)) (by decide) (m121a e) R Rm G E
  | true =>
    by_cases hn : n < 60
    · obtain ⟨mi1, c, R1, f⟩ := c62 (ml := ml) (ex := ex) R hn e
      have u := G.up
      exact LS_ok (h166 c) Rm R1 f (fun _ r => m121 r hn e) ⟨u.1, u.2.1, u.2.2.1, by omega⟩ E
    · have h60 : n = 60 := by have := G.2.2.2; omega
      subst h60
      exact LS_no (h166x2 (c62b R e)) (by decide) (m121b Rm e) R Rm G E
theorem st11 {x : Int32} (Z : Sim mi A P) : LStp 168 [vR 8 0, vI x, vR 23 0] 130 [vR 9 0, vI x] mi ml ex A P := by
  obtain ⟨S, s, H, K, T, n, X, S', H', T', R, Rm, G, E⟩ := Z
  cases e : sIn3 x 0 1 with
  | false => exact LS_no (h168x1 (c66t e)) (by decide) (m130t e) R Rm G E
  | true =>
    obtain ⟨p, hp, rfl⟩ := in_2 e
    obtain ⟨mi1, c, R1, f⟩ := c66 (ml := ml) (ex := ex) hp R G.1
    have u := G.up
    refine LS_ok (h168 c) Rm R1 f (fun _ r => by rw [E.1.k (k := 96) (by decide)]; exact m130 hp r) ⟨u.1, u.2.1, fun j hj hk => ?_, u.2.2.2⟩ ⟨E.1, E.2.1, fun j hj hk => ?_⟩
    · show Good (if j = p then S else T j) _ _
      by_cases d : j = p
      · rw [if_pos d]; exact u.1
      · rw [if_neg d]
        have hk' : (if j = p then true else K j) = true := hk
        rw [if_neg d] at hk'
        exact u.2.2.1 j hj hk'
    · show Twn (if j = p then S else T j) (if j = p then S' else T' j)
      by_cases d : j = p
      · rw [if_pos d, if_pos d]; exact E.1
      · rw [if_neg d, if_neg d]
        have hk' : (if j = p then true else K j) = true := hk
        rw [if_neg d] at hk'
        exact E.2.2 j hj hk'
theorem st12 {x : Int32} (Z : Sim mi A P) : LStp 169 [vR 8 0, vI x, vR 23 0] 131 [vR 9 0, vI x] mi ml ex A P := by
  obtain ⟨S, s, H, K, T, n, X, S', H', T', R, Rm, G, E⟩ := Z
  cases e : sIn3 x 0 1 with
  | false => exact LS_no (h169x1 (c67a e)) (by decide) (m131a e) R Rm G E
  | true =>
    obtain ⟨p, hp, rfl⟩ := in_2 e
    cases hK : K p with
    | false => exact LS_no (h169x2 (c67b hp R hK)) (by decide) (m131b hp Rm hK) R Rm G E
    | true =>
      have gT := G.2.2.1 p hp hK
      have eT := E.2.2 p hp hK
      obtain ⟨mi1, c, R1, f⟩ := c67 (ml := ml) (ex := ex) hp R G.1 gT hK
      exact LS_ok (h169 c) Rm R1 f (fun _ r => by rw [eT.k (k := 96) (by decide)]; exact m131 hp r hK) (G.push' gT) (E.push eT)
theorem st13 (Z : Sim mi A P) : LStp 170 [vR 8 0, vR 23 0] 132 [vR 9 0] mi ml ex A P := by
  obtain ⟨S, s, H, K, T, n, X, S', H', T', R, Rm, G, E⟩ := Z
  match s with
  | 0 => exact LS_no (h170x2 (c68t R)) (by decide) (m132t Rm) R Rm G E
  | s + 1 =>
    obtain ⟨mi1, c, R1, f⟩ := c68 (ml := ml) (ex := ex) R (G.2.1 s (by omega))
    have u := G.up
    exact LS_ok (h170 c) Rm R1 f (fun _ r => m132 r) ⟨u.2.1 s (by omega), fun j hj => u.2.1 j (by omega), u.2.2⟩ ⟨E.2.1 s (by omega), fun j hj => E.2.1 j (by omega), E.2.2⟩
theorem st14 {x y : Int32} (Z : Sim mi A P) (hA : A ≤ 90000) : LStp 171 [vR 8 0, vI x, vI y, vR 23 0] 134 [vR 9 0, vI x, vI y] mi ml ex A P := by
  obtain ⟨S, s, H, K, T, n, X, S', H', T', R, Rm, G, E⟩ := Z
  cases e : sIn3 x 0 9 with
  | false => exact LS_no (h171x3 (c69a e)) (by decide) (m134a e) R Rm G E
  | true =>
    cases hy : sIn3 y 0 10 with
    | false => exact LS_no (h171x1 (c69b e hy)) (by decide) (m134b e hy) R Rm G E
    | true =>
      obtain ⟨p, hp, rfl⟩ := in_10 e
      obtain ⟨j, hj, rfl⟩ := in_11 hy
      obtain ⟨mi1, c, f⟩ := c69 (mi := mi) (ml := ml) (ex := ex) hp hj (by rw [R.1]; exact G.1.GO (by omega))
      rw [R.1] at c
      refine LS_lk (h171 c) (f.wd (by decide)) R Rm (fun ml r => ?_) G E
      rw [E.1.of hp hj, ← r.1]
      exact m134 hp hj
theorem st15 {x y : Int32} (Z : Sim mi A P) : LStp 172 [vR 8 0, vI x, vI y, vR 23 0] 136 [vR 9 0, vI x, vI y] mi ml ex A P := by
  obtain ⟨S, s, H, K, T, n, X, S', H', T', R, Rm, G, E⟩ := Z
  cases e : sIn3 x 0 1 with
  | false => exact LS_no (h172x3 (c71a e)) (by decide) (m136a e) R Rm G E
  | true =>
    cases hy : sIn3 y 0 5 with
    | false => exact LS_no (h172x1 (c71b e hy)) (by decide) (m136b e hy) R Rm G E
    | true =>
      obtain ⟨p, hp, rfl⟩ := in_2 e
      obtain ⟨j, hj, rfl⟩ := in_6 hy
      have c := c71 (mi := mi) (ml := ml) (ex := ex) hp hj
      rw [R.1] at c
      refine LS_lk (h172 c) Fr.rfl' R Rm (fun ml r => ?_) G E
      have := m136 (mi := mi) (ml := ml) (ex := ex) hp hj (by rw [r.1]; exact col_same (E.1.good G.1).1.2.2.2.1 _)
      rw [r.1, ← E.1.mach] at this
      exact this
theorem st16 {x : Int32} (Z : Sim mi A P) : LStp 173 [vR 8 0, vI x, vR 23 0] 137 [vR 9 0, vI x] mi ml ex A P := by
  obtain ⟨S, s, H, K, T, n, X, S', H', T', R, Rm, G, E⟩ := Z
  cases e : sIn3 x 0 7 with
  | false => exact LS_no (h173x3 (c72a e)) (by decide) (m137a e) R Rm G E
  | true =>
    have c := c72 (mi := mi) (ml := ml) (ex := ex) e
    rw [R.1] at c
    refine LS_lk (h173 c) Fr.rfl' R Rm (fun ml r => ?_) G E
    have := m137 (mi := mi) (ml := ml) (ex := ex) e
    rw [r.1, mShelf_same (E.1.good G.1).1.2.2.1, ← E.1.shelf] at this
    exact this
theorem st17 {x : Int32} (Z : Sim mi A P) : LStp 174 [vR 8 0, vI x, vR 23 0] 140 [vR 9 0, vI x] mi ml ex A P := by
  obtain ⟨S, s, H, K, T, n, X, S', H', T', R, Rm, G, E⟩ := Z
  cases e : sIn3 x 0 10 with
  | false => exact LS_no (h174x1 (c73a e)) (by decide) (m140a e) R Rm G E
  | true =>
    obtain ⟨j, hj, rfl⟩ := in_11 e
    by_cases d : j < 10
    · have c := c73 (mi := mi) (ml := ml) (ex := ex) d
      rw [R.1] at c
      refine LS_lk (h174 c) Fr.rfl' R Rm (fun ml r => ?_) G E
      rw [E.1.count, ← r.1]
      exact m140 d
    · have d10 : j = 10 := by omega
      subst d10
      have c := c73h (mi := mi) (ml := ml) (ex := ex)
      obtain ⟨q, hi⟩ := R.2.1
      rw [hi.2.2.1] at c
      refine LS_lk (h174 c) Fr.rfl' R Rm (fun ml r => ?_) G E
      rw [← r.2.1.1]
      exact m140h
theorem st18 {x : Int32} (Z : Sim mi A P) : LStp 175 [vR 8 0, vI x, vR 23 0] 141 [vR 9 0, vI x] mi ml ex A P := by
  obtain ⟨S, s, H, K, T, n, X, S', H', T', R, Rm, G, E⟩ := Z
  cases e : sIn3 x 0 1 with
  | false => exact LS_no (h175x3 (c74a e)) (by decide) (m141a e) R Rm G E
  | true =>
    obtain ⟨p, hp, rfl⟩ := in_2 e
    have c := c74 (mi := mi) (ml := ml) (ex := ex) hp
    rw [R.1] at c
    refine LS_lk (h175 c) Fr.rfl' R Rm (fun ml r => ?_) G E
    rw [E.1.k (k := 104 + p) (by omega), ← r.1]
    exact m141 hp
theorem st19 {x : Int32} (Z : Sim mi A P) (hA : A ≤ 90000) : LStp 176 [vR 8 0, vI x, vR 23 0] 142 [vR 9 0, vI x] mi ml ex A P := by
  obtain ⟨S, s, H, K, T, n, X, S', H', T', R, Rm, G, E⟩ := Z
  by_cases d : x < 0
  · exact LS_no (h176x1 (c75n d)) (by decide) (m142n d) R Rm G E
  · obtain ⟨mi1, c, f⟩ := c75 (mi := mi) (ml := ml) (ex := ex) d (by rw [R.1]; exact G.1.GO (by omega))
    rw [R.1] at c
    refine LS_lk (h176 c) (f.wd (by decide)) R Rm (fun ml r => ?_) G E
    rw [E.1.ranked, ← r.1]
    exact m142 d
theorem st20 {x : Int32} (Z : Sim mi A P) (hA : A ≤ 90000) : LStp 177 [vR 8 0, vI x, vR 23 0] 143 [vR 9 0, vI x] mi ml ex A P := by
  obtain ⟨S, s, H, K, T, n, X, S', H', T', R, Rm, G, E⟩ := Z
  cases e : sIn3 x 0 1 with
  | false => exact LS_no (h177x3 (c76x e)) (by decide) (m143x e) R Rm G E
  | true =>
    obtain ⟨p, hp, rfl⟩ := in_2 e
    obtain ⟨mi1, w, c, hw, f⟩ := c76 (mi := mi) (ml := ml) (ex := ex) hp (by rw [R.1]; exact G.1.GO (by omega))
    rw [R.1] at hw
    have g' := E.1.good G.1
    have hw' : sWL S' (S' (90 + 3 * p + 0)) w := by rw [← E.1.k (by omega)]; exact E.1.wl hw
    exact LS_lk (h177 c) (f.wd (by decide)) R Rm (fun ml r => m143 hp (by rw [r.1]; exact g'.GO (by omega)) (by rw [r.1]; exact g'.col) (by rw [r.1]; exact hw')) G E
theorem st22 {x : Int32} (Z : Sim mi A P) (hA : A ≤ 90000) : LStp 178 [vR 8 0, vI x, vR 23 0] 150 [vR 9 0, vI x] mi ml ex A P := by
  obtain ⟨S, s, H, K, T, n, X, S', H', T', R, Rm, G, E⟩ := Z
  cases e : sIn3 x 0 1 with
  | false => exact LS_no (h178x1 (c78t e)) (by decide) (m150t e) R Rm G E
  | true =>
    have fo := G.1.FO (show A ≤ 100000 by omega)
    have fo' := (E.1.good G.1).FO (show A ≤ 100000 by omega)
    obtain ⟨L, q, M, mi1, -, -, hL, hB, c, f⟩ := c78 (ml := ml) (ex := ex) e R.1 fo
    have hfl := E.1.fl (sFL_of fo hL hB)
    obtain ⟨L', q', hL'⟩ := LN_ex (sSTO 0 fo'.1) 10 (Nat.le_refl 10)
    refine LS_lk (h178 c) f R Rm (fun ml r => ?_) G E
    obtain ⟨M', -, hB', -⟩ := m149 (ml := ml) (ex := ex) r.1 fo' hL'
    rw [sFL_un hfl (sFL_of fo' hL' hB')]
    exact m150 e r.1 fo' hL' hB'
theorem st10 (Z : Sim mi A P) (hA : A ≤ 90000) : LStp 167 [vR 8 0, vR 23 0] 129 [vR 9 0] mi ml ex A P := by
  obtain ⟨S, s, H, K, T, n, X, S', H', T', R, Rm, G, E⟩ := Z
  have hn := G.2.2.2
  obtain ⟨j, b, hj, h, he⟩ := ats_ex X (aBeg (mi 6 0)) n
  cases hw : decide (j = n) && aEnd b with
  | false =>
    obtain ⟨mi1, c, R1, f⟩ := c65t (ml := ml) (ex := ex) R hn hj h he hw
    obtain ⟨mi2, q1, q2, q3, q4⟩ := m129t (ml := ml) (ex := ex + 1) (a := aBeg (mi 6 0)) (Rm.fr f (by decide)) hn (aBeg_I _) (aBeg_0 _).1 hj h he hw
    exact ⟨1, 0, mi1, ml, ex + 1, mi2, h167x1 c, q1, q3, fun e => absurd e (by decide), by omega, S, s, H, K, T, n, X, S', H', T', R1.fr q4 (by decide), q2, G.up, E⟩
  | true =>
    rw [Bool.and_eq_true, decide_eq_true_iff] at hw
    obtain ⟨hw1, hE⟩ := hw
    subst hw1
    obtain ⟨mi1, a', b', h0', hI', h', hE', c, R1, f⟩ := c65 (ml := ml) (ex := ex) R G.1 hn h hE
    have gg := adm_good (X := X) (P := P) hI' h' hE' (j + 1) 0 0 S A (by omega) (by omega) G.1
    have G2 := G.push (gg.mono (by omega) (by omega))
    have tw := Twn.admX X j (aG X a') (j + 1) 0 0 E.1
    exact LS_ok (h167 c) Rm R1 f (fun _ r => by rw [tw.1]; exact m129 r hn (aBeg_I _) (aBeg_0 _).1 h hE hI' h0' h' hE') ⟨G2.1, G2.2.1, G2.2.2.1, by omega⟩ (E.push tw.2)
end
