/-! Both sides take one step. -/
def GG (S : Nat → Int32) (s : Nat) (H : Nat → Nat → Int32) (K : Nat → Bool) (T : Nat → Nat → Int32) (n : Nat) (A P : Int) : Prop := Good S A P ∧ (∀ j, j < s → Good (H j) A P) ∧ (∀ j, j < 2 → K j = true → Good (T j) A P) ∧ n ≤ 60
def Sim (mi : Nat → Nat → Nat → Int32) (A P : Int) : Prop := ∃ S s H K T n X, RC mi S s H K T n X ∧ RM mi S s H K T n X ∧ GG S s H K T n A P
/-- a caught call of the class, then the same of the model -/
def LStp (Hh : Nat) (a1 : List pt_V) (M : Nat) (a2 : List pt_V) (mi : Nat → Nat → Nat → Int32) (ml : Nat → Nat → Nat → Int64) (ex : Nat) (A P : Int) : Prop := ∃ k b mi1 ml1 ex1 mi2, pt_Ca Hh a1 (pt_MEM mi ml ex) (.inl (some (vI k)), pt_MEM mi1 ml1 ex1) ∧ pt_Ca M a2 (pt_MEM mi1 ml1 ex1) (.inl (some (vI b)), pt_MEM mi2 ml1 ex1) ∧ mi2 9 0 0 = k ∧ (k = 0 → ml1 23 0 0 = Int32.toInt64 b) ∧ ex1 ≤ ex + 1 ∧ Sim mi2 (A + 100) (P + 5000)
section
variable {mi mi1 : Nat → Nat → Nat → Int32} {ml : Nat → Nat → Nat → Int64} {ex : Nat} {S S' : Nat → Int32} {s s' : Nat} {H H' : Nat → Nat → Int32} {K K' : Nat → Bool} {T T' : Nat → Nat → Int32} {n n' : Nat} {X X' : Nat → Int32} {A P A' P' : Int} {Hh M : Nat} {a1 a2 : List pt_V} {w k b : Int32}
theorem GG.mono (G : GG S s H K T n A P) (hA : A ≤ A') (hP : P ≤ P') : GG S s H K T n A' P' := ⟨G.1.mono hA hP, fun j hj => (G.2.1 j hj).mono hA hP, fun j hj hk => (G.2.2.1 j hj hk).mono hA hP, G.2.2.2⟩
theorem GG.up (G : GG S s H K T n A P) : GG S s H K T n (A + 100) (P + 5000) := G.mono (by omega) (by omega)
theorem GG.push (G : GG S s H K T n A P) (g : Good S' (A + 100) (P + 5000)) : GG S' (sv s) (svH S s H) K T n (A + 100) (P + 5000) := by
  have u := G.up
  refine ⟨g, fun j hj => ?_, u.2.2⟩
  unfold svH
  by_cases c : s < 6
  · rw [if_pos c]
    by_cases d : j < s
    · show Good (if j < s then H j else S) _ _
      rw [if_pos d]; exact u.2.1 j d
    · show Good (if j < s then H j else S) _ _
      rw [if_neg d]; exact u.1
  · rw [if_neg c]
    by_cases d : j < 5
    · show Good (if j < 5 then H (j + 1) else S) _ _
      rw [if_pos d]; exact u.2.1 (j + 1) (by omega)
    · show Good (if j < 5 then H (j + 1) else S) _ _
      rw [if_neg d]; exact u.1
theorem GG.push' (G : GG S s H K T n A P) (g : Good S' A P) : GG S' (sv s) (svH S s H) K T n (A + 100) (P + 5000) := G.push (g.mono (by omega) (by omega))
theorem LS_ok (c : pt_Ca Hh a1 (pt_MEM mi ml ex) (.inl (some (vI 0)), pt_MEM mi1 (pt_up3 ml 23 0 0 (Int32.toInt64 w)) ex)) (Rm : RM mi S s H K T n X) (R1 : RC mi1 S' s' H' K' T' n' X') (fr : Fr CK mi mi1) (hm : ∀ ml, RM mi1 S s H K T n X → ∃ mi2, pt_Ca M a2 (pt_MEM mi1 ml ex) (.inl (some (vI w)), pt_MEM mi2 ml ex) ∧ RM mi2 S' s' H' K' T' n' X' ∧ mi2 9 0 0 = 0 ∧ Fr MK mi1 mi2) (G : GG S' s' H' K' T' n' (A + 100) (P + 5000)) : LStp Hh a1 M a2 mi ml ex A P := by
  obtain ⟨mi2, q1, q2, q3, q4⟩ := hm _ (Rm.fr fr (by decide))
  exact ⟨0, w, mi1, _, ex, mi2, c, q1, q3, fun _ => up3_eq _ _ _ _ _, by omega, S', s', H', K', T', n', X', R1.fr q4 (by decide), q2, G⟩
theorem LS_no (c : pt_Ca Hh a1 (pt_MEM mi ml ex) (.inl (some (vI k)), pt_MEM mi ml (ex + 1))) (hk : ¬ k = 0) (hm : pt_Ca M a2 (pt_MEM mi ml (ex + 1)) (.inl (some (vI b)), pt_MEM (th mi k) ml (ex + 1))) (R : RC mi S s H K T n X) (Rm : RM mi S s H K T n X) (G : GG S s H K T n A P) : LStp Hh a1 M a2 mi ml ex A P := by
  obtain ⟨q1, q2, q3⟩ := Rm.th (x := k)
  exact ⟨k, b, mi, ml, ex + 1, th mi k, c, hm, q3, fun e => absurd e hk, by omega, S, s, H, K, T, n, X, R.fr q2 (by decide), q1, G.up⟩
theorem LS_lk (c : pt_Ca Hh a1 (pt_MEM mi ml ex) (.inl (some (vI 0)), pt_MEM mi1 (pt_up3 ml 23 0 0 (Int32.toInt64 w)) ex)) (fr : Fr [3, 12, 13] mi mi1) (R : RC mi S s H K T n X) (Rm : RM mi S s H K T n X) (hm : ∀ ml, RM mi1 S s H K T n X → pt_Ca M a2 (pt_MEM mi1 ml ex) (.inl (some (vI w)), pt_MEM (th mi1 0) ml ex)) (G : GG S s H K T n A P) : LStp Hh a1 M a2 mi ml ex A P :=
  LS_ok c Rm (R.fr fr (by decide)) (fr.wd (by decide)) (fun ml r => ⟨th mi1 0, hm ml r, (r.th (x := 0)).1, (r.th (x := 0)).2.2, (r.th (x := 0)).2.1⟩) G.up
theorem in_240 {x : Int32} (h : sIn3 x 1 240 = true) : ∃ k, k ≤ 240 ∧ x = nI k := by
  have h2 := sIn3_t.mp h
  have h3 : sIn3 x 0 240 = true := sIn3_t.mpr ⟨fun c => h2.1 (Int32.lt_trans c (by decide)), h2.2⟩
  obtain ⟨k, hk, e⟩ := sIn3_nI (n := 240) (by decide) (by decide +kernel) h3
  exact ⟨k, by omega, e⟩
theorem in_2 {x : Int32} (h : sIn3 x 0 1 = true) : ∃ p, p < 2 ∧ x = nI p := by
  obtain ⟨k, hk, e⟩ := sIn3_nI (n := 1) (by decide) (by decide +kernel) h
  exact ⟨k, by omega, e⟩
theorem in_10 {x : Int32} (h : sIn3 x 0 9 = true) : ∃ p, p < 10 ∧ x = nI p := by
  obtain ⟨k, hk, e⟩ := sIn3_nI (n := 9) (by decide) (by decide +kernel) h
  exact ⟨k, by omega, e⟩
theorem in_11 {x : Int32} (h : sIn3 x 0 10 = true) : ∃ p, p < 11 ∧ x = nI p := by
  obtain ⟨k, hk, e⟩ := sIn3_nI (n := 10) (by decide) (by decide +kernel) h
  exact ⟨k, by omega, e⟩
theorem in_6 {x : Int32} (h : sIn3 x 0 5 = true) : ∃ p, p < 6 ∧ x = nI p := by
  obtain ⟨k, hk, e⟩ := sIn3_nI (n := 5) (by decide) (by decide +kernel) h
  exact ⟨k, by omega, e⟩
theorem st0 {x1 x2 x3 x4 x5 : Int32} (Z : Sim mi A P) (hA : A ≤ 90000) (h5 : x5 = 0 ∨ x5 = 1) : LStp 159 [vR 8 0, vI x1, vI x2, vI x3, vI x4, vI x5, vR 23 0] 114 [vR 9 0, vI x1, vI x2, vI x3, vI x4, vI x5] mi ml ex A P := by
  obtain ⟨S, s, H, K, T, n, X, R, Rm, G⟩ := Z
  cases e : okT x1 x2 x3 x4 with
  | false => exact LS_no (h159x1 (c54t e)) (by decide) (m114t e) R Rm G
  | true =>
    obtain ⟨mi1, c, R1, f⟩ := c54 (ml := ml) (ex := ex) R G.1 e h5
    exact LS_ok (h159 c) Rm R1 f (fun _ r => m114 r e h5) (G.push ((G.1.takes (by omega) e h5).mono (by omega) (by omega)))
theorem st1 {t x : Int32} (Z : Sim mi A P) (hP : P ≤ 3000000) : LStp 160 [vR 8 0, vI t, vI x, vR 23 0] 115 [vR 9 0, vI t, vI x] mi ml ex A P := by
  obtain ⟨S, s, H, K, T, n, X, R, Rm, G⟩ := Z
  cases e : sIn3 x 0 7 with
  | false => exact LS_no (h160x3 (c55t e)) (by decide) (m115t e) R Rm G
  | true =>
    obtain ⟨mi1, c, R1, f⟩ := c55 (ml := ml) (ex := ex) (t := t) R G.1 e
    exact LS_ok (h160 c) Rm R1 f (fun _ r => m115 r G.1 (by omega) e) (G.push ((G.1.give (by omega)).mono (by omega) (by omega)))
theorem st2 {x : Int32} (Z : Sim mi A P) : LStp 161 [vR 8 0, vI x, vR 23 0] 116 [vR 9 0, vI x] mi ml ex A P := by
  obtain ⟨S, s, H, K, T, n, X, R, Rm, G⟩ := Z
  cases e : sIn3 x 0 9 with
  | false => exact LS_no (h161x3 (c56a e)) (by decide) (m116a e) R Rm G
  | true =>
    obtain ⟨p, hp, rfl⟩ := in_10 e
    cases h : sHere S p with
    | false => exact LS_no (h161x3 (c56b hp R h)) (by decide) (m116b hp Rm h) R Rm G
    | true =>
      by_cases h6 : S (9 * p + 6) = 0
      · obtain ⟨mi1, c, R1, f⟩ := c56 (ml := ml) (ex := ex) hp R G.1 h h6
        refine LS_ok (h161 c) Rm R1 f (fun _ r => m116 hp r h h6) (G.push' (G.1.rush hp ?_))
        rcases (G.1.1.1 p hp).1 with z | z
        · rw [z]; exact Or.inr (by decide)
        · rw [z]; exact Or.inl (by decide)
      · exact LS_no (h161x2 (c56c hp R h h6)) (by decide) (m116c hp Rm h h6) R Rm G
theorem st3 {x : Int32} (Z : Sim mi A P) (hA : A ≤ 90000) : LStp 162 [vR 8 0, vI x, vR 23 0] 117 [vR 9 0, vI x] mi ml ex A P := by
  obtain ⟨S, s, H, K, T, n, X, R, Rm, G⟩ := Z
  cases e : sIn3 x 0 1 with
  | false => exact LS_no (h162x3 (c57t e)) (by decide) (m117t e) R Rm G
  | true =>
    obtain ⟨p, hp, rfl⟩ := in_2 e
    obtain ⟨w, mi1, c, hw, R1, f⟩ := c57 (ml := ml) (ex := ex) hp R G.1 (by omega)
    exact LS_ok (h162 c) Rm R1 f (fun _ r => m117 hp r G.1 (by omega) hw) (G.push' (G.1.loads (by omega) hp hw))
theorem st4 {x y : Int32} (Z : Sim mi A P) : LStp 163 [vR 8 0, vI x, vI y, vR 23 0] 118 [vR 9 0, vI x, vI y] mi ml ex A P := by
  obtain ⟨S, s, H, K, T, n, X, R, Rm, G⟩ := Z
  cases e : sIn3 x 0 1 with
  | false => exact LS_no (h163x3 (c58a e)) (by decide) (m118a e) R Rm G
  | true =>
    cases hy : sIn3 y 10 60 with
    | false => exact LS_no (h163x1 (c58b e hy)) (by decide) (m118b e hy) R Rm G
    | true =>
      obtain ⟨p, hp, rfl⟩ := in_2 e
      cases hI : sIdle S p with
      | false => exact LS_no (h163x2 (c58c hp hy R hI)) (by decide) (m118c hp hy Rm hI) R Rm G
      | true =>
        obtain ⟨mi1, c, R1, f⟩ := c58 (ml := ml) (ex := ex) hp hy R G.1 hI
        exact LS_ok (h163 c) Rm R1 f (fun _ r => m118 hp hy r hI) (G.push' (G.1.up (by omega)))
theorem st5 {x : Int32} (Z : Sim mi A P) (hP : P ≤ 3000000) : LStp 164 [vR 8 0, vI x, vR 23 0] 119 [vR 9 0, vI x] mi ml ex A P := by
  obtain ⟨S, s, H, K, T, n, X, R, Rm, G⟩ := Z
  cases e : sIn3 x 1 240 with
  | false => exact LS_no (h164x1 (c59a e)) (by decide) (m119a e) R Rm G
  | true =>
    obtain ⟨k, hk, rfl⟩ := in_240 e
    by_cases h2 : S 96 + nI k ≤ 99999
    · obtain ⟨mi1, c, R1, f⟩ := c59 (ml := ml) (ex := ex) R G.1 e hk h2
      have gg := (sPass_good G.1 (by omega) hk (pass_clock G.1 hk h2) k (Nat.le_refl k)).1
      exact LS_ok (h164 c) Rm R1 f (fun _ r => m119 r G.1 (by omega) e hk h2) (G.push (gg.mono (by omega) (by omega)))
    · exact LS_no (h164x2 (c59b R e h2)) (by decide) (m119b Rm e h2) R Rm G
theorem st6 {x y : Int32} (Z : Sim mi A P) : LStp 165 [vR 8 0, vI x, vI y, vR 23 0] 120 [vR 9 0, vI x, vI y] mi ml ex A P := by
  obtain ⟨S, s, H, K, T, n, X, R, Rm, G⟩ := Z
  cases e : sIn3 x 0 1 with
  | false => exact LS_no (h165x3 (c60a e)) (by decide) (m120a e) R Rm G
  | true =>
    cases hy : fits x y with
    | false => exact LS_no (h165x1 (c60b e hy)) (by decide) (m120b e hy) R Rm G
    | true =>
      obtain ⟨p, hp, rfl⟩ := in_2 e
      obtain ⟨mi1, c, R1, f⟩ := c60 (ml := ml) (ex := ex) hp hy R G.1
      refine LS_ok (h165 c) Rm R1 f (fun _ r => m120 hp hy r) (G.push' ?_)
      match p, hp with
      | 0, _ => exact G.1.up (by decide)
      | 1, _ =>
        refine G.1.up105 ?_
        have hy2 : sIn3 y 0 1 = true := hy
        obtain ⟨q, hq, rfl⟩ := in_2 hy2
        match q, hq with
        | 0, _ => exact Or.inl (by decide +kernel)
        | 1, _ => exact Or.inr (by decide +kernel)
theorem st7 {x : Int32} (Z : Sim mi A P) : LStp 166 [vR 8 0, vI x, vR 23 0] 121 [vR 9 0, vI x] mi ml ex A P := by
  obtain ⟨S, s, H, K, T, n, X, R, Rm, G⟩ := Z
  cases e : sIn3 x 33 126 with
  | false => exact LS_no (h166x1 (c62a e)) (by decide) (m121a e) R Rm G
  | true =>
    by_cases hn : n < 60
    · obtain ⟨mi1, c, R1, f⟩ := c62 (ml := ml) (ex := ex) R hn e
      have u := G.up
      exact LS_ok (h166 c) Rm R1 f (fun _ r => m121 r hn e) ⟨u.1, u.2.1, u.2.2.1, by omega⟩
    · have h60 : n = 60 := by have := G.2.2.2; omega
      subst h60
      exact LS_no (h166x2 (c62b R e)) (by decide) (m121b Rm e) R Rm G
theorem st11 {x : Int32} (Z : Sim mi A P) : LStp 168 [vR 8 0, vI x, vR 23 0] 130 [vR 9 0, vI x] mi ml ex A P := by
  obtain ⟨S, s, H, K, T, n, X, R, Rm, G⟩ := Z
  cases e : sIn3 x 0 1 with
  | false => exact LS_no (h168x1 (c66t e)) (by decide) (m130t e) R Rm G
  | true =>
    obtain ⟨p, hp, rfl⟩ := in_2 e
    obtain ⟨mi1, c, R1, f⟩ := c66 (ml := ml) (ex := ex) hp R G.1
    have u := G.up
    refine LS_ok (h168 c) Rm R1 f (fun _ r => m130 hp r) ⟨u.1, u.2.1, fun j hj hk => ?_, u.2.2.2⟩
    show Good (if j = p then S else T j) _ _
    by_cases d : j = p
    · rw [if_pos d]; exact u.1
    · rw [if_neg d]
      have hk' : (if j = p then true else K j) = true := hk
      rw [if_neg d] at hk'
      exact u.2.2.1 j hj hk'
theorem st12 {x : Int32} (Z : Sim mi A P) : LStp 169 [vR 8 0, vI x, vR 23 0] 131 [vR 9 0, vI x] mi ml ex A P := by
  obtain ⟨S, s, H, K, T, n, X, R, Rm, G⟩ := Z
  cases e : sIn3 x 0 1 with
  | false => exact LS_no (h169x1 (c67a e)) (by decide) (m131a e) R Rm G
  | true =>
    obtain ⟨p, hp, rfl⟩ := in_2 e
    cases hK : K p with
    | false => exact LS_no (h169x2 (c67b hp R hK)) (by decide) (m131b hp Rm hK) R Rm G
    | true =>
      have gT := G.2.2.1 p hp hK
      obtain ⟨mi1, c, R1, f⟩ := c67 (ml := ml) (ex := ex) hp R G.1 gT hK
      exact LS_ok (h169 c) Rm R1 f (fun _ r => m131 hp r hK) (G.push' gT)
theorem st13 (Z : Sim mi A P) : LStp 170 [vR 8 0, vR 23 0] 132 [vR 9 0] mi ml ex A P := by
  obtain ⟨S, s, H, K, T, n, X, R, Rm, G⟩ := Z
  match s with
  | 0 => exact LS_no (h170x2 (c68t R)) (by decide) (m132t Rm) R Rm G
  | s + 1 =>
    obtain ⟨mi1, c, R1, f⟩ := c68 (ml := ml) (ex := ex) R (G.2.1 s (by omega))
    have u := G.up
    exact LS_ok (h170 c) Rm R1 f (fun _ r => m132 r) ⟨u.2.1 s (by omega), fun j hj => u.2.1 j (by omega), u.2.2⟩
theorem st14 {x y : Int32} (Z : Sim mi A P) (hA : A ≤ 90000) : LStp 171 [vR 8 0, vI x, vI y, vR 23 0] 134 [vR 9 0, vI x, vI y] mi ml ex A P := by
  obtain ⟨S, s, H, K, T, n, X, R, Rm, G⟩ := Z
  cases e : sIn3 x 0 9 with
  | false => exact LS_no (h171x3 (c69a e)) (by decide) (m134a e) R Rm G
  | true =>
    cases hy : sIn3 y 0 10 with
    | false => exact LS_no (h171x1 (c69b e hy)) (by decide) (m134b e hy) R Rm G
    | true =>
      obtain ⟨p, hp, rfl⟩ := in_10 e
      obtain ⟨j, hj, rfl⟩ := in_11 hy
      obtain ⟨mi1, c, f⟩ := c69 (mi := mi) (ml := ml) (ex := ex) hp hj (by rw [R.1]; exact G.1.GO (by omega))
      rw [R.1] at c
      refine LS_lk (h171 c) (f.wd (by decide)) R Rm (fun ml r => ?_) G
      rw [← r.1]
      exact m134 hp hj
theorem st15 {x y : Int32} (Z : Sim mi A P) : LStp 172 [vR 8 0, vI x, vI y, vR 23 0] 136 [vR 9 0, vI x, vI y] mi ml ex A P := by
  obtain ⟨S, s, H, K, T, n, X, R, Rm, G⟩ := Z
  cases e : sIn3 x 0 1 with
  | false => exact LS_no (h172x3 (c71a e)) (by decide) (m136a e) R Rm G
  | true =>
    cases hy : sIn3 y 0 5 with
    | false => exact LS_no (h172x1 (c71b e hy)) (by decide) (m136b e hy) R Rm G
    | true =>
      obtain ⟨p, hp, rfl⟩ := in_2 e
      obtain ⟨j, hj, rfl⟩ := in_6 hy
      have c := c71 (mi := mi) (ml := ml) (ex := ex) hp hj
      rw [R.1] at c
      refine LS_lk (h172 c) Fr.rfl' R Rm (fun ml r => ?_) G
      have := m136 (mi := mi) (ml := ml) (ex := ex) hp hj (by rw [r.1]; exact col_same G.1.1.2.2.2.1 _)
      rw [r.1] at this
      exact this
theorem st16 {x : Int32} (Z : Sim mi A P) : LStp 173 [vR 8 0, vI x, vR 23 0] 137 [vR 9 0, vI x] mi ml ex A P := by
  obtain ⟨S, s, H, K, T, n, X, R, Rm, G⟩ := Z
  cases e : sIn3 x 0 7 with
  | false => exact LS_no (h173x3 (c72a e)) (by decide) (m137a e) R Rm G
  | true =>
    have c := c72 (mi := mi) (ml := ml) (ex := ex) e
    rw [R.1] at c
    refine LS_lk (h173 c) Fr.rfl' R Rm (fun ml r => ?_) G
    have := m137 (mi := mi) (ml := ml) (ex := ex) e
    rw [r.1, mShelf_same G.1.1.2.2.1] at this
    exact this
theorem st17 {x : Int32} (Z : Sim mi A P) : LStp 174 [vR 8 0, vI x, vR 23 0] 140 [vR 9 0, vI x] mi ml ex A P := by
  obtain ⟨S, s, H, K, T, n, X, R, Rm, G⟩ := Z
  cases e : sIn3 x 0 10 with
  | false => exact LS_no (h174x1 (c73a e)) (by decide) (m140a e) R Rm G
  | true =>
    obtain ⟨j, hj, rfl⟩ := in_11 e
    by_cases d : j < 10
    · have c := c73 (mi := mi) (ml := ml) (ex := ex) d
      rw [R.1] at c
      refine LS_lk (h174 c) Fr.rfl' R Rm (fun ml r => ?_) G
      rw [← r.1]
      exact m140 d
    · have d10 : j = 10 := by omega
      subst d10
      have c := c73h (mi := mi) (ml := ml) (ex := ex)
      obtain ⟨q, hi⟩ := R.2.1
      rw [hi.2.2.1] at c
      refine LS_lk (h174 c) Fr.rfl' R Rm (fun ml r => ?_) G
      rw [← r.2.1.1]
      exact m140h
theorem st18 {x : Int32} (Z : Sim mi A P) : LStp 175 [vR 8 0, vI x, vR 23 0] 141 [vR 9 0, vI x] mi ml ex A P := by
  obtain ⟨S, s, H, K, T, n, X, R, Rm, G⟩ := Z
  cases e : sIn3 x 0 1 with
  | false => exact LS_no (h175x3 (c74a e)) (by decide) (m141a e) R Rm G
  | true =>
    obtain ⟨p, hp, rfl⟩ := in_2 e
    have c := c74 (mi := mi) (ml := ml) (ex := ex) hp
    rw [R.1] at c
    refine LS_lk (h175 c) Fr.rfl' R Rm (fun ml r => ?_) G
    rw [← r.1]
    exact m141 hp
theorem st19 {x : Int32} (Z : Sim mi A P) (hA : A ≤ 90000) : LStp 176 [vR 8 0, vI x, vR 23 0] 142 [vR 9 0, vI x] mi ml ex A P := by
  obtain ⟨S, s, H, K, T, n, X, R, Rm, G⟩ := Z
  by_cases d : x < 0
  · exact LS_no (h176x1 (c75n d)) (by decide) (m142n d) R Rm G
  · obtain ⟨mi1, c, f⟩ := c75 (mi := mi) (ml := ml) (ex := ex) d (by rw [R.1]; exact G.1.GO (by omega))
    rw [R.1] at c
    refine LS_lk (h176 c) (f.wd (by decide)) R Rm (fun ml r => ?_) G
    rw [← r.1]
    exact m142 d
theorem st20 {x : Int32} (Z : Sim mi A P) (hA : A ≤ 90000) : LStp 177 [vR 8 0, vI x, vR 23 0] 143 [vR 9 0, vI x] mi ml ex A P := by
  obtain ⟨S, s, H, K, T, n, X, R, Rm, G⟩ := Z
  cases e : sIn3 x 0 1 with
  | false => exact LS_no (h177x3 (c76x e)) (by decide) (m143x e) R Rm G
  | true =>
    obtain ⟨p, hp, rfl⟩ := in_2 e
    obtain ⟨mi1, w, c, hw, f⟩ := c76 (mi := mi) (ml := ml) (ex := ex) hp (by rw [R.1]; exact G.1.GO (by omega))
    rw [R.1] at hw
    exact LS_lk (h177 c) (f.wd (by decide)) R Rm (fun ml r => m143 hp (by rw [r.1]; exact G.1.GO (by omega)) (by rw [r.1]; exact G.1.col) (by rw [r.1]; exact hw)) G
theorem st22 {x : Int32} (Z : Sim mi A P) (hA : A ≤ 90000) : LStp 178 [vR 8 0, vI x, vR 23 0] 150 [vR 9 0, vI x] mi ml ex A P := by
  obtain ⟨S, s, H, K, T, n, X, R, Rm, G⟩ := Z
  cases e : sIn3 x 0 1 with
  | false => exact LS_no (h178x1 (c78t e)) (by decide) (m150t e) R Rm G
  | true =>
    have fo := G.1.FO (show A ≤ 100000 by omega)
    obtain ⟨L, q, M, mi1, -, -, hL, hB, c, f⟩ := c78 (ml := ml) (ex := ex) e R.1 fo
    exact LS_lk (h178 c) f R Rm (fun ml r => m150 e r.1 fo hL hB) G
theorem st10 (Z : Sim mi A P) (hA : A ≤ 90000) : LStp 167 [vR 8 0, vR 23 0] 129 [vR 9 0] mi ml ex A P := by
  obtain ⟨S, s, H, K, T, n, X, R, Rm, G⟩ := Z
  have hn := G.2.2.2
  obtain ⟨j, b, hj, h, he⟩ := ats_ex X (aBeg (mi 6 0)) n
  cases hw : decide (j = n) && aEnd b with
  | false =>
    obtain ⟨mi1, c, R1, f⟩ := c65t (ml := ml) (ex := ex) R hn hj h he hw
    obtain ⟨mi2, q1, q2, q3, q4⟩ := m129t (ml := ml) (ex := ex + 1) (a := aBeg (mi 6 0)) (Rm.fr f (by decide)) hn (aBeg_I _) (aBeg_0 _).1 hj h he hw
    exact ⟨1, 0, mi1, ml, ex + 1, mi2, h167x1 c, q1, q3, fun e => absurd e (by decide), by omega, S, s, H, K, T, n, X, R1.fr q4 (by decide), q2, G.up⟩
  | true =>
    rw [Bool.and_eq_true, decide_eq_true_iff] at hw
    obtain ⟨hw1, hE⟩ := hw
    subst hw1
    obtain ⟨mi1, a', b', h0', hI', h', hE', c, R1, f⟩ := c65 (ml := ml) (ex := ex) R G.1 hn h hE
    have gg := adm_good (X := X) (P := P) hI' h' hE' (j + 1) 0 0 S A (by omega) (by omega) G.1
    have G2 := G.push (gg.mono (by omega) (by omega))
    exact LS_ok (h167 c) Rm R1 f (fun _ r => m129 r hn (aBeg_I _) (aBeg_0 _).1 h hE hI' h0' h' hE') ⟨G2.1, G2.2.1, G2.2.2.1, by omega⟩
end
