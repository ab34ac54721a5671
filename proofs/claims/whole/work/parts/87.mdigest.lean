/-! The digest in the model. -/
abbrev dm (ml : Nat → Nat → Nat → Int64) (h : Int64) : Nat → Nat → Nat → Int64 := pt_up3 ml 9 0 15 h
theorem dm_dm (ml : Nat → Nat → Nat → Int64) (h h' : Int64) : pt_up3 (dm ml h) 9 0 15 h' = dm ml h' := by
  funext c n j
  unfold dm pt_up3
  by_cases e : c = 9 ∧ n = 0 ∧ j = 15
  · rw [if_pos e, if_pos e]
  · rw [if_neg e, if_neg e, if_neg e]
theorem fo_add {α : Type} (f : Nat → α → α) (n : Nat) (a : α) : ∀ k, fo f (n + k) a = fo (fun i => f (n + i)) k (fo f n a)
  | 0 => rfl
  | k + 1 => by
    show f (n + k) (fo f (n + k) a) = f (n + k) (fo (fun i => f (n + i)) k (fo f n a))
    rw [fo_add f n a k]
theorem fo_flat {α : Type} (g : Nat → Nat → α → α) (a : α) : ∀ m, fo (fun k a => g (k / 11) (k % 11) a) (11 * m) a = fo (fun p a => fo (fun j a => g p j a) 11 a) m a
  | 0 => rfl
  | m + 1 => by
    rw [show 11 * (m + 1) = 11 * m + 11 from rfl, fo_add, fo_flat g a m]
    exact fo_congr (fun j b hj => by
      have h1 : (11 * m + j) / 11 = m := by omega
      have h2 : (11 * m + j) % 11 = j := by omega
      rw [h1, h2])
section
variable {mi : Nat → Nat → Nat → Int32} {ml : Nat → Nat → Nat → Int64} {ex : Nat} {S : Nat → Int32} {s : Nat} {H : Nat → Nat → Int32} {K : Nat → Bool} {T : Nat → Nat → Int32} {n : Nat} {X : Nat → Int32} {A P : Int}
theorem m154 {h x : Int64} : pt_Ca 154 [vR 9 0, vJ x] (pt_MEM mi (dm ml h) ex) (.inl none, pt_MEM mi (dm ml (31 * h + x)) ex) := by
  have := r154_0 (mi := mi) (ml := dm ml h) (ex := ex) (x1 := x) (u2 := none)
  have e : dm ml h 9 0 15 = h := up3_eq _ _ _ _ _
  rw [dm_dm, e] at this
  exact this
theorem m154i {h : Int64} {v : Int32} : pt_Ca 154 [vR 9 0, vJ (Int32.toInt64 v)] (pt_MEM mi (dm ml h) ex) (.inl none, pt_MEM mi (dm ml (h64 h v)) ex) := m154
theorem m105w {m : Nat} {w : Int32} (hS : ms mi = S) (g : Good S A P) (hA : A ≤ 100000) (hm : m < 2) (hw : sWL S (S (90 + 3 * m + 0)) w) : pt_Ca 105 [vR 9 0, vI (nI m)] (pt_MEM mi ml ex) (.inl (some (vI w)), pt_MEM mi ml ex) := by
  have gO := g.GO hA
  obtain ⟨L, n, hL⟩ := LN_ex (sSTO (S 105) gO) 10 (Nat.le_refl 10)
  have call := m105 (mi := mi) (ml := ml) (ex := ex) (L := L) (n := n) hm (by rw [hS]; exact gO) (by rw [hS]; exact hL)
  have ew : mWL (ms mi) L n (ms mi (90 + 3 * m + 0)) = w := by
    rw [hS, hw L n hL, wl_same gO hL g.col]
    rfl
  rw [ew] at call
  exact call
theorem m155 {h : Int64} {w0 w1 : Int32} (hS : ms mi = S) (g : Good S A P) (hA : A ≤ 100000) (h0 : sWL S (S 90) w0) (h1 : sWL S (S 93) w1) : pt_Ca 155 [vR 9 0] (pt_MEM mi (dm ml h) ex) (.inl none, pt_MEM mi (dm ml (fo (fun r a => h64 a (oI (mRanked S (nI r)))) 10 (dg3 S w0 w1 (dg2 S h)))) ex) := by
  have hcol : ∀ m, sColF (ms mi) m = mCol (ms mi) m := fun m => by rw [hS]; exact col_same g.1.2.2.2.1 m
  generalize hO : ((Sum.inl none, pt_MEM mi (dm ml (fo (fun r a => h64 a (oI (mRanked S (nI r)))) 10 (dg3 S w0 w1 (dg2 S h)))) ex) : pt_O) = O
  -- the ranks
  have t4 : ∀ u, pt_Ev 155 none 105 [some (vR 9 0), some (vI (nI 0)), u] [] (pt_MEM mi (dm ml (dg3 S w0 w1 (dg2 S h))) ex) O := fun u => by
    refine fo_up (E := fun k a => pt_Ev 155 none 105 [some (vR 9 0), some (vI (nI k)), u] [] (pt_MEM mi (dm ml a) ex) O) (f := fun r a => h64 a (oI (mRanked S (nI r)))) (n := 10) (a := dg3 S w0 w1 (dg2 S h)) (fun k a hk kk => ?_) ?_
    · rw [nI_succ k] at kk
      have call := m99 (mi := mi) (ml := dm ml a) (ex := ex) (x := nI k)
      rw [hS] at call
      exact r155_105 (fun c => absurd c (n10_le hk)) (fun _ => r155_111 call (r155_117 m154i (r155_121 kk)))
    · rw [← hO]
      exact r155_105 (fun _ => r155_127) (fun c => absurd n10_le' c)
  -- the shelves
  have t3 : ∀ u, pt_Ev 155 none 81 [some (vR 9 0), some (vI (nI 0)), u] [] (pt_MEM mi (dm ml (dgM S 1 w1 (dgM S 0 w0 (dg2 S h)))) ex) O := fun u => by
    refine fo_up (E := fun k a => pt_Ev 155 none 81 [some (vR 9 0), some (vI (nI k)), u] [] (pt_MEM mi (dm ml a) ex) O) (f := fun k a => h64 a (oI (sShelf S (nI k)))) (n := 8) (a := dgM S 1 w1 (dgM S 0 w0 (dg2 S h))) (fun k a hk kk => ?_) ?_
    · rw [nI_succ k] at kk
      have call := m107 (mi := mi) (ml := dm ml a) (ex := ex) (x := nI k)
      rw [hS, mShelf_same g.1.2.2.1] at call
      exact r155_81 (fun c => absurd c (n8_le hk)) (fun _ => r155_87 call (r155_93 m154i (r155_97 kk)))
    · refine r155_81 (fun _ => r155_103 ?_) (fun c => absurd n8_le' c)
      rw [← nI_0]
      exact t4 u
  -- a machine
  have mach : ∀ m w a u, m < 2 → sWL S (S (90 + 3 * m + 0)) w → (∀ u, pt_Ev 155 none 33 [some (vR 9 0), some (vI (nI m + 1)), u] [] (pt_MEM mi (dm ml (dgM S m w a)) ex) O) → pt_Ev 155 none 33 [some (vR 9 0), some (vI (nI m)), u] [] (pt_MEM mi (dm ml a) ex) O := by
    intro m w a u hm hw kk
    refine r155_33 (fun c => absurd c (n2_le hm)) (fun _ => r155_38 ?_)
    rw [← nI_0]
    refine fo_up (E := fun j b => pt_Ev 155 none 40 [some (vR 9 0), some (vI (nI m)), some (vI (nI j))] [] (pt_MEM mi (dm ml b) ex) O) (f := fun j a => h64 a (sMach S m j)) (n := 6) (a := a) (fun j b hj k2 => ?_) ?_
    · rw [nI_succ j] at k2
      have call := m135 (mi := mi) (ml := dm ml b) (ex := ex) hm hj (hcol _)
      rw [hS] at call
      exact r155_40 (fun c => absurd c (n6_le hj)) (fun _ => r155_46 call (r155_53 m154i (r155_57 k2)))
    · exact r155_40 (fun _ => r155_63 (m105w hS g hA hm hw) (r155_69 m154i (r155_73 (kk _)))) (fun c => absurd n6_le' c)
  have t2 : ∀ u, pt_Ev 155 none 33 [some (vR 9 0), some (vI (nI 0)), u] [] (pt_MEM mi (dm ml (dg2 S h)) ex) O := fun u => by
    refine mach 0 w0 _ u (by decide) h0 (fun u => ?_)
    rw [show nI 0 + 1 = nI 1 from by decide +kernel]
    refine mach 1 w1 _ u (by decide) h1 (fun u => ?_)
    rw [show nI 1 + 1 = nI 2 from by decide +kernel]
    refine r155_33 (fun _ => r155_79 ?_) (fun c => absurd n2_le' c)
    rw [← nI_0]
    exact t3 u
  -- the piles
  refine r155_0 ?_
  rw [← nI_0]
  refine fo_up (E := fun k a => pt_Ev 155 none 2 [some (vR 9 0), some (vI (nI k)), none] [] (pt_MEM mi (dm ml a) ex) O) (f := fun k a => h64 a (mOf S (k / 11) (k % 11))) (n := 110) (a := h) (fun k a hk kk => ?_) ?_
  · rw [nI_succ k] at kk
    have call := m133 (mi := mi) (ml := dm ml a) (ex := ex) (p := k / 11) (j := k % 11) (by omega) (by omega)
    rw [hS] at call
    refine r155_2 (fun c => absurd c (nI_ge (a := k) (b := 110) hk (by decide))) (fun _ => r155_8 ?_ (r155_21 m154i (r155_25 kk)))
    have e11 : (11 : Int32) = nI 11 := by decide +kernel
    rw [e11, pk_rem (by omega) (by decide) (by decide), pk_div (by omega) (by decide) (by decide)]
    exact call
  · have ef := fo_flat (fun p j a => h64 a (mOf S p j)) h 10
    have ef' : fo (fun k a => h64 a (mOf S (k / 11) (k % 11))) 110 h = dg2 S h := ef
    rw [ef']
    refine r155_2 (fun _ => r155_31 ?_) (fun c => absurd (show (110 : Int32) ≤ nI 110 by decide +kernel) c)
    rw [← nI_0]
    exact t2 _
theorem Good.ends (g : Good S A P) : cEnd S = mEnd S := by
  have r : ∀ m, m < 2 → S (90 + 3 * m + 1) = -1 ∨ (0 ≤ (S (90 + 3 * m + 1)).toInt ∧ (S (90 + 3 * m + 1)).toInt < 2 ^ 20) := fun m hm => (g.1.2.2.2.2.1 m hm).imp (fun z => z.1) id
  have c := g.2.1.2.1
  exact end_same ⟨c.1, by omega⟩ (r 0 (by decide)) (r 1 (by decide))
theorem m149v {fl : Int32} (hS : ms mi = S) (f : FO S) (hfl : sFL S fl) : pt_Ca 149 [vR 9 0] (pt_MEM mi ml ex) (.inl (some (vI fl)), pt_MEM mi ml ex) := by
  obtain ⟨L, n, hL⟩ := LN_ex (sSTO 0 f.1) 10 (Nat.le_refl 10)
  obtain ⟨M, -, m2, m3⟩ := m149 (ml := ml) (ex := ex) hS f hL
  rw [sFL_un hfl (sFL_of f hL m2)]
  exact m3
theorem m156 {w0 w1 fl : Int32} (R : RM mi S s H K T n X) (g : Good S A P) (hA : A ≤ 100000) (hn : n ≤ 60) (h0 : sWL S (S 90) w0) (h1 : sWL S (S 93) w1) (hfl : sFL S fl) : pt_Ca 156 [vR 9 0] (pt_MEM mi ml ex) (.inl (some (vJ (dig S s K n X w0 w1 fl))), pt_MEM (th mi 0) (dm ml (dig S s K n X w0 w1 fl)) ex) := by
  have R' := (R.th (x := 0)).1
  have start : ∀ {o}, pt_Ev 156 none 14 [some (vR 9 0), some (vI 0), none] [] (pt_MEM (th mi 0) (dm ml 3557) ex) o → pt_Ev 156 none 0 [some (vR 9 0), none, none] [] (pt_MEM mi ml ex) o := fun k => r156_0 k
  have fr0 : pt_Ca 156 [vR 9 0] (pt_MEM mi ml ex) (.inl (some (vJ (dig S s K n X w0 w1 fl))), pt_MEM (th mi 0) (dm ml (dig S s K n X w0 w1 fl)) ex) = pt_Ev 156 none 0 [some (vR 9 0), none, none] [] (pt_MEM mi ml ex) (.inl (some (vJ (dig S s K n X w0 w1 fl))), pt_MEM (th mi 0) (dm ml (dig S s K n X w0 w1 fl)) ex) := rfl
  rw [fr0]
  clear fr0 R
  generalize th mi 0 = m0 at *
  obtain ⟨hS, ⟨r3, r4, -⟩, ⟨r5, -⟩, r7, r8⟩ := R'
  have e104 : m0 14 0 104 = S 104 := by rw [ms_e m0 (by omega), hS]
  have e105 : m0 14 0 105 = S 105 := by rw [ms_e m0 (by omega), hS]
  generalize hO : ((Sum.inl (some (vJ (dig S s K n X w0 w1 fl))), pt_MEM m0 (dm ml (dig S s K n X w0 w1 fl)) ex) : pt_O) = O
  -- the text
  have t6 : ∀ x1, pt_Ev 156 none 136 [some (vR 9 0), some (vI x1), some (vI (nI 0))] [] (pt_MEM m0 (dm ml (h64 (h64 (h64 (dg4 S fl (dg3 S w0 w1 (dg2 S (dg1 S s)))) (bI (K 0))) (bI (K 1))) (nI n))) ex) O := fun x1 => by
    refine fo_up (E := fun k a => pt_Ev 156 none 136 [some (vR 9 0), some (vI x1), some (vI (nI k))] [] (pt_MEM m0 (dm ml a) ex) O) (f := fun k a => h64 a (X k)) (n := n) (a := h64 (h64 (h64 (dg4 S fl (dg3 S w0 w1 (dg2 S (dg1 S s)))) (bI (K 0))) (bI (K 1))) (nI n)) (fun k a hk kk => ?_) ?_
    · rw [nI_succ k] at kk
      refine r156_136 (fun c => absurd (by rw [r7] at c; exact c) (nI_ge hk (by omega))) (fun _ => r156_144 rfl (by omega) ?_ (r156_155 kk))
      rw [r8 k hk]
      exact m154i
    · have fin := r156_161 (mi := m0) (ml := dm ml (dig S s K n X w0 w1 fl)) (ex := ex) (x1 := x1) (x2 := nI n)
      have e : dm ml (dig S s K n X w0 w1 fl) 9 0 15 = dig S s K n X w0 w1 fl := up3_eq _ _ _ _ _
      rw [e] at fin
      rw [← hO]
      exact r156_136 (fun _ => fin) (fun c => absurd (by rw [r7]; exact nI_le (Nat.le_refl n) (by omega)) c)
  have hk0 : kI K &&& 1 = bI (K 0) := by
    unfold kI
    cases K 0 <;> cases K 1 <;> decide +kernel
  have hk1 : (kI K >>> (1 &&& 31)) &&& 1 = bI (K 1) := by
    have := kI_bit K (p := 1) (by decide)
    rw [nI_1'] at this
    exact this
  -- from the slots on
  have t5 : ∀ x1 u, pt_Ev 156 none 101 [some (vR 9 0), some (vI x1), u] [] (pt_MEM m0 (dm ml (dg4 S fl (dg3 S w0 w1 (dg2 S (dg1 S s))))) ex) O := fun x1 u => by
    refine r156_101 (by rw [r5, hk0]; exact m154i) (r156_112 (by rw [r5, hk1]; exact m154i) (r156_125 (by rw [r7]; exact m154i) (r156_134 ?_)))
    rw [← nI_0]
    exact t6 _
  -- from the house on
  have e144 := m144 (mi := m0) (ml := dm ml (fo (fun r a => h64 a (oI (mRanked S (nI r)))) 10 (dg3 S w0 w1 (dg2 S (dg1 S s))))) (ex := ex)
  rw [hS, ← g.ends] at e144
  have u151 := fun h => m151 (mi := m0) (ml := dm ml h) (ex := ex) (P := P) (by rw [hS]; exact g.2.2)
  simp only [hS] at u151
  have t4 : ∀ x1 u, pt_Ev 156 none 60 [some (vR 9 0), some (vI x1), u] [] (pt_MEM m0 (dm ml (dg1 S s)) ex) O := fun x1 u =>
    r156_60 (m155 hS g hA h0 h1) (r156_64 e144 (r156_69 m154i (r156_73 (m149v hS (g.FO hA) hfl) (r156_77 m154i (r156_84 m154i (r156_90 (u151 _) (r156_95 (m153 (shW_ok g.2.2)) (r156_98 m154 (t5 _ _)))))))))
  -- the counts
  have n11 : ∀ k, k < 11 → ¬ (11 : Int32) ≤ nI k := by decide +kernel
  refine start ?_
  rw [← nI_0]
  refine fo_up (E := fun k a => pt_Ev 156 none 14 [some (vR 9 0), some (vI (nI k)), none] [] (pt_MEM m0 (dm ml a) ex) O) (f := fun k a => h64 a (if k = 10 then nI s else sCount S k)) (n := 11) (a := 3557) (fun k a hk kk => ?_) ?_
  · rw [nI_succ k] at kk
    have call : pt_Ca 139 [vR 9 0, vI (nI k)] (pt_MEM m0 (dm ml a) ex) (.inl (some (vI (if k = 10 then nI s else sCount S k))), pt_MEM m0 (dm ml a) ex) := by
      by_cases c : k = 10
      · subst c
        rw [if_pos rfl, ← r3]
        exact m139h
      · rw [if_neg c, ← hS]
        exact m139 (by omega)
    exact r156_14 (fun c => absurd c (n11 k hk)) (fun _ => r156_20 call (r156_26 m154i (r156_30 kk)))
  · refine r156_14 (fun _ => r156_36 (by rw [e104]; exact m154i) (r156_48 (by rw [e105]; exact m154i) (t4 _ _))) (fun c => absurd (show (11 : Int32) ≤ nI 11 by decide +kernel) c)
end
