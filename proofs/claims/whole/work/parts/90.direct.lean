/-! Both sides asked directly. -/
section
variable {mi : Nat → Nat → Nat → Int32} {ml : Nat → Nat → Nat → Int64} {ex : Nat} {A P : Int}
/-- asked on both sides, with the same answer -/
def Dir {α : Type} (C M : Nat) (mi : Nat → Nat → Nat → Int32) (ml : Nat → Nat → Nat → Int64) (ex : Nat) (A P : Int) (f : α → pt_V) : Prop := ∃ w mi1 mi2 ml2, pt_Ca C [vR 8 0] (pt_MEM mi ml ex) (.inl (some (f w)), pt_MEM mi1 ml ex) ∧ pt_Ca M [vR 9 0] (pt_MEM mi1 ml ex) (.inl (some (f w)), pt_MEM mi2 ml2 ex) ∧ Sim mi2 (A + 100) (P + 5000)
theorem Sim.two {mi1 mi2 : Nat → Nat → Nat → Int32} {S S' : Nat → Int32} {s : Nat} {H H' : Nat → Nat → Int32} {K : Nat → Bool} {T T' : Nat → Nat → Int32} {n : Nat} {X : Nat → Int32} (R1 : RC mi1 S s H K T n X) (f2 : Fr MK mi1 mi2) (R2 : RM mi2 S' s H' K T' n X) (G : GG S s H K T n (A + 100) (P + 5000)) (E : TT S s H K T S' H' T') : Sim mi2 (A + 100) (P + 5000) := ⟨S, s, H, K, T, n, X, S', H', T', R1.fr f2 (by decide), R2, G, E⟩
theorem sd8 (Z : Sim mi A P) : Dir 63 122 mi ml ex A P vI := by
  obtain ⟨S, s, H, K, T, n, X, S', H', T', R, Rm, G, E⟩ := Z
  obtain ⟨mi1, c, R1, f⟩ := c63 (ml := ml) (ex := ex) R
  obtain ⟨mi2, q1, q2, q3, q4⟩ := m122 (ml := ml) (ex := ex) (Rm.fr f (by decide))
  have u := G.up
  exact ⟨nI n, mi1, mi2, ml, c, q1, Sim.two R1 q4 q2 ⟨u.1, u.2.1, u.2.2.1, by omega⟩ E⟩
theorem sd9 (Z : Sim mi A P) : Dir 64 128 mi ml ex A P vI := by
  obtain ⟨S, s, H, K, T, n, X, S', H', T', R, Rm, G, E⟩ := Z
  have hn := G.2.2.2
  obtain ⟨j, b, hj, h, he⟩ := ats_ex X (aBeg (mi 6 0)) n
  obtain ⟨mi1, c, R1, f⟩ := c64 (ml := ml) (ex := ex) R hn hj h he
  obtain ⟨mi2, q1, q2, q3, q4⟩ := m128 (ml := ml) (ex := ex) (Rm.fr f (by decide)) hn (aBeg_I _) (aBeg_0 _).1 hj h he
  exact ⟨nI j, mi1, mi2, ml, c, q1, Sim.two R1 q4 q2 G.up E⟩
theorem sd21 (Z : Sim mi A P) : Dir 77 145 mi ml ex A P vI := by
  obtain ⟨S, s, H, K, T, n, X, S', H', T', R, Rm, G, E⟩ := Z
  have c := c77 (mi := mi) (ml := ml) (ex := ex)
  have d := m145 (mi := mi) (ml := ml) (ex := ex)
  rw [R.1] at c
  rw [Rm.1, ← (E.1.good G.1).ends, ← E.1.cEnd] at d
  obtain ⟨q1, q2, q3⟩ := Rm.th (x := 0)
  exact ⟨cEnd S, mi, th mi 0, ml, c, d, Sim.two R q2 q1 G.up E⟩
theorem sd23 (Z : Sim mi A P) : ∃ w mi2, FP.dcmp w w = some .eq ∧ pt_Ca 79 [vR 8 0] (pt_MEM mi ml ex) (.inl (some (vD w)), pt_MEM mi ml ex) ∧ pt_Ca 152 [vR 9 0] (pt_MEM mi ml ex) (.inl (some (vD w)), pt_MEM mi2 ml ex) ∧ Sim mi2 (A + 100) (P + 5000) := by
  obtain ⟨S, s, H, K, T, n, X, S', H', T', R, Rm, G, E⟩ := Z
  have c := c79 (mi := mi) (ml := ml) (ex := ex) (P := P) (by rw [R.1]; exact G.1.2.2)
  have d := m152 (mi := mi) (ml := ml) (ex := ex) (P := P) (by rw [Rm.1]; exact (E.1.good G.1).2.2)
  rw [R.1] at c
  rw [Rm.1, ← E.1.sh] at d
  obtain ⟨q1, q2, q3⟩ := Rm.th (x := 0)
  exact ⟨shW S, th mi 0, (shW_ok G.1.2.2).self, c, d, Sim.two R q2 q1 G.up E⟩
theorem sd24 (Z : Sim mi A P) (hA : A ≤ 90000) : Dir 80 156 mi ml ex A P vJ := by
  obtain ⟨S, s, H, K, T, n, X, S', H', T', R, Rm, G, E⟩ := Z
  obtain ⟨w0, w1, fl, mi1, a1, a2, a3, c, f⟩ := c80 (ml := ml) (ex := ex) R G.1 (by omega) G.2.2.2
  have Rm1 := Rm.fr f (by decide)
  have b1 : sWL S' (S' 90) w0 := by rw [← E.1.k (k := 90) (by decide)]; exact E.1.wl a1
  have b2 : sWL S' (S' 93) w1 := by rw [← E.1.k (k := 93) (by decide)]; exact E.1.wl a2
  have d := m156 (ml := ml) (ex := ex) Rm1 (E.1.good G.1) (by omega) G.2.2.2 b1 b2 (E.1.fl a3)
  rw [← E.1.dig] at d
  obtain ⟨q1, q2, q3⟩ := Rm1.th (x := 0)
  exact ⟨dig S s K n X w0 w1 fl, mi1, th mi1 0, _, c, d, Sim.two (R.fr f (by decide)) q2 q1 G.up E⟩
end
