/-! The ring when it is full; restoring. -/
section
variable {mi : Nat → Nat → Nat → Int32} {ml : Nat → Nat → Nat → Int64} {ex : Nat}
theorem ring1 : ∀ o, o < 6 → (nI o + 1) - (nI o + 1) / 6 * 6 = nI ((o + 1) % 6) := by decide +kernel
theorem ring5 : ∀ o, o < 6 → (nI ((o + 1) % 6) + (nI 6 - 1)) - (nI ((o + 1) % 6) + (nI 6 - 1)) / 6 * 6 = nI o := by decide +kernel
theorem ringS : ∀ s, s < 6 → ∀ o, o < 6 → (nI o + (nI (s + 1) - 1)) - (nI o + (nI (s + 1) - 1)) / 6 * 6 = nI ((o + s) % 6) := by decide +kernel
/-- saved when it is full: the oldest goes -/
theorem c5f {o : Nat} {H : Nat → Nat → Int32} (hi : HI mi o 6 H) (h5 : ∀ p, p < 10 → cs mi 0 (9 * p + 5) = 0 ∨ cs mi 0 (9 * p + 5) = 1) :
    ∃ mi', pt_Ca 5 [vR 1 0, vR 2 0] (pt_MEM mi ml ex) (.inl none, pt_MEM mi' ml ex) ∧ HI mi' ((o + 1) % 6) 6 (fun j => if j < 5 then H (j + 1) else cs mi 0) ∧ cs mi' 0 = cs mi 0 ∧ (∀ h, 6 < h → cs mi' h = cs mi h) ∧ Fr [1, 2, 4, 5, 10] mi mi' := by
  obtain ⟨i1, i2, i3, i4, i5⟩ := hi
  have f0 : Fr [1] mi (pt_up3 (pt_up3 mi 1 0 1 (((mi 1 0 1) + 1) - ((mi 1 0 1) + 1) / 6 * 6)) 1 0 2 (((pt_up3 mi 1 0 1 (((mi 1 0 1) + 1) - ((mi 1 0 1) + 1) / 6 * 6)) 1 0 2) - 1)) := (Fr.rfl'.up (by decide)).up (by decide)
  have c0 : ∀ h, cs (pt_up3 (pt_up3 mi 1 0 1 (((mi 1 0 1) + 1) - ((mi 1 0 1) + 1) / 6 * 6)) 1 0 2 (((pt_up3 mi 1 0 1 (((mi 1 0 1) + 1) - ((mi 1 0 1) + 1) / 6 * 6)) 1 0 2) - 1)) h = cs mi h := fun h => cs_fr h f0 (by decide) (by decide) (by decide) (by decide)
  have a1 : (pt_up3 (pt_up3 mi 1 0 1 (((mi 1 0 1) + 1) - ((mi 1 0 1) + 1) / 6 * 6)) 1 0 2 (((pt_up3 mi 1 0 1 (((mi 1 0 1) + 1) - ((mi 1 0 1) + 1) / 6 * 6)) 1 0 2) - 1)) 1 0 1 = nI ((o + 1) % 6) := by
    rw [up3_j _ _ (by decide), up3_eq, i1, ring1 o i2]
  have a2 : (pt_up3 (pt_up3 mi 1 0 1 (((mi 1 0 1) + 1) - ((mi 1 0 1) + 1) / 6 * 6)) 1 0 2 (((pt_up3 mi 1 0 1 (((mi 1 0 1) + 1) - ((mi 1 0 1) + 1) / 6 * 6)) 1 0 2) - 1)) 1 0 2 = nI 6 - 1 := by
    rw [up3_eq, up3_j _ _ (by decide), i3]
  have rule := @r5_9 mi ml ex 0 o (o + 1)
  revert rule f0 c0 a1 a2
  generalize (pt_up3 (pt_up3 mi 1 0 1 (((mi 1 0 1) + 1) - ((mi 1 0 1) + 1) / 6 * 6)) 1 0 2 (((pt_up3 mi 1 0 1 (((mi 1 0 1) + 1) - ((mi 1 0 1) + 1) / 6 * 6)) 1 0 2) - 1)) = m0
  intro f0 c0 a1 a2 rule
  obtain ⟨m1, q1, q2⟩ := c8 (mi := m0) (ml := ml) (ex := ex) (a := o + 1) (b := 0) (by omega) (by decide) (by omega) (by rw [c0]; exact h5)
  have e1 : m1 1 0 1 = nI ((o + 1) % 6) := (q2.2.2 1 0 1 (by decide)).trans a1
  have e2 : m1 1 0 2 = nI 6 - 1 := (q2.2.2 1 0 2 (by decide)).trans a2
  have fr : Fr [1] m1 (pt_up3 m1 1 0 2 (m1 1 0 2 + 1)) := Fr.rfl'.up (by decide)
  have hcs : ∀ h, cs (pt_up3 m1 1 0 2 (m1 1 0 2 + 1)) h = cs m1 h := fun h => cs_fr h fr (by decide) (by decide) (by decide) (by decide)
  refine ⟨_, r5_0 (fun _ => rule (by rw [a1, a2]; exact ring5 o i2) i2 (pt_MR_s i2) q1 r5_53) (fun c => absurd i3 c), ⟨?_, Nat.mod_lt _ (by decide), ?_, by omega, fun j hj => ?_⟩, ?_, fun h hh => ?_, ((f0.wd (by decide)).tr (q2.2.2.wd (by decide))).up (by decide)⟩
  · rw [up3_j _ _ (by decide)]; exact e1
  · rw [up3_eq, e2]; decide +kernel
  · rw [hcs]
    by_cases c : j < 5
    · simp only [if_pos c]
      rw [q2.2.1 _ (by omega), c0, ← i5 (j + 1) (by omega)]
      congr 1
      omega
    · simp only [if_neg c]
      have : j = 5 := by omega
      subst this
      rw [show 1 + ((o + 1) % 6 + 5) % 6 = o + 1 from by omega, q2.1, c0]
  · rw [hcs, q2.2.1 0 (by omega), c0]
  · rw [hcs, q2.2.1 h (by omega), c0]
end
