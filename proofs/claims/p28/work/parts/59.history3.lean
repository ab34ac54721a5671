/-! Restoring from the ring. -/
section
variable {mi : Nat → Nat → Nat → Int32} {ml : Nat → Nat → Nat → Int64} {ex : Nat}
theorem c6 {o s : Nat} {H : Nat → Nat → Int32} (hi : HI mi o (s + 1) H) (h5 : ∀ p, p < 10 → H s (9 * p + 5) = 0 ∨ H s (9 * p + 5) = 1) :
    ∃ mi', pt_Ca 6 [vR 1 0, vR 2 0] (pt_MEM mi ml ex) (.inl none, pt_MEM mi' ml ex) ∧ HI mi' o s H ∧ cs mi' 0 = H s ∧ (∀ h, 6 < h → cs mi' h = cs mi h) ∧ Fr [1, 2, 4, 5, 10] mi mi' := by
  obtain ⟨i1, i2, i3, i4, i5⟩ := hi
  have hp1 : (o + s) % 6 < 6 := Nat.mod_lt _ (by decide)
  have f0 : Fr [1] mi (pt_up3 mi 1 0 2 ((mi 1 0 2) - 1)) := Fr.rfl'.up (by decide)
  have c0 : ∀ h, cs (pt_up3 mi 1 0 2 ((mi 1 0 2) - 1)) h = cs mi h := fun h => cs_fr h f0 (by decide) (by decide) (by decide) (by decide)
  have a1 : (pt_up3 mi 1 0 2 ((mi 1 0 2) - 1)) 1 0 1 = nI o := by rw [up3_j _ _ (by decide), i1]
  have a2 : (pt_up3 mi 1 0 2 ((mi 1 0 2) - 1)) 1 0 2 = nI (s + 1) - 1 := by rw [up3_eq, i3]
  have hH : cs (pt_up3 mi 1 0 2 ((mi 1 0 2) - 1)) ((o + s) % 6 + 1) = H s := by
    rw [c0, Nat.add_comm _ 1]; exact i5 s (Nat.lt_succ_self s)
  obtain ⟨m1, q1, q2⟩ := c8 (mi := pt_up3 mi 1 0 2 ((mi 1 0 2) - 1)) (ml := ml) (ex := ex) (a := 0) (b := (o + s) % 6 + 1) (by decide) (by omega) (by omega) (by rw [hH]; exact h5)
  refine ⟨m1, r6_0 (fun c => ?_) (fun _ => r6_7 (p1 := (o + s) % 6) (by rw [a1, a2]; exact ringS s (by omega) o i2) hp1 (pt_MR_s hp1) q1 r6_38), ⟨(q2.2.2 1 0 1 (by decide)).trans a1, i2, ?_, by omega, fun j hj => ?_⟩, q2.1.trans hH, fun h hh => ?_, (f0.wd (by decide)).tr (q2.2.2.wd (by decide))⟩
  · rw [i3] at c
    exact absurd c (nI_nle (by omega) (by omega))
  · rw [q2.2.2 1 0 2 (by decide), a2]
    exact nI_pred s
  · rw [q2.2.1 _ (by omega), c0]
    exact i5 j (by omega)
  · rw [q2.2.1 h (by omega), c0]
end
