/-! The ring of saved states. -/
def HI (mi : Nat → Nat → Nat → Int32) (o s : Nat) (H : Nat → Nat → Int32) : Prop := mi 1 0 1 = nI o ∧ o < 6 ∧ mi 1 0 2 = nI s ∧ s ≤ 6 ∧ ∀ j, j < s → cs mi (1 + (o + j) % 6) = H j
section
variable {mi : Nat → Nat → Nat → Int32} {ml : Nat → Nat → Nat → Int64} {ex : Nat}
/-- saved while there is room -/
theorem c5r {o s : Nat} {H : Nat → Nat → Int32} (hi : HI mi o s H) (hs : s < 6) (h5 : ∀ p, p < 10 → cs mi 0 (9 * p + 5) = 0 ∨ cs mi 0 (9 * p + 5) = 1) :
    ∃ mi', pt_Ca 5 [vR 1 0, vR 2 0] (pt_MEM mi ml ex) (.inl none, pt_MEM mi' ml ex) ∧ HI mi' o (s + 1) (fun j => if j < s then H j else cs mi 0) ∧ cs mi' 0 = cs mi 0 ∧ (∀ h, 6 < h → cs mi' h = cs mi h) ∧ Fr [1, 2, 4, 5, 10] mi mi' := by
  obtain ⟨i1, i2, i3, i4, i5⟩ := hi
  have hne : ¬ nI s = 6 := fun z => by
    have : nI s = nI 6 := z
    have := nI_inj (by omega) (by decide) this
    omega
  have hp1 : (o + s) % 6 < 6 := Nat.mod_lt _ (by decide)
  obtain ⟨m1, q1, q2⟩ := c8 (mi := mi) (ml := ml) (ex := ex) (a := (o + s) % 6 + 1) (b := 0) (by omega) (by decide) (by omega) h5
  have e1 : m1 1 0 1 = nI o := (q2.2.2 1 0 1 (by decide)).trans i1
  have e2 : m1 1 0 2 = nI s := (q2.2.2 1 0 2 (by decide)).trans i3
  have fr : Fr [1] m1 (pt_up3 m1 1 0 2 (m1 1 0 2 + 1)) := Fr.rfl'.up (by decide)
  have hcs : ∀ h, cs (pt_up3 m1 1 0 2 (m1 1 0 2 + 1)) h = cs m1 h := fun h => cs_fr h fr (by decide) (by decide) (by decide) (by decide)
  have hidx : (nI o + nI s) - (nI o + nI s) / 6 * 6 = nI ((o + s) % 6) := by
    have hadd : nI o + nI s = nI (o + s) := (Int32.ofNat_add o s).symm
    rw [hadd]
    exact pk_rem (by omega) (by decide) (by decide)
  refine ⟨_, r5_0 (fun c => absurd (by rw [← i3]; exact c) hne) (fun _ => r5_32 (by rw [i1, i3]; exact hidx) hp1 (pt_MR_s hp1) q1 r5_53), ⟨?_, i2, ?_, by omega, fun j hj => ?_⟩, ?_, fun h hh => ?_, (q2.2.2.wd (by decide)).up (by decide)⟩
  · rw [up3_j _ _ (by decide)]; exact e1
  · rw [up3_eq, e2, nI_succ]
  · rw [hcs]
    by_cases c : j < s
    · simp only [if_pos c]
      rw [q2.2.1 _ (by omega)]
      exact i5 j c
    · simp only [if_neg c]
      have : j = s := by omega
      rw [this, Nat.add_comm 1]
      exact q2.1
  · rw [hcs]; exact q2.2.1 0 (by omega)
  · rw [hcs]; exact q2.2.1 h (by omega)
end
