/-! Copies of a pile and of a machine. -/
section
variable {mi : Nat → Nat → Nat → Int32} {ml : Nat → Nat → Nat → Int64} {ex a b : Nat}
theorem c37 (hab : a ≠ b) (h5 : mi 5 b 5 = 0 ∨ mi 5 b 5 = 1) : ∃ mi', pt_Ca 37 [vR 5 a, vR 5 b] (pt_MEM mi ml ex) (.inl none, pt_MEM mi' ml ex) ∧ (∀ j, j < 9 → mi' 5 a j = mi 5 b j) ∧ (∀ c n j, ¬ (c = 5 ∧ n = a) → mi' c n j = mi c n j) := by
  have hba : b ≠ a := fun z => hab z.symm
  have e : ∀ (f : Nat → Nat → Nat → Int32) (j j' : Nat) (v : Int32), pt_up3 f 5 a j v 5 b j' = f 5 b j' := fun f j j' v => up3_n f v hba
  refine ⟨_, r37_0 (by simp only [e]; exact h5), fun j hj => ?_, fun c n j hc => ?_⟩
  · simp only [e]
    have : j = 0 ∨ j = 1 ∨ j = 2 ∨ j = 3 ∨ j = 4 ∨ j = 5 ∨ j = 6 ∨ j = 7 ∨ j = 8 := by omega
    rcases this with q | q | q | q | q | q | q | q | q <;> subst q <;> simp [pt_up3]
  · have o : ∀ (f : Nat → Nat → Nat → Int32) (j' : Nat) (v : Int32), pt_up3 f 5 a j' v c n j = f c n j := fun f j' v => if_neg (fun z => hc ⟨z.1, z.2.1⟩)
    simp only [o]
theorem c30 (hab : a ≠ b) : ∃ mi', pt_Ca 30 [vR 4 a, vR 4 b] (pt_MEM mi ml ex) (.inl none, pt_MEM mi' ml ex) ∧ (∀ j, j < 3 → mi' 4 a j = mi 4 b j) ∧ (∀ c n j, ¬ (c = 4 ∧ n = a) → mi' c n j = mi c n j) := by
  have hba : b ≠ a := fun z => hab z.symm
  have e : ∀ (f : Nat → Nat → Nat → Int32) (j j' : Nat) (v : Int32), pt_up3 f 4 a j v 4 b j' = f 4 b j' := fun f j j' v => up3_n f v hba
  refine ⟨_, r30_0, fun j hj => ?_, fun c n j hc => ?_⟩
  · simp only [e]
    have : j = 0 ∨ j = 1 ∨ j = 2 := by omega
    rcases this with q | q | q <;> subst q <;> simp [pt_up3]
  · have o : ∀ (f : Nat → Nat → Nat → Int32) (j' : Nat) (v : Int32), pt_up3 f 4 a j' v c n j = f c n j := fun f j' v => if_neg (fun z => hc ⟨z.1, z.2.1⟩)
    simp only [o]
end
