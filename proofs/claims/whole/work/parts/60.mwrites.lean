/-! Writes to the model's row. -/
section
variable {mi m1 : Nat → Nat → Nat → Int32} {ml : Nat → Nat → Nat → Int64} {ex k : Nat} {S : Nat → Int32} {v : Int32}
theorem ms_w (mi : Nat → Nat → Nat → Int32) (v : Int32) (hk : k < 106) : ms (pt_up3 mi 14 0 k v) = up1 (ms mi) k v := by
  funext k'
  by_cases e : k' = k
  · rw [e, up1_eq, ← ms_e _ hk, up3_eq]
  · rw [up1_ne _ _ e]
    unfold ms rw6
    split
    · exact up3_j _ _ (by omega)
    · rfl
/-- the model's row has become S, only rows of the model have changed -/
def MX (mi mi' : Nat → Nat → Nat → Int32) (S : Nat → Int32) : Prop := ms mi' = S ∧ Fr [14] mi mi'
theorem MX.refl : MX mi mi (ms mi) := ⟨rfl, Fr.rfl'⟩
theorem MX.w (x : MX mi m1 S) (hk : k < 106) : MX mi (pt_up3 m1 14 0 k v) (up1 S k v) := ⟨by rw [ms_w _ _ hk, x.1], x.2.up (by decide)⟩
theorem MX.tr {m2 : Nat → Nat → Nat → Int32} {S2 : Nat → Int32} (x : MX mi m1 S) (y : MX m1 m2 S2) : MX mi m2 S2 := ⟨y.1, x.2.tr y.2⟩
theorem m96 {x : Int32} : ∃ mi', pt_Ca 96 [vR 9 0, vI x] (pt_MEM mi ml ex) (.inl (some (vI x)), pt_MEM mi' ml ex) ∧ MX mi mi' (up1 (ms mi) 102 (ms mi 102 + 1)) := by
  refine ⟨_, r96_0, ?_⟩
  rw [ms_e mi (k := 102) (by omega)]
  exact MX.refl.w (by omega)
end
