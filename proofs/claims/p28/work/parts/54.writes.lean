/-! Writes to a house. -/
theorem cs_big (mi : Nat → Nat → Nat → Int32) (h : Nat) {k : Nat} (hk : 106 ≤ k) : cs mi h k = 0 := by
  obtain ⟨d, rfl⟩ := Nat.le.dest hk
  unfold cs
  rw [if_neg (by omega), if_neg (by omega)]
  split <;> first | omega | rfl
theorem cs_low {a b : Nat → Nat → Nat → Int32} {h : Nat} (h4 : ∀ n j, b 4 n j = a 4 n j) (h5 : ∀ n j, b 5 n j = a 5 n j) {k : Nat} (hk : k < 96) : cs b h k = cs a h k := by
  unfold cs
  by_cases h1 : k < 90
  · rw [if_pos h1, if_pos h1, h5]
  · rw [if_neg h1, if_neg h1, if_pos hk, if_pos hk, h4]
theorem cs_is {mi : Nat → Nat → Nat → Int32} {h : Nat} {T : Nat → Int32} (hl : ∀ k, k < 96 → cs mi h k = T k) (h96 : mi 2 h 3 = T 96) (h97 : 100 + mi 2 h 4 = T 97) (h98 : mi 2 h 4 = T 98) (h99 : mi 2 h 5 = T 99) (h100 : mi 2 h 7 = T 100) (h101 : mi 2 h 8 = T 101) (h102 : mi 2 h 9 = T 102) (h103 : mi 2 h 6 = T 103) (h104 : mi 10 h 0 = T 104) (h105 : mi 10 h 1 = T 105) (hb : ∀ k, 106 ≤ k → 0 = T k) : cs mi h = T := by
  funext k
  by_cases h1 : k < 96
  · exact hl k h1
  · by_cases h2 : 106 ≤ k
    · rw [cs_big mi h h2]; exact hb k h2
    · have : k = 96 ∨ k = 97 ∨ k = 98 ∨ k = 99 ∨ k = 100 ∨ k = 101 ∨ k = 102 ∨ k = 103 ∨ k = 104 ∨ k = 105 := by omega
      rcases this with q | q | q | q | q | q | q | q | q | q <;> subst q
      · exact h96
      · exact h97
      · exact h98
      · exact h99
      · exact h100
      · exact h101
      · exact h102
      · exact h103
      · exact h104
      · exact h105
/-- a house has become S', all other houses and other kinds are as they were -/
def HX (mi mi' : Nat → Nat → Nat → Int32) (h : Nat) (S' : Nat → Int32) : Prop := cs mi' h = S' ∧ (∀ h', h' ≠ h → cs mi' h' = cs mi h') ∧ Fr [2, 4, 5, 10] mi mi'
section
variable {mi m1 : Nat → Nat → Nat → Int32} {h : Nat} {S : Nat → Int32} {p j : Nat} {v : Int32}
theorem HX.refl : HX mi mi h (cs mi h) := ⟨rfl, fun _ _ => rfl, Fr.rfl'⟩
theorem HX.tr {m2 : Nat → Nat → Nat → Int32} {S2 : Nat → Int32} (a : HX mi m1 h S) (b : HX m1 m2 h S2) : HX mi m2 h S2 := ⟨b.1, fun h' hh => (b.2.1 h' hh).trans (a.2.1 h' hh), a.2.2.tr b.2.2⟩
theorem HX.wp (x : HX mi m1 h S) (hp : p < 10) (hj : j < 9) : HX mi (pt_up3 m1 5 (p + 10 * h) j v) h (up1 S (9 * p + j) v) :=
  ⟨by rw [cs_w5 _ _ _ hp hj, x.1], fun h' hh => by rw [cs_w5' _ _ hp hh]; exact x.2.1 h' hh, x.2.2.up (by decide)⟩
theorem HX.wm (x : HX mi m1 h S) (hp : p < 2) (hj : j < 3) : HX mi (pt_up3 m1 4 (p + 2 * h) j v) h (up1 S (90 + 3 * p + j) v) :=
  ⟨by rw [cs_w4 _ _ _ hp hj, x.1], fun h' hh => by rw [cs_w4' _ _ hp hh]; exact x.2.1 h' hh, x.2.2.up (by decide)⟩
theorem cs_w2' {c : Nat} (hc : c = 2 ∨ c = 10) {h' : Nat} (hh : h' ≠ h) : cs (pt_up3 m1 c h j v) h' = cs m1 h' := by
  have e : ∀ c' j', pt_up3 m1 c h j v c' h' j' = m1 c' h' j' := fun c' j' => up3_n _ _ hh
  refine cs_is (fun k hk => cs_low (fun n j' => up3_c _ _ (by omega)) (fun n j' => up3_c _ _ (by omega)) hk) (e _ _) ?_ (e _ _) (e _ _) (e _ _) (e _ _) (e _ _) (e _ _) (e _ _) (e _ _) (fun k hk => (cs_big _ _ hk).symm)
  rw [e]; rfl
theorem HX.wh (x : HX mi m1 h S) {k : Nat} (hk : (j = 3 ∧ k = 96) ∨ (j = 5 ∧ k = 99) ∨ (j = 6 ∧ k = 103) ∨ (j = 7 ∧ k = 100) ∨ (j = 8 ∧ k = 101) ∨ (j = 9 ∧ k = 102)) : HX mi (pt_up3 m1 2 h j v) h (up1 S k v) := by
  refine ⟨?_, fun h' hh => (cs_w2' (Or.inl rfl) hh).trans (x.2.1 h' hh), x.2.2.up (by decide)⟩
  rw [← x.1]
  have o10 : ∀ j', pt_up3 m1 2 h j v 10 h j' = m1 10 h j' := fun j' => up3_c _ _ (by decide)
  have lo : ∀ k', k' < 96 → cs (pt_up3 m1 2 h j v) h k' = up1 (cs m1 h) k v k' := fun k' hk' => by
    rw [up1_ne _ _ (by omega)]
    exact cs_low (fun n j' => up3_c _ _ (by decide)) (fun n j' => up3_c _ _ (by decide)) hk'
  have hi : ∀ k', 106 ≤ k' → 0 = up1 (cs m1 h) k v k' := fun k' hk' => by rw [up1_ne _ _ (by omega), cs_big _ _ hk']
  rcases hk with ⟨rfl, rfl⟩ | ⟨rfl, rfl⟩ | ⟨rfl, rfl⟩ | ⟨rfl, rfl⟩ | ⟨rfl, rfl⟩ | ⟨rfl, rfl⟩ <;> refine cs_is lo ?_ ?_ ?_ ?_ ?_ ?_ ?_ ?_ ?_ ?_ hi <;> simp [pt_up3, up1, cs]
theorem HX.wt (x : HX mi m1 h S) : HX mi (pt_up3 m1 2 h 4 v) h (up1 (up1 S 98 v) 97 (100 + v)) := by
  refine ⟨?_, fun h' hh => (cs_w2' (Or.inl rfl) hh).trans (x.2.1 h' hh), x.2.2.up (by decide)⟩
  rw [← x.1]
  have lo : ∀ k', k' < 96 → cs (pt_up3 m1 2 h 4 v) h k' = up1 (up1 (cs m1 h) 98 v) 97 (100 + v) k' := fun k' hk' => by
    rw [up1_ne _ _ (by omega), up1_ne _ _ (by omega)]
    exact cs_low (fun n j' => up3_c _ _ (by decide)) (fun n j' => up3_c _ _ (by decide)) hk'
  have hi : ∀ k', 106 ≤ k' → 0 = up1 (up1 (cs m1 h) 98 v) 97 (100 + v) k' := fun k' hk' => by rw [up1_ne _ _ (by omega), up1_ne _ _ (by omega), cs_big _ _ hk']
  refine cs_is lo ?_ ?_ ?_ ?_ ?_ ?_ ?_ ?_ ?_ ?_ hi <;> simp [pt_up3, up1, cs]
theorem HX.ws (x : HX mi m1 h S) (hp : p < 2) : HX mi (pt_up3 m1 10 h p v) h (up1 S (104 + p) v) := by
  refine ⟨?_, fun h' hh => (cs_w2' (Or.inr rfl) hh).trans (x.2.1 h' hh), x.2.2.up (by decide)⟩
  rw [← x.1]
  have o2 : ∀ j', pt_up3 m1 10 h p v 2 h j' = m1 2 h j' := fun j' => up3_c _ _ (by decide)
  have lo : ∀ k', k' < 96 → cs (pt_up3 m1 10 h p v) h k' = up1 (cs m1 h) (104 + p) v k' := fun k' hk' => by
    rw [up1_ne _ _ (by omega)]
    exact cs_low (fun n j' => up3_c _ _ (by decide)) (fun n j' => up3_c _ _ (by decide)) hk'
  have hi : ∀ k', 106 ≤ k' → 0 = up1 (cs m1 h) (104 + p) v k' := fun k' hk' => by rw [up1_ne _ _ (by omega), cs_big _ _ hk']
  have hu : ∀ k', k' < 104 → up1 (cs m1 h) (104 + p) v k' = cs m1 h k' := fun k' hk' => up1_ne _ _ (by omega)
  have hpp : p = 0 ∨ p = 1 := by omega
  rcases hpp with q | q <;> subst q
  · refine cs_is lo ?_ ?_ ?_ ?_ ?_ ?_ ?_ ?_ ?_ ?_ hi <;> simp [pt_up3, up1, cs]
  · refine cs_is lo ?_ ?_ ?_ ?_ ?_ ?_ ?_ ?_ ?_ ?_ hi <;> simp [pt_up3, up1, cs]
end
