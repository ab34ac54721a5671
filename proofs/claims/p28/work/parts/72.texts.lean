/-! append, clearBuffer, keep, goBack, undo on both sides. -/
def kpK (K : Nat → Bool) (p : Nat) : Nat → Bool := fun j => if j = p then true else K j
def kpT (T : Nat → Nat → Int32) (p : Nat) (S : Nat → Int32) : Nat → Nat → Int32 := fun j => if j = p then S else T j
theorem kI_keep (K : Nat → Bool) {p : Nat} (hp : p < 2) : kI K ||| ((1 : Int32) <<< (nI p &&& 31)) = kI (kpK K p) := by
  have h : p = 0 ∨ p = 1 := by omega
  unfold kI kpK
  rcases h with q | q <;> subst q <;> cases K 0 <;> cases K 1 <;> decide +kernel
theorem kI_bit (K : Nat → Bool) {p : Nat} (hp : p < 2) : ((kI K >>> (nI p &&& 31)) &&& 1) = bI (K p) := by
  have h : p = 0 ∨ p = 1 := by omega
  unfold kI
  rcases h with q | q <;> subst q <;> cases K 0 <;> cases K 1 <;> decide +kernel
section
variable {mi mi' : Nat → Nat → Nat → Int32} {ml : Nat → Nat → Nat → Int64} {ex : Nat} {S S' : Nat → Int32} {s : Nat} {H : Nat → Nat → Int32} {K : Nat → Bool} {T : Nat → Nat → Int32} {n n' : Nat} {X X' : Nat → Int32} {A P : Int}
theorem RC.txt (R : RC mi S s H K T n X) (f : Fr [7, 11] mi mi') (h1 : mi' 7 0 1 = nI n') (h2 : ∀ k, k < n' → mi' 11 0 k = X' k) : RC mi' S s H K T n' X' := by
  obtain ⟨r1, ⟨q, a1, a2, a3, a4, a5⟩, r3, -, -⟩ := R
  have oc : ∀ h, cs mi' h = cs mi h := fun h => cs_fr h f (by decide) (by decide) (by decide) (by decide)
  exact ⟨(oc 0).trans r1, ⟨q, (f 1 0 1 (by decide)).trans a1, a2, (f 1 0 2 (by decide)).trans a3, a4, fun j hj => (oc _).trans (a5 j hj)⟩, fun j hj => ⟨(f 18 0 j (by decide)).trans (r3 j hj).1, fun hk => (oc _).trans ((r3 j hj).2 hk)⟩, h1, h2⟩
theorem n106 {p k : Nat} (hp : p < 6) (hk : k < 106) : (106 : Int32) * nI p + nI k = nI (106 * p + k) := by
  rw [show (106 : Int32) = nI 106 from by decide +kernel, pk_mul, nI_add]
theorem n106_le {k : Nat} (h : k < 106) : ¬ (106 : Int32) ≤ nI k := nI_ge (a := k) (b := 106) h (by decide)
theorem n106_le' : (106 : Int32) ≤ nI 106 := by decide +kernel
theorem c68t (R : RC mi S 0 H K T n X) : pt_Ca 68 [vR 8 0] (pt_MEM mi ml ex) (.inr 2, pt_MEM mi ml (ex + 1)) := by
  obtain ⟨q, hi⟩ := R.2.1
  exact r68_0 (fun _ => r68_10) (fun c => absurd (by rw [hi.2.2.1]; rfl) c)
theorem c68 (R : RC mi S (s + 1) H K T n X) (g : Good (H s) A P) : ∃ mi', pt_Ca 68 [vR 8 0] (pt_MEM mi ml ex) (.inl (some (vI (nI s))), pt_MEM mi' ml ex) ∧ RC mi' (H s) s H K T n X ∧ Fr CK mi mi' := by
  obtain ⟨r1, ⟨q, hi⟩, r3, r4, r5⟩ := R
  obtain ⟨m1, q1, q2, q3, q4, f⟩ := c6 (ml := ml) (ex := ex) hi (fun p hp => (g.1.1 p hp).1)
  have h4 := hi.2.2.2.1
  refine ⟨m1, ?_, ⟨q3, ⟨q, q2⟩, fun j hj => ⟨(f 18 0 j (by decide)).trans (r3 j hj).1, fun hk => (q4 _ (by omega)).trans ((r3 j hj).2 hk)⟩, (f 7 0 1 (by decide)).trans r4, fun k hk => (f 11 0 k (by decide)).trans (r5 k hk)⟩, f.wd (by decide)⟩
  rw [← q2.2.2.1]
  refine r68_0 (fun c => ?_) (fun _ => r68_20 q1 r68_31)
  rw [hi.2.2.1] at c
  exact absurd c (nI_ne0 (by omega) (by omega))
end
