/-! The whole state, as the class and as the model hold it. -/
/-- the row S; s saved rows H; K which slots are kept, T what is in them; n characters X -/
def RC (mi : Nat → Nat → Nat → Int32) (S : Nat → Int32) (s : Nat) (H : Nat → Nat → Int32) (K : Nat → Bool) (T : Nat → Nat → Int32) (n : Nat) (X : Nat → Int32) : Prop :=
  cs mi 0 = S ∧ (∃ o, HI mi o s H) ∧ (∀ j, j < 2 → mi 18 0 j = bI (K j) ∧ (K j = true → cs mi (7 + j) = T j)) ∧ (mi 7 0 1 = nI n ∧ ∀ k, k < n → mi 11 0 k = X k)
def kI (K : Nat → Bool) : Int32 := bI (K 0) + 2 * bI (K 1)
abbrev CK : List Nat := [0, 1, 2, 3, 4, 5, 6, 7, 8, 10, 11, 12, 13, 18, 19, 20, 21, 22]
abbrev MK : List Nat := [9, 14, 15, 16, 17]
/-- one more saved -/
def sv (s : Nat) : Nat := if s < 6 then s + 1 else 6
def svH (S : Nat → Int32) (s : Nat) (H : Nat → Nat → Int32) : Nat → Nat → Int32 := if s < 6 then (fun j => if j < s then H j else S) else (fun j => if j < 5 then H (j + 1) else S)
section
variable {mi mi' : Nat → Nat → Nat → Int32} {ml : Nat → Nat → Nat → Int64} {ex : Nat} {S S' : Nat → Int32} {s : Nat} {H : Nat → Nat → Int32} {K : Nat → Bool} {T : Nat → Nat → Int32} {n : Nat} {X : Nat → Int32}
theorem RC.fr {L : List Nat} (R : RC mi S s H K T n X) (f : Fr L mi mi') (hL : ∀ c, c ∈ L → c ∉ [1, 2, 4, 5, 7, 10, 11, 18]) : RC mi' S s H K T n X := by
  have o : ∀ c, c ∈ [1, 2, 4, 5, 7, 10, 11, 18] → c ∉ L := fun c hc hcL => hL c hcL hc
  have oc : ∀ h, cs mi' h = cs mi h := fun h => cs_fr h f (o 2 (by decide)) (o 4 (by decide)) (o 5 (by decide)) (o 10 (by decide))
  obtain ⟨r1, ⟨q, h1, h2, h3, h4, h5⟩, r3, r4, r5⟩ := R
  refine ⟨(oc 0).trans r1, ⟨q, (f 1 0 1 (o 1 (by decide))).trans h1, h2, (f 1 0 2 (o 1 (by decide))).trans h3, h4, fun j hj => (oc _).trans (h5 j hj)⟩, fun j hj => ⟨(f 18 0 j (o 18 (by decide))).trans (r3 j hj).1, fun hk => (oc _).trans ((r3 j hj).2 hk)⟩, (f 7 0 1 (o 7 (by decide))).trans r4, fun k hk => (f 11 0 k (o 11 (by decide))).trans (r5 k hk)⟩
theorem RC.hx (R : RC mi S s H K T n X) (x : HX mi mi' 0 S') : RC mi' S' s H K T n X ∧ Fr CK mi mi' := by
  have f := x.2.2
  obtain ⟨r1, ⟨q, h1, h2, h3, h4, h5⟩, r3, r4, r5⟩ := R
  refine ⟨⟨x.1, ⟨q, (f 1 0 1 (by decide)).trans h1, h2, (f 1 0 2 (by decide)).trans h3, h4, fun j hj => (x.2.1 _ (by omega)).trans (h5 j hj)⟩, fun j hj => ⟨(f 18 0 j (by decide)).trans (r3 j hj).1, fun hk => (x.2.1 _ (by omega)).trans ((r3 j hj).2 hk)⟩, (f 7 0 1 (by decide)).trans r4, fun k hk => (f 11 0 k (by decide)).trans (r5 k hk)⟩, f.wd (by decide)⟩
/-- saved, in the class -/
theorem c5 (R : RC mi S s H K T n X) (h5 : ∀ p, p < 10 → S (9 * p + 5) = 0 ∨ S (9 * p + 5) = 1) : ∃ mi', pt_Ca 5 [vR 1 0, vR 2 0] (pt_MEM mi ml ex) (.inl none, pt_MEM mi' ml ex) ∧ RC mi' S (sv s) (svH S s H) K T n X ∧ Fr CK mi mi' := by
  obtain ⟨r1, ⟨q, hi⟩, r3, r4, r5⟩ := R
  have key : ∃ mi' q', pt_Ca 5 [vR 1 0, vR 2 0] (pt_MEM mi ml ex) (.inl none, pt_MEM mi' ml ex) ∧ HI mi' q' (sv s) (svH S s H) ∧ cs mi' 0 = cs mi 0 ∧ (∀ h, 6 < h → cs mi' h = cs mi h) ∧ Fr [1, 2, 4, 5, 10] mi mi' := by
    by_cases c : s < 6
    · obtain ⟨mi', g1, g2, g3, g4, g5⟩ := c5r (ml := ml) (ex := ex) hi c (by rw [r1]; exact h5)
      refine ⟨mi', q, g1, ?_, g3, g4, g5⟩
      rw [sv, if_pos c, svH, if_pos c, ← r1]
      exact g2
    · have h6 : s = 6 := by have := hi.2.2.2.1; omega
      subst h6
      obtain ⟨mi', g1, g2, g3, g4, g5⟩ := c5f (ml := ml) (ex := ex) hi (by rw [r1]; exact h5)
      refine ⟨mi', (q + 1) % 6, g1, ?_, g3, g4, g5⟩
      rw [sv, if_neg c, svH, if_neg c, ← r1]
      exact g2
  obtain ⟨mi', q', g1, g2, g3, g4, f⟩ := key
  exact ⟨mi', g1, ⟨g3.trans r1, ⟨q', g2⟩, fun j hj => ⟨(f 18 0 j (by decide)).trans (r3 j hj).1, fun hk => (g4 _ (by omega)).trans ((r3 j hj).2 hk)⟩, (f 7 0 1 (by decide)).trans r4, fun k hk => (f 11 0 k (by decide)).trans (r5 k hk)⟩, f.wd (by decide)⟩
theorem rw6_eq {f : Nat → Int32} {a : Nat} {S : Nat → Int32} (h : ∀ k, k < 106 → f (a + k) = S k) (hb : ∀ k, 106 ≤ k → S k = 0) : rw6 f a = S := by
  funext k
  unfold rw6
  by_cases c : k < 106
  · rw [if_pos c]; exact h k c
  · rw [if_neg c]; exact (hb k (by omega)).symm
theorem rw6_k {f : Nat → Int32} {a k : Nat} (h : k < 106) : rw6 f a k = f (a + k) := if_pos h
theorem rw6_b {f : Nat → Int32} {a k : Nat} (h : 106 ≤ k) : rw6 f a k = 0 := if_neg (by omega)
end
