/-! What holds of every row. -/
abbrev EqP (S T : Nat → Int32) : Prop := ∀ p, p < 10 → ∀ j, j < 9 → S (9 * p + j) = T (9 * p + j)
def GPile (S : Nat → Int32) (p : Nat) : Prop := (S (9 * p + 5) = 0 ∨ S (9 * p + 5) = 1) ∧ (sHere S p = true → (0 ≤ (S (9 * p + 4)).toInt ∧ (S (9 * p + 4)).toInt < 2 ^ 20) ∧ (100 ≤ (S (9 * p + 0)).toInt ∧ (S (9 * p + 0)).toInt < 100 + (S 98).toInt) ∧ (1 ≤ (S (9 * p + 3)).toInt ∧ (S (9 * p + 3)).toInt ≤ 60) ∧ ¬ S (9 * p + 1) = -1)
def GDist (S : Nat → Int32) : Prop := ∀ p q, p < 10 → q < 10 → sHere S p = true → sHere S q = true → p ≠ q → ¬ S (9 * p + 0) = S (9 * q + 0)
def GCol (S : Nat → Int32) : Prop := ∀ p q, p < 10 → q < 10 → ∀ x, sAt S p 1 x = true → sAt S q 1 x = true → S (9 * p + 1) = S (9 * q + 1)
def GMa (S : Nat → Int32) : Prop := ∀ m, m < 2 → (S (90 + 3 * m + 1) = -1 ∧ ∀ p, p < 10 → sAt S p 1 (nI m) = false) ∨ (0 ≤ (S (90 + 3 * m + 1)).toInt ∧ (S (90 + 3 * m + 1)).toInt < 2 ^ 20)
def GMb (S : Nat → Int32) (m : Nat) : Prop := S (90 + 3 * m + 1) = -1 ∨ ∃ p, p < 10 ∧ sAt S p 1 (nI m) = true
def GNum (S : Nat → Int32) (A : Int) : Prop := (S 105 = 0 ∨ S 105 = 1) ∧ (0 ≤ (S 96).toInt ∧ (S 96).toInt ≤ 99999) ∧ S 97 = 100 + S 98 ∧ (0 ≤ (S 98).toInt ∧ (S 98).toInt ≤ A)
def GPut (S : Nat → Int32) (P : Int) : Prop := 0 ≤ (S 100).toInt ∧ (S 100).toInt ≤ (S 103).toInt ∧ (S 103).toInt ≤ P
/-- all but the numbers; M: the machines that are not idle only with piles -/
def GoodX (M : Nat → Prop) (S : Nat → Int32) : Prop := (∀ p, p < 10 → GPile S p) ∧ GDist S ∧ GSh S ∧ GCol S ∧ GMa S ∧ (∀ m, m < 2 → M m → GMb S m)
def Good (S : Nat → Int32) (A P : Int) : Prop := GoodX (fun _ => True) S ∧ GNum S A ∧ GPut S P
theorem Good.mono {S : Nat → Int32} {A P A' P' : Int} (g : Good S A P) (hA : A ≤ A') (hP : P ≤ P') : Good S A' P' := ⟨g.1, ⟨g.2.1.1, g.2.1.2.1, g.2.1.2.2.1, g.2.1.2.2.2.1, Int.le_trans g.2.1.2.2.2.2 hA⟩, g.2.2.1, g.2.2.2.1, Int.le_trans g.2.2.2.2 hP⟩
theorem Good.GO {S : Nat → Int32} {A P : Int} (g : Good S A P) (hA : A ≤ 100000) : GO S := by
  refine ⟨fun p hp => (g.1.1 p hp).1, fun p hp hh => ?_, g.1.2.1, g.2.1.1⟩
  obtain ⟨h1, h2, -⟩ := (g.1.1 p hp).2 hh
  have h3 := g.2.1.2.2.2.2
  exact ⟨h1, by omega, by omega⟩
theorem GoodX.cg {M : Nat → Prop} {S T : Nat → Int32} (g : GoodX M S) (hp : EqP T S) (hm : ∀ m, m < 2 → T (90 + 3 * m + 1) = S (90 + 3 * m + 1)) (h98 : (S 98).toInt ≤ (T 98).toInt) : GoodX M T := by
  obtain ⟨pl, di, sh, co, ma, mb⟩ := g
  have eh : ∀ p, p < 10 → sHere T p = sHere S p := fun p h => sHere_cg (hp p h)
  have ea : ∀ p, p < 10 → ∀ st wh, sAt T p st wh = sAt S p st wh := fun p h st wh => sAt_cg (hp p h)
  refine ⟨fun p h => ?_, fun p q h1 h2 h3 h4 hn => ?_, fun p q h1 h2 x h3 h4 => ?_, fun p q h1 h2 x h3 h4 => ?_, fun m h => ?_, fun m h hM => ?_⟩
  · have z := pl p h
    unfold GPile at z ⊢
    rw [eh p h, hp p h 0 (by omega), hp p h 1 (by omega), hp p h 3 (by omega), hp p h 4 (by omega), hp p h 5 (by omega)]
    refine ⟨z.1, fun hh => ?_⟩
    obtain ⟨a, b, c, d⟩ := z.2 hh
    exact ⟨a, ⟨b.1, by omega⟩, c, d⟩
  · rw [eh p h1] at h3
    rw [eh q h2] at h4
    rw [hp p h1 0 (by omega), hp q h2 0 (by omega)]
    exact di p q h1 h2 h3 h4 hn
  · rw [ea p h1] at h3
    rw [ea q h2] at h4
    exact sh p q h1 h2 x h3 h4
  · rw [ea p h1] at h3
    rw [ea q h2] at h4
    rw [hp p h1 1 (by omega), hp q h2 1 (by omega)]
    exact co p q h1 h2 x h3 h4
  · rw [hm m h]
    rcases ma m h with ⟨a, b⟩ | a
    · exact Or.inl ⟨a, fun p hp' => by rw [ea p hp']; exact b p hp'⟩
    · exact Or.inr a
  · unfold GMb
    rw [hm m h]
    rcases mb m h hM with a | ⟨p, hp', b⟩
    · exact Or.inl a
    · exact Or.inr ⟨p, hp', by rw [ea p hp']; exact b⟩
theorem Good.cg {S T : Nat → Int32} {A P A' P' : Int} (g : Good S A P) (hp : EqP T S) (hm : ∀ m, m < 2 → T (90 + 3 * m + 1) = S (90 + 3 * m + 1)) (h98 : (S 98).toInt ≤ (T 98).toInt) (n : GNum T A') (u : GPut T P') : Good T A' P' := ⟨g.1.cg hp hm h98, n, u⟩
/-- a cell that nothing is said of -/
theorem Good.up {S : Nat → Int32} {A P : Int} {k : Nat} {v : Int32} (g : Good S A P) (hk : k = 90 ∨ k = 92 ∨ k = 93 ∨ k = 95 ∨ k = 99 ∨ k = 101 ∨ k = 102 ∨ k = 104) : Good (up1 S k v) A P := by
  have e : ∀ j, j ≠ k → up1 S k v j = S j := fun j hj => up1_ne _ _ hj
  refine g.cg (fun p hp j hj => e _ (by omega)) (fun m hm => e _ (by omega)) (by rw [e 98 (by omega)]; exact Int.le_refl _) ?_ ?_
  · have n := g.2.1
    unfold GNum at n ⊢
    rw [e 105 (by omega), e 96 (by omega), e 97 (by omega), e 98 (by omega)]
    exact n
  · have u := g.2.2
    unfold GPut at u ⊢
    rw [e 100 (by omega), e 103 (by omega)]
    exact u
theorem Good.ref {S : Nat → Int32} {A P : Int} (g : Good S A P) : Good (sRef S) A P := g.up (by decide)
theorem Good.up105 {S : Nat → Int32} {A P : Int} {v : Int32} (g : Good S A P) (hv : v = 0 ∨ v = 1) : Good (up1 S 105 v) A P := by
  have e : ∀ j, j ≠ 105 → up1 S 105 v j = S j := fun j hj => up1_ne _ _ hj
  refine g.cg (fun p hp j hj => e _ (by omega)) (fun m hm => e _ (by omega)) (by rw [e 98 (by omega)]; exact Int.le_refl _) ?_ ?_
  · have n := g.2.1
    unfold GNum at n ⊢
    rw [up1_eq, e 96 (by omega), e 97 (by omega), e 98 (by omega)]
    exact ⟨hv, n.2⟩
  · have u := g.2.2
    unfold GPut at u ⊢
    rw [e 100 (by omega), e 103 (by omega)]
    exact u
theorem Good.up96 {S : Nat → Int32} {A P : Int} {v : Int32} (g : Good S A P) (hv : 0 ≤ v.toInt ∧ v.toInt ≤ 99999) : Good (up1 S 96 v) A P := by
  have e : ∀ j, j ≠ 96 → up1 S 96 v j = S j := fun j hj => up1_ne _ _ hj
  refine g.cg (fun p hp j hj => e _ (by omega)) (fun m hm => e _ (by omega)) (by rw [e 98 (by omega)]; exact Int.le_refl _) ?_ ?_
  · have n := g.2.1
    unfold GNum at n ⊢
    rw [up1_eq, e 105 (by omega), e 97 (by omega), e 98 (by omega)]
    exact ⟨n.1, hv, n.2.2⟩
  · have u := g.2.2
    unfold GPut at u ⊢
    rw [e 100 (by omega), e 103 (by omega)]
    exact u
/-- one pile's cell, its place and being here as they were -/
theorem Good.rush {S : Nat → Int32} {A P : Int} {p : Nat} {v : Int32} (g : Good S A P) (hp : p < 10) (hv : v = 0 ∨ v = 1) : Good (up1 S (9 * p + 5) v) A P := by
  have e : ∀ j, j ≠ 9 * p + 5 → up1 S (9 * p + 5) v j = S j := fun j hj => up1_ne _ _ hj
  obtain ⟨⟨pl, di, sh, co, ma, mb⟩, n, u⟩ := g
  have eh : ∀ q, sHere (up1 S (9 * p + 5) v) q = sHere S q := fun q => by unfold sHere; rw [e _ (by omega)]
  have ea : ∀ q st wh, sAt (up1 S (9 * p + 5) v) q st wh = sAt S q st wh := fun q st wh => by unfold sAt; rw [eh, e _ (by omega), e _ (by omega)]
  refine ⟨⟨fun q h => ?_, fun a b h1 h2 h3 h4 hn => ?_, fun a b h1 h2 x h3 h4 => ?_, fun a b h1 h2 x h3 h4 => ?_, fun m h => ?_, fun m h hM => ?_⟩, ?_, ?_⟩
  · have z := pl q h
    unfold GPile at z ⊢
    rw [eh, e (9 * q + 0) (by omega), e (9 * q + 1) (by omega), e (9 * q + 3) (by omega), e (9 * q + 4) (by omega), e 98 (by omega)]
    refine ⟨?_, z.2⟩
    by_cases c : q = p
    · subst c; rw [up1_eq]; exact hv
    · rw [e _ (by omega)]; exact z.1
  · rw [eh] at h3 h4
    rw [e _ (by omega), e _ (by omega)]
    exact di a b h1 h2 h3 h4 hn
  · rw [ea] at h3 h4
    exact sh a b h1 h2 x h3 h4
  · rw [ea] at h3 h4
    rw [e _ (by omega), e _ (by omega)]
    exact co a b h1 h2 x h3 h4
  · rw [e _ (by omega)]
    rcases ma m h with ⟨a, b⟩ | a
    · exact Or.inl ⟨a, fun q hq => by rw [ea]; exact b q hq⟩
    · exact Or.inr a
  · unfold GMb
    rw [e _ (by omega)]
    rcases mb m h hM with a | ⟨q, hq, b⟩
    · exact Or.inl a
    · exact Or.inr ⟨q, hq, by rw [ea]; exact b⟩
  · unfold GNum at n ⊢
    rw [e 105 (by omega), e 96 (by omega), e 97 (by omega), e 98 (by omega)]
    exact n
  · unfold GPut at u ⊢
    rw [e 100 (by omega), e 103 (by omega)]
    exact u
theorem lit_I {n : Nat} (h : n < 2 ^ 31) : (nI n).toInt = n := nI_toInt h
theorem i100 : (100 : Int32).toInt = 100 := by decide
theorem i1 : (1 : Int32).toInt = 1 := by decide
theorem im1 : (-1 : Int32).toInt = -1 := by decide
/-- a pile taken in -/
theorem Good.adm {S : Nat → Int32} {A P : Int} {p : Nat} {x1 x2 x3 x4 x5 : Int32} (g : Good S A P) (hA : A ≤ 100000) (hf : sFree S = some p) (h1 : ¬ x1 = -1) (h3 : 1 ≤ x3.toInt ∧ x3.toInt ≤ 60) (h4 : 1 ≤ x4.toInt ∧ x4.toInt ≤ 999) (h5 : x5 = 0 ∨ x5 = 1) : Good (sAdm S p x1 x2 x3 x4 x5) (A + 1) P := by
  have hp := (fi_lt hf).1
  have hno : sHere S p = false := by have := (fi_lt hf).2; rwa [Bool.not_eq_true'] at this
  obtain ⟨⟨pl, di, sh, co, ma, mb⟩, n, u⟩ := g
  have n98 := n.2.2.2
  have n97 : (S 97).toInt = 100 + (S 98).toInt := by rw [n.2.2.1, ad32 (by rw [i100]; omega) (by rw [i100]; omega), i100]
  have n96 := n.2.1
  -- the cells
  have o : ∀ j, j < 9 → sAdm S p x1 x2 x3 x4 x5 (9 * p + j) = ff (S 97) x1 x2 x3 (S 96 + x4) x5 0 (-1) (-1) j := fun j hj => by
    unfold sAdm
    rw [up1_ne _ _ (by omega), up1_ne _ _ (by omega), pw_own hj]
  have ne : ∀ q, q < 10 → q ≠ p → ∀ j, j < 9 → sAdm S p x1 x2 x3 x4 x5 (9 * q + j) = S (9 * q + j) := fun q hq hn j hj => by
    unfold sAdm
    rw [up1_ne _ _ (by omega), up1_ne _ _ (by omega), pw_ne hn hj]
  have hi : ∀ k, 90 ≤ k → k ≠ 97 → k ≠ 98 → sAdm S p x1 x2 x3 x4 x5 k = S k := fun k hk a b => by
    unfold sAdm
    rw [up1_ne _ _ b, up1_ne _ _ a, pw_hi hp hk]
  have t98 : sAdm S p x1 x2 x3 x4 x5 98 = S 98 + 1 := by unfold sAdm; rw [up1_eq]
  have t97 : sAdm S p x1 x2 x3 x4 x5 97 = S 97 + 1 := by unfold sAdm; rw [up1_ne _ _ (by omega), up1_eq]
  have v98 : (S 98 + 1).toInt = (S 98).toInt + 1 := by rw [ad32 (by rw [i1]; omega) (by rw [i1]; omega), i1]
  generalize sAdm S p x1 x2 x3 x4 x5 = T at *
  have tp0 : T (9 * p + 0) = S 97 := o 0 (by omega)
  have hhp : sHere T p = true := by
    unfold sHere
    rw [decide_eq_true_eq, tp0, i32_ne, n97, im1]
    omega
  have eh : ∀ q, q < 10 → q ≠ p → sHere T q = sHere S q := fun q hq hn => sHere_cg (ne q hq hn)
  have ea : ∀ q, q < 10 → q ≠ p → ∀ st wh, sAt T q st wh = sAt S q st wh := fun q hq hn st wh => sAt_cg (ne q hq hn)
  have t6 : T (9 * p + 6) = 0 := o 6 (by omega)
  have ap : ∀ st wh, ¬ st = 0 → sAt T p st wh = false := fun st wh hs => by
    unfold sAt
    rw [t6, show decide ((0 : Int32) = st) = false from by simp; exact fun z => hs z.symm]
    simp
  have a2 : ∀ q, q < 10 → ∀ st wh, ¬ st = 0 → sAt T q st wh = true → q ≠ p ∧ sAt S q st wh = true := fun q hq st wh hs h => by
    by_cases e : q = p
    · subst e; rw [ap st wh hs] at h; simp at h
    · rw [ea q hq e] at h; exact ⟨e, h⟩
  have a3 : ∀ q, q < 10 → ∀ st wh, ¬ st = 0 → sAt S q st wh = true → sAt T q st wh = true := fun q hq st wh hs h => by
    by_cases e : q = p
    · subst e; have := sAt_here h; rw [hno] at this; simp at this
    · rw [ea q hq e]; exact h
  have tk : ∀ q, q < 10 → sHere S q = true → (T (9 * q + 0)).toInt < 100 + (S 98).toInt := fun q hq hh => by
    have e : q ≠ p := fun z => by subst z; rw [hno] at hh; simp at hh
    rw [ne q hq e 0 (by omega)]
    exact ((pl q hq).2 hh).2.1.2
  refine ⟨⟨fun q h => ?_, fun a b ha hb h3 h4 hn => ?_, fun a b ha hb x h3 h4 => ?_, fun a b ha hb x h3 h4 => ?_, fun m h => ?_, fun m h hM => ?_⟩, ?_, ?_⟩
  · unfold GPile
    by_cases e : q = p
    · subst e
      have t1 : T (9 * q + 1) = x1 := o 1 (by omega)
      have t3 : T (9 * q + 3) = x3 := o 3 (by omega)
      have t4 : T (9 * q + 4) = S 96 + x4 := o 4 (by omega)
      have t5 : T (9 * q + 5) = x5 := o 5 (by omega)
      rw [t1, t3, t4, t5, tp0, t98, v98, n97, ad32 (by omega) (by omega)]
      exact ⟨h5, fun _ => ⟨⟨by omega, by omega⟩, ⟨by omega, by omega⟩, h3, h1⟩⟩
    · have z := pl q h
      unfold GPile at z
      rw [eh q h e, ne q h e 0 (by omega), ne q h e 1 (by omega), ne q h e 3 (by omega), ne q h e 4 (by omega), ne q h e 5 (by omega), t98, v98]
      refine ⟨z.1, fun hh => ?_⟩
      obtain ⟨za, zb, zc, zd⟩ := z.2 hh
      exact ⟨za, ⟨zb.1, by omega⟩, zc, zd⟩
  · by_cases ea' : a = p
    · subst ea'
      have eb : b ≠ a := fun z => hn z.symm
      rw [eh b hb eb] at h4
      have := tk b hb h4
      rw [tp0, i32_ne, n97]
      omega
    · rw [eh a ha ea'] at h3
      by_cases eb : b = p
      · subst eb
        have := tk a ha h3
        rw [tp0, i32_ne, n97]
        omega
      · rw [eh b hb eb] at h4
        rw [ne a ha ea' 0 (by omega), ne b hb eb 0 (by omega)]
        exact di a b ha hb h3 h4 hn
  · obtain ⟨-, h3'⟩ := a2 a ha 2 x (by decide) h3
    obtain ⟨-, h4'⟩ := a2 b hb 2 x (by decide) h4
    exact sh a b ha hb x h3' h4'
  · obtain ⟨e3, h3'⟩ := a2 a ha 1 x (by decide) h3
    obtain ⟨e4, h4'⟩ := a2 b hb 1 x (by decide) h4
    rw [ne a ha e3 1 (by omega), ne b hb e4 1 (by omega)]
    exact co a b ha hb x h3' h4'
  · rw [hi _ (by omega) (by omega) (by omega)]
    rcases ma m h with ⟨a, b⟩ | a
    · refine Or.inl ⟨a, fun q hq => ?_⟩
      cases hs : sAt T q 1 (nI m) with
      | false => rfl
      | true =>
        obtain ⟨-, h'⟩ := a2 q hq 1 _ (by decide) hs
        rw [b q hq] at h'
        simp at h'
    · exact Or.inr a
  · unfold GMb
    rw [hi _ (by omega) (by omega) (by omega)]
    rcases mb m h hM with a | ⟨q, hq, b⟩
    · exact Or.inl a
    · exact Or.inr ⟨q, hq, a3 q hq 1 _ (by decide) b⟩
  · unfold GNum at n ⊢
    rw [hi 105 (by omega) (by omega) (by omega), hi 96 (by omega) (by omega) (by omega), t97, t98, v98]
    refine ⟨n.1, n.2.1, ?_, by omega, by omega⟩
    rw [n.2.2.1, Int32.add_assoc]
  · unfold GPut at u ⊢
    rw [hi 100 (by omega) (by omega) (by omega), hi 103 (by omega) (by omega) (by omega)]
    exact u
