/-! The same, for each act. -/
section
variable {S : Nat → Int32} {p m : Nat} {A P : Int}
theorem i5 : (5 : Int32).toInt = 5 := by decide
theorem NV.adm {x1 x2 x3 x4 x5 : Int32} (n : NV S A) (g : Good S A P) (hA : A ≤ 100000) (hf : sFree S = some p) (h1 : 0 ≤ x1.toInt ∧ x1.toInt ≤ 3) (h2 : 1 ≤ x2.toInt ∧ x2.toInt ≤ 20) : NV (sAdm S p x1 x2 x3 x4 x5) A := by
  have hp := (fi_lt hf).1
  have hno : sHere S p = false := by have := (fi_lt hf).2; rwa [Bool.not_eq_true'] at this
  have n98 := g.2.1.2.2.2
  have n97 : (S 97).toInt = 100 + (S 98).toInt := by rw [g.2.1.2.2.1, ad32 (by rw [i100]; omega) (by rw [i100]; omega), i100]
  have o : ∀ j, j < 9 → sAdm S p x1 x2 x3 x4 x5 (9 * p + j) = ff (S 97) x1 x2 x3 (S 96 + x4) x5 0 (-1) (-1) j := fun j hj => by
    unfold sAdm
    rw [up1_ne _ _ (by omega), up1_ne _ _ (by omega), pw_own hj]
  have ne : ∀ q, q < 10 → q ≠ p → ∀ j, j < 9 → sAdm S p x1 x2 x3 x4 x5 (9 * q + j) = S (9 * q + j) := fun q hq hn j hj => by
    unfold sAdm
    rw [up1_ne _ _ (by omega), up1_ne _ _ (by omega), pw_ne hn hj]
  have hi : ∀ k, 90 ≤ k → k ≠ 97 → k ≠ 98 → sAdm S p x1 x2 x3 x4 x5 k = S k := fun k hk a b => by
    unfold sAdm
    rw [up1_ne _ _ b, up1_ne _ _ a, pw_hi hp hk]
  have t98 : sAdm S p x1 x2 x3 x4 x5 98 = S 98 + 1 := by unfold sAdm; rw [up1_eq]
  have v98 : (S 98 + 1).toInt = (S 98).toInt + 1 := by rw [ad32 (by rw [i1]; omega) (by rw [i1]; omega), i1]
  generalize sAdm S p x1 x2 x3 x4 x5 = T at *
  have tp0 : T (9 * p + 0) = S 97 := o 0 (by omega)
  have hhp : sHere T p = true := by
    unfold sHere
    rw [decide_eq_true_eq, tp0, i32_ne, n97, im1]
    omega
  have eh : ∀ q, q < 10 → q ≠ p → sHere T q = sHere S q := fun q hq hn => sHere_cg (ne q hq hn)
  have t6 : T (9 * p + 6) = 0 := o 6 (by omega)
  have ea : ∀ q, q < 10 → ∀ st wh, ¬ st = 0 → sAt T q st wh = sAt S q st wh := fun q hq st wh hs => by
    by_cases e : q = p
    · subst e
      have a : sAt S q st wh = false := by unfold sAt; rw [hno, Bool.false_and]
      rw [a]
      cases hc : sAt T q st wh with
      | false => rfl
      | true => exact absurd ((sAt_t.mp hc).2.1.symm.trans t6) hs
    · exact sAt_cg (ne q hq e)
  have ei : ∀ q, q < 10 → sIn T q 2 = sIn S q 2 := fun q hq => by
    by_cases e : q = p
    · subst e
      have a : sIn S q 2 = false := by unfold sIn; rw [hno, Bool.false_and]
      rw [a]
      unfold sIn
      rw [t6]
      simp
    · unfold sIn
      rw [eh q hq e, ne q hq e 6 (by omega)]
  have ef : sFreeShelf T = sFreeShelf S := fi_congr (fun k _ => by
    rw [show sShelf T (nI k) = sShelf S (nI k) from fi_congr (fun q hq => ea q hq 2 _ (by decide))])
  have ch : cHere T = cHere S + 1 := by
    unfold cHere
    rw [cnt_rm (P := fun q => sHere T q) hhp hp]
    congr 1
    refine cnt_congr (fun q hq => ?_)
    by_cases c : q = p
    · subst c
      rw [hno]
      simp
    · rw [show decide (¬ q = p) = true from by simp [c], Bool.and_true, eh q hq c]
  have ew : ∀ m', wIn T m' = wIn S m' := fun m' => sg_congr (fun q hq => by
    by_cases c : q = p
    · subst c
      rw [wt_f (by rw [ea q hq 1 _ (by decide)]; unfold sAt; rw [hno, Bool.false_and]), wt_f (by unfold sAt; rw [hno, Bool.false_and])]
    · exact wt_e (ea q hq 1 _ (by decide)) (by unfold gw; rw [ne q hq c 2 (by omega)]))
  refine ⟨⟨fun q hq hh => ?_, fun m' h' => ?_, ?_, ?_⟩, fun m' h' => ?_⟩
  · by_cases c : q = p
    · subst c
      refine ⟨?_, ?_, Or.inl ⟨t6, o 7 (by omega), o 8 (by omega)⟩⟩
      · rw [show T (9 * q + 2) = x2 from o 2 (by omega)]; exact h2
      · rw [show T (9 * q + 1) = x1 from o 1 (by omega)]; exact h1
    · rw [eh q hq c] at hh
      obtain ⟨a, b, d⟩ := n.1.1 q hq hh
      unfold pSt at d ⊢
      rw [ne q hq c 1 (by omega), ne q hq c 2 (by omega), ne q hq c 6 (by omega), ne q hq c 7 (by omega), ne q hq c 8 (by omega), hi 96 (by omega) (by omega) (by omega)]
      exact ⟨a, b, d⟩
  · have := n.1.2.1 m' h'
    unfold NMa at this ⊢
    rw [ew, hi (90 + 3 * m' + 0) (by omega) (by omega) (by omega), hi (90 + 3 * m' + 1) (by omega) (by omega) (by omega), hi (90 + 3 * m' + 2) (by omega) (by omega) (by omega)]
    exact this
  · have := n.1.2.2.1
    unfold NCt at this ⊢
    rw [ch, t98, v98, hi 99 (by omega) (by omega) (by omega)]
    omega
  · have := n.1.2.2.2
    unfold NSh cShelf at this ⊢
    rw [cnt_congr ei, hi 103 (by omega) (by omega) (by omega), hi 99 (by omega) (by omega) (by omega)]
    exact this
  · have := n.2 m' h'
    unfold NEd at this ⊢
    rw [ef, hi (90 + 3 * m' + 1) (by omega) (by omega) (by omega), hi 96 (by omega) (by omega) (by omega)]
    exact this
theorem okT_I {x1 x2 x3 x4 : Int32} (h : okT x1 x2 x3 x4 = true) : (0 ≤ x1.toInt ∧ x1.toInt ≤ 3) ∧ (1 ≤ x2.toInt ∧ x2.toInt ≤ 20) := by
  obtain ⟨⟨a, b⟩, ⟨c, d⟩, -, -⟩ := okT_t.mp h
  rw [Int32.lt_iff_toInt_lt] at a b c d
  have l0 : (0 : Int32).toInt = 0 := by decide
  have l3 : (3 : Int32).toInt = 3 := by decide
  have l20 : (20 : Int32).toInt = 20 := by decide
  rw [l0] at a
  rw [l3] at b
  rw [i1] at c
  rw [l20] at d
  exact ⟨⟨by omega, by omega⟩, by omega, by omega⟩
theorem NV.ref (n : NV S A) : NV (sRef S) A := n.hi (by omega) (by omega)
theorem NV.takes {x1 x2 x3 x4 x5 : Int32} (n : NV S A) (g : Good S A P) (hA : A ≤ 100000) (h : okT x1 x2 x3 x4 = true) : NV (sTakes S x1 x2 x3 x4 x5).2 A := by
  cases hf : sFree S with
  | none => rw [sTakes_none hf]; exact n.ref
  | some p =>
    rw [sTakes_some hf]
    obtain ⟨h1, h2⟩ := okT_I h
    exact n.adm g hA hf h1 h2
theorem NX.taken {x : Int32} (n : NX S A) (g : Good S A P) (hA : A ≤ 100000) (hp : p < 10) (ha : sAt S p 2 x = true) : NX (sTaken S p) A := by
  obtain ⟨hh, h6, h7⟩ := sAt_t.mp ha
  have o : ∀ k, k ≠ 9 * p + 0 → k ≠ 101 → k ≠ 99 → sTaken S p k = S k := fun k a b c => by
    unfold sTaken
    rw [up1_ne _ _ c, up1_ne _ _ b, up1_ne _ _ a]
  have t0 : sTaken S p (9 * p + 0) = -1 := by
    unfold sTaken
    rw [up1_ne _ _ (by omega), up1_ne _ _ (by omega), up1_eq]
  have t99 : sTaken S p 99 = S 99 + 1 := by unfold sTaken; rw [up1_eq]
  have n98 := g.2.1.2.2.2
  have c1 := n.2.2.1
  unfold NCt at c1
  have v99 : (S 99 + 1).toInt = (S 99).toInt + 1 := by rw [ad32 (by rw [i1]; omega) (by rw [i1]; omega), i1]
  generalize sTaken S p = T at *
  have hno : sHere T p = false := by
    unfold sHere
    rw [t0]
    decide
  have ne : ∀ q, q ≠ p → ∀ j, j < 9 → q < 10 → T (9 * q + j) = S (9 * q + j) := fun q hq j hj h10 => o _ (by omega) (by omega) (by omega)
  have eh : ∀ q, q < 10 → sHere T q = (sHere S q && decide (¬ q = p)) := fun q hq => by
    by_cases c : q = p
    · subst c; rw [hno]; simp
    · rw [show decide (¬ q = p) = true from by simp [c], Bool.and_true, sHere_cg (fun j hj => ne q c j hj hq)]
  refine ⟨fun q hq hh' => ?_, fun m' h' => ?_, ?_, ?_⟩
  · rw [eh q hq, Bool.and_eq_true, decide_eq_true_eq] at hh'
    obtain ⟨a, b, d⟩ := n.1 q hq hh'.1
    unfold pSt at d ⊢
    have c := hh'.2
    rw [ne q c 1 (by omega) hq, ne q c 2 (by omega) hq, ne q c 6 (by omega) hq, ne q c 7 (by omega) hq, ne q c 8 (by omega) hq, o 96 (by omega) (by omega) (by omega)]
    exact ⟨a, b, d⟩
  · obtain ⟨a, b, c, d, e⟩ := n.2.1 m' h'
    unfold NMa
    rw [o (90 + 3 * m' + 0) (by omega) (by omega) (by omega), o (90 + 3 * m' + 1) (by omega) (by omega) (by omega), o (90 + 3 * m' + 2) (by omega) (by omega) (by omega)]
    refine ⟨a, Int.le_trans ?_ b, c, d, e⟩
    have : wIn T m' ≤ wIn S m' := sg_le 10 (fun q hq => by
      by_cases z : q = p
      · subst z
        rw [wt_f (by unfold sAt; rw [hno, Bool.false_and])]
        exact Nat.zero_le _
      · exact Nat.le_of_eq (wt_e (sAt_cg (fun j hj => ne q z j hj hq)) (by unfold gw; rw [ne q z 2 (by omega) hq])))
    exact_mod_cast this
  · have e1 : cHere S = cHere T + 1 := by
      unfold cHere
      rw [cnt_rm (P := fun q => sHere S q) hh hp]
      congr 1
      exact (cnt_congr (fun q hq => eh q hq)).symm
    unfold NCt
    rw [o 98 (by omega) (by omega) (by omega), t99, v99]
    omega
  · have s3 := n.2.2.2
    have e1 : cShelf S = cShelf T + 1 := by
      unfold cShelf
      rw [cnt_rm (P := fun q => sIn S q 2) (sIn_t.mpr ⟨hh, h6⟩) hp]
      congr 1
      refine (cnt_congr (fun q hq => ?_)).symm
      unfold sIn
      rw [eh q hq]
      by_cases z : q = p
      · subst z; simp
      · rw [ne q z 6 (by omega) hq, show decide (¬ q = p) = true from by simp [z], Bool.and_true, Bool.and_true]
    unfold NSh at s3 ⊢
    rw [o 103 (by omega) (by omega) (by omega), t99, v99]
    omega
theorem NV.give {t x : Int32} (n : NV S A) (g : Good S A P) (hA : A ≤ 100000) (hP : P ≤ 400000000) : NV (sGive S t x).2 A := by
  cases hs : sShelf S x with
  | none => rw [sGive_0 hs]; exact n.ref
  | some p =>
    by_cases e : S (9 * p + 0) = t
    · rw [sGive_1 hs e]
      have hp := fi_lt hs
      exact all_inv (g.taken hp.1 hp.2) (n.1.taken g hA hp.1 hp.2) hP
    · rw [sGive_2 hs e]; exact n.ref
theorem NV.pass {k : Nat} (n : NV S A) (g : Good S A P) (hP : P ≤ 300000000) (hk : k ≤ 240) (h2 : (S 96).toInt + k ≤ 99999) : NV (sPass S k).1 A := by
  have sp := sPass_good g hP hk h2
  have key : ∀ i, i ≤ k → NV (sPass S i).1 A := by
    intro i
    induction i with
    | zero => intro _; exact n
    | succ i ih =>
      intro hi
      obtain ⟨gi, ci⟩ := sp i (by omega)
      have ni := ih (by omega)
      have e : (sPass S (i + 1)).1 = (sAll (up1 (sPass S i).1 96 ((sPass S i).1 96 + 1))).1 := rfl
      rw [e]
      revert gi ci ni
      generalize (sPass S i).1 = T
      intro gi ci ni
      have v : (T 96 + 1).toInt = (T 96).toInt + 1 := by
        have := gi.2.1.2.1
        rw [ad32 (by rw [i1]; omega) (by rw [i1]; omega), i1]
      have c0 := g.2.1.2.1
      exact all_inv (gi.up96 ⟨by omega, by omega⟩) (ni.1.clock (by omega)) (by omega)
  exact key k (Nat.le_refl k)
end
