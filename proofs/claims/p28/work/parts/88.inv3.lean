/-! The same, for loading. -/
theorem wl_sum {S : Nat → Int32} {L : Nat → Nat} {n : Nat} {room : Int32} (g : GO S) (h : LN (fun a b => sAhead S a b (S 105)) (sW S) 10 L n) (hw : ∀ p, p < 10 → sW S p = true → 1 ≤ (S (9 * p + 2)).toInt ∧ (S (9 * p + 2)).toInt ≤ 20) (hr : 0 ≤ room.toInt ∧ room.toInt ≤ 60) :
    ∀ r, r ≤ n → ((sg (wt (bt (fo (wlF S L) r (0, -1, room)).1) (gw S)) 10 : Nat) : Int) + (fo (wlF S L) r (0, -1, room)).2.2.toInt = room.toInt ∧ 0 ≤ (fo (wlF S L) r (0, -1, room)).2.2.toInt ∧ ∀ p, p < 32 → bt (fo (wlF S L) r (0, -1, room)).1 p = true → ∃ i, i < r ∧ L i = p := by
  intro r
  induction r with
  | zero =>
    intro _
    refine ⟨?_, hr.1, fun p _ hb => ?_⟩
    · show ((sg (wt (bt 0) (gw S)) 10 : Nat) : Int) + room.toInt = room.toInt
      rw [sg_zero 10 (fun q _ => wt_f (b_0 q))]
      omega
    · have h' : bt 0 p = true := hb
      rw [b_0] at h'
      simp at h'
  | succ r ih =>
    intro hrn
    obtain ⟨i1, i2, i3⟩ := ih (by omega)
    have e : fo (wlF S L) (r + 1) (0, -1, room) = wlF S L r (fo (wlF S L) r (0, -1, room)) := rfl
    rw [e]
    revert i1 i2 i3
    generalize fo (wlF S L) r (0, -1, room) = a
    intro i1 i2 i3
    have hl := h.2.1 r (by omega)
    have hwr := hw (L r) hl.1 hl.2
    unfold wlF
    by_cases c : ¬ a.2.2 < S (9 * L r + 2) ∧ (a.1 = 0 ∨ S (9 * L r + 1) = a.2.1)
    · rw [if_pos c]
      have c1 := c.1
      rw [Int32.lt_iff_toInt_lt] at c1
      have hno : bt a.1 (L r) = false := by
        cases hb : bt a.1 (L r) with
        | false => rfl
        | true =>
          obtain ⟨i, j1, j2⟩ := i3 (L r) (by omega) hb
          exact absurd j2 (LN_ne (sSTO (S 105) g) h j1 (by omega))
      have hs : sg (wt (bt (a.1 ||| ((1 : Int32) <<< (nI (L r) &&& 31)))) (gw S)) 10 = sg (wt (bt a.1) (gw S)) 10 + gw S (L r) := by
        rw [← sg_add hno 10 hl.1]
        exact sg_congr (fun q hq => wt_e (bt_or1 (by omega) (by omega)) rfl)
      have hd : (a.2.2 - S (9 * L r + 2)).toInt = a.2.2.toInt - (S (9 * L r + 2)).toInt := sb32 (by omega) (by omega)
      refine ⟨?_, ?_, fun p hp hb => ?_⟩
      · show ((sg (wt (bt (a.1 ||| ((1 : Int32) <<< (nI (L r) &&& 31)))) (gw S)) 10 : Nat) : Int) + (a.2.2 - S (9 * L r + 2)).toInt = room.toInt
        have e9 : ((gw S (L r) : Nat) : Int) = (S (9 * L r + 2)).toInt := by unfold gw; omega
        rw [hs, hd]
        omega
      · show 0 ≤ (a.2.2 - S (9 * L r + 2)).toInt
        rw [hd]
        omega
      · have hb' : bt (a.1 ||| ((1 : Int32) <<< (nI (L r) &&& 31))) p = true := hb
        rw [bt_or1 hp (by omega), Bool.or_eq_true, decide_eq_true_eq] at hb'
        rcases hb' with z | z
        · obtain ⟨i, j1, j2⟩ := i3 p hp z
          exact ⟨i, by omega, j2⟩
        · exact ⟨r, by omega, z.symm⟩
    · rw [if_neg c]
      exact ⟨i1, i2, fun p hp hb => by
        obtain ⟨i, j1, j2⟩ := i3 p hp hb
        exact ⟨i, by omega, j2⟩⟩
theorem sMax_ge {a t : Int32} : a.toInt ≤ (sMax a t).toInt ∧ t.toInt ≤ (sMax a t).toInt := by
  unfold sMax
  by_cases c : a < t
  · rw [if_pos c]
    rw [Int32.lt_iff_toInt_lt] at c
    omega
  · rw [if_neg c]
    rw [Int32.lt_iff_toInt_lt] at c
    omega
section
variable {S : Nat → Int32} {p m : Nat} {A P : Int} {w : Int32}
/-- the longest washing time of those loaded -/
theorem ld_long (hw : Wm S w) (h0 : ¬ w = 0) (ht : ∀ q, q < 10 → sW S q = true → 1 ≤ (S (9 * q + 3)).toInt) : 1 ≤ (fo (sLdF w m) 10 (S, 0)).2.toInt := by
  obtain ⟨i, hi, hb⟩ := bt_ex h0
  obtain ⟨hi10, hiW⟩ := hw.1 i hi hb
  have key : ∀ k, k ≤ 10 → i < k → 1 ≤ (fo (sLdF w m) k (S, 0)).2.toInt := by
    intro k
    induction k with
    | zero => intro _ h; exact absurd h (Nat.not_lt_zero i)
    | succ k ih =>
      intro hk hik
      have cell := ld_cell (S := S) (w := w) (m := m) (q := k) (j := 3) (by omega) (by omega) k (by omega)
      rw [if_neg (fun z => absurd z.1 (Nat.lt_irrefl k))] at cell
      have ih := ih (by omega)
      show 1 ≤ (sLdF w m k (fo (sLdF w m) k (S, 0))).2.toInt
      revert ih cell
      generalize fo (sLdF w m) k (S, 0) = a
      intro cell ih
      unfold sLdF
      by_cases e : i = k
      · subst e
        rw [if_pos hb]
        show 1 ≤ (sMax a.2 (a.1 (9 * i + 3))).toInt
        rw [cell]
        exact Int.le_trans (ht i hi10 hiW) sMax_ge.2
      · have ih := ih (by omega)
        by_cases c : bt w k = true
        · rw [if_pos c]
          show 1 ≤ (sMax a.2 (a.1 (9 * k + 3))).toInt
          exact Int.le_trans ih sMax_ge.1
        · rw [if_neg c]; exact ih
  exact key 10 (Nat.le_refl _) hi10
theorem long_60 (hw : Wm S w) (pl : ∀ p, p < 10 → GPile S p) : 0 ≤ (fo (sLdF w m) 10 (S, 0)).2.toInt ∧ (fo (sLdF w m) 10 (S, 0)).2.toInt ≤ 60 := by
  have long : ∀ k, k ≤ 10 → 0 ≤ (fo (sLdF w m) k (S, 0)).2.toInt ∧ (fo (sLdF w m) k (S, 0)).2.toInt ≤ 60 := by
    intro k
    induction k with
    | zero => intro _; exact ⟨by simp [fo], by simp [fo]⟩
    | succ k ih =>
      intro hk
      have i := ih (by omega)
      have cell := ld_cell (S := S) (w := w) (m := m) (q := k) (j := 3) (by omega) (by omega) k (by omega)
      rw [if_neg (fun z => absurd z.1 (Nat.lt_irrefl k))] at cell
      show 0 ≤ (sLdF w m k (fo (sLdF w m) k (S, 0))).2.toInt ∧ (sLdF w m k (fo (sLdF w m) k (S, 0))).2.toInt ≤ 60
      revert i cell
      generalize fo (sLdF w m) k (S, 0) = a
      intro i cell
      unfold sLdF
      by_cases c : bt w k = true
      · rw [if_pos c]
        show 0 ≤ (sMax a.2 (a.1 (9 * k + 3))).toInt ∧ (sMax a.2 (a.1 (9 * k + 3))).toInt ≤ 60
        rw [cell]
        have hk2 := hw.1 k (by omega) c
        exact sMax_b i.1 i.2 ((pl k hk2.1).2 (sW_6 hk2.2).1).2.2.1.2
      · rw [if_neg c]; exact i
  exact long 10 (Nat.le_refl _)
theorem NV.load (n : NV S A) (g : Good S A P) (hA : A ≤ 100000) (hm : m < 2) (hi : S (90 + 3 * m + 1) = -1) (hwl : sWL S (S (90 + 3 * m + 0)) w) (h0 : ¬ w = 0) : NV (sLoad S w m) (A + 1) := by
  have hw : Wm S w := sWL_bits (g.GO hA) hwl
  have no : ∀ q, q < 10 → sAt S q 1 (nI m) = false := by
    rcases g.1.2.2.2.2.1 m hm with ⟨-, b⟩ | a
    · exact b
    · rw [hi, im1] at a
      omega
  have lg := long_60 (m := m) hw g.1.1
  have l1 := ld_long (m := m) hw h0 (fun q hq h => ((g.1.1 q hq).2 (sW_6 h).1).2.2.1.1)
  have room := n.1.2.1 m hm
  have c96 := g.2.1.2.1
  -- what they weigh
  have hsum : ((sg (wt (bt w) (gw S)) 10 : Nat) : Int) ≤ (S (90 + 3 * m + 0)).toInt := by
    obtain ⟨L, k, h⟩ := LN_ex (sSTO (S 105) (g.GO hA)) 10 (Nat.le_refl 10)
    have e := hwl L k h
    have := wl_sum (room := S (90 + 3 * m + 0)) (g.GO hA) h (fun p hp hW => (n.1.1 p hp (sW_6 hW).1).1) ⟨by have := room.1; omega, room.1.2⟩ k (Nat.le_refl k)
    rw [e]
    unfold wlM
    omega
  have cell : ∀ q, q < 10 → ∀ j, j < 9 → sLoad S w m (9 * q + j) = if bt w q = true then (if j = 6 then 1 else if j = 7 then nI m else S (9 * q + j)) else S (9 * q + j) := fun q hq j hj => by
    unfold sLoad
    rw [up1_ne _ _ (by omega), up1_ne _ _ (by omega)]
    have := ld_cell (S := S) (w := w) (m := m) hq hj 10 (Nat.le_refl _)
    unfold sLd
    rw [this]
    by_cases c : bt w q = true
    · rw [if_pos ⟨hq, c⟩, if_pos c]
    · rw [if_neg (fun z => c z.2), if_neg c]
  have hiT : ∀ k, 90 ≤ k → k ≠ 90 + 3 * m + 1 → k ≠ 90 + 3 * m + 2 → sLoad S w m k = S k := fun k hk a b => by
    unfold sLoad
    rw [up1_ne _ _ b, up1_ne _ _ a]
    exact ld_hi hk 10 (Nat.le_refl _)
  have tE : sLoad S w m (90 + 3 * m + 1) = S 96 + (fo (sLdF w m) 10 (S, 0)).2 := by
    unfold sLoad
    rw [up1_ne _ _ (by omega), up1_eq]
    rfl
  have tL : sLoad S w m (90 + 3 * m + 2) = S (90 + 3 * m + 2) + 1 := by
    unfold sLoad
    rw [up1_eq]
  have vE : (S 96 + (fo (sLdF w m) 10 (S, 0)).2).toInt = (S 96).toInt + (fo (sLdF w m) 10 (S, 0)).2.toInt := by
    rw [ad32 (by omega) (by omega)]
  have vL : (S (90 + 3 * m + 2) + 1).toInt = (S (90 + 3 * m + 2)).toInt + 1 := by
    have := room.2.2.2
    rw [ad32 (by rw [i1]; omega) (by rw [i1]; omega), i1]
  generalize sLoad S w m = T at *
  have lo : ∀ q, q < 10 → ∀ j, j < 6 ∨ j = 8 → T (9 * q + j) = S (9 * q + j) := fun q hq j hj => by
    rw [cell q hq j (by omega), if_neg (show ¬ j = 6 by omega), if_neg (show ¬ j = 7 by omega)]
    split <;> rfl
  have eh : ∀ q, q < 10 → sHere T q = sHere S q := fun q hq => by unfold sHere; rw [lo q hq 0 (by omega)]
  have aN : ∀ q, q < 10 → ¬ bt w q = true → ∀ j, j < 9 → T (9 * q + j) = S (9 * q + j) := fun q hq c j hj => by rw [cell q hq j hj, if_neg c]
  have y6 : ∀ q, q < 10 → bt w q = true → T (9 * q + 6) = 1 := fun q hq c => by rw [cell q hq 6 (by omega), if_pos c, if_pos rfl]
  have y7 : ∀ q, q < 10 → bt w q = true → T (9 * q + 7) = nI m := fun q hq c => by rw [cell q hq 7 (by omega), if_pos c, if_neg (by omega), if_pos rfl]
  have b6 : ∀ q, q < 10 → bt w q = true → sHere S q = true ∧ S (9 * q + 6) = 0 := fun q hq c => sW_6 (hw.1 q (by omega) c).2
  have aF : ∀ q, q < 10 → bt w q = true → ∀ st wh, ¬ st = 0 → sAt S q st wh = false := fun q hq c st wh hs => by
    cases hc : sAt S q st wh with
    | false => rfl
    | true => exact absurd ((sAt_t.mp hc).2.1.symm.trans (b6 q hq c).2) hs
  have a2 : ∀ q, q < 10 → ∀ wh, sAt T q 2 wh = sAt S q 2 wh := fun q hq wh => by
    by_cases c : bt w q = true
    · rw [aF q hq c 2 wh (by decide)]
      cases hc : sAt T q 2 wh with
      | false => rfl
      | true => exact absurd ((sAt_t.mp hc).2.1.symm.trans (y6 q hq c)) (by decide)
    · exact sAt_cg (aN q hq c)
  have i2 : ∀ q, q < 10 → sIn T q 2 = sIn S q 2 := fun q hq => by
    by_cases c : bt w q = true
    · unfold sIn
      rw [y6 q hq c, (b6 q hq c).2]
      simp
    · unfold sIn
      rw [eh q hq, aN q hq c 6 (by omega)]
  have ef : sFreeShelf T = sFreeShelf S := fi_congr (fun k _ => by
    rw [show sShelf T (nI k) = sShelf S (nI k) from fi_congr (fun q hq => a2 q hq _)])
  have eg : ∀ q, q < 10 → gw T q = gw S q := fun q hq => by unfold gw; rw [lo q hq 2 (by omega)]
  have ew : wIn T m = sg (wt (bt w) (gw S)) 10 := sg_congr (fun q hq => by
    by_cases c : bt w q = true
    · rw [wt_t (U := bt w) c, wt_t (U := fun p => sAt T p 1 (nI m)) (sAt_t.mpr ⟨by rw [eh q hq]; exact (b6 q hq c).1, y6 q hq c, y7 q hq c⟩), eg q hq]
    · rw [wt_f (U := bt w) (by simpa using c), wt_f (U := fun p => sAt T p 1 (nI m)) (by rw [sAt_cg (aN q hq c)]; exact no q hq)])
  have ew' : ∀ m', m' < 2 → m' ≠ m → wIn T m' = wIn S m' := fun m' h' hne => sg_congr (fun q hq => by
    by_cases c : bt w q = true
    · rw [wt_f (U := fun p => sAt S p 1 (nI m')) (aF q hq c 1 _ (by decide)), wt_f (U := fun p => sAt T p 1 (nI m'))]
      cases hc : sAt T q 1 (nI m') with
      | false => rfl
      | true => exact absurd ((sAt_t.mp hc).2.2.symm.trans (y7 q hq c)) (nI_m_ne hm h' hne)
    · exact wt_e (sAt_cg (aN q hq c)) (eg q hq))
  refine ⟨⟨fun q hq hh => ?_, fun m' h' => ?_, ?_, ?_⟩, fun m' h' => ?_⟩
  · rw [eh q hq] at hh
    obtain ⟨a, b, d⟩ := n.1.1 q hq hh
    rw [lo q hq 1 (by omega), lo q hq 2 (by omega)]
    refine ⟨a, b, ?_⟩
    by_cases c : bt w q = true
    · have h6 := (b6 q hq c).2
      rcases d with d | d | d
      · exact Or.inr (Or.inl ⟨y6 q hq c, ⟨m, hm, y7 q hq c⟩, by rw [lo q hq 8 (by omega)]; exact d.2.2⟩)
      · exact absurd (d.1.symm.trans h6) (by decide)
      · exact absurd (d.1.symm.trans h6) (by decide)
    · unfold pSt at d ⊢
      rw [aN q hq c 6 (by omega), aN q hq c 7 (by omega), aN q hq c 8 (by omega), hiT 96 (by omega) (by omega) (by omega)]
      exact d
  · by_cases c : m' = m
    · subst c
      unfold NMa
      rw [ew, hiT (90 + 3 * m' + 0) (by omega) (by omega) (by omega), tL, vL]
      have := room.2.2.2
      exact ⟨room.1, hsum, Or.inr (by omega), by omega, by omega⟩
    · obtain ⟨a, b, d, e, f⟩ := n.1.2.1 m' h'
      unfold NMa
      rw [ew' m' h' c, hiT (90 + 3 * m' + 0) (by omega) (by omega) (by omega), hiT (90 + 3 * m' + 1) (by omega) (by omega) (by omega), hiT (90 + 3 * m' + 2) (by omega) (by omega) (by omega)]
      exact ⟨a, b, d, e, by omega⟩
  · have := n.1.2.2.1
    unfold NCt cHere at this ⊢
    rw [cnt_congr eh, hiT 98 (by omega) (by omega) (by omega), hiT 99 (by omega) (by omega) (by omega)]
    exact this
  · have := n.1.2.2.2
    unfold NSh cShelf at this ⊢
    rw [cnt_congr i2, hiT 103 (by omega) (by omega) (by omega), hiT 99 (by omega) (by omega) (by omega)]
    exact this
  · by_cases c : m' = m
    · subst c
      refine Or.inr (Or.inl ?_)
      rw [tE, vE, hiT 96 (by omega) (by omega) (by omega)]
      omega
    · have := n.2 m' h'
      unfold NEd at this ⊢
      rw [ef, hiT (90 + 3 * m' + 1) (by omega) (by omega) (by omega), hiT 96 (by omega) (by omega) (by omega)]
      exact this
theorem NV.loads (n : NV S A) (g : Good S A P) (hA : A ≤ 100000) (hm : m < 2) (hwl : sWL S (S (90 + 3 * m + 0)) w) : NV (sLoads S w m).2 (A + 1) := by
  unfold sLoads
  by_cases c : sIdle S m = true ∧ ¬ w = 0
  · rw [if_pos c]
    have hi : S (90 + 3 * m + 1) = -1 := by have := c.1; unfold sIdle at this; exact of_decide_eq_true this
    exact n.load g hA hm hi hwl c.2
  · rw [if_neg c]
    exact n.ref.mono (by omega)
end
