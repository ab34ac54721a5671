/-! The law's look isOrderSo: the line, and what a machine would be loaded with. -/
theorem i_a (x y : Int32) : x - (x - y) = y := by grind
theorem i_b (x a w : Int32) : x - a + w = x - (a - w) := by grind
section
variable {S : Nat → Int32} {A P : Int} {L : Nat → Nat} {n m : Nat} {room : Int32}
abbrev LnS (S : Nat → Int32) (L : Nat → Nat) (n : Nat) : Prop := LN (fun a b => sAhead S a b (S 105)) (sW S) 10 L n
/-- what is loaded up to the rank r -/
abbrev wlU (S : Nat → Int32) (L : Nat → Nat) (room : Int32) (r : Nat) : WL := fo (wlF S L) r (0, -1, room)
def wlC (S : Nat → Int32) (L : Nat → Nat) (room : Int32) (r : Nat) : Prop := ¬ (wlU S L room r).2.2 < S (9 * L r + 2) ∧ ((wlU S L room r).1 = 0 ∨ S (9 * L r + 1) = (wlU S L room r).2.1)
theorem wlU_t {r : Nat} (h : wlC S L room r) : wlU S L room (r + 1) = ((wlU S L room r).1 ||| (1 <<< (nI (L r) &&& 31)), S (9 * L r + 1), (wlU S L room r).2.2 - S (9 * L r + 2)) := by
  show wlF S L r (wlU S L room r) = _
  unfold wlF
  exact if_pos h
theorem wlU_f {r : Nat} (h : ¬ wlC S L room r) : wlU S L room (r + 1) = wlU S L room r := by
  show wlF S L r (wlU S L room r) = _
  unfold wlF
  exact if_neg h
theorem wl_0 (hc : ∀ p, p < 10 → sW S p = true → ¬ S (9 * p + 1) = -1) (hL : LnS S L n) : ∀ r, r ≤ n → ((wlU S L room r).1 = 0 ↔ (wlU S L room r).2.1 = -1) := by
  intro r
  induction r with
  | zero => intro _; exact ⟨fun _ => rfl, fun _ => rfl⟩
  | succ r ih =>
    intro hr
    have hl := hL.2.1 r (by omega)
    by_cases c : wlC S L room r
    · rw [wlU_t c]
      exact ⟨fun z => absurd z (or_ne (bit_ne _ hl.1)), fun z => absurd z (hc _ hl.1 hl.2)⟩
    · rw [wlU_f c]
      exact ih (by omega)
theorem wl_bit (g : GO S) (hL : LnS S L n) (hb : ∀ r, r ≤ n → ∀ p, p < 32 → bt (wlU S L room r).1 p = true → ∃ i, i < r ∧ L i = p) {r : Nat} (hr : r < n) : bt (wlM S L n room) (L r) = true ↔ wlC S L room r := by
  have key : ∀ d, r + 1 + d ≤ n → (bt (wlU S L room (r + 1 + d)).1 (L r) = true ↔ wlC S L room r) := by
    have hl := hL.2.1 r hr
    intro d
    induction d with
    | zero =>
      intro _
      have hno : ¬ bt (wlU S L room r).1 (L r) = true := fun h => by
        obtain ⟨i, j1, j2⟩ := hb r (by omega) (L r) (by omega) h
        exact absurd j2 (LN_ne (sSTO (S 105) g) hL j1 (by omega))
      by_cases c : wlC S L room r
      · rw [show wlU S L room (r + 1 + 0) = _ from wlU_t c]
        rw [bt_or1 (by omega) (by omega)]
        simp [c]
      · rw [show wlU S L room (r + 1 + 0) = _ from wlU_f c]
        exact ⟨fun z => absurd z hno, fun z => absurd z c⟩
    | succ d ih =>
      intro hd
      have i := ih (by omega)
      have hk := hL.2.1 (r + 1 + d) (by omega)
      by_cases c : wlC S L room (r + 1 + d)
      · rw [show r + 1 + (d + 1) = (r + 1 + d) + 1 from rfl, wlU_t c]
        rw [bt_or1 (by omega) (by omega), Bool.or_eq_true, decide_eq_true_eq]
        refine ⟨fun z => i.mp (z.resolve_right (fun e => ?_)), fun z => Or.inl (i.mpr z)⟩
        exact absurd e (LN_ne (sSTO (S 105) g) hL (by omega) (by omega))
      · rw [show r + 1 + (d + 1) = (r + 1 + d) + 1 from rfl, wlU_f c]
        exact i
  have := key (n - (r + 1)) (by omega)
  rw [show r + 1 + (n - (r + 1)) = n from by omega] at this
  exact this
/-! the forecast -/
def bad (S : Nat → Int32) (q : Nat) : Bool := sW S q && decide (¬ cS S + tS S q ≤ dS S q)
theorem bad_ge {M : Nat} (h : BestP S M) : cU (bad S) 10 ≤ cU (sW S) 10 - M ∧ M ≤ cU (sW S) 10 := by
  obtain ⟨⟨V, v1, v2, rfl⟩, -⟩ := h
  have h1 : cU V 10 ≤ cU (sW S) 10 := sg_sub v1
  refine ⟨?_, h1⟩
  have h2 : cU V 10 ≤ cU (fun q => sW S q && !bad S q) 10 := sg_sub (fun q hq hv => by
    have c := v2 q hq hv
    have e := sg_at (g := wt (fun p => V p && decide (dS S p ≤ dS S q)) (tS S)) 10 hq
    rw [wt_t (U := fun p => V p && decide (dS S p ≤ dS S q)) (by simp [hv])] at e
    have : cS S + tS S q ≤ dS S q := by omega
    rw [v1 q hq hv]
    unfold bad
    rw [v1 q hq hv]
    simp [this])
  have h3 : ∀ k, cU (fun q => sW S q && !bad S q) k + cU (bad S) k = cU (sW S) k := by
    intro k
    induction k with
    | zero => rfl
    | succ k ih =>
      unfold cU at ih ⊢
      rw [sg_s, sg_s, sg_s]
      have : wt (fun q => sW S q && !bad S q) (fun _ => 1) k + wt (bad S) (fun _ => 1) k = wt (sW S) (fun _ => 1) k := by
        unfold wt bad
        cases hw : sW S k with
        | false => simp [hw]
        | true =>
          by_cases c : cS S + tS S k ≤ dS S k
          · have c2 : ¬ dS S k < cS S + tS S k := by omega
            simp [hw, c, c2]
          · have c2 : dS S k < cS S + tS S k := by omega
            simp [hw, c, c2]
      omega
  have := h3 10
  omega
theorem bad_all {M : Nat} (h : BestP S M) (h0 : M = 0) : cU (bad S) 10 = cU (sW S) 10 := by
  obtain ⟨-, h2⟩ := h
  subst h0
  refine sg_congr (fun q hq => wt_cg ?_)
  cases hw : sW S q with
  | false => unfold bad; rw [hw]; rfl
  | true =>
    by_cases c : cS S + tS S q ≤ dS S q
    · exfalso
      have s1 : ∀ f : Nat → Nat, ∀ U : Nat → Bool, (∀ p, U p = true → p = q) → sg (wt U f) 10 ≤ f q := fun f U hU => by
        rw [sg_at 10 hq, sg_zero 10 (fun p hp => by
          by_cases e : p = q
          · rw [if_pos e]
          · rw [if_neg e]
            exact wt_f (by cases hh : U p with
              | false => rfl
              | true => exact absurd (hU p hh) e))]
        unfold wt
        split <;> omega
      have := h2 (fun p => decide (p = q)) (fun p hp hv => by
        rw [decide_eq_true_eq] at hv
        rw [hv]; exact hw) (fun i hi hv => by
        have hv := of_decide_eq_true hv
        subst hv
        have := s1 (tS S) (fun p => decide (p = i) && decide (dS S p ≤ dS S i)) (fun p hp => by
          rw [Bool.and_eq_true, decide_eq_true_eq] at hp
          exact hp.1)
        exact Nat.le_trans (Nat.add_le_add_left this _) c)
      unfold cU at this
      rw [sg_at 10 hq, wt_t (U := fun p => decide (p = q)) (by simp)] at this
      omega
    · unfold bad; rw [hw]; simp [c]
theorem bad_L (hl : Li L n (sW S) 10) : cU (fun j => bad S (L j)) n = cU (bad S) 10 := (hl.sum (V := bad S) (g := fun _ => 1) (fun q _ h => by
  unfold bad at h
  rw [Bool.and_eq_true] at h
  exact h.1)).symm
end
