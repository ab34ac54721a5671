/-! An act keeps what holds of every row. -/
/-- two lines of one row are the same -/
theorem LN_same {S : Nat → Int32} (g : GO S) {L L' : Nat → Nat} {n n' : Nat} (h : LN (fun a b => sAhead S a b (S 105)) (sW S) 10 L n) (h' : LN (fun a b => sAhead S a b (S 105)) (sW S) 10 L' n') : n = n' ∧ ∀ r, r < n → L r = L' r := by
  have hnn : n = n' := by
    have a1 := mRanked_LN g h (r := n) (by have := h.1; omega)
    have a2 := mRanked_LN g h' (r := n) (by have := h.1; omega)
    have b1 := mRanked_LN g h (r := n') (by have := h'.1; omega)
    have b2 := mRanked_LN g h' (r := n') (by have := h'.1; omega)
    rw [if_neg (Nat.lt_irrefl n)] at a1
    rw [if_neg (Nat.lt_irrefl n')] at b2
    rw [a1] at a2
    rw [b1] at b2
    by_cases c : n < n'
    · rw [if_pos c] at a2; simp at a2
    · by_cases d : n' < n
      · rw [if_pos d] at b2; simp at b2
      · omega
  subst hnn
  refine ⟨rfl, fun r hr => ?_⟩
  have a1 := mRanked_LN g h (r := r) (by have := h.1; omega)
  have a2 := mRanked_LN g h' (r := r) (by have := h.1; omega)
  rw [if_pos hr] at a1 a2
  rw [a1] at a2
  simpa using a2
theorem wl_ex {S : Nat → Int32} (g : GO S) (room : Int32) : ∃ w, sWL S room w := by
  obtain ⟨L, k, h⟩ := LN_ex (sSTO (S 105) g) 10 (Nat.le_refl 10)
  refine ⟨wlM S L k room, fun L' n' h' => ?_⟩
  obtain ⟨rfl, e⟩ := LN_same g h h'
  unfold wlM
  rw [fo_congr (f := wlF S L) (g := wlF S L') (fun r a hr => by unfold wlF; rw [e r hr])]
def GN (S : Nat → Int32) (A P : Int) (r : Rs) : Prop := r.1 = 0 → Good r.2.2 (A + 1) (P + 5000) ∧ NV r.2.2 (A + 1)
section
variable {S : Nat → Int32} {A P : Int} {a b x y is : Int32}
theorem GN.no {k t : Int32} {T : Nat → Int32} (h : ¬ k = 0) : GN S A P (k, t, T) := fun z => absurd z h
theorem GN.ok {t : Int32} {T : Nat → Int32} (g : Good T (A + 1) (P + 5000)) (n : NV T (A + 1)) : GN S A P (0, t, T) := fun _ => ⟨g, n⟩
theorem gn_tk {x1 x2 x3 x4 x5 : Int32} (g : Good S A P) (n : NV S A) (hA : A ≤ 90000) (h5 : x5 = 0 ∨ x5 = 1) : GN S A P (tkA S x1 x2 x3 x4 x5) := by
  unfold tkA
  cases e : okT x1 x2 x3 x4 with
  | true => rw [if_pos rfl]; exact GN.ok ((g.takes (by omega) e h5).mono (by omega) (by omega)) ((n.takes g (by omega) e).mono (by omega))
  | false => rw [if_neg (by decide)]; exact GN.no d2
theorem gn_H (g : Good S A P) (n : NV S A) (hA : A ≤ 90000) (hP : P ≤ 300000000) : GN S A P (chH S a b) := by
  unfold chH
  cases e : sIn3 b 0 7 with
  | true => rw [if_pos rfl]; exact GN.ok ((g.give (by omega)).mono (by omega) (by omega)) ((n.give g (by omega) (by omega)).mono (by omega))
  | false => rw [if_neg (by decide)]; exact GN.no d1
theorem gn_R (g : Good S A P) (n : NV S A) : GN S A P (chR S a) := by
  unfold chR
  cases e : sIn3 a 0 9 with
  | true =>
    rw [if_pos rfl]
    obtain ⟨p, hp, rfl⟩ := in_10 e
    rw [nI_clamp (by omega)]
    cases eh : sHere S p with
    | true =>
      rw [if_pos rfl]
      by_cases h6 : S (9 * p + 6) = 0
      · rw [if_pos h6]
        refine GN.ok ((g.rush hp ?_).mono (by omega) (by omega)) ((n.rush hp).mono (by omega))
        rcases (g.1.1 p hp).1 with z | z
        · rw [z]; exact Or.inr (by decide)
        · rw [z]; exact Or.inl (by decide)
      · rw [if_neg h6]; exact GN.no d3
    | false => rw [if_neg (by decide)]; exact GN.no d1
  | false => rw [if_neg (by decide)]; exact GN.no d1
theorem gn_L (g : Good S A P) (n : NV S A) (hA : A ≤ 90000) : GN S A P (chL S a) := by
  unfold chL
  cases e : sIn3 a 0 1 with
  | true =>
    rw [if_pos rfl]
    obtain ⟨m, hm, rfl⟩ := in_2 e
    rw [nI_clamp (by omega)]
    have hw : ∃ w, sWL S (S (90 + 3 * m + 0)) w := wl_ex (g.GO (by omega)) _
    have hs : sWL S (S (90 + 3 * m + 0)) (wW S m) := Classical.epsilon_spec (p := fun w => sWL S (S (90 + 3 * m + 0)) w) hw
    exact GN.ok ((g.loads (by omega) hm hs).mono (by omega) (by omega)) (n.loads g (by omega) hm hs)
  | false => rw [if_neg (by decide)]; exact GN.no d1
theorem gn_M (g : Good S A P) (n : NV S A) : GN S A P (chM S a b) := by
  unfold chM
  cases e : sIn3 a 0 1 with
  | true =>
    rw [if_pos rfl]
    cases ey : sIn3 b 10 60 with
    | true =>
      rw [if_pos rfl]
      obtain ⟨m, hm, rfl⟩ := in_2 e
      rw [nI_clamp (by omega)]
      cases ei : sIdle S m with
      | true =>
        rw [if_pos rfl]
        have hi : S (90 + 3 * m + 1) = -1 := by unfold sIdle at ei; exact of_decide_eq_true ei
        have no : ∀ q, q < 10 → sAt S q 1 (nI m) = false := by
          rcases g.1.2.2.2.2.1 m hm with ⟨-, z⟩ | z
          · exact z
          · rw [hi, im1] at z
            omega
        have hb : 10 ≤ b.toInt ∧ b.toInt ≤ 60 := by
          have h2 := sIn3_t.mp ey
          rw [Int32.lt_iff_toInt_lt, Int32.lt_iff_toInt_lt] at h2
          have l10 : (10 : Int32).toInt = 10 := by decide
          have l60 : (60 : Int32).toInt = 60 := by decide
          omega
        exact GN.ok ((g.up (by omega)).mono (by omega) (by omega)) ((n.room hm hb no).mono (by omega))
      | false => rw [if_neg (by decide)]; exact GN.no d3
    | false => rw [if_neg (by decide)]; exact GN.no d2
  | false => rw [if_neg (by decide)]; exact GN.no d1
theorem gn_P (g : Good S A P) (n : NV S A) (hP : P ≤ 300000000) : GN S A P (chP S a) := by
  unfold chP
  cases e : sIn3 a 1 240 with
  | true =>
    rw [if_pos rfl]
    by_cases h2 : S 96 + a ≤ 99999
    · rw [if_pos h2]
      obtain ⟨k, hk, rfl⟩ := in_240 e
      rw [nI_clamp (by omega)]
      have pc := pass_clock g hk h2
      exact GN.ok (((sPass_good g hP hk pc k (Nat.le_refl k)).1).mono (by omega) (by omega)) ((n.pass g hP hk pc).mono (by omega))
    · rw [if_neg h2]; exact GN.no d3
  | false => rw [if_neg (by decide)]; exact GN.no d2
theorem gn_S (g : Good S A P) (n : NV S A) : GN S A P (chS S a b) := by
  unfold chS
  cases e : sIn3 a 0 1 with
  | true =>
    rw [if_pos rfl]
    cases ef : fits a b with
    | true =>
      rw [if_pos rfl]
      obtain ⟨p, hp, rfl⟩ := in_2 e
      rw [nI_clamp (by omega)]
      refine GN.ok ?_ ((n.hi (by omega) (by omega)).mono (by omega))
      match p, hp with
      | 0, _ => exact (g.up (by decide)).mono (by omega) (by omega)
      | 1, _ =>
        refine (g.up105 ?_).mono (by omega) (by omega)
        have hy2 : sIn3 b 0 1 = true := ef
        obtain ⟨q, hq, rfl⟩ := in_2 hy2
        match q, hq with
        | 0, _ => exact Or.inl (by decide +kernel)
        | 1, _ => exact Or.inr (by decide +kernel)
    | false => rw [if_neg (by decide)]; exact GN.no d2
  | false => rw [if_neg (by decide)]; exact GN.no d1
theorem gn_act (g : Good S A P) (n : NV S A) (hA : A ≤ 90000) (hP : P ≤ 300000000) : GN S A P (actF S x) := by
  unfold actF
  simp only []
  repeat' split
  all_goals first | exact gn_M g n | exact gn_S g n | exact gn_P g n hP | exact gn_R g n | exact gn_L g n hA | exact gn_H g n hA hP | (unfold tkF; split <;> exact gn_tk g n hA rush01)
end
