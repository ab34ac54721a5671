/-! The class's line: arranged by insertion. -/
/-- what may have changed: the kinds of K -/
def Fr (K : List Nat) (mi mi' : Nat → Nat → Nat → Int32) : Prop := ∀ c n j, c ∉ K → mi' c n j = mi c n j
theorem Fr.rfl' {K : List Nat} {mi : Nat → Nat → Nat → Int32} : Fr K mi mi := fun _ _ _ _ => rfl
theorem Fr.tr {K : List Nat} {a b c : Nat → Nat → Nat → Int32} (h1 : Fr K a b) (h2 : Fr K b c) : Fr K a c := fun k n j hk => (h2 k n j hk).trans (h1 k n j hk)
theorem Fr.wd {K K' : List Nat} {a b : Nat → Nat → Nat → Int32} (h : Fr K a b) (hK : ∀ c, c ∈ K → c ∈ K') : Fr K' a b := fun k n j hk => h k n j (fun z => hk (hK k z))
theorem Fr.up {K : List Nat} {a b : Nat → Nat → Nat → Int32} {c n j : Nat} {v : Int32} (h : Fr K a b) (hc : c ∈ K) : Fr K a (pt_up3 b c n j v) := fun k n' j' hk => (up3_c b v (fun (z : k = c) => hk (by rw [z]; exact hc))).trans (h k n' j' hk)
theorem cs_fr {K : List Nat} {a b : Nat → Nat → Nat → Int32} (h : Nat) (f : Fr K a b) (h2 : 2 ∉ K) (h4 : 4 ∉ K) (h5 : 5 ∉ K) (h10 : 10 ∉ K) : cs b h = cs a h := by
  funext k
  unfold cs
  by_cases h1 : k < 90
  · rw [if_pos h1, if_pos h1, f _ _ _ h5]
  · rw [if_neg h1, if_neg h1]
    by_cases h3 : k < 96
    · rw [if_pos h3, if_pos h3, f _ _ _ h4]
    · rw [if_neg h3, if_neg h3, f _ _ _ h2, f _ _ _ h2, f _ _ _ h2, f _ _ _ h2, f _ _ _ h2, f _ _ _ h2, f _ _ _ h2, f _ _ _ h10, f _ _ _ h10]
theorem nI_inj {a b : Nat} (ha : a < 2 ^ 31) (hb : b < 2 ^ 31) (h : nI a = nI b) : a = b := by
  have := congrArg Int32.toInt h
  rw [nI_toInt ha, nI_toInt hb] at this
  omega
/-- row 12 holds L up to n -/
def Row (mi : Nat → Nat → Nat → Int32) (L : Nat → Nat) (n : Nat) : Prop := ∀ i, i < n → mi 12 0 i = nI (L i)
def ins (L : Nat → Nat) (k p : Nat) : Nat → Nat := fun i => if i < k then L i else if i = k then p else L (i - 1)
/-- a strict total order on the places of W -/
def STO (lt : Nat → Nat → Bool) (W : Nat → Bool) : Prop :=
  (∀ a b c, a < 10 → b < 10 → c < 10 → W a = true → W b = true → W c = true → lt a b = true → lt b c = true → lt a c = true) ∧
  (∀ a b, a < 10 → b < 10 → W a = true → W b = true → lt a b = true → lt b a = false) ∧
  (∀ a b, a < 10 → b < 10 → W a = true → W b = true → a ≠ b → lt a b = false → lt b a = true)
def LN (lt : Nat → Nat → Bool) (W : Nat → Bool) (p : Nat) (L : Nat → Nat) (n : Nat) : Prop :=
  n ≤ p ∧ (∀ i, i < n → L i < p ∧ W (L i) = true) ∧ (∀ i j, i < j → j < n → lt (L i) (L j) = true) ∧ (∀ q, q < p → W q = true → ∃ i, i < n ∧ L i = q)
theorem LN_skip {lt : Nat → Nat → Bool} {W : Nat → Bool} {p : Nat} {L : Nat → Nat} {n : Nat} (h : LN lt W p L n) (hp : W p = false) : LN lt W (p + 1) L n := by
  obtain ⟨h1, h2, h3, h4⟩ := h
  refine ⟨by omega, fun i hi => ⟨Nat.lt_succ_of_lt (h2 i hi).1, (h2 i hi).2⟩, h3, fun q hq hw => ?_⟩
  by_cases e : q = p
  · rw [e, hp] at hw; simp at hw
  · exact h4 q (by omega) hw
theorem LN_ins {lt : Nat → Nat → Bool} {W : Nat → Bool} {p : Nat} {L : Nat → Nat} {n k : Nat} (so : STO lt W) (hp10 : p < 10) (h : LN lt W p L n) (hp : W p = true) (hk : k ≤ n) (hb : ∀ i, k ≤ i → i < n → lt p (L i) = true) (hf : ∀ i, i < k → lt p (L (k - 1)) = false) : LN lt W (p + 1) (ins L k p) (n + 1) := by
  obtain ⟨h1, h2, h3, h4⟩ := h
  have hlt : ∀ i, i < k → lt (L i) p = true := by
    intro i hi
    have hk1 := h2 (k - 1) (by omega)
    have hl : lt (L (k - 1)) p = true := so.2.2 p (L (k - 1)) hp10 (by omega) hp hk1.2 (by omega) (hf i hi)
    by_cases e : i = k - 1
    · rw [e]; exact hl
    · have hi2 := h2 i (by omega)
      exact so.1 (L i) (L (k - 1)) p (by omega) (by omega) hp10 hi2.2 hk1.2 hp (h3 i (k - 1) (by omega) (by omega)) hl
  have e1 : ∀ i, i < k → ins L k p i = L i := fun i hi => if_pos hi
  have e2 : ins L k p k = p := by unfold ins; rw [if_neg (Nat.lt_irrefl k), if_pos rfl]
  have e3 : ∀ i, k < i → ins L k p i = L (i - 1) := fun i hi => by unfold ins; rw [if_neg (by omega), if_neg (by omega)]
  refine ⟨by omega, fun i hi => ?_, fun i j hij hj => ?_, fun q hq hw => ?_⟩
  · rcases Nat.lt_trichotomy i k with c | c | c
    · rw [e1 i c]; have := h2 i (by omega); exact ⟨by omega, this.2⟩
    · rw [c, e2]; exact ⟨Nat.lt_succ_self p, hp⟩
    · rw [e3 i c]; have := h2 (i - 1) (by omega); exact ⟨by omega, this.2⟩
  · rcases Nat.lt_trichotomy i k with c | c | c
    · rw [e1 i c]
      rcases Nat.lt_trichotomy j k with d | d | d
      · rw [e1 j d]; exact h3 i j hij (by omega)
      · rw [d, e2]; exact hlt i c
      · rw [e3 j d]
        exact h3 i (j - 1) (by omega) (by omega)
    · rw [c, e2, e3 j (by omega)]; exact hb (j - 1) (by omega) (by omega)
    · rw [e3 i c, e3 j (by omega)]; exact h3 (i - 1) (j - 1) (by omega) (by omega)
  · by_cases e : q = p
    · exact ⟨k, by omega, by rw [e2, e]⟩
    · obtain ⟨i, hi, hL⟩ := h4 q (by omega) hw
      by_cases c : i < k
      · exact ⟨i, by omega, by rw [e1 i c]; exact hL⟩
      · exact ⟨i + 1, by omega, by rw [e3 (i + 1) (by omega), Nat.add_sub_cancel]; exact hL⟩
section
variable {mi : Nat → Nat → Nat → Int32} {ml : Nat → Nat → Nat → Int64} {ex h p : Nat}
theorem c25 {rf : Int32} {L : Nat → Nat} {n : Nat} (hh : h < 9) (hp : p < 10) (hn : n < 10) (hr : Row mi L n) (hL : ∀ i, i < n → L i < 10) (hlen : mi 3 0 1 = nI n) (h5 : cs mi h (9 * p + 5) = 0 ∨ cs mi h (9 * p + 5) = 1) :
    ∃ k mi', k ≤ n ∧ (∀ i, k ≤ i → i < n → sAhead (cs mi h) p (L i) rf = true) ∧ (∀ i, i < k → sAhead (cs mi h) p (L (k - 1)) rf = false) ∧ pt_Ca 25 [vR 3 0, vR 2 h, vI (nI p), vI rf] (pt_MEM mi ml ex) (.inl none, pt_MEM mi' ml ex) ∧ Row mi' (ins L k p) (n + 1) ∧ mi' 3 0 1 = nI (n + 1) ∧ Fr [3, 12] mi mi' := by
  have loop : ∀ r mi1, r ≤ n → (∀ i, i < r → mi1 12 0 i = nI (L i)) → (∀ i, r < i → i ≤ n → mi1 12 0 i = nI (L (i - 1))) → (∀ i, r ≤ i → i < n → sAhead (cs mi h) p (L i) rf = true) → Fr [3, 12] mi mi1 → mi1 3 0 1 = nI n →
      ∃ k mi', k ≤ n ∧ (∀ i, k ≤ i → i < n → sAhead (cs mi h) p (L i) rf = true) ∧ (∀ i, i < k → sAhead (cs mi h) p (L (k - 1)) rf = false) ∧ pt_Ev 25 none 6 [some (vR 3 0), some (vR 2 h), some (vI (nI p)), some (vI rf), some (vI (nI r))] [] (pt_MEM mi1 ml ex) (.inl none, pt_MEM mi' ml ex) ∧ Row mi' (ins L k p) (n + 1) ∧ mi' 3 0 1 = nI (n + 1) ∧ Fr [3, 12] mi mi' := by
    intro r
    induction r with
    | zero =>
      intro mi1 _ g1 g2 g3 gf g4
      refine ⟨0, _, Nat.zero_le _, g3, fun i hi => absurd hi (Nat.not_lt_zero i), r25_6 (fun _ => r25_60 rfl (by omega)) (fun c => absurd (show nI 0 ≤ 0 by decide) c), ?_, ?_, (gf.up (by decide)).up (by decide)⟩
      · intro i hi
        rw [up3_c _ _ (by decide)]
        by_cases e : i = 0
        · rw [e, up3_eq]; rfl
        · rw [up3_j _ _ e, g2 i (by omega) (by omega)]
          unfold ins
          rw [if_neg (by omega), if_neg e]
      · rw [up3_eq, up3_c _ _ (by decide), g4, nI_succ]
    | succ r ih =>
      intro mi1 hrn g1 g2 g3 gf g4
      have hcs : cs mi1 h = cs mi h := cs_fr h gf (by decide) (by decide) (by decide) (by decide)
      have hm : nI (r + 1) - 1 = nI r := nI_pred r
      have hm1 : nI (r + 1) + (-1) = nI r := pk_m1 r
      have hLr : L r < 10 := hL r (by omega)
      cases hA : sAhead (cs mi h) p (L r) rf with
      | false =>
        refine ⟨r + 1, _, hrn, g3, fun i hi => by rw [Nat.add_sub_cancel]; exact hA, r25_6 (fun c => absurd c (nI_nle (by omega) (by omega))) (fun _ => r25_11 (pt_MR_h hh).1 rfl hp (pt_MR_p hh hp) (pt_MR_h hh).1 hm (by omega) (g1 r (by omega)) hLr (pt_MR_p hh hLr) (c36 hp hLr (by rw [hcs]; exact h5)) (r25_35 (fun _ => r25_60 rfl (by omega)) (fun c => absurd (by rw [hcs, hA]; rfl) c))), ?_, ?_, (gf.up (by decide)).up (by decide)⟩
        · intro i hi
          rw [up3_c _ _ (by decide)]
          unfold ins
          rcases Nat.lt_trichotomy i (r + 1) with c | c | c
          · rw [up3_j _ _ (by omega), g1 i c, if_pos c]
          · rw [c, up3_eq, if_neg (by omega), if_pos rfl]
          · rw [up3_j _ _ (by omega), g2 i c (by omega), if_neg (by omega), if_neg (by omega)]
        · rw [up3_eq, up3_c _ _ (by decide), g4, nI_succ]
      | true =>
        obtain ⟨k, mi', q1, q2, q3, q4, q5, q6, q7⟩ := ih (pt_up3 mi1 12 0 (r + 1) (mi1 12 0 r)) (by omega)
          (fun i hi => by rw [up3_j _ _ (by omega)]; exact g1 i (by omega))
          (fun i hi hin => by
            by_cases e : i = r + 1
            · rw [e, up3_eq, Nat.add_sub_cancel]; exact g1 r (by omega)
            · rw [up3_j _ _ e]; exact g2 i (by omega) hin)
          (fun i hi hin => by
            by_cases e : i = r
            · rw [e]; exact hA
            · exact g3 i (by omega) hin)
          (gf.up (by decide)) (by rw [up3_c _ _ (by decide)]; exact g4)
        refine ⟨k, mi', q1, q2, q3, r25_6 (fun c => absurd c (nI_nle (by omega) (by omega))) (fun _ => r25_11 (pt_MR_h hh).1 rfl hp (pt_MR_p hh hp) (pt_MR_h hh).1 hm (by omega) (g1 r (by omega)) hLr (pt_MR_p hh hLr) (c36 hp hLr (by rw [hcs]; exact h5)) (r25_35 (fun c => ?_) (fun _ => r25_38 hm (by omega) rfl (by omega) (by rw [hm1]; exact q4)))), q5, q6, q7⟩
        rw [hcs, hA] at c
        exact absurd c (by decide)
  obtain ⟨k, mi', q1, q2, q3, q4, q5, q6, q7⟩ := loop n mi (Nat.le_refl n) hr (fun i h1 h2 => absurd h2 (by omega)) (fun i h1 h2 => absurd h2 (by omega)) Fr.rfl' hlen
  exact ⟨k, mi', q1, q2, q3, r25_0 (by rw [hlen]; exact q4), q5, q6, q7⟩
end
section
variable {mi : Nat → Nat → Nat → Int32} {ml : Nat → Nat → Nat → Int64} {ex h p : Nat}
def sW (S : Nat → Int32) (p : Nat) : Bool := sIn S p 0
theorem c24 {rf : Int32} (hh : h < 9) (h5 : ∀ p, p < 10 → cs mi h (9 * p + 5) = 0 ∨ cs mi h (9 * p + 5) = 1) (so : STO (fun a b => sAhead (cs mi h) a b rf) (sW (cs mi h))) :
    ∃ L n mi', pt_Ca 24 [vR 3 0, vR 2 h, vI rf] (pt_MEM mi ml ex) (.inl none, pt_MEM mi' ml ex) ∧ LN (fun a b => sAhead (cs mi h) a b rf) (sW (cs mi h)) 10 L n ∧ Row mi' L n ∧ mi' 3 0 1 = nI n ∧ Fr [3, 12] mi mi' := by
  have loop : ∀ d p, p + d = 10 → ∀ L n mi1 u, LN (fun a b => sAhead (cs mi h) a b rf) (sW (cs mi h)) p L n → Row mi1 L n → mi1 3 0 1 = nI n → Fr [3, 12] mi mi1 →
      ∃ L n mi', pt_Ev 24 none 7 [some (vR 3 0), some (vR 2 h), some (vI rf), some (vI (nI p)), u] [] (pt_MEM mi1 ml ex) (.inl none, pt_MEM mi' ml ex) ∧ LN (fun a b => sAhead (cs mi h) a b rf) (sW (cs mi h)) 10 L n ∧ Row mi' L n ∧ mi' 3 0 1 = nI n ∧ Fr [3, 12] mi mi' := by
    intro d
    induction d with
    | zero =>
      intro p hp L n mi1 u g1 g2 g3 g4
      have hp' : p = 10 := hp
      subst hp'
      exact ⟨L, n, mi1, r24_7 (fun _ => r24_50) (fun c => absurd n10_le' c), g1, g2, g3, g4⟩
    | succ d ih =>
      intro p hpd L n mi1 u g1 g2 g3 g4
      have hp : p < 10 := by omega
      have hcs : cs mi1 h = cs mi h := cs_fr h g4 (by decide) (by decide) (by decide) (by decide)
      have e6 := cs_p mi1 h hp (j := 6) (by decide)
      rw [hcs] at e6
      have hC := c32 (mi := mi1) (ml := ml) (ex := ex) (h := h) hp
      rw [hcs] at hC
      cases hW : sW (cs mi h) p with
      | true =>
        have hW' := hW
        rw [sW, sIn, Bool.and_eq_true] at hW'
        have hs6 : cs mi h (9 * p + 6) = 0 := of_decide_eq_true hW'.2
        obtain ⟨k, mi2, q1, q2, q3, q4, q5, q6, q7⟩ := c25 (mi := mi1) (ml := ml) (ex := ex) (rf := rf) (L := L) (n := n) hh hp (by have := g1.1; omega) g2 (fun i hi => by have := (g1.2.1 i hi).1; omega) g3 (by rw [hcs]; exact h5 p hp)
        rw [hcs] at q2 q3
        obtain ⟨L', n', mi', w1, w2, w3, w4, w5⟩ := ih (p + 1) (by omega) (ins L k p) (n + 1) mi2 (some (vR 5 (p + 10 * h))) (LN_ins so hp g1 hW q1 q2 q3) q5 q6 (g4.tr q7)
        rw [nI_succ] at w1
        refine ⟨L', n', mi', r24_7 (fun c => absurd c (n10_le hp)) (fun _ => r24_13 (pt_MR_h hh).1 rfl hp (pt_MR_p hh hp) hC (r24_26 (fun c => ?_) (fun _ => r24_29 (fun _ => r24_37 q4 (r24_44 w1)) (fun c => ?_)))), w2, w3, w4, w5⟩
        · rw [hW'.1] at c; exact absurd c (by decide)
        · rw [e6] at c; exact absurd hs6 c
      | false =>
        obtain ⟨L', n', mi', w1, w2, w3, w4, w5⟩ := ih (p + 1) (by omega) L n mi1 (some (vR 5 (p + 10 * h))) (LN_skip g1 hW) g2 g3 g4
        rw [nI_succ] at w1
        refine ⟨L', n', mi', r24_7 (fun c => absurd c (n10_le hp)) (fun _ => r24_13 (pt_MR_h hh).1 rfl hp (pt_MR_p hh hp) hC (r24_26 (fun _ => r24_44 w1) (fun c => r24_29 (fun d => ?_) (fun _ => r24_44 w1)))), w2, w3, w4, w5⟩
        rw [bI_eq0, Bool.not_eq_false] at c
        rw [e6] at d
        rw [sW, sIn, c, d] at hW
        exact absurd hW (by decide)
  obtain ⟨L, n, mi', w1, w2, w3, w4, w5⟩ := loop 10 0 rfl (fun _ => 0) 0 (pt_up3 mi 3 0 1 0) none ⟨Nat.le_refl _, fun i hi => absurd hi (Nat.not_lt_zero i), fun i j _ hj => absurd hj (Nat.not_lt_zero j), fun q hq => absurd hq (Nat.not_lt_zero q)⟩ (fun i hi => absurd hi (Nat.not_lt_zero i)) (by rw [up3_eq]; rfl) (Fr.rfl'.up (by decide))
  exact ⟨L, n, mi', r24_0 w1, w2, w3, w4, w5⟩
end
