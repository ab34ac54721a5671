/-! Dropping the longest, in the class. -/
def tS (S : Nat → Int32) (p : Nat) : Nat := (S (9 * p + 3)).toInt.toNat
def dS (S : Nat → Int32) (p : Nat) : Nat := (S (9 * p + 4)).toInt.toNat
def cS (S : Nat → Int32) : Nat := (S 96).toInt.toNat
theorem nI_tN {x : Int32} (h : 0 ≤ x.toInt) : x = nI x.toInt.toNat := by
  have h1 : x.toInt < 2 ^ 31 := Int32.toInt_lt x
  apply Int32.toInt_inj.mp
  rw [nI_toInt (by omega)]
  omega
/-- the waiting ones by their promises -/
abbrev LPr (S : Nat → Int32) (L : Nat → Nat) (n : Nat) : Prop := LN (fun a b => sAhead S a b 0) (sW S) 10 L n
/-- what the forecasts ask of a row -/
def FO (S : Nat → Int32) : Prop := GO S ∧ (0 ≤ (S 96).toInt ∧ (S 96).toInt ≤ 99999) ∧ ∀ p, p < 10 → sW S p = true → (1 ≤ (S (9 * p + 3)).toInt ∧ (S (9 * p + 3)).toInt ≤ 60) ∧ (0 ≤ (S (9 * p + 4)).toInt ∧ (S (9 * p + 4)).toInt < 2 ^ 20)
theorem Good.FO {S : Nat → Int32} {A P : Int} (g : Good S A P) (hA : A ≤ 100000) : FO S := ⟨g.GO hA, g.2.1.2.1, fun p hp h => by
  have z := (g.1.1 p hp).2 (sW_6 h).1
  exact ⟨z.2.2.1, z.1⟩⟩
theorem LPr.li {S : Nat → Int32} {L : Nat → Nat} {n : Nat} (f : FO S) (h : LPr S L n) : Li L n (sW S) 10 := ⟨h.2.1, fun j j' a b => LN_ne (sSTO 0 f.1) h a b, fun q hq hw => h.2.2.2 q hq hw⟩
theorem LPr.mono {S : Nat → Int32} {L : Nat → Nat} {n : Nat} (f : FO S) (h : LPr S L n) : ∀ i j, i ≤ j → j < n → dS S (L i) ≤ dS S (L j) := by
  intro i j hij hj
  by_cases e : i = j
  · rw [e]; exact Nat.le_refl _
  · have hi := h.2.1 i (by omega)
    have hj2 := h.2.1 j hj
    have hl : sAhead S (L i) (L j) 0 = true := h.2.2.1 i j (by omega) hj
    rw [sAhead_key f.1 hi.1 hj2.1 (sW_here hi.2) (sW_here hj2.2), decide_eq_true_eq] at hl
    unfold sKey at hl
    rw [sRk_0 rfl, sRk_0 rfl] at hl
    obtain ⟨⟨a1, a2⟩, a3, a4⟩ := f.1.2.1 (L i) hi.1 (sW_here hi.2)
    obtain ⟨⟨b1, b2⟩, b3, b4⟩ := f.1.2.1 (L j) hj2.1 (sW_here hj2.2)
    unfold dS
    omega
theorem sg_60 {g : Nat → Nat} {U : Nat → Bool} (n : Nat) : (∀ q, q < n → g q ≤ 60) → sg (wt U g) n ≤ 60 * n := by
  induction n with
  | zero => intro _; exact Nat.le_refl _
  | succ n ih =>
    intro h
    have := ih (fun q hq => h q (by omega))
    have h2 := h n (by omega)
    rw [sg_s]
    cases c : U n with
    | true => rw [wt_t c]; omega
    | false => rw [wt_f c]; omega
theorem cU_le (U : Nat → Bool) (n : Nat) : cU U n ≤ n := by rw [← cnt_cU]; exact cnt_le U n
section
variable {mi : Nat → Nat → Nat → Int32} {ml : Nat → Nat → Nat → Int64} {ex : Nat} {L : Nat → Nat} {n : Nat} {S : Nat → Int32}
theorem c2 {x : Int32} (hS : cs mi 0 = S) (f : FO S) (h : LPr S L n) (hr : Row mi L n) (hlen : mi 3 0 1 = nI n) (hex : ∃ i, i < n ∧ bt x i = true) : ∃ r, r < n ∧ bt x r = true ∧ (∀ i, i < n → bt x i = true → tS S (L i) ≤ tS S (L r)) ∧ pt_Ca 2 [vR 0 0, vR 2 0, vR 3 0, vI x] (pt_MEM mi ml ex) (.inl (some (vI (nI r))), pt_MEM mi ml ex) := by
  have hn := h.1
  have loop : ∀ d p, p + d = n → ∀ (x4 x5 : Int32) u, (((∀ i, i < p → bt x i = false) ∧ x5 = nI 0) ∨ ∃ r, r < p ∧ bt x r = true ∧ x4 = nI r ∧ x5 = nI (tS S (L r)) ∧ ∀ i, i < p → bt x i = true → tS S (L i) ≤ tS S (L r)) → ∃ r, r < n ∧ bt x r = true ∧ (∀ i, i < n → bt x i = true → tS S (L i) ≤ tS S (L r)) ∧ pt_Ev 2 none 9 [some (vR 0 0), some (vR 2 0), some (vR 3 0), some (vI x), some (vI x4), some (vI x5), some (vI (nI p)), u] [] (pt_MEM mi ml ex) (.inl (some (vI (nI r))), pt_MEM mi ml ex) := by
    intro d
    induction d with
    | zero =>
      intro p hp x4 x5 u hinv
      have hp' : p = n := hp
      subst hp'
      rcases hinv with ⟨h1, -⟩ | ⟨r, r1, r2, r3, -, r5⟩
      · obtain ⟨i, i1, i2⟩ := hex
        rw [h1 i i1] at i2
        simp at i2
      · rw [r3]
        exact ⟨r, r1, r2, r5, r2_9 (fun _ => r2_66) (fun c => absurd (by rw [hlen]; exact nI_le (Nat.le_refl p) (by omega)) c)⟩
    | succ d ih =>
      intro p hpd x4 x5 u hinv
      have hp : p < n := by omega
      have hL := h.2.1 p hp
      obtain ⟨⟨t1, t2⟩, -⟩ := f.2.2 (L p) hL.1 hL.2
      have et : S (9 * L p + 3) = nI (tS S (L p)) := nI_tN (by omega)
      have htS : 1 ≤ tS S (L p) ∧ tS S (L p) ≤ 60 := by unfold tS; omega
      have e3 := cs_p mi 0 hL.1 (j := 3) (by decide)
      rw [hS, et] at e3
      -- bounds of the time so far
      have hx5 : ∃ v, x5 = nI v ∧ v ≤ 60 := by
        rcases hinv with ⟨-, h2⟩ | ⟨r, r1, r2, -, r4, -⟩
        · exact ⟨0, h2, by omega⟩
        · have hLr := h.2.1 r (by omega)
          have := f.2.2 (L r) hLr.1 hLr.2
          exact ⟨_, r4, by unfold tS; omega⟩
      obtain ⟨v, hv, hv60⟩ := hx5
      have start : ∀ {o}, (bt x p = true → pt_Ev 2 none 45 [some (vR 0 0), some (vR 2 0), some (vR 3 0), some (vI x), some (vI x4), some (vI x5), some (vI (nI p)), some (vI (nI (tS S (L p))))] [] (pt_MEM mi ml ex) o) → (¬ bt x p = true → pt_Ev 2 none 60 [some (vR 0 0), some (vR 2 0), some (vR 3 0), some (vI x), some (vI x4), some (vI x5), some (vI (nI p)), some (vI (nI (tS S (L p))))] [] (pt_MEM mi ml ex) o) → pt_Ev 2 none 9 [some (vR 0 0), some (vR 2 0), some (vR 3 0), some (vI x), some (vI x4), some (vI x5), some (vI (nI p)), u] [] (pt_MEM mi ml ex) o := by
        intro o k1 k2
        refine r2_9 (fun c => absurd (by rw [hlen] at c; exact c) (nI_ge hp (by omega))) (fun _ => r2_18 rfl rfl (by omega) (hr p hp) hL.1 (pt_MR_p (by decide) hL.1) (fun c => ?_) (fun c => ?_))
        · rw [e3]; exact k1 ((bit_iff (by omega)).mp c)
        · rw [e3]; exact k2 (fun z => c ((bit_iff (by omega)).mpr z))
      by_cases hb : bt x p = true
      · by_cases hle : tS S (L p) ≤ v
        · -- not longer
          obtain ⟨r, r1, r2, r3, r4⟩ := ih (p + 1) (by omega) x4 x5 (some (vI (nI (tS S (L p))))) (by
            rcases hinv with ⟨h1, h2⟩ | ⟨r, r1, r2, r3, r4, r5⟩
            · have := nI_inj (a := v) (b := 0) (by omega) (by omega) (hv.symm.trans h2)
              omega
            · have hLr := h.2.1 r (by omega)
              have hb2 := f.2.2 (L r) hLr.1 hLr.2
              have htr : tS S (L r) ≤ 60 := by unfold tS; omega
              have := nI_inj (a := v) (b := tS S (L r)) (by omega) (by omega) (hv.symm.trans r4)
              refine Or.inr ⟨r, by omega, r2, r3, r4, fun i hi hbi => ?_⟩
              by_cases e : i = p
              · rw [e]; omega
              · exact r5 i (by omega) hbi)
          rw [nI_succ] at r4
          exact ⟨r, r1, r2, r3, start (fun _ => r2_45 (fun _ => r2_60 r4) (fun c => absurd (by rw [hv]; exact nI_le hle (by omega)) c)) (fun c => absurd hb c)⟩
        · obtain ⟨r, r1, r2, r3, r4⟩ := ih (p + 1) (by omega) (nI p) (nI (tS S (L p))) (some (vI (nI (tS S (L p))))) (by
            refine Or.inr ⟨p, by omega, hb, rfl, rfl, fun i hi hbi => ?_⟩
            by_cases e : i = p
            · rw [e]; exact Nat.le_refl _
            · rcases hinv with ⟨h1, h2⟩ | ⟨r, r1, r2, r3, r4, r5⟩
              · rw [h1 i (by omega)] at hbi; simp at hbi
              · have hLr := h.2.1 r (by omega)
                have hb2 := f.2.2 (L r) hLr.1 hLr.2
                have htr : tS S (L r) ≤ 60 := by unfold tS; omega
                have := nI_inj (a := v) (b := tS S (L r)) (by omega) (by omega) (hv.symm.trans r4)
                have := r5 i (by omega) hbi
                omega)
          rw [nI_succ] at r4
          exact ⟨r, r1, r2, r3, start (fun _ => r2_45 (fun c => absurd (by rw [hv] at c; exact c) (nI_ge (by omega) (by omega))) (fun _ => r2_52 r4)) (fun c => absurd hb c)⟩
      · obtain ⟨r, r1, r2, r3, r4⟩ := ih (p + 1) (by omega) x4 x5 (some (vI (nI (tS S (L p))))) (by
          have hbf : bt x p = false := by cases hc : bt x p with | false => rfl | true => exact absurd hc hb
          rcases hinv with ⟨h1, h2⟩ | ⟨r, r1, r2, r3, r4, r5⟩
          · refine Or.inl ⟨fun i hi => ?_, h2⟩
            by_cases e : i = p
            · rw [e]; exact hbf
            · exact h1 i (by omega)
          · refine Or.inr ⟨r, by omega, r2, r3, r4, fun i hi hbi => ?_⟩
            by_cases e : i = p
            · rw [e, hbf] at hbi; simp at hbi
            · exact r5 i (by omega) hbi)
        rw [nI_succ] at r4
        exact ⟨r, r1, r2, r3, start (fun c => absurd c hb) (fun _ => r2_60 r4)⟩
  obtain ⟨r, r1, r2, r3, r4⟩ := loop n 0 (by omega) 0 0 none (Or.inl ⟨fun i hi => absurd hi (Nat.not_lt_zero i), rfl⟩)
  exact ⟨r, r1, r2, r3, r2_0 r4⟩
theorem c1 (hS : cs mi 0 = S) (f : FO S) (h : LPr S L n) (hr : Row mi L n) (hlen : mi 3 0 1 = nI n) : ∃ M, M ≤ n ∧ Best (cS S) (fun j => tS S (L j)) (fun j => dS S (L j)) n M ∧ pt_Ca 1 [vR 0 0, vR 2 0, vR 3 0] (pt_MEM mi ml ex) (.inl (some (vI (nI (n - M)))), pt_MEM mi ml ex) := by
  have hn := h.1
  have hc96 := f.2.1
  have hcS : cS S ≤ 99999 := by unfold cS; omega
  have ht60 : ∀ q, q < n → (fun j => tS S (L j)) q ≤ 60 := fun q hq => by
    have hL := h.2.1 q hq
    have := f.2.2 (L q) hL.1 hL.2
    show tS S (L q) ≤ 60
    unfold tS
    omega
  have hmono := h.mono f
  have loop : ∀ e p, p + e = n → ∀ (w : Int32) (W : Nat → Bool) u7 u8, MH (cS S) (fun j => tS S (L j)) (fun j => dS S (L j)) p W → (∀ i, i < 32 → bt w i = W i) → ∃ M, M ≤ n ∧ Best (cS S) (fun j => tS S (L j)) (fun j => dS S (L j)) n M ∧ pt_Ev 1 none 14 [some (vR 0 0), some (vR 2 0), some (vR 3 0), some (vI (nI (cS S + sg (wt W (fun j => tS S (L j))) p))), some (vI w), some (vI (nI (p - cU W p))), some (vI (nI p)), u7, u8] [] (pt_MEM mi ml ex) (.inl (some (vI (nI (n - M)))), pt_MEM mi ml ex) := by
    intro e
    induction e with
    | zero =>
      intro p hp w W u7 u8 hM hw
      have hp' : p = n := hp
      subst hp'
      exact ⟨cU W p, cU_le W p, hM.best, r1_14 (fun _ => r1_109) (fun c => absurd (by rw [hlen]; exact nI_le (Nat.le_refl p) (by omega)) c)⟩
    | succ e ih =>
      intro p hpd w W u7 u8 hM hw
      have hp : p < n := by omega
      have hL := h.2.1 p hp
      obtain ⟨⟨t1, t2⟩, d1, d2⟩ := f.2.2 (L p) hL.1 hL.2
      have et : S (9 * L p + 3) = nI (tS S (L p)) := nI_tN (by omega)
      have ed : S (9 * L p + 4) = nI (dS S (L p)) := nI_tN (by omega)
      have hdS : dS S (L p) < 2 ^ 20 := by unfold dS; omega
      have e3 := cs_p mi 0 hL.1 (j := 3) (by decide)
      have e4 := cs_p mi 0 hL.1 (j := 4) (by decide)
      rw [hS, et] at e3
      rw [hS, ed] at e4
      have hsum := sg_60 (U := W) p (fun q hq => ht60 q (by omega))
      have htp : tS S (L p) ≤ 60 := ht60 p hp
      have eadd : nI (cS S + sg (wt W (fun j => tS S (L j))) p) + nI (tS S (L p)) = nI (cS S + sg (wt W (fun j => tS S (L j))) p + tS S (L p)) := nI_add _ _
      have hbA : ∀ i, i < 32 → bt (w ||| ((1 : Int32) <<< (nI p &&& 31))) i = sAdd W p i := fun i hi => by
        rw [bt_or1 hi (by omega), hw i hi]
        rfl
      have hWp : W p = false := by
        cases c : W p with
        | false => rfl
        | true => have := hM.1 p c; omega
      have a1 := sg_add (U := W) (g := fun _ => 1) hWp (p + 1) (by omega)
      have a2 := sg_add (U := W) (g := fun j => tS S (L j)) hWp (p + 1) (by omega)
      rw [sg_s (wt W _), wt_f hWp] at a1 a2
      have hcle := cU_le W p
      by_cases c : cS S + sg (wt W (fun j => tS S (L j))) p + tS S (L p) ≤ dS S (L p)
      · obtain ⟨M, m1, m2, m3⟩ := ih (p + 1) (by omega) _ (sAdd W p) (some (vR 5 (L p + 10 * 0))) u8 (hM.keep c) hbA
        rw [show cS S + sg (wt (sAdd W p) (fun j => tS S (L j))) (p + 1) = cS S + sg (wt W (fun j => tS S (L j))) p + tS S (L p) from by omega, show p + 1 - cU (sAdd W p) (p + 1) = p - cU W p from by unfold cU at hcle ⊢; omega, nI_succ p] at m3
        refine ⟨M, m1, m2, r1_14 (fun z => absurd (by rw [hlen] at z; exact z) (nI_ge hp (by omega))) (fun _ => r1_23 rfl rfl (by omega) (hr p hp) hL.1 (pt_MR_p (by decide) hL.1) (fun _ => ?_) (fun z => ?_))⟩
        · rw [e3, eadd]
          exact r1_103 m3
        · rw [e3, e4, eadd] at z
          exact absurd (nI_le c (by omega)) z
      · have hex : ∃ i, i < n ∧ bt (w ||| ((1 : Int32) <<< (nI p &&& 31))) i = true := ⟨p, hp, by rw [hbA p (by omega)]; exact sAdd_eq W p⟩
        obtain ⟨r, r1, r2, r3, r4⟩ := c2 (ml := ml) (ex := ex) hS f h hr hlen hex
        have hAr : sAdd W p r = true := by rw [← hbA r (by omega)]; exact r2
        have hAle : ∀ y, sAdd W p y = true → (fun j => tS S (L j)) y ≤ (fun j => tS S (L j)) r := fun y hy => by
          have hyn : y < n := by
            rcases sAdd_t.mp hy with z | z
            · have := hM.1 y z; omega
            · omega
          exact r3 y hyn (by rw [hbA y (by omega)]; exact hy)
        have hLr := h.2.1 r r1
        have htr := f.2.2 (L r) hLr.1 hLr.2
        have etr : S (9 * L r + 3) = nI (tS S (L r)) := nI_tN (by omega)
        have e3r := cs_p mi 0 hLr.1 (j := 3) (by decide)
        rw [hS, etr] at e3r
        have hbR : ∀ i, i < 32 → bt ((w ||| ((1 : Int32) <<< (nI p &&& 31))) ^^^ ((1 : Int32) <<< (nI r &&& 31))) i = sRem (sAdd W p) r i := fun i hi => by
          have hx : ∀ (x y : Int32), bt (x ^^^ y) i = (bt x i ^^ bt y i) := fun x y => by unfold bt; rw [Int32.toBitVec_xor, BitVec.getLsbD_xor]
          rw [hx, hbA i hi, bt_1 r (by omega) i hi]
          by_cases ei : i = r
          · rw [ei, hAr, sRem_eq]; simp
          · rw [sRem_ne ei]; simp [ei]
        have hrp : r < p + 1 := by
          rcases sAdd_t.mp hAr with z | z
          · have := hM.1 r z; omega
          · omega
        have b1 := sg_rem (U := sAdd W p) (g := fun _ => 1) hAr (p + 1) hrp
        have b2 := sg_rem (U := sAdd W p) (g := fun j => tS S (L j)) hAr (p + 1) hrp
        obtain ⟨M, m1, m2, m3⟩ := ih (p + 1) (by omega) _ (sRem (sAdd W p) r) (some (vR 5 (L p + 10 * 0))) (some (vI (nI r))) (hM.drop (fun i hi => hmono i p hi hp) c hAr hAle) hbR
        have esub : nI (cS S + sg (wt W (fun j => tS S (L j))) p + tS S (L p)) - nI (tS S (L r)) = nI (cS S + sg (wt (sRem (sAdd W p) r) (fun j => tS S (L j))) (p + 1)) := by
          rw [pk_sub (by omega)]
          congr 1
          omega
        rw [show p + 1 - cU (sRem (sAdd W p) r) (p + 1) = p - cU W p + 1 from by unfold cU at hcle ⊢; omega, nI_succ p, nI_succ (p - cU W p)] at m3
        refine ⟨M, m1, m2, r1_14 (fun z => absurd (by rw [hlen] at z; exact z) (nI_ge hp (by omega))) (fun _ => r1_23 rfl rfl (by omega) (hr p hp) hL.1 (pt_MR_p (by decide) hL.1) (fun z => ?_) (fun _ => ?_))⟩
        · rw [e3, e4, eadd] at z
          exact absurd z (nI_ge (by omega) (by omega))
        · rw [e3, eadd]
          refine r1_63 r4 (r1_71 rfl rfl (by omega) (hr r r1) hLr.1 (pt_MR_p (by decide) hLr.1) ?_)
          rw [e3r, esub]
          exact m3
  have h0 : mi 2 0 3 = nI (cS S + 0) := by
    rw [← cs_96 mi 0, hS]
    exact nI_tN hc96.1
  obtain ⟨M, m1, m2, m3⟩ := loop n 0 (by omega) 0 (fun _ => false) none none MH.zero (fun i hi => b_0 i)
  refine ⟨M, m1, m2, r1_0 ?_⟩
  rw [h0]
  exact m3
end
