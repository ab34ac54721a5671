/-! All sets, in the class. -/
def bcE (x0 : Int32) : Int32 := ((((((((x0 - ((((x0).toUInt32 >>> ((1).toUInt32 &&& Int32.toUInt32 31)).toInt32) &&& 1431655765)) &&& 858993459) + (((((x0 - ((((x0).toUInt32 >>> ((1).toUInt32 &&& Int32.toUInt32 31)).toInt32) &&& 1431655765))).toUInt32 >>> ((2).toUInt32 &&& Int32.toUInt32 31)).toInt32) &&& 858993459)) + ((((((x0 - ((((x0).toUInt32 >>> ((1).toUInt32 &&& Int32.toUInt32 31)).toInt32) &&& 1431655765)) &&& 858993459) + (((((x0 - ((((x0).toUInt32 >>> ((1).toUInt32 &&& Int32.toUInt32 31)).toInt32) &&& 1431655765))).toUInt32 >>> ((2).toUInt32 &&& Int32.toUInt32 31)).toInt32) &&& 858993459))).toUInt32 >>> ((4).toUInt32 &&& Int32.toUInt32 31)).toInt32)) &&& 252645135) + ((((((((x0 - ((((x0).toUInt32 >>> ((1).toUInt32 &&& Int32.toUInt32 31)).toInt32) &&& 1431655765)) &&& 858993459) + (((((x0 - ((((x0).toUInt32 >>> ((1).toUInt32 &&& Int32.toUInt32 31)).toInt32) &&& 1431655765))).toUInt32 >>> ((2).toUInt32 &&& Int32.toUInt32 31)).toInt32) &&& 858993459)) + ((((((x0 - ((((x0).toUInt32 >>> ((1).toUInt32 &&& Int32.toUInt32 31)).toInt32) &&& 1431655765)) &&& 858993459) + (((((x0 - ((((x0).toUInt32 >>> ((1).toUInt32 &&& Int32.toUInt32 31)).toInt32) &&& 1431655765))).toUInt32 >>> ((2).toUInt32 &&& Int32.toUInt32 31)).toInt32) &&& 858993459))).toUInt32 >>> ((4).toUInt32 &&& Int32.toUInt32 31)).toInt32)) &&& 252645135)).toUInt32 >>> ((8).toUInt32 &&& Int32.toUInt32 31)).toInt32)) + (((((((((x0 - ((((x0).toUInt32 >>> ((1).toUInt32 &&& Int32.toUInt32 31)).toInt32) &&& 1431655765)) &&& 858993459) + (((((x0 - ((((x0).toUInt32 >>> ((1).toUInt32 &&& Int32.toUInt32 31)).toInt32) &&& 1431655765))).toUInt32 >>> ((2).toUInt32 &&& Int32.toUInt32 31)).toInt32) &&& 858993459)) + ((((((x0 - ((((x0).toUInt32 >>> ((1).toUInt32 &&& Int32.toUInt32 31)).toInt32) &&& 1431655765)) &&& 858993459) + (((((x0 - ((((x0).toUInt32 >>> ((1).toUInt32 &&& Int32.toUInt32 31)).toInt32) &&& 1431655765))).toUInt32 >>> ((2).toUInt32 &&& Int32.toUInt32 31)).toInt32) &&& 858993459))).toUInt32 >>> ((4).toUInt32 &&& Int32.toUInt32 31)).toInt32)) &&& 252645135) + ((((((((x0 - ((((x0).toUInt32 >>> ((1).toUInt32 &&& Int32.toUInt32 31)).toInt32) &&& 1431655765)) &&& 858993459) + (((((x0 - ((((x0).toUInt32 >>> ((1).toUInt32 &&& Int32.toUInt32 31)).toInt32) &&& 1431655765))).toUInt32 >>> ((2).toUInt32 &&& Int32.toUInt32 31)).toInt32) &&& 858993459)) + ((((((x0 - ((((x0).toUInt32 >>> ((1).toUInt32 &&& Int32.toUInt32 31)).toInt32) &&& 1431655765)) &&& 858993459) + (((((x0 - ((((x0).toUInt32 >>> ((1).toUInt32 &&& Int32.toUInt32 31)).toInt32) &&& 1431655765))).toUInt32 >>> ((2).toUInt32 &&& Int32.toUInt32 31)).toInt32) &&& 858993459))).toUInt32 >>> ((4).toUInt32 &&& Int32.toUInt32 31)).toInt32)) &&& 252645135)).toUInt32 >>> ((8).toUInt32 &&& Int32.toUInt32 31)).toInt32))).toUInt32 >>> ((16).toUInt32 &&& Int32.toUInt32 31)).toInt32)) &&& 63)
theorem bc_all : ∀ m, m < 1024 → bcE (nI m) = nI (cU (fun i => m.testBit i) 10) := by decide +kernel
theorem sh_all : ∀ l, l < 10 → (1 : Int32) <<< (nI l &&& 31) = nI (2 ^ l) := by decide +kernel
theorem or_all : ∀ l, l < 10 → ∀ b, b < 2 ^ l → nI b ||| ((1 : Int32) <<< (nI l &&& 31)) = nI (2 ^ l + b) := by decide +kernel
theorem mask_ex (U : Nat → Bool) : ∀ n, ∃ m, m < 2 ^ n ∧ ∀ i, i < n → m.testBit i = U i
  | 0 => ⟨0, by decide, fun i hi => absurd hi (Nat.not_lt_zero i)⟩
  | n + 1 => by
    obtain ⟨m, h1, h2⟩ := mask_ex U n
    have hp : 2 ^ (n + 1) = 2 ^ n + 2 ^ n := by rw [Nat.pow_succ]; omega
    cases hU : U n with
    | true =>
      refine ⟨2 ^ n + m, by omega, fun i hi => ?_⟩
      by_cases e : i = n
      · subst e
        rw [Nat.testBit_two_pow_add_eq, Nat.testBit_lt_two_pow h1, hU]
        rfl
      · rw [Nat.testBit_two_pow_add_gt (by omega)]
        exact h2 i (by omega)
    | false =>
      refine ⟨m, by omega, fun i hi => ?_⟩
      by_cases e : i = n
      · subst e
        rw [Nat.testBit_lt_two_pow h1, hU]
      · exact h2 i (by omega)
theorem nI_max (a b : Nat) (ha : a < 2 ^ 31) (hb : b < 2 ^ 31) : sMax (nI a) (nI b) = nI (if a < b then b else a) := by
  unfold sMax
  by_cases c : a < b
  · rw [if_pos c, if_pos (nI_lt c hb)]
  · rw [if_neg c, if_neg (nI_nlt (by omega) ha)]
section
variable {c : Nat} {t d : Nat → Nat}
theorem Feas_new {l b : Nat} (hb : b < 2 ^ l) : (Feas c t d (fun i => (2 ^ l + b).testBit i) (l + 1) ↔ (Feas c t d (fun i => b.testBit i) l ∧ c + sg (wt (fun i => b.testBit i) t) l + t l ≤ d l)) ∧ sg (wt (fun i => (2 ^ l + b).testBit i) t) (l + 1) = sg (wt (fun i => b.testBit i) t) l + t l := by
  have lo : ∀ i, i < l → (2 ^ l + b).testBit i = b.testBit i := fun i hi => Nat.testBit_two_pow_add_gt (by omega) b
  have top : (2 ^ l + b).testBit l = true := by rw [Nat.testBit_two_pow_add_eq, Nat.testBit_lt_two_pow hb]; rfl
  have es : sg (wt (fun i => (2 ^ l + b).testBit i) t) (l + 1) = sg (wt (fun i => b.testBit i) t) l + t l := by
    rw [sg_s, wt_t (U := fun i => (2 ^ l + b).testBit i) top, sg_congr (fun q hq => wt_cg (U := fun i => (2 ^ l + b).testBit i) (V := fun i => b.testBit i) (lo q hq))]
  refine ⟨⟨fun h => ⟨(h.dn (by omega)).cg (fun q hq => (lo q hq).symm), ?_⟩, fun h i hi hu => ?_⟩, es⟩
  · have := h l (by omega) top
    rw [es] at this
    omega
  · by_cases e : i = l
    · subst e
      rw [es]
      have := h.2
      omega
    · have := h.1.cg (V := fun i => (2 ^ l + b).testBit i) (fun q hq => lo q hq)
      exact this i (by omega) hu
theorem Feas_old {l m : Nat} (hm : m < 2 ^ l) : (Feas c t d (fun i => m.testBit i) (l + 1) ↔ Feas c t d (fun i => m.testBit i) l) ∧ ∀ g, sg (wt (fun i => m.testBit i) g) (l + 1) = sg (wt (fun i => m.testBit i) g) l := by
  have top : m.testBit l = false := Nat.testBit_lt_two_pow hm
  refine ⟨⟨fun h => h.dn (by omega), fun h i hi hu => ?_⟩, fun g => by rw [sg_s, wt_f (U := fun i => m.testBit i) top]; rfl⟩
  by_cases e : i = l
  · subst e
    have hu' : m.testBit i = true := hu
    rw [top] at hu'
    simp at hu'
  · exact h i (by omega) hu
end
/-- one entry of the row of ends -/
def En (mi : Nat → Nat → Nat → Int32) (c : Nat) (t d : Nat → Nat) (l m : Nat) : Prop := (Feas c t d (fun i => m.testBit i) l → mi 13 0 m = nI (c + sg (wt (fun i => m.testBit i) t) l)) ∧ (¬ Feas c t d (fun i => m.testBit i) l → mi 13 0 m = -1)
section
variable {mi : Nat → Nat → Nat → Int32} {ml : Nat → Nat → Nat → Int64} {ex : Nat} {L : Nat → Nat} {n : Nat} {S : Nat → Int32}
theorem c157 {m : Nat} (hm : m < 1024) : pt_Ca 157 [vI (nI m)] (pt_MEM mi ml ex) (.inl (some (vI (nI (cU (fun i => m.testBit i) 10)))), pt_MEM mi ml ex) := by
  rw [← bc_all m hm]
  exact r157_0
theorem c3 (hS : cs mi 0 = S) (f : FO S) (h : LPr S L n) (hr : Row mi L n) (hlen : mi 3 0 1 = nI n) : ∃ M mi', M ≤ n ∧ Best (cS S) (fun j => tS S (L j)) (fun j => dS S (L j)) n M ∧ pt_Ca 3 [vR 0 0, vR 2 0, vR 3 0] (pt_MEM mi ml ex) (.inl (some (vI (nI (n - M)))), pt_MEM mi' ml ex) ∧ Fr [13] mi mi' := by
  have hn := h.1
  have hc96 := f.2.1
  have hcS : cS S ≤ 99999 := by unfold cS; omega
  generalize ht : (fun j => tS S (L j)) = t
  generalize hd : (fun j => dS S (L j)) = d
  generalize hc : cS S = c at hcS
  have ht60 : ∀ q, q < n → t q ≤ 60 := fun q hq => by
    have hL := h.2.1 q hq
    have := f.2.2 (L q) hL.1 hL.2
    rw [← ht]
    show tS S (L q) ≤ 60
    unfold tS
    omega
  have hsum : ∀ U l, l ≤ n → sg (wt U t) l ≤ 600 := fun U l hl => by
    have := sg_60 (U := U) l (fun q hq => ht60 q (by omega))
    omega
  -- the outer loop
  have outer : ∀ e l, l + e = n → ∀ m1 M u5 u6 u7 u8 u9, Fr [13] mi m1 → (∀ m, m < 2 ^ l → En m1 c t d l m) → (∃ U, Feas c t d U l ∧ cU U l = M) → (∀ m, m < 2 ^ l → Feas c t d (fun i => m.testBit i) l → cU (fun i => m.testBit i) l ≤ M) → ∃ M' mi', M' ≤ n ∧ Best c t d n M' ∧ pt_Ev 3 none 15 [some (vR 0 0), some (vR 2 0), some (vR 3 0), some (vI (nI M)), some (vI (nI l)), u5, u6, u7, u8, u9] [] (pt_MEM m1 ml ex) (.inl (some (vI (nI (n - M')))), pt_MEM mi' ml ex) ∧ Fr [13] mi mi' := by
    intro e
    induction e with
    | zero =>
      intro l hl m1 M u5 u6 u7 u8 u9 fr hE hU hB
      have hl' : l = n := hl
      subst hl'
      have l1 : m1 3 0 1 = nI l := (fr 3 0 1 (by decide)).trans hlen
      have hM : M ≤ l := by obtain ⟨U, -, hU2⟩ := hU; rw [← hU2]; exact cU_le U l
      refine ⟨M, m1, hM, ⟨hU, fun U hUf => ?_⟩, r3_15 (fun _ => ?_) (fun z => absurd (by rw [l1]; exact nI_le (Nat.le_refl l) (by omega)) z), fr⟩
      · obtain ⟨m, k1, k2⟩ := mask_ex U l
        have := hB m k1 (hUf.cg k2)
        have e2 : cU (fun i => m.testBit i) l = cU U l := sg_congr (fun q hq => wt_cg (k2 q hq))
        omega
      · have := r3_151 (nx1 := 0) (mi := m1) (ml := ml) (ex := ex) (x3 := nI M) (x4 := nI l) (u5 := u5) (u6 := u6) (u7 := u7) (u8 := u8) (u9 := u9)
        rw [l1, pk_sub hM] at this
        exact this
    | succ e ih =>
      intro l hle m1 M u5 u6 u7 u8 u9 fr hE hU hB
      have hl : l < n := by omega
      have hl10 : l < 10 := by omega
      have hL := h.2.1 l hl
      have hp2 : 2 ^ l ≤ 2 ^ 9 := Nat.pow_le_pow_right (by decide) (by omega)
      have e512 : 2 ^ 9 = 512 := rfl
      have hpp : 2 ^ (l + 1) = 2 ^ l + 2 ^ l := by rw [Nat.pow_succ]; omega
      obtain ⟨⟨t1, t2⟩, d1, d2⟩ := f.2.2 (L l) hL.1 hL.2
      have et : S (9 * L l + 3) = nI (t l) := by rw [← ht]; exact nI_tN (by omega)
      have ed : S (9 * L l + 4) = nI (d l) := by rw [← hd]; exact nI_tN (by omega)
      have hdl : d l < 2 ^ 20 := by rw [← hd]; show dS S (L l) < 2 ^ 20; unfold dS; omega
      have htl := ht60 l hl
      have l1 : m1 3 0 1 = nI n := (fr 3 0 1 (by decide)).trans hlen
      -- the inner loop
      have inner : ∀ k b, b + k = 2 ^ l → ∀ m2 M2 u7 u8 u9, Fr [13] mi m2 → (∀ m, m < 2 ^ l → En m2 c t d l m) → (∀ b', b' < b → En m2 c t d (l + 1) (2 ^ l + b')) → (∃ U, Feas c t d U (l + 1) ∧ cU U (l + 1) = M2) → (∀ m, m < 2 ^ l → Feas c t d (fun i => m.testBit i) l → cU (fun i => m.testBit i) l ≤ M2) → (∀ b', b' < b → Feas c t d (fun i => (2 ^ l + b').testBit i) (l + 1) → cU (fun i => (2 ^ l + b').testBit i) (l + 1) ≤ M2) → ∃ M' mi', M' ≤ n ∧ Best c t d n M' ∧ pt_Ev 3 none 41 [some (vR 0 0), some (vR 2 0), some (vR 3 0), some (vI (nI M2)), some (vI (nI l)), some (vR 5 (L l + 10 * 0)), some (vI (nI b)), u7, u8, u9] [] (pt_MEM m2 ml ex) (.inl (some (vI (nI (n - M')))), pt_MEM mi' ml ex) ∧ Fr [13] mi mi' := by
        intro k
        induction k with
        | zero =>
          intro b hb m2 M2 u7 u8 u9 fr2 h1 h2 h3 h4 h5
          have hb' : b = 2 ^ l := hb
          have fin : ∀ m, m < 2 ^ (l + 1) → (m < 2 ^ l ∨ ∃ b', b' < b ∧ m = 2 ^ l + b') := fun m hm => by
            by_cases z : m < 2 ^ l
            · exact Or.inl z
            · exact Or.inr ⟨m - 2 ^ l, by omega, by omega⟩
          obtain ⟨M', mi', g1, g2, g3, g4⟩ := ih (l + 1) (by omega) m2 M2 (some (vR 5 (L l + 10 * 0))) (some (vI (nI b))) u7 u8 u9 fr2 (fun m hm => by
              rcases fin m hm with z | ⟨b', z1, z2⟩
              · have o := Feas_old (c := c) (t := t) (d := d) z
                have e1 := h1 m z
                unfold En at e1 ⊢
                rw [o.1, o.2 t]
                exact e1
              · rw [z2]; exact h2 b' z1) h3 (fun m hm hf => by
              rcases fin m hm with z | ⟨b', z1, z2⟩
              · have o := Feas_old (c := c) (t := t) (d := d) z
                unfold cU
                rw [o.2 (fun _ => 1)]
                exact h4 m z (o.1.mp hf)
              · rw [z2] at hf ⊢; exact h5 b' z1 hf)
          rw [nI_succ l] at g3
          refine ⟨M', mi', g1, g2, r3_41 (fun _ => r3_145 g3) (fun z => absurd ?_ z), g4⟩
          rw [sh_all l hl10, hb']
          exact nI_le (Nat.le_refl _) (by omega)
        | succ k ihk =>
          intro b hbk m2 M2 u7 u8 u9 fr2 h1 h2 h3 h4 h5
          have hb : b < 2 ^ l := by omega
          have hcs2 : cs m2 0 = S := (cs_fr 0 fr2 (by decide) (by decide) (by decide) (by decide)).trans hS
          have e3 := cs_p m2 0 hL.1 (j := 3) (by decide)
          have e4 := cs_p m2 0 hL.1 (j := 4) (by decide)
          rw [hcs2, et] at e3
          rw [hcs2, ed] at e4
          have eb := h1 b hb
          obtain ⟨nf, ns⟩ := Feas_new (c := c) (t := t) (d := d) hb
          obtain ⟨-, nc⟩ := Feas_new (c := c) (t := fun _ => 1) (d := d) hb
          have hsb := hsum (fun i => b.testBit i) l (by omega)
          have esh : ¬ (1 : Int32) <<< (nI l &&& 31) ≤ nI b := by rw [sh_all l hl10]; exact nI_ge hb (by omega)
          have eor := or_all l hl10 b hb
          -- go on behind a new entry
          have next : ∀ (v : Int32) M3 u7 u8 u9, En (pt_up3 m2 13 0 (2 ^ l + b) v) c t d (l + 1) (2 ^ l + b) → (∃ U, Feas c t d U (l + 1) ∧ cU U (l + 1) = M3) → M2 ≤ M3 → (Feas c t d (fun i => (2 ^ l + b).testBit i) (l + 1) → cU (fun i => (2 ^ l + b).testBit i) (l + 1) ≤ M3) → ∃ M' mi', M' ≤ n ∧ Best c t d n M' ∧ pt_Ev 3 none 41 [some (vR 0 0), some (vR 2 0), some (vR 3 0), some (vI (nI M3)), some (vI (nI l)), some (vR 5 (L l + 10 * 0)), some (vI (nI b + 1)), u7, u8, u9] [] (pt_MEM (pt_up3 m2 13 0 (2 ^ l + b) v) ml ex) (.inl (some (vI (nI (n - M')))), pt_MEM mi' ml ex) ∧ Fr [13] mi mi' := by
            intro v M3 u7 u8 u9 hen hU3 hM3 hB3
            have := ihk (b + 1) (by omega) (pt_up3 m2 13 0 (2 ^ l + b) v) M3 u7 u8 u9 (fr2.up (by decide)) (fun m hm => by
                have := h1 m hm
                unfold En at this ⊢
                rw [up3_j _ _ (by omega)]
                exact this) (fun b' hb' => by
                by_cases z : b' = b
                · rw [z]; exact hen
                · have := h2 b' (by omega)
                  unfold En at this ⊢
                  rw [up3_j _ _ (by omega)]
                  exact this) hU3 (fun m hm hf => Nat.le_trans (h4 m hm hf) hM3) (fun b' hb' hf => by
                by_cases z : b' = b
                · rw [z] at hf ⊢; exact hB3 hf
                · exact Nat.le_trans (h5 b' (by omega) hf) hM3)
            rw [nI_succ b] at this
            exact this
          have hidx : 2 ^ l + b < 1024 := by omega
          by_cases hf : Feas c t d (fun i => (2 ^ l + b).testBit i) (l + 1)
          · obtain ⟨fb, fe⟩ := nf.mp hf
            have vb := eb.1 fb
            have hM2 : M2 ≤ 10 := by obtain ⟨U, -, hU2⟩ := h3; rw [← hU2]; exact Nat.le_trans (cU_le U (l + 1)) (by omega)
            have c10 : cU (fun i => (2 ^ l + b).testBit i) 10 = cU (fun i => (2 ^ l + b).testBit i) (l + 1) := by
              have : ∀ k, l + 1 + k ≤ 10 → cU (fun i => (2 ^ l + b).testBit i) (l + 1 + k) = cU (fun i => (2 ^ l + b).testBit i) (l + 1) := by
                intro k
                induction k with
                | zero => intro _; rfl
                | succ k ihq =>
                  intro hk
                  have top : (2 ^ l + b).testBit (l + 1 + k) = false := Nat.testBit_lt_two_pow (by
                    have : 2 ^ (l + 1) ≤ 2 ^ (l + 1 + k) := Nat.pow_le_pow_right (by decide) (by omega)
                    omega)
                  rw [← ihq (by omega)]
                  unfold cU
                  rw [show l + 1 + (k + 1) = l + 1 + k + 1 from rfl, sg_s, wt_f (U := fun i => (2 ^ l + b).testBit i) top]
                  rfl
              have h := this (9 - l) (by omega)
              rw [show l + 1 + (9 - l) = 10 from by omega] at h
              exact h
            have hcle := cU_le (fun i => (2 ^ l + b).testBit i) (l + 1)
            have hmax := nI_max M2 (cU (fun i => (2 ^ l + b).testBit i) (l + 1)) (by omega) (by omega)
            obtain ⟨M', mi', g1, g2, g3, g4⟩ := next (nI (c + sg (wt (fun i => b.testBit i) t) l + t l)) (if M2 < cU (fun i => (2 ^ l + b).testBit i) (l + 1) then cU (fun i => (2 ^ l + b).testBit i) (l + 1) else M2) (some (vI (nI (2 ^ l + b)))) (some (vI (nI (c + sg (wt (fun i => b.testBit i) t) l + t l)))) (some (vI 1)) ⟨fun _ => by rw [up3_eq, ns]; congr 1; omega, fun z => absurd hf z⟩ (by
                by_cases z : M2 < cU (fun i => (2 ^ l + b).testBit i) (l + 1)
                · rw [if_pos z]; exact ⟨_, hf, rfl⟩
                · rw [if_neg z]; exact h3) (by split <;> omega) (fun _ => by split <;> omega)
            refine ⟨M', mi', g1, g2, r3_41 (fun z => absurd z esh) (fun _ => r3_50 rfl (by omega) rfl (by omega) (fun z => ?_) (fun _ => r3_85 (fun z => ?_) (fun _ => r3_95 (fun z => absurd z (by decide)) (fun _ => r3_113 (p9 := 2 ^ l + b) eor hidx (fun z => absurd z (by decide)) (fun _ => ?_))))), g4⟩
            · rw [vb] at z
              exact absurd z (fun y => by
                have := nI_pos' (n := c + sg (wt (fun i => b.testBit i) t) l) (by omega)
                rw [y] at this
                exact absurd this (by decide))
            · rw [vb, e3, e4, nI_add] at z
              exact absurd z (nI_nlt fe (by omega))
            · rw [eor, vb, e3, nI_add]
              have c157' := c157 (mi := pt_up3 m2 13 0 (2 ^ l + b) (nI (c + sg (wt (fun i => b.testBit i) t) l + t l))) (ml := ml) (ex := ex) hidx
              rw [c10] at c157'
              refine r3_125 c157' (r3_131 c158 (r3_134 ?_))
              rw [hmax]
              exact g3
          · obtain ⟨M', mi', g1, g2, g3, g4⟩ := next (-1) M2 (some (vI (nI (2 ^ l + b)))) (some (vI (m2 13 0 b + nI (t l)))) (some (vI 0)) ⟨fun z => absurd z hf, fun _ => up3_eq _ _ _ _ _⟩ h3 (Nat.le_refl _) (fun z => absurd z hf)
            have bad : pt_Ev 3 none 99 [some (vR 0 0), some (vR 2 0), some (vR 3 0), some (vI (nI M2)), some (vI (nI l)), some (vR 5 (L l + 10 * 0)), some (vI (nI b)), some (vI (nI (2 ^ l + b))), some (vI (m2 13 0 b + nI (t l))), u9] [] (pt_MEM m2 ml ex) (.inl (some (vI (nI (n - M')))), pt_MEM mi' ml ex) := r3_99 (fun _ => r3_118 (p9 := 2 ^ l + b) rfl hidx (fun _ => r3_137 g3) (fun z => absurd rfl z)) (fun z => absurd rfl z)
            refine ⟨M', mi', g1, g2, r3_41 (fun z => absurd z esh) (fun _ => r3_50 rfl (by omega) rfl (by omega) (fun _ => ?_) (fun z => r3_85 (fun _ => ?_) (fun y => ?_))), g4⟩
            · rw [eor, e3]; exact bad
            · rw [eor, e3]; exact bad
            · -- in time after all
              exfalso
              by_cases fb : Feas c t d (fun i => b.testBit i) l
              · have vb := eb.1 fb
                rw [vb, e3, e4, nI_add] at y
                refine hf (nf.mpr ⟨fb, ?_⟩)
                by_cases w : c + sg (wt (fun i => b.testBit i) t) l + t l ≤ d l
                · exact w
                · exact absurd (nI_lt (by omega) (by omega)) y
              · exact z (eb.2 fb)
      obtain ⟨U0, hU0, hU1⟩ := hU
      obtain ⟨M', mi', g1, g2, g3, g4⟩ := inner (2 ^ l) 0 (by omega) m1 M u7 u8 u9 fr hE (fun b' hb' => absurd hb' (Nat.not_lt_zero b')) (by
          obtain ⟨m, k1, k2⟩ := mask_ex U0 l
          have o := Feas_old (c := c) (t := t) (d := d) k1
          refine ⟨fun i => m.testBit i, o.1.mpr (hU0.cg k2), ?_⟩
          unfold cU
          rw [o.2 (fun _ => 1), ← hU1]
          exact sg_congr (fun q hq => wt_cg (k2 q hq))) hB (fun b' hb' => absurd hb' (Nat.not_lt_zero b'))
      rw [nI_0] at g3
      exact ⟨M', mi', g1, g2, r3_15 (fun z => absurd (by rw [l1] at z; exact z) (nI_ge hl (by omega))) (fun _ => r3_24 rfl rfl (by omega) ((fr 12 0 l (by decide)).trans (hr l hl)) hL.1 (pt_MR_p (by decide) hL.1) g3), g4⟩
  have h0 : mi 2 0 3 = nI c := by
    rw [← cs_96 mi 0, hS, ← hc]
    exact nI_tN hc96.1
  have f0 : Feas c t d (fun i => (0 : Nat).testBit i) 0 := fun i hi _ => absurd hi (Nat.not_lt_zero i)
  obtain ⟨M', mi', g1, g2, g3, g4⟩ := outer n 0 (by omega) (pt_up3 mi 13 0 0 (mi 2 0 3)) 0 none none none none none (Fr.rfl'.up (by decide)) (fun m hm => by
      have : m = 0 := by omega
      subst this
      exact ⟨fun _ => by rw [up3_eq, h0]; rfl, fun z => absurd f0 z⟩) ⟨fun _ => false, fun i hi _ => absurd hi (Nat.not_lt_zero i), rfl⟩ (fun m hm _ => Nat.le_refl _)
  rw [nI_0] at g3
  exact ⟨M', mi', g1, g2, r3_0 g3, g4⟩
end
