/-! The law's look isOrderSo: its run. -/
section
variable {v : Bool} {ml : Nat → Nat → Nat → Int64} {ex : Nat} {S : Nat → Int32} {A P : Int} {L : Nat → Nat} {n m : Nat} {set room : Int32}
abbrev O13 (v : Bool) (m : Nat) (set room w c : Int32) (r : Nat) (u8 u9 u10 u11 u12 : Option pt_V) : pt_L := [some (vR 8 (ob v)), some (vI (nI m)), some (vI set), some (vI room), some (vI w), some (vI c), some (vI 1), some (vI (nI r)), u8, u9, u10, u11, u12]
/-- the first loop's head -/
def K25 (v : Bool) (S : Nat → Int32) (L : Nat → Nat) (m : Nat) (set room : Int32) (r : Nat) (ml : Nat → Nat → Nat → Int64) (ex : Nat) : Prop := ∀ mi (u8 u9 u10 u11 u12 : Option pt_V), Cs v mi S → LE 178 25 (O13 v m set room (room - (wlU S L room r).2.2) (wlU S L room r).2.1 r u8 u9 u10 u11 u12) [] (vI 1) mi ml ex
theorem rk (g : GO S) (hL : LnS S L n) {r : Nat} (hr : r < n) : mRanked S (nI r) = some (L r) := by
  have := hL.1
  rw [mRanked_LN g hL (by omega), if_pos hr]
theorem oI_s {p : Nat} : oI (some p) = nI p := rfl
theorem oI_nn {p : Nat} (hp : p < 10) : ¬ oI (some p) < 0 := nI_pos (by omega)
/-- who stands before -/
theorem o175 (g : Good S A P) (hA : A ≤ 100000) (hL : LnS S L n) {r : Nat} (hr : r < n) {x9 x10 : Int32} {u11 u12 : Option pt_V} (K : K25 v S L m set room (r + 1) ml ex) {mi : Nat → Nat → Nat → Int32} (hv : Cs v mi S) :
    LE 178 166 (O13 v m set room (room - (wlU S L room (r + 1)).2.2) (wlU S L room (r + 1)).2.1 r (some (vI (nI (L r)))) (some (vI x9)) (some (vI x10)) u11 u12) [] (vI 1) mi ml ex ∧
    ∀ {c0 c : Int32}, c = (wlU S L room (r + 1)).2.1 → LE 178 163 (O13 v m set room (room - (wlU S L room (r + 1)).2.2) c0 r (some (vI (nI (L r)))) (some (vI x9)) (some (vI x10)) u11 u12) [vI c] (vI 1) mi ml ex := by
  have G := g.GO hA
  have hn := hL.1
  have l281 : LE 178 281 (O13 v m set room (room - (wlU S L room (r + 1)).2.2) (wlU S L room (r + 1)).2.1 r (some (vI (nI (L r)))) (some (vI x9)) (some (vI x10)) u11 u12) [] (vI 1) mi ml ex :=
    LE.of (K mi _ _ _ _ _ hv) (fun q => r178_281 (by rw [← nI_succ]; exact q))
  have l175 : 0 < r → LE 178 175 (O13 v m set room (room - (wlU S L room (r + 1)).2.2) (wlU S L room (r + 1)).2.1 r (some (vI (nI (L r)))) (some (vI x9)) (some (vI x10)) u11 u12) [] (vI 1) mi ml ex := by
    intro h0
    obtain ⟨r', rfl⟩ : ∃ r', r = r' + 1 := ⟨r - 1, by omega⟩
    have hb := hL.2.1 r' (by omega)
    have hp := hL.2.1 (r' + 1) hr
    have bh := sW_here hb.2
    have ph := sW_here hp.2
    have ah : sAhead S (L r') (L (r' + 1)) (S 105) = true := hL.2.2.1 r' (r' + 1) (by omega) hr
    have e1 : nI (r' + 1) - 1 = nI r' := by rw [nI_succ]; grind
    refine LE.call (lk75 hv G (x := nI r') (nI_pos (by omega))) (fun mi1 f1 => ?_) (fun h q => r178_175 (by rw [e1]; exact h) q)
    have hv := hv.fr f1
    rw [rk G hL (by omega), oI_s]
    refine LE.call (lk74 hv (p := 1) (by decide)) (fun mi2 f2 => ?_) (fun h q => r178_183 h q)
    have hv := hv.fr f2
    show LE 178 190 _ [vI (S 105)] _ _ _ _
    have done : ∀ mi (x12 : Int32), Cs v mi S → LE 178 274 (O13 v m set room (room - (wlU S L room (r' + 1 + 1)).2.2) (wlU S L room (r' + 1 + 1)).2.1 (r' + 1) (some (vI (nI (L (r' + 1))))) (some (vI x9)) (some (vI x10)) (some (vI (nI (L r')))) (some (vI x12))) [] (vI 1) mi ml ex := fun mi x12 hv =>
      LE.of (K mi _ _ _ _ _ hv) (fun q => r178_274 (by rw [← nI_succ]; exact q))
    obtain ⟨⟨b1, b2⟩, b3, b4⟩ := G.2.1 (L r') hb.1 bh
    obtain ⟨⟨p1, p2⟩, p3, p4⟩ := G.2.1 (L (r' + 1)) hp.1 ph
    -- without the rush
    have l220 : ∀ mi (x12 : Int32), (S 105 = 0 ∨ S (9 * L r' + 5) = S (9 * L (r' + 1) + 5)) → Cs v mi S → LE 178 220 (O13 v m set room (room - (wlU S L room (r' + 1 + 1)).2.2) (wlU S L room (r' + 1 + 1)).2.1 (r' + 1) (some (vI (nI (L (r' + 1))))) (some (vI x9)) (some (vI x10)) (some (vI (nI (L r')))) (some (vI x12))) [] (vI 1) mi ml ex := by
      intro mi x12 hru hv
      have ah2 : (if ¬ S (9 * L r' + 4) = S (9 * L (r' + 1) + 4) then decide (¬ S (9 * L (r' + 1) + 4) ≤ S (9 * L r' + 4)) else decide (¬ S (9 * L (r' + 1) + 0) ≤ S (9 * L r' + 0))) = true := by
        unfold sAhead at ah
        rw [if_neg (fun z => hru.elim (fun e => z.1 e) (fun e => z.2 e))] at ah
        exact ah
      refine LE.call (lk69 hv G (p := L (r' + 1)) (j := 4) hp.1 (by decide)) (fun mi1 f1 => ?_) (fun h q => r178_220 h q)
      have hv := hv.fr f1
      rw [mOf_t ph (by decide)]
      refine LE.call (lk69 hv G (p := L r') (j := 4) hb.1 (by decide)) (fun mi2 f2 => ?_) (fun h q => r178_227 h q)
      have hv := hv.fr f2
      rw [mOf_t bh (by decide)]
      have sb : (S (9 * L (r' + 1) + 4) - S (9 * L r' + 4)).toInt = (S (9 * L (r' + 1) + 4)).toInt - (S (9 * L r' + 4)).toInt := sb32 (by omega) (by omega)
      by_cases c : S (9 * L r' + 4) = S (9 * L (r' + 1) + 4)
      · rw [if_neg (fun z => z c), decide_eq_true_eq] at ah2
        have z0 : S (9 * L (r' + 1) + 4) - S (9 * L r' + 4) = 0 := by rw [c]; grind
        refine LE.of (pc2 := 257) (L2 := O13 v m set room (room - (wlU S L room (r' + 1 + 1)).2.2) (wlU S L room (r' + 1 + 1)).2.1 (r' + 1) (some (vI (nI (L (r' + 1))))) (some (vI x9)) (some (vI x10)) (some (vI (nI (L r')))) (some (vI (S (9 * L (r' + 1) + 4) - S (9 * L r' + 4))))) (st2 := []) ?_ (fun q => r178_234 (fun z => absurd z (by decide)) (fun _ => r178_247 (fun z => absurd z (by rw [z0]; decide)) (fun _ => r178_252 (fun _ => q) (fun z => absurd z0 z))))
        refine LE.call (lk69 hv G (p := L (r' + 1)) (j := 0) hp.1 (by decide)) (fun mi3 f3 => ?_) (fun h q => r178_257 h q)
        have hv := hv.fr f3
        rw [mOf_t ph (by decide)]
        refine LE.call (lk69 hv G (p := L r') (j := 0) hb.1 (by decide)) (fun mi4 f4 => ?_) (fun h q => r178_264 h q)
        have hv := hv.fr f4
        rw [mOf_t bh (by decide)]
        exact LE.of (done mi4 _ hv) (fun q => r178_271 (fun z => absurd z ah2) (fun _ => q))
      · rw [if_pos c, decide_eq_true_eq, Int32.le_iff_toInt_le] at ah2
        have zp : (0 : Int32) < S (9 * L (r' + 1) + 4) - S (9 * L r' + 4) := by rw [Int32.lt_iff_toInt_lt, sb, im0]; omega
        exact LE.of (done mi2 _ hv) (fun q => r178_234 (fun z => absurd z (by decide)) (fun _ => r178_247 (fun _ => q) (fun z => absurd zp z)))
    by_cases c : S 105 = 1
    · refine LE.of (pc2 := 194) (L2 := O13 v m set room (room - (wlU S L room (r' + 1 + 1)).2.2) (wlU S L room (r' + 1 + 1)).2.1 (r' + 1) (some (vI (nI (L (r' + 1))))) (some (vI x9)) (some (vI x10)) (some (vI (nI (L r')))) u12) (st2 := []) ?_ (fun q => r178_190 (fun _ => q) (fun z => absurd c z))
      refine LE.call (lk69 hv G (p := L r') (j := 5) hb.1 (by decide)) (fun mi3 f3 => ?_) (fun h q => r178_194 h q)
      have hv := hv.fr f3
      rw [mOf_t bh (by decide)]
      refine LE.call (lk69 hv G (p := L (r' + 1)) (j := 5) hp.1 (by decide)) (fun mi4 f4 => ?_) (fun h q => r178_201 h q)
      have hv := hv.fr f4
      rw [mOf_t ph (by decide)]
      by_cases d : S (9 * L r' + 5) = S (9 * L (r' + 1) + 5)
      · have z0 : S (9 * L r' + 5) - S (9 * L (r' + 1) + 5) = 0 := by rw [d]; grind
        exact LE.of (l220 mi4 _ (Or.inr d) hv) (fun q => r178_208 (fun _ => q) (fun z => absurd z0 z))
      · have ah2 := ah
        unfold sAhead at ah2
        rw [if_pos ⟨fun z => by rw [c] at z; exact absurd z (by decide), d⟩, decide_eq_true_eq] at ah2
        have r1 := (G.1 (L r') hb.1).resolve_left ah2
        have r2 : S (9 * L (r' + 1) + 5) = 0 := (G.1 (L (r' + 1)) hp.1).resolve_right (fun z => d (r1.trans z.symm))
        have e : S (9 * L r' + 5) - S (9 * L (r' + 1) + 5) = 1 := by rw [r1, r2]; decide
        exact LE.of (done mi4 _ hv) (fun q => r178_208 (fun z => absurd z (by rw [e]; decide)) (fun _ => r178_238 (fun z => absurd z (by decide)) (fun _ => r178_247 (fun _ => q) (fun z => absurd (by rw [e]; decide) z))))
    · have c0 : S 105 = 0 := g.2.1.1.resolve_right c
      exact LE.of (l220 mi2 _ (Or.inl c0) hv) (fun q => r178_190 (fun z => absurd z c) (fun _ => r178_212 (fun _ => q) (fun z => absurd rfl z)))
  by_cases h0 : r = 0
  · have z : nI r ≤ 0 := by rw [h0]; decide
    exact ⟨LE.of l281 (fun q => r178_166 (fun _ => q) (fun c => absurd z c)), fun {c0 c} hc => by subst hc; exact LE.of l281 (fun q => r178_163 (fun _ => q) (fun c => absurd z c))⟩
  · have z : ¬ nI r ≤ 0 := by rw [Int32.le_iff_toInt_le, nI_toInt (by omega), im0]; omega
    exact ⟨LE.of (l175 (by omega)) (fun q => r178_166 (fun c => absurd c z) (fun _ => q)), fun {c0 c} hc => by subst hc; exact LE.of (l175 (by omega)) (fun q => r178_163 (fun c => absurd c z) (fun _ => q))⟩
end
