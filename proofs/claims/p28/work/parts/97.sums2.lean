/-! The law's look areSums, whole. -/
section
variable {v : Bool} {ml : Nat → Nat → Nat → Int64} {ex : Nat} {S : Nat → Int32} {A P : Int} {h w i s : Int32} {k : Nat}
abbrev L9 (v : Bool) (h w i s : Int32) (k : Nat) (t st : Int32) (u9 u10 u11 u12 u13 : Option pt_V) : pt_L := [some (vR 8 (ob v)), some (vI h), some (vI w), some (vI i), some (vI s), some (vI 1), some (vI (nI k)), some (vI t), some (vI st), u9, u10, u11, u12, u13]
/-- fees -/
theorem s134 (g : Good S A P) (n : NX S A) (hA : A ≤ 100000) (hk : k < 10) (hh : sHere S k = true) (K : K15 v S h w i s (k + 1) ml ex) {u9 u10 u11 u12 u13 : Option pt_V} {mi : Nat → Nat → Nat → Int32} (hv : Cs v mi S) : LE 176 134 (L9 v h w i s k (S (9 * k + 0)) (S (9 * k + 6)) u9 u10 u11 u12 u13) [vI (S (9 * k + 7))] (vI 1) mi ml ex := by
  have G := g.GO hA
  refine LE.call (lk74 hv (p := 0) (by decide)) (fun mi1 f1 => ?_) (fun h q => r176_134 h q)
  have hv := hv.fr f1
  refine LE.call (lk69 hv G (p := k) (j := 2) hk (by decide)) (fun mi2 f2 => ?_) (fun h q => r176_141 h q)
  rw [mOf_t hh (by decide)]
  have hv := hv.fr f2
  refine LE.call (lk69 hv G (p := k) (j := 5) hk (by decide)) (fun mi3 f3 => ?_) (fun h q => r176_148 h q)
  rw [mOf_t hh (by decide)]
  have hv := hv.fr f3
  -- behind the fee
  have late : ∀ f, f = mFee0 S k → LE 176 (if S (9 * k + 6) = 2 then 182 else 204) [some (vR 8 (ob v)), some (vI h), some (vI w), some (vI i), some (vI s), some (vI 1), some (vI (nI k)), some (vI (S (9 * k + 0))), some (vI (S (9 * k + 6))), some (vI (S (9 * k + 7))), some (vI (S (104 + 0) * S (9 * k + 2))), some (vI f), u12, u13] [] (vI 1) mi3 ml ex := by
    intro f hf
    have no : ∀ mi, Cs v mi S → sLate S k = false → LE 176 204 [some (vR 8 (ob v)), some (vI h), some (vI w), some (vI i), some (vI s), some (vI 1), some (vI (nI k)), some (vI (S (9 * k + 0))), some (vI (S (9 * k + 6))), some (vI (S (9 * k + 7))), some (vI (S (104 + 0) * S (9 * k + 2))), some (vI f), u12, u13] [] (vI 1) mi ml ex := fun mi hv e =>
      LE.of (s212 g n hA hk hh rfl rfl rfl hf (by rw [e]; rfl) K hv) (fun q => r176_204 (fun z => absurd z (by decide)) (fun _ => q))
    by_cases c : S (9 * k + 6) = 2
    · rw [if_pos c]
      refine LE.call (lk69 hv G (p := k) (j := 9) hk (by decide)) (fun mi4 f4 => ?_) (fun h q => r176_182 h q)
      rw [mOf_9 hh]
      have hv := hv.fr f4
      refine LE.call (lk69 hv G (p := k) (j := 4) hk (by decide)) (fun mi5 f5 => ?_) (fun h q => r176_190 h q)
      rw [mOf_t hh (by decide)]
      have hv := hv.fr f5
      by_cases d : S (9 * k + 8) ≤ S (9 * k + 4)
      · have e : sLate S k = false := by unfold sLate; simp [d]
        exact LE.of (no mi5 hv e) (fun q => r176_197 (fun _ => q) (fun z => absurd d z))
      · have e : sLate S k = true := by unfold sLate; simp [d, c]
        exact LE.of (s212 (u := u13) g n hA hk hh rfl rfl rfl hf (show (1 : Int32) = bI (sLate S k) by rw [e]; rfl) K hv) (fun q => r176_197 (fun z => absurd z d) (fun _ => r176_200 (fun z => absurd z (by decide)) (fun _ => q)))
    · rw [if_neg c]
      have e : sLate S k = false := by unfold sLate; simp [c]
      exact no mi3 hv e
  by_cases r : S (9 * k + 5) = 1
  · have l := late (S (104 + 0) * S (9 * k + 2) + S (104 + 0) * S (9 * k + 2) / 2) (by unfold mFee0; rw [if_pos r])
    by_cases c : S (9 * k + 6) = 2
    · rw [if_pos c] at l
      exact LE.of l (fun q => r176_158 (fun _ => r176_162 (fun _ => q) (fun z => absurd c z)) (fun z => absurd r z))
    · rw [if_neg c] at l
      exact LE.of l (fun q => r176_158 (fun _ => r176_162 (fun z => absurd z c) (fun _ => q)) (fun z => absurd r z))
  · have l := late (S (104 + 0) * S (9 * k + 2)) (by unfold mFee0; rw [if_neg r])
    by_cases c : S (9 * k + 6) = 2
    · rw [if_pos c] at l
      exact LE.of l (fun q => r176_158 (fun z => absurd z r) (fun _ => r176_172 (fun _ => q) (fun z => absurd c z)))
    · rw [if_neg c] at l
      exact LE.of l (fun q => r176_158 (fun z => absurd z r) (fun _ => r176_172 (fun z => absurd z c) (fun _ => q)))
/-- counted up to the place k -/
abbrev cX (S : Nat → Int32) (st : Int32) (k : Nat) : Nat := cnt (fun p => sIn S p st) k
theorem a0 (x : Int32) : x + 0 = x := Int32.add_zero x
theorem s15 (g : Good S A P) (n : NX S A) (hA : A ≤ 100000) (E : ∀ mi (u6 u7 u8 u9 u10 u11 u12 u13 : Option pt_V), Cs v mi S → LE 176 449 [some (vR 8 (ob v)), some (vI (nI (cnt (fun p => sHere S p) 10))), some (vI (nI (cX S 0 10))), some (vI (nI (cX S 1 10))), some (vI (nI (cX S 2 10))), some (vI 1), some (vI (nI 10)), u7, u8, u9, u10, u11, u12, u13] [] (vI 1) mi ml ex) :
    ∀ d k, k + d = 10 → K15 v S (nI (cnt (fun p => sHere S p) k)) (nI (cX S 0 k)) (nI (cX S 1 k)) (nI (cX S 2 k)) k ml ex := by
  have G := g.GO hA
  intro d
  induction d with
  | zero =>
    intro k hk mi u7 u8 u9 u10 u11 u12 u13 hv
    obtain rfl : k = 10 := by omega
    exact LE.of (E mi none u7 u8 u9 u10 u11 u12 u13 hv) (fun q => r176_15 (fun _ => q) (fun c => absurd n10_le' c))
  | succ d ih =>
    intro k hk mi u7 u8 u9 u10 u11 u12 u13 hv
    have hk10 : k < 10 := by omega
    have K := ih (k + 1) (by omega)
    refine LE.of (pc2 := 22) (L2 := [some (vR 8 (ob v)), some (vI (nI (cnt (fun p => sHere S p) k))), some (vI (nI (cX S 0 k))), some (vI (nI (cX S 1 k))), some (vI (nI (cX S 2 k))), some (vI 1), some (vI (nI k)), u7, u8, u9, u10, u11, u12, u13]) (st2 := []) ?_ (fun q => r176_15 (fun c => absurd c (n10_le hk10)) (fun _ => q))
    refine LE.call (lk69 hv G (p := k) (j := 0) hk10 (by decide)) (fun mi1 f1 => ?_) (fun h q => r176_22 h q)
    have hv := hv.fr f1
    refine LE.call (lk69 hv G (p := k) (j := 6) hk10 (by decide)) (fun mi2 f2 => ?_) (fun h q => r176_29 h q)
    have hv := hv.fr f2
    cases hh : sHere S k with
    | false =>
      rw [mOf_f hh, mOf_f hh]
      refine LE.of (pc2 := 58) (L2 := L9 v (nI (cnt (fun p => sHere S p) k)) (nI (cX S 0 k)) (nI (cX S 1 k)) (nI (cX S 2 k)) k (-1) (-1) u9 u10 u11 u12 u13) (st2 := []) ?_ (fun q => r176_39 (fun _ => r176_47 (fun z => absurd z (by decide)) (fun _ => r176_52 (fun _ => q) (fun z => absurd rfl z))) (fun z => absurd rfl z))
      refine LE.call (lk69 hv G (p := k) (j := 10) hk10 (by decide)) (fun mi3 f3 => ?_) (fun h q => r176_58 h q)
      rw [mOf_f hh]
      have z : ∀ st, sIn S k st = false := fun st => by unfold sIn; rw [hh, Bool.false_and]
      have e0 : cnt (fun p => sHere S p) (k + 1) = cnt (fun p => sHere S p) k := by rw [cnt_succ, if_neg (by rw [hh]; decide)]
      have e1 : ∀ st, cX S st (k + 1) = cX S st k := fun st => by
        show cnt (fun p => sIn S p st) (k + 1) = _
        rw [cnt_succ, if_neg (by rw [z]; decide)]
      rw [e0, e1, e1, e1] at K
      exact LE.of (K mi3 _ _ u9 u10 u11 u12 u13 (hv.fr f3)) (fun q => r176_66 (fun _ => r176_70 (by rw [← nI_succ]; exact q)) (fun z => absurd rfl z))
    | true =>
      rw [mOf_t hh (by decide), mOf_t hh (by decide)]
      have hne : ¬ S (9 * k + 0) = -1 := by unfold sHere at hh; exact of_decide_eq_true hh
      have z : ∀ st, sIn S k st = decide (S (9 * k + 6) = st) := fun st => by unfold sIn; rw [hh, Bool.true_and]
      have e0 : nI (cnt (fun p => sHere S p) (k + 1)) = nI (cnt (fun p => sHere S p) k) + 1 := by rw [cnt_succ, if_pos hh, nI_succ]
      have ey : ∀ st, S (9 * k + 6) = st → nI (cX S st (k + 1)) = nI (cX S st k) + 1 := fun st h => by
        show nI (cnt (fun p => sIn S p st) (k + 1)) = _
        rw [cnt_succ, if_pos (by rw [z]; simp [h]), nI_succ]
      have en : ∀ st, ¬ S (9 * k + 6) = st → nI (cX S st (k + 1)) = nI (cX S st k) + 0 := fun st h => by
        show nI (cnt (fun p => sIn S p st) (k + 1)) = _
        rw [cnt_succ, if_neg (by rw [z]; simp [h]), a0]
      rw [e0] at K
      have go := fun w i s (K : K15 v S (nI (cnt (fun p => sHere S p) k) + 1) w i s (k + 1) ml ex) mi (hv : Cs v mi S) => s134 (u9 := u9) (u10 := u10) (u11 := u11) (u12 := u12) (u13 := u13) g n hA hk10 hh K hv
      rcases n.st hk10 hh with ⟨e6, -⟩ | ⟨e6, -⟩ | ⟨e6, -⟩
      · rw [ey 0 e6, en 1 (by rw [e6]; decide), en 2 (by rw [e6]; decide)] at K
        refine LE.of (pc2 := 122) (L2 := L9 v (nI (cnt (fun p => sHere S p) k) + 1) (nI (cX S 0 k) + 1) (nI (cX S 1 k) + 0) (nI (cX S 2 k)) k (S (9 * k + 0)) (S (9 * k + 6)) u9 u10 u11 u12 u13) (st2 := [vI (nI (cX S 2 k))]) ?_ (fun q => r176_39 (fun c => absurd c hne) (fun _ => r176_80 (fun _ => r176_89 (fun c => absurd (e6.symm.trans c) (by decide)) (fun _ => r176_107 (fun c => absurd (e6.symm.trans c) (by decide)) (fun _ => q))) (fun c => absurd e6 c)))
        refine LE.call (lk69 hv G (p := k) (j := 7) hk10 (by decide)) (fun mi3 f3 => ?_) (fun h q => r176_122 h q)
        rw [mOf_t hh (by decide)]
        exact go _ _ _ K mi3 (hv.fr f3)
      · rw [en 0 (by rw [e6]; decide), ey 1 e6, en 2 (by rw [e6]; decide)] at K
        refine LE.of (pc2 := 122) (L2 := L9 v (nI (cnt (fun p => sHere S p) k) + 1) (nI (cX S 0 k) + 0) (nI (cX S 1 k) + 1) (nI (cX S 2 k)) k (S (9 * k + 0)) (S (9 * k + 6)) u9 u10 u11 u12 u13) (st2 := [vI (nI (cX S 2 k))]) ?_ (fun q => r176_39 (fun c => absurd c hne) (fun _ => r176_80 (fun c => absurd (e6.symm.trans c) (by decide)) (fun _ => r176_93 (fun _ => r176_103 (fun c => absurd (e6.symm.trans c) (by decide)) (fun _ => q)) (fun c => absurd e6 c))))
        refine LE.call (lk69 hv G (p := k) (j := 7) hk10 (by decide)) (fun mi3 f3 => ?_) (fun h q => r176_122 h q)
        rw [mOf_t hh (by decide)]
        exact go _ _ _ K mi3 (hv.fr f3)
      · rw [en 0 (by rw [e6]; decide), en 1 (by rw [e6]; decide), ey 2 e6] at K
        refine LE.of (pc2 := 118) (L2 := L9 v (nI (cnt (fun p => sHere S p) k) + 1) (nI (cX S 0 k) + 0) (nI (cX S 1 k) + 0) (nI (cX S 2 k)) k (S (9 * k + 0)) (S (9 * k + 6)) u9 u10 u11 u12 u13) (st2 := [vI (nI (cX S 2 k))]) ?_ (fun q => r176_39 (fun c => absurd c hne) (fun _ => r176_80 (fun c => absurd (e6.symm.trans c) (by decide)) (fun _ => r176_93 (fun c => absurd (e6.symm.trans c) (by decide)) (fun _ => r176_107 (fun _ => q) (fun c => absurd e6 c)))))
        refine LE.call (lk69 hv G (p := k) (j := 7) hk10 (by decide)) (fun mi3 f3 => ?_) (fun h q => r176_118 h q)
        rw [mOf_t hh (by decide)]
        exact go _ _ _ K mi3 (hv.fr f3)
end
