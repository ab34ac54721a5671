/-! The law's look areSums: one place. -/
theorem b01_ne (b : Bool) : bI b = 0 ↔ b = false := bI_eq0 b
section
variable {v : Bool} {ml : Nat → Nat → Nat → Int64} {ex : Nat} {S : Nat → Int32} {A P : Int} {h w i s t st wh b f l : Int32} {k : Nat}
/-- the loop's head, once more -/
def K15 (v : Bool) (S : Nat → Int32) (h w i s : Int32) (k : Nat) (ml : Nat → Nat → Nat → Int64) (ex : Nat) : Prop := ∀ mi (u7 u8 u9 u10 u11 u12 u13 : Option pt_V), Cs v mi S → LE 176 15 [some (vR 8 (ob v)), some (vI h), some (vI w), some (vI i), some (vI s), some (vI 1), some (vI (nI k)), u7, u8, u9, u10, u11, u12, u13] [] (vI 1) mi ml ex
abbrev L14 (v : Bool) (h w i s : Int32) (k : Nat) (t st wh b f l : Int32) (u : Option pt_V) : pt_L := [some (vR 8 (ob v)), some (vI h), some (vI w), some (vI i), some (vI s), some (vI 1), some (vI (nI k)), some (vI t), some (vI st), some (vI wh), some (vI b), some (vI f), some (vI l), u]
theorem s406 (g : Good S A P) (hA : A ≤ 100000) (hk : k < 10) (hh : sHere S k = true) (ht : t = S (9 * k + 0)) (K : K15 v S h w i s (k + 1) ml ex) : ∀ d j mi, j + d = k → Cs v mi S → LE 176 406 (L14 v h w i s k t st wh b f l (some (vI (nI j)))) [] (vI 1) mi ml ex := by
  intro d
  induction d with
  | zero =>
    intro j mi hj hv
    obtain rfl : j = k := by omega
    refine LE.of (K mi _ _ _ _ _ _ _ hv) (fun q => r176_406 (fun _ => r176_443 (by rw [← nI_succ]; exact q)) (fun c => absurd (Int32.le_refl _) c))
  | succ d ih =>
    intro j mi hj hv
    refine LE.of (pc2 := 418) (L2 := L14 v h w i s k t st wh b f l (some (vI (nI j)))) (st2 := []) ?_ (fun q => r176_406 (fun c => absurd c (nI_ge (by omega) (by omega))) (fun _ => r176_413 (fun z => absurd z (by decide)) (fun _ => q)))
    refine LE.call (lk69 hv (g.GO hA) (p := j) (j := 0) (by omega) (by decide)) (fun mi1 f1 => ?_) (fun h q => r176_418 h q)
    refine LE.of (ih (j + 1) mi1 (by omega) (hv.fr f1)) (fun q => r176_425 (fun z => ?_) (fun _ => r176_430 (by rw [← nI_succ]; exact q)))
    exfalso
    cases hj' : sHere S j with
    | false =>
      rw [mOf_f hj', ht] at z
      have := ((g.1.1 k hk).2 hh).2.1.1
      rw [← z, im1] at this
      omega
    | true =>
      rw [mOf_t hj' (by decide), ht] at z
      exact g.1.2.1 j k (by omega) hk hj' hh (by omega) z
theorem s368 (g : Good S A P) (hA : A ≤ 100000) (hk : k < 10) (hh : sHere S k = true) (ht : t = S (9 * k + 0)) (hf : f = mFee0 S k) (hl : l = bI (sLate S k)) (K : K15 v S h w i s (k + 1) ml ex) {u : Option pt_V} {mi : Nat → Nat → Nat → Int32} (hv : Cs v mi S) : LE 176 368 (L14 v h w i s k t st wh b f l u) [] (vI 1) mi ml ex := by
  refine LE.call (lk69 hv (g.GO hA) (p := k) (j := 10) hk (by decide)) (fun mi1 f1 => ?_) (fun h q => r176_368 h q)
  rw [mOf_10 hh]
  refine LE.of (s406 (st := st) (wh := wh) (b := b) (f := f) (l := l) g hA hk hh ht K k 0 mi1 (by omega) (hv.fr f1)) (fun q => ?_)
  have q := r176_396 (x5 := 1) (u13 := u) q
  refine r176_376 (fun z => ?_) (fun z => ?_)
  · have e : sLate S k = false := by rw [hl, bI_eq0] at z; exact z
    refine r176_391 (fun _ => q) (fun z2 => absurd ?_ z2)
    unfold mFee
    rw [if_neg (by rw [e]; decide), hf]
  · have e : sLate S k = true := by rw [hl, bI_eq0] at z; simpa using z
    refine r176_381 (fun _ => q) (fun z2 => absurd ?_ z2)
    unfold mFee
    rw [if_pos e, hf]
/-- behind what is told of the state -/
theorem s212 (g : Good S A P) (n : NX S A) (hA : A ≤ 100000) (hk : k < 10) (hh : sHere S k = true) (ht : t = S (9 * k + 0)) (hst : st = S (9 * k + 6)) (hwh : wh = S (9 * k + 7)) (hf : f = mFee0 S k) (hl : l = bI (sLate S k)) (K : K15 v S h w i s (k + 1) ml ex) {u : Option pt_V} {mi : Nat → Nat → Nat → Int32} (hv : Cs v mi S) : LE 176 212 (L14 v h w i s k t st wh b f l u) [] (vI 1) mi ml ex := by
  have G := g.GO hA
  have hti := ((g.1.1 k hk).2 hh).2.1
  have h98 := g.2.1.2.2.2
  have n100 : ¬ t < 100 := by rw [ht, Int32.lt_iff_toInt_lt, i100]; omega
  refine LE.of (pc2 := 219) (L2 := L14 v h w i s k t st wh b f l u) (st2 := []) ?_ (fun q => r176_212 (fun c => absurd c n100) (fun _ => q))
  refine LE.call (lk73 hv (j := 5) (by decide)) (fun mi1 f1 => ?_) (fun h q => r176_219 h q)
  have hv1 := hv.fr f1
  have cmp : ¬ (100 : Int32) + sCount S 5 ≤ t := by
    show ¬ (100 : Int32) + S 98 ≤ t
    rw [ht, Int32.le_iff_toInt_le, ad32 (by rw [i100]; omega) (by rw [i100]; omega), i100]
    omega
  have hs := n.st hk hh
  have bound : ¬ st < 0 ∧ ¬ (3 : Int32) ≤ st := by
    rw [hst]
    rcases hs with c | c | c <;> rw [c.1] <;> exact ⟨by decide, by decide⟩
  have go : ∀ {o}, pt_Ev 176 none 243 (L14 v h w i s k t st wh b f l u) [] (pt_MM mi1 ml ex) o → pt_Ev 176 none 228 (L14 v h w i s k t st wh b f l u) [vI (sCount S 5), vI 100, vI t] (pt_MM mi1 ml ex) o := fun q => r176_228 (fun c => absurd c cmp) (fun _ => r176_232 (fun c => absurd c bound.1) (fun _ => r176_237 (fun c => absurd c bound.2) (fun _ => q)))
  refine LE.of (pc2 := 243) (L2 := L14 v h w i s k t st wh b f l u) (st2 := []) ?_ go
  rcases hs with ⟨e6, e7, e8⟩ | ⟨e6, ⟨m, hm, e7⟩, e8⟩ | ⟨e6, ⟨x, hx, e7⟩, e8⟩
  · -- it waits
    have s0 : st = 0 := hst.trans e6
    have w0 : wh = -1 := hwh.trans e7
    subst s0 w0
    have hW : sW S k = true := sW_t.mpr ⟨hh, e6⟩
    obtain ⟨r1, r2⟩ := f_rank G hk hW
    refine LE.of (pc2 := 254) (L2 := L14 v h w i s k t 0 (-1) b f l u) (st2 := []) ?_ (fun q => r176_243 (fun _ => r176_248 (fun _ => q) (fun z => absurd rfl z)) (fun z => absurd rfl z))
    refine LE.call (lk69 hv1 G (p := k) (j := 8) hk (by decide)) (fun mi2 f2 => ?_) (fun h q => r176_254 h q)
    rw [mOf_8 hh, if_pos (show sIn S k 0 = true from hW)]
    refine LE.call (lk75 (hv1.fr f2) G r2) (fun mi3 f3 => ?_) (fun h q => r176_263 h q)
    rw [r1]
    have hv3 := (hv1.fr f2).fr f3
    refine LE.of (pc2 := 322) (L2 := L14 v h w i s k t 0 (-1) b f l u) (st2 := []) ?_ (fun q => r176_266 (fun _ => r176_271 (fun z => absurd z (by decide)) (fun _ => q)) (fun z => absurd rfl z))
    refine LE.call (lk69 hv3 G (p := k) (j := 9) hk (by decide)) (fun mi4 f4 => ?_) (fun h q => r176_322 h q)
    rw [mOf_9 hh, e8]
    exact LE.of (s368 g hA hk hh ht hf hl K (hv3.fr f4)) (fun q => r176_330 (fun _ => r176_334 (fun z => absurd z (by decide)) (fun _ => q)) (fun z => absurd rfl z))
  · -- it is in a machine
    have s1 : st = 1 := hst.trans e6
    have w1 : wh = nI m := hwh.trans e7
    subst s1 w1
    have hno : ¬ sIn S k 0 = true := fun z => absurd ((sIn_t.mp z).2.symm.trans e6) (by decide)
    refine LE.of (pc2 := 274) (L2 := L14 v h w i s k t 1 (nI m) b f l u) (st2 := []) ?_ (fun q => r176_243 (fun z => absurd z (by decide)) (fun _ => q))
    refine LE.call (lk69 hv1 G (p := k) (j := 8) hk (by decide)) (fun mi2 f2 => ?_) (fun h q => r176_274 h q)
    rw [mOf_8 hh, if_neg hno]
    have hv2 := hv1.fr f2
    refine LE.of (pc2 := 322) (L2 := L14 v h w i s k t 1 (nI m) b f l u) (st2 := []) ?_ (fun q => r176_282 (fun _ => r176_286 (fun z => absurd z (by decide)) (fun _ => q)) (fun z => absurd rfl z))
    refine LE.call (lk69 hv2 G (p := k) (j := 9) hk (by decide)) (fun mi3 f3 => ?_) (fun h q => r176_322 h q)
    rw [mOf_9 hh, e8]
    have hv3 := hv2.fr f3
    refine LE.of (pc2 := 351) (L2 := L14 v h w i s k t 1 (nI m) b f l u) (st2 := []) ?_ (fun q => r176_330 (fun _ => r176_334 (fun _ => r176_340 (fun z => absurd z (nI_pos (by omega))) (fun _ => r176_345 (fun z => absurd z (n2_le hm)) (fun _ => q))) (fun z => absurd rfl z)) (fun z => absurd rfl z))
    refine LE.call (lk71 hv3 (p := m) (j := 2) hm (by decide)) (fun mi4 f4 => ?_) (fun h q => r176_351 h q)
    have hv4 := hv3.fr f4
    refine LE.call (lk69 hv4 G (p := k) (j := 1) hk (by decide)) (fun mi5 f5 => ?_) (fun h q => r176_358 h q)
    rw [mOf_t hh (by decide)]
    have hc : sMach S m 2 = S (9 * k + 1) := f_col g.1.2.2.2.1 hk (sAt_t.mpr ⟨hh, e6, e7⟩)
    exact LE.of (s368 g hA hk hh ht hf hl K (hv4.fr f5)) (fun q => r176_365 (fun _ => q) (fun z => absurd hc z))
  · -- it stands on a shelf
    have s2 : st = 2 := hst.trans e6
    have w2 : wh = nI x := hwh.trans e7
    subst s2 w2
    have hno : ¬ sIn S k 0 = true := fun z => absurd ((sIn_t.mp z).2.symm.trans e6) (by decide)
    refine LE.of (pc2 := 274) (L2 := L14 v h w i s k t 2 (nI x) b f l u) (st2 := []) ?_ (fun q => r176_243 (fun z => absurd z (by decide)) (fun _ => q))
    refine LE.call (lk69 hv1 G (p := k) (j := 8) hk (by decide)) (fun mi2 f2 => ?_) (fun h q => r176_274 h q)
    rw [mOf_8 hh, if_neg hno]
    have hv2 := hv1.fr f2
    refine LE.of (pc2 := 292) (L2 := L14 v h w i s k t 2 (nI x) b f l u) (st2 := []) ?_ (fun q => r176_282 (fun _ => r176_286 (fun _ => q) (fun z => absurd rfl z)) (fun z => absurd rfl z))
    have h7 : sIn3 (nI x) 0 7 = true := sIn3_t.mpr ⟨nI_pos (by omega), fun z => absurd (nI_lt (a := x) (b := 8) hx (by decide)) (by
      have h1 : ¬ nI x ≤ nI 7 := fun y => (le_nlt.mp y) z
      exact fun _ => h1 (nI_le (by omega) (by decide)))⟩
    refine LE.call (lk72 hv2 h7) (fun mi3 f3 => ?_) (fun h q => r176_292 h q)
    rw [f_shelf g.1.2.2.1 hk (sAt_t.mpr ⟨hh, e6, e7⟩)]
    have hv3 := hv2.fr f3
    refine LE.of (pc2 := 303) (L2 := L14 v h w i s k t 2 (nI x) b f l u) (st2 := []) ?_ (fun q => r176_298 (fun _ => q) (fun z => absurd rfl z))
    refine LE.call (lk69 hv3 G (p := k) (j := 9) hk (by decide)) (fun mi4 f4 => ?_) (fun h q => r176_303 h q)
    rw [mOf_9 hh]
    have hv4 := hv3.fr f4
    refine LE.call (lk73 hv4 (j := 0) (by decide)) (fun mi5 f5 => ?_) (fun h q => r176_311 h q)
    have hlt : ¬ sCount S 0 < S (9 * k + 8) := by
      show ¬ S 96 < S (9 * k + 8)
      rw [Int32.lt_iff_toInt_lt]
      omega
    exact LE.of (s368 g hA hk hh ht hf hl K (hv4.fr f5)) (fun q => r176_316 (fun z => absurd z hlt) (fun _ => r176_319 (fun z => absurd z (by decide)) (fun _ => q)))
end
