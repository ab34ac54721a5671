theorem nI_p (a b : Nat) : nI a + nI b = nI (a + b) := (Int32.ofNat_add a b).symm

/-! The law's look areSums: shelves, sums. -/
section
variable {v : Bool} {ml : Nat → Nat → Nat → Int64} {ex : Nat} {S : Nat → Int32} {A P : Int}
theorem x7 {x : Nat} (hx : x < 8) : sIn3 (nI x) 0 7 = true := sIn3_t.mpr ⟨nI_pos (by omega), fun z => by
  have h1 : nI x ≤ nI 7 := nI_le (by omega) (by decide)
  exact (le_nlt.mp h1) z⟩
abbrev M5 (v : Bool) (h w i s : Int32) (u6 u7 u8 u9 u10 u11 u12 u13 : Option pt_V) : pt_L := [some (vR 8 (ob v)), some (vI h), some (vI w), some (vI i), some (vI s), some (vI 1), u6, u7, u8, u9, u10, u11, u12, u13]
theorem s452 {h w i s : Int32} (g : Good S A P) (hA : A ≤ 100000) (E : ∀ mi (u7 u8 u9 u10 u11 u12 u13 : Option pt_V), Cs v mi S → LE 176 516 (M5 v h w i s (some (vI (nI 8))) u7 u8 u9 u10 u11 u12 u13) [] (vI 1) mi ml ex) :
    ∀ d x, x + d = 8 → ∀ mi (u7 u8 u9 u10 u11 u12 u13 : Option pt_V), Cs v mi S → LE 176 452 (M5 v h w i s (some (vI (nI x))) u7 u8 u9 u10 u11 u12 u13) [] (vI 1) mi ml ex := by
  have G := g.GO hA
  intro d
  induction d with
  | zero =>
    intro x hx mi u7 u8 u9 u10 u11 u12 u13 hv
    obtain rfl : x = 8 := by omega
    exact LE.of (E mi u7 u8 u9 u10 u11 u12 u13 hv) (fun q => r176_452 (fun _ => q) (fun c => absurd n8_le' c))
  | succ d ih =>
    intro x hx mi u7 u8 u9 u10 u11 u12 u13 hv
    refine LE.of (pc2 := 459) (L2 := M5 v h w i s (some (vI (nI x))) u7 u8 u9 u10 u11 u12 u13) (st2 := []) ?_ (fun q => r176_452 (fun c => absurd c (n8_le (by omega))) (fun _ => q))
    refine LE.call (lk72 hv (x7 (by omega))) (fun mi1 f1 => ?_) (fun h q => r176_459 h q)
    have hv := hv.fr f1
    cases hs : sShelf S (nI x) with
    | none =>
      exact LE.of (ih (x + 1) (by omega) mi1 (some (vI (oI none))) u8 u9 u10 u11 u12 u13 hv) (fun q => r176_465 (fun z => absurd z (by decide)) (fun _ => r176_472 (fun _ => r176_503 (by rw [← nI_succ]; exact q)) (fun c => absurd rfl c)))
    | some p =>
      have hp := fi_lt hs
      obtain ⟨hh, h6, h7⟩ := sAt_t.mp hp.2
      refine LE.of (pc2 := 478) (L2 := M5 v h w i s (some (vI (nI x))) (some (vI (nI p))) u8 u9 u10 u11 u12 u13) (st2 := []) ?_ (fun q => r176_465 (fun z => absurd z (by decide)) (fun _ => r176_472 (fun c => absurd c (oI_ne (r := some p) rfl (fun q hq => by simp only [Option.some.injEq] at hq; have := hp.1; omega))) (fun _ => q)))
      refine LE.call (lk69 hv G (p := p) (j := 6) hp.1 (by decide)) (fun mi2 f2 => ?_) (fun h q => r176_478 h q)
      rw [mOf_t hh (by decide)]
      have hv := hv.fr f2
      refine LE.of (pc2 := 490) (L2 := M5 v h w i s (some (vI (nI x))) (some (vI (nI p))) u8 u9 u10 u11 u12 u13) (st2 := []) ?_ (fun q => r176_486 (fun _ => q) (fun c => absurd h6 c))
      refine LE.call (lk69 hv G (p := p) (j := 7) hp.1 (by decide)) (fun mi3 f3 => ?_) (fun h q => r176_490 h q)
      rw [mOf_t hh (by decide)]
      exact LE.of (ih (x + 1) (by omega) mi3 (some (vI (nI p))) u8 u9 u10 u11 u12 u13 (hv.fr f3)) (fun q => r176_498 (fun _ => r176_503 (by rw [← nI_succ]; exact q)) (fun c => absurd h7 c))
theorem s516 {u6 u7 u8 u9 u10 u11 u12 u13 : Option pt_V} {mi : Nat → Nat → Nat → Int32} {y : Int32} (hy : u6 = some (vI y)) (g : Good S A P) (n : NX S A) (hA : A ≤ 100000) (hv : Cs v mi S) : LE 176 516 (M5 v (nI (cnt (fun p => sHere S p) 10)) (nI (cX S 0 10)) (nI (cX S 1 10)) (nI (cX S 2 10)) u6 u7 u8 u9 u10 u11 u12 u13) [] (vI 1) mi ml ex := by
  subst hy
  have G := g.GO hA
  have e1 : nI (cnt (fun p => sHere S p) 10) = sCount S 1 := by
    show _ = sMany S 0 + sMany S 1 + sMany S 2
    rw [f_many, f_many, f_many, nI_p, nI_p, st_split n 10 (Nat.le_refl _)]
  refine LE.of (pc2 := 521) (L2 := M5 v (nI (cnt (fun p => sHere S p) 10)) (nI (cX S 0 10)) (nI (cX S 1 10)) (nI (cX S 2 10)) (some (vI y)) u7 u8 u9 u10 u11 u12 u13) (st2 := []) ?_ (fun q => r176_516 (fun c => absurd c (by decide)) (fun _ => q))
  refine LE.call (lk73 hv (j := 1) (by decide)) (fun mi1 f1 => ?_) (fun h q => r176_521 h q)
  have hv := hv.fr f1
  refine LE.of (pc2 := 530) (L2 := M5 v (nI (cnt (fun p => sHere S p) 10)) (nI (cX S 0 10)) (nI (cX S 1 10)) (nI (cX S 2 10)) (some (vI y)) u7 u8 u9 u10 u11 u12 u13) (st2 := []) ?_ (fun q => r176_527 (fun _ => q) (fun c => absurd e1 c))
  refine LE.call (lk73 hv (j := 2) (by decide)) (fun mi2 f2 => ?_) (fun h q => r176_530 h q)
  have hv := hv.fr f2
  refine LE.of (pc2 := 539) (L2 := M5 v (nI (cnt (fun p => sHere S p) 10)) (nI (cX S 0 10)) (nI (cX S 1 10)) (nI (cX S 2 10)) (some (vI y)) u7 u8 u9 u10 u11 u12 u13) (st2 := []) ?_ (fun q => r176_536 (fun _ => q) (fun c => absurd (f_many 0).symm c))
  refine LE.call (lk73 hv (j := 3) (by decide)) (fun mi3 f3 => ?_) (fun h q => r176_539 h q)
  have hv := hv.fr f3
  refine LE.of (pc2 := 548) (L2 := M5 v (nI (cnt (fun p => sHere S p) 10)) (nI (cX S 0 10)) (nI (cX S 1 10)) (nI (cX S 2 10)) (some (vI y)) u7 u8 u9 u10 u11 u12 u13) (st2 := []) ?_ (fun q => r176_545 (fun _ => q) (fun c => absurd (f_many 1).symm c))
  refine LE.call (lk73 hv (j := 4) (by decide)) (fun mi4 f4 => ?_) (fun h q => r176_548 h q)
  have hv := hv.fr f4
  refine LE.of (pc2 := 558) (L2 := M5 v (nI (cnt (fun p => sHere S p) 10)) (nI (cX S 0 10)) (nI (cX S 1 10)) (nI (cX S 2 10)) (some (vI y)) u7 u8 u9 u10 u11 u12 u13) (st2 := []) ?_ (fun q => r176_555 (fun _ => q) (fun c => absurd (f_many 2).symm c))
  refine LE.call (lk73 hv (j := 5) (by decide)) (fun mi5 f5 => ?_) (fun h q => r176_558 h q)
  have hv := hv.fr f5
  refine LE.call (lk73 hv (j := 6) (by decide)) (fun mi6 f6 => ?_) (fun h q => r176_564 h q)
  have hv := hv.fr f6
  have e2 : nI (cnt (fun p => sHere S p) 10) = sCount S 5 - sCount S 6 := (f_house g n).symm
  refine LE.of (pc2 := 574) (L2 := M5 v (nI (cnt (fun p => sHere S p) 10)) (nI (cX S 0 10)) (nI (cX S 1 10)) (nI (cX S 2 10)) (some (vI y)) u7 u8 u9 u10 u11 u12 u13) (st2 := []) ?_ (fun q => r176_570 (fun _ => q) (fun c => absurd e2 c))
  have c10 : cX S 0 10 ≤ 10 := cnt_le _ 10
  refine LE.call (lk75 hv G (x := nI (cX S 0 10)) (nI_pos (by omega))) (fun mi7 f7 => ?_) (fun h q => r176_574 h q)
  rw [show mRanked S (nI (cX S 0 10)) = none from f_none G]
  have hv := hv.fr f7
  refine LE.of (pc2 := 583) (L2 := M5 v (nI (cnt (fun p => sHere S p) 10)) (nI (cX S 0 10)) (nI (cX S 1 10)) (nI (cX S 2 10)) (some (vI y)) u7 u8 u9 u10 u11 u12 u13) (st2 := []) ?_ (fun q => r176_579 (fun _ => q) (fun c => absurd rfl c))
  refine LE.call (lk71 hv (p := 0) (j := 3) (by decide) (by decide)) (fun mi8 f8 => ?_) (fun h q => r176_583 h q)
  have hv := hv.fr f8
  refine LE.call (lk71 hv (p := 1) (j := 3) (by decide) (by decide)) (fun mi9 f9 => ?_) (fun h q => r176_590 h q)
  have hv := hv.fr f9
  have e3 : nI (cX S 1 10) = sMach S 0 3 + sMach S 1 3 := by
    show _ = sPilesIn S (nI 0) + sPilesIn S (nI 1)
    rw [f_pin, f_pin, nI_p, ← in_split n 10 (Nat.le_refl _)]
  refine LE.of (pc2 := 612) (L2 := M5 v (nI (cnt (fun p => sHere S p) 10)) (nI (cX S 0 10)) (nI (cX S 1 10)) (nI (cX S 2 10)) (some (vI y)) u7 u8 u9 u10 u11 u12 u13) (st2 := []) ?_ (fun q => r176_596 (fun _ => r176_600 (fun z => absurd z (by decide)) (fun _ => q)) (fun c => absurd e3 c))
  refine LE.call (lk73 hv (j := 7) (by decide)) (fun m1 f1 => ?_) (fun h q => r176_612 h q)
  have hv := hv.fr f1
  refine LE.call (lk73 hv (j := 6) (by decide)) (fun m2 f2 => ?_) (fun h q => r176_618 h q)
  have hv := hv.fr f2
  have e4 : ¬ sCount S 6 + nI (cX S 2 10) < sCount S 7 := f_late g n hA
  refine LE.of (pc2 := 630) (L2 := M5 v (nI (cnt (fun p => sHere S p) 10)) (nI (cX S 0 10)) (nI (cX S 1 10)) (nI (cX S 2 10)) (some (vI y)) u7 u8 u9 u10 u11 u12 u13) (st2 := []) ?_ (fun q => r176_624 (fun c => absurd c e4) (fun _ => q))
  refine LE.call (lk73 hv (j := 7) (by decide)) (fun m3 f3 => ?_) (fun h q => r176_630 h q)
  have hv := hv.fr f3
  -- the end
  have fin : ∀ mi, Cs v mi S → LE 176 661 (M5 v (nI (cnt (fun p => sHere S p) 10)) (nI (cX S 0 10)) (nI (cX S 1 10)) (nI (cX S 2 10)) (some (vI y)) u7 u8 u9 u10 u11 u12 u13) [] (vI 1) mi ml ex := fun mi hv => by
    refine LE.call (lk79 hv g.2.2) (fun m5 f5 => ?_) (fun h q => r176_661 h q)
    exact LE.ret (r176_665 (fun z => absurd z (d_one g.2.2)) (fun _ => r176_670))
  by_cases c : S 100 ≤ 0
  · refine LE.of (pc2 := 643) (L2 := M5 v (nI (cnt (fun p => sHere S p) 10)) (nI (cX S 0 10)) (nI (cX S 1 10)) (nI (cX S 2 10)) (some (vI y)) u7 u8 u9 u10 u11 u12 u13) (st2 := []) ?_ (fun q => r176_636 (fun _ => q) (fun z => absurd c z))
    refine LE.call (lk79 hv g.2.2) (fun m4 f4 => ?_) (fun h q => r176_643 h q)
    exact LE.of (fin m4 (hv.fr f4)) (fun q => r176_648 (fun _ => r176_657 (fun _ => q) (fun z => absurd rfl z)) (fun z => absurd (d_zero g.2.2 c) z))
  · refine LE.of (pc2 := 639) (L2 := M5 v (nI (cnt (fun p => sHere S p) 10)) (nI (cX S 0 10)) (nI (cX S 1 10)) (nI (cX S 2 10)) (some (vI y)) u7 u8 u9 u10 u11 u12 u13) (st2 := []) ?_ (fun q => r176_636 (fun z => absurd z c) (fun _ => q))
    refine LE.call (lk79 hv g.2.2) (fun m4 f4 => ?_) (fun h q => r176_639 h q)
    exact LE.of (fin m4 (hv.fr f4)) (fun q => r176_648 (fun z => absurd z (d_pos g.2.2 c)) (fun _ => r176_653 (fun _ => q) (fun z => absurd rfl z)))
theorem h176 {mi : Nat → Nat → Nat → Int32} (g : Good S A P) (n : NX S A) (hA : A ≤ 100000) (hv : Cs v mi S) : Lk 176 [vR 8 (ob v)] (vI 1) mi ml ex := by
  refine LE.lk ?_
  have K := s15 (ml := ml) (ex := ex) (v := v) g n hA (fun mi u6 u7 u8 u9 u10 u11 u12 u13 hv => ?_) 10 0 rfl
  · exact LE.of (K mi none none none none none none none hv) (fun q => r176_0 q)
  · exact LE.of (s452 g hA (fun mi u7 u8 u9 u10 u11 u12 u13 hv => s516 rfl g n hA hv) 8 0 rfl mi u7 u8 u9 u10 u11 u12 u13 hv) (fun q => r176_449 q)
end
