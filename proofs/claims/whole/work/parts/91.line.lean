/-! One line of the script, whatever it asks. -/
theorem nI_p (a b : Nat) : nI a + nI b = nI (a + b) := (Int32.ofNat_add a b).symm
theorem lg_same (x : Int64) : lg_cmp x x = 0 := by
  unfold lg_cmp
  rw [if_neg (Int64.lt_irrefl (a := x)), if_pos rfl]
section
variable {N t : Nat} {f : Nat → Int32} {mi : Nat → Nat → Nat → Int32} {ml : Nat → Nat → Nat → Int64} {ex : Nat} {A P : Int} {O : pt_O} {u5 u6 u7 u8 : Option pt_V}
/-- a line is done and the loop's head comes again -/
def Lp (pc N : Nat) (f : Nat → Int32) (t : Nat) (mi : Nat → Nat → Nat → Int32) (ml : Nat → Nat → Nat → Int64) (ex : Nat) (A P : Int) (u5 u6 u7 u8 : Option pt_V) : Prop := ∃ mi' ml' ex' v5 v6 v7 v8, Sim mi' (A + 100) (P + 5000) ∧ ex' ≤ ex + 1 ∧ ∀ O, pt_Ev 179 (some (N, f)) 23 [some (vX true), some (vR 8 0), some (vR 9 0), some (vR 23 0), some (vI (nI (6 * t) + 6)), v5, v6, v7, v8] [] (pt_MEM mi' ml' ex') O → pt_Ev 179 (some (N, f)) pc [some (vX true), some (vR 8 0), some (vR 9 0), some (vR 23 0), some (vI (nI (6 * t))), u5, u6, u7, u8] [] (pt_MEM mi ml ex) O
theorem q_1 (t : Nat) : nI (6 * t) + 1 = nI (6 * t + 1) := nI_p (6 * t) 1
theorem q_2 (t : Nat) : nI (6 * t) + 2 = nI (6 * t + 2) := nI_p (6 * t) 2
theorem q_3 (t : Nat) : nI (6 * t) + 3 = nI (6 * t + 3) := nI_p (6 * t) 3
theorem q_4 (t : Nat) : nI (6 * t) + 4 = nI (6 * t + 4) := nI_p (6 * t) 4
theorem q_5 (t : Nat) : nI (6 * t) + 5 = nI (6 * t + 5) := nI_p (6 * t) 5
theorem ln0 (hN : N < 2 ^ 31) (ht : 6 * t + 6 ≤ N) (Z : Sim mi A P) (hA : A ≤ 90000) (hP : P ≤ 3000000) : Lp 156 N f t mi ml ex A P u5 u6 u7 u8 := by
  have go : ∀ v : Int32, (v = 0 ∨ v = 1) → ∃ k b mi1 ml1 ex1 mi2, pt_Ca 159 [vR 8 0, vI (f (6 * t + 1)), vI (f (6 * t + 2)), vI (f (6 * t + 3)), vI (f (6 * t + 4)), vI v, vR 23 0] (pt_MEM mi ml ex) (.inl (some (vI k)), pt_MEM mi1 ml1 ex1) ∧ pt_Ca 114 [vR 9 0, vI (f (6 * t + 1)), vI (f (6 * t + 2)), vI (f (6 * t + 3)), vI (f (6 * t + 4)), vI v] (pt_MEM mi1 ml1 ex1) (.inl (some (vI b)), pt_MEM mi2 ml1 ex1) ∧ Sim mi2 (A + 100) (P + 5000) ∧ ex1 ≤ ex + 1 ∧ ∀ O, pt_Ev 179 (some (N, f)) 23 [some (vX true), some (vR 8 0), some (vR 9 0), some (vR 23 0), some (vI (nI (6 * t) + 6)), some (vI k), some (vI b), u7, u8] [] (pt_MEM mi2 ml1 ex1) O → pt_Ev 179 (some (N, f)) 243 [some (vX true), some (vR 8 0), some (vR 9 0), some (vR 23 0), some (vI (nI (6 * t))), some (vI k), u6, u7, u8] [vI b] (pt_MEM mi2 ml1 ex1) O := by
    intro v hv
    obtain ⟨k, b, mi1, ml1, ex1, mi2, s1, s2, s3, s4, s5, s6⟩ := st0 (mi := mi) (ml := ml) (ex := ex) (A := A) (P := P) (x1 := f (6 * t + 1)) (x2 := f (6 * t + 2)) (x3 := f (6 * t + 3)) (x4 := f (6 * t + 4)) Z hA hv
    exact ⟨k, b, mi1, ml1, ex1, mi2, s1, s2, s6, s5, fun O K => r179_243 hN r87_0 (r179_249 hN (fun _ => r179_256 hN (fun z => r179_261 hN (fun _ => r179_273 hN K) (fun z2 => absurd (by rw [s4 z]; exact lg_same _) z2)) (fun _ => r179_273 hN K)) (fun z => absurd s3 z))⟩
  by_cases h5 : f (6 * t + 5) = 0
  · obtain ⟨k, b, mi1, ml1, ex1, mi2, s1, s2, s6, s5, s3⟩ := go 0 (Or.inl rfl)
    exact ⟨mi2, ml1, ex1, some (vI k), some (vI b), u7, u8, s6, s5, fun O K => r179_156 hN (q_1 t) (by omega) (q_2 t) (by omega) (q_3 t) (by omega) (q_4 t) (by omega) (q_5 t) (by omega) (fun _ => r179_194 hN s1 (r179_199 hN (q_1 t) (by omega) (q_2 t) (by omega) (q_3 t) (by omega) (q_4 t) (by omega) (q_5 t) (by omega) (fun _ => r179_239 hN s2 (s3 _ K)) (fun z => absurd h5 z))) (fun z => absurd h5 z)⟩
  · obtain ⟨k, b, mi1, ml1, ex1, mi2, s1, s2, s6, s5, s3⟩ := go 1 (Or.inr rfl)
    exact ⟨mi2, ml1, ex1, some (vI k), some (vI b), u7, u8, s6, s5, fun O K => r179_156 hN (q_1 t) (by omega) (q_2 t) (by omega) (q_3 t) (by omega) (q_4 t) (by omega) (q_5 t) (by omega) (fun z => absurd z h5) (fun _ => r179_190 hN s1 (r179_199 hN (q_1 t) (by omega) (q_2 t) (by omega) (q_3 t) (by omega) (q_4 t) (by omega) (q_5 t) (by omega) (fun z => absurd z h5) (fun _ => r179_235 hN s2 (s3 _ K))))⟩
theorem ln1 (hN : N < 2 ^ 31) (ht : 6 * t + 6 ≤ N) (Z : Sim mi A P) (hA : A ≤ 90000) (hP : P ≤ 3000000) : Lp 276 N f t mi ml ex A P u5 u6 u7 u8 := by
  obtain ⟨k, b, mi1, ml1, ex1, mi2, s1, s2, s3, s4, s5, s6⟩ := st1 (mi := mi) (ml := ml) (ex := ex) (A := A) (P := P)  (t := f (6 * t + 1)) (x := f (6 * t + 2)) Z hP
  exact ⟨mi2, ml1, ex1, some (vI k), some (vI b), u7, u8, s6, s5, fun O K => r179_276 hN (q_1 t) (by omega) (q_2 t) (by omega) s1 (r179_293 hN (q_1 t) (by omega) (q_2 t) (by omega) s2 (r179_311 hN r87_0 (r179_317 hN (fun _ => r179_324 hN (fun z => r179_329 hN (fun _ => r179_341 hN K) (fun z2 => absurd (by rw [s4 z]; exact lg_same _) z2)) (fun _ => r179_341 hN K)) (fun z => absurd s3 z))))⟩
theorem ln2 (hN : N < 2 ^ 31) (ht : 6 * t + 6 ≤ N) (Z : Sim mi A P) (hA : A ≤ 90000) (hP : P ≤ 3000000) : Lp 344 N f t mi ml ex A P u5 u6 u7 u8 := by
  obtain ⟨k, b, mi1, ml1, ex1, mi2, s1, s2, s3, s4, s5, s6⟩ := st2 (mi := mi) (ml := ml) (ex := ex) (A := A) (P := P) (x := f (6 * t + 1))  Z
  exact ⟨mi2, ml1, ex1, some (vI k), some (vI b), u7, u8, s6, s5, fun O K => r179_344 hN (q_1 t) (by omega) s1 (r179_355 hN (q_1 t) (by omega) s2 (r179_367 hN r87_0 (r179_373 hN (fun _ => r179_380 hN (fun z => r179_385 hN (fun _ => r179_397 hN K) (fun z2 => absurd (by rw [s4 z]; exact lg_same _) z2)) (fun _ => r179_397 hN K)) (fun z => absurd s3 z))))⟩
theorem ln3 (hN : N < 2 ^ 31) (ht : 6 * t + 6 ≤ N) (Z : Sim mi A P) (hA : A ≤ 90000) (hP : P ≤ 3000000) : Lp 400 N f t mi ml ex A P u5 u6 u7 u8 := by
  obtain ⟨k, b, mi1, ml1, ex1, mi2, s1, s2, s3, s4, s5, s6⟩ := st3 (mi := mi) (ml := ml) (ex := ex) (A := A) (P := P) (x := f (6 * t + 1))  Z hA
  exact ⟨mi2, ml1, ex1, some (vI k), some (vI b), u7, u8, s6, s5, fun O K => r179_400 hN (q_1 t) (by omega) s1 (r179_411 hN (q_1 t) (by omega) s2 (r179_423 hN r87_0 (r179_429 hN (fun _ => r179_436 hN (fun z => r179_441 hN (fun _ => r179_453 hN K) (fun z2 => absurd (by rw [s4 z]; exact lg_same _) z2)) (fun _ => r179_453 hN K)) (fun z => absurd s3 z))))⟩
theorem ln4 (hN : N < 2 ^ 31) (ht : 6 * t + 6 ≤ N) (Z : Sim mi A P) (hA : A ≤ 90000) (hP : P ≤ 3000000) : Lp 456 N f t mi ml ex A P u5 u6 u7 u8 := by
  obtain ⟨k, b, mi1, ml1, ex1, mi2, s1, s2, s3, s4, s5, s6⟩ := st4 (mi := mi) (ml := ml) (ex := ex) (A := A) (P := P) (x := f (6 * t + 1)) (y := f (6 * t + 2)) Z
  exact ⟨mi2, ml1, ex1, some (vI k), some (vI b), u7, u8, s6, s5, fun O K => r179_456 hN (q_1 t) (by omega) (q_2 t) (by omega) s1 (r179_473 hN (q_1 t) (by omega) (q_2 t) (by omega) s2 (r179_491 hN r87_0 (r179_497 hN (fun _ => r179_504 hN (fun z => r179_509 hN (fun _ => r179_521 hN K) (fun z2 => absurd (by rw [s4 z]; exact lg_same _) z2)) (fun _ => r179_521 hN K)) (fun z => absurd s3 z))))⟩
theorem ln5 (hN : N < 2 ^ 31) (ht : 6 * t + 6 ≤ N) (Z : Sim mi A P) (hA : A ≤ 90000) (hP : P ≤ 3000000) : Lp 524 N f t mi ml ex A P u5 u6 u7 u8 := by
  obtain ⟨k, b, mi1, ml1, ex1, mi2, s1, s2, s3, s4, s5, s6⟩ := st5 (mi := mi) (ml := ml) (ex := ex) (A := A) (P := P) (x := f (6 * t + 1))  Z hP
  exact ⟨mi2, ml1, ex1, some (vI k), some (vI b), u7, u8, s6, s5, fun O K => r179_524 hN (q_1 t) (by omega) s1 (r179_535 hN (q_1 t) (by omega) s2 (r179_547 hN r87_0 (r179_553 hN (fun _ => r179_560 hN (fun z => r179_565 hN (fun _ => r179_577 hN K) (fun z2 => absurd (by rw [s4 z]; exact lg_same _) z2)) (fun _ => r179_577 hN K)) (fun z => absurd s3 z))))⟩
theorem ln6 (hN : N < 2 ^ 31) (ht : 6 * t + 6 ≤ N) (Z : Sim mi A P) (hA : A ≤ 90000) (hP : P ≤ 3000000) : Lp 580 N f t mi ml ex A P u5 u6 u7 u8 := by
  obtain ⟨k, b, mi1, ml1, ex1, mi2, s1, s2, s3, s4, s5, s6⟩ := st6 (mi := mi) (ml := ml) (ex := ex) (A := A) (P := P) (x := f (6 * t + 1)) (y := f (6 * t + 2)) Z
  exact ⟨mi2, ml1, ex1, some (vI k), some (vI b), u7, u8, s6, s5, fun O K => r179_580 hN (q_1 t) (by omega) (q_2 t) (by omega) s1 (r179_597 hN (q_1 t) (by omega) (q_2 t) (by omega) s2 (r179_615 hN r87_0 (r179_621 hN (fun _ => r179_628 hN (fun z => r179_633 hN (fun _ => r179_645 hN K) (fun z2 => absurd (by rw [s4 z]; exact lg_same _) z2)) (fun _ => r179_645 hN K)) (fun z => absurd s3 z))))⟩
theorem ln7 (hN : N < 2 ^ 31) (ht : 6 * t + 6 ≤ N) (Z : Sim mi A P) (hA : A ≤ 90000) (hP : P ≤ 3000000) : Lp 648 N f t mi ml ex A P u5 u6 u7 u8 := by
  obtain ⟨k, b, mi1, ml1, ex1, mi2, s1, s2, s3, s4, s5, s6⟩ := st7 (mi := mi) (ml := ml) (ex := ex) (A := A) (P := P) (x := f (6 * t + 1))  Z
  exact ⟨mi2, ml1, ex1, some (vI k), some (vI b), u7, u8, s6, s5, fun O K => r179_648 hN (q_1 t) (by omega) s1 (r179_659 hN (q_1 t) (by omega) s2 (r179_671 hN r87_0 (r179_677 hN (fun _ => r179_684 hN (fun z => r179_689 hN (fun _ => r179_701 hN K) (fun z2 => absurd (by rw [s4 z]; exact lg_same _) z2)) (fun _ => r179_701 hN K)) (fun z => absurd s3 z))))⟩
theorem ln8 (hN : N < 2 ^ 31) (ht : 6 * t + 6 ≤ N) (Z : Sim mi A P) (hA : A ≤ 90000) (hP : P ≤ 3000000) : Lp 704 N f t mi ml ex A P u5 u6 u7 u8 := by
  obtain ⟨w, mi1, mi2, ml2, s1, s2, s3⟩ := sd8 (mi := mi) (ml := ml) (ex := ex) (A := A) (P := P) Z
  exact ⟨mi2, ml2, ex, u5, u6, u7, u8, s3, by omega, fun O K => r179_704 hN s1 (r179_708 hN s2 (r179_712 hN (fun _ => r179_1470 hN K) (fun z => absurd rfl z)))⟩
theorem ln9 (hN : N < 2 ^ 31) (ht : 6 * t + 6 ≤ N) (Z : Sim mi A P) (hA : A ≤ 90000) (hP : P ≤ 3000000) : Lp 717 N f t mi ml ex A P u5 u6 u7 u8 := by
  obtain ⟨w, mi1, mi2, ml2, s1, s2, s3⟩ := sd9 (mi := mi) (ml := ml) (ex := ex) (A := A) (P := P) Z
  exact ⟨mi2, ml2, ex, u5, u6, u7, u8, s3, by omega, fun O K => r179_717 hN s1 (r179_721 hN s2 (r179_725 hN (fun _ => r179_1470 hN K) (fun z => absurd rfl z)))⟩
theorem ln10 (hN : N < 2 ^ 31) (ht : 6 * t + 6 ≤ N) (Z : Sim mi A P) (hA : A ≤ 90000) (hP : P ≤ 3000000) : Lp 730 N f t mi ml ex A P u5 u6 u7 u8 := by
  obtain ⟨k, b, mi1, ml1, ex1, mi2, s1, s2, s3, s4, s5, s6⟩ := st10 (mi := mi) (ml := ml) (ex := ex) (A := A) (P := P)   Z hA
  exact ⟨mi2, ml1, ex1, some (vI k), some (vI b), u7, u8, s6, s5, fun O K => r179_730 hN  s1 (r179_735 hN  s2 (r179_741 hN r87_0 (r179_747 hN (fun _ => r179_754 hN (fun z => r179_759 hN (fun _ => r179_771 hN K) (fun z2 => absurd (by rw [s4 z]; exact lg_same _) z2)) (fun _ => r179_771 hN K)) (fun z => absurd s3 z))))⟩
theorem ln11 (hN : N < 2 ^ 31) (ht : 6 * t + 6 ≤ N) (Z : Sim mi A P) (hA : A ≤ 90000) (hP : P ≤ 3000000) : Lp 774 N f t mi ml ex A P u5 u6 u7 u8 := by
  obtain ⟨k, b, mi1, ml1, ex1, mi2, s1, s2, s3, s4, s5, s6⟩ := st11 (mi := mi) (ml := ml) (ex := ex) (A := A) (P := P) (x := f (6 * t + 1))  Z
  exact ⟨mi2, ml1, ex1, some (vI k), some (vI b), u7, u8, s6, s5, fun O K => r179_774 hN (q_1 t) (by omega) s1 (r179_785 hN (q_1 t) (by omega) s2 (r179_797 hN r87_0 (r179_803 hN (fun _ => r179_810 hN (fun z => r179_815 hN (fun _ => r179_827 hN K) (fun z2 => absurd (by rw [s4 z]; exact lg_same _) z2)) (fun _ => r179_827 hN K)) (fun z => absurd s3 z))))⟩
theorem ln12 (hN : N < 2 ^ 31) (ht : 6 * t + 6 ≤ N) (Z : Sim mi A P) (hA : A ≤ 90000) (hP : P ≤ 3000000) : Lp 830 N f t mi ml ex A P u5 u6 u7 u8 := by
  obtain ⟨k, b, mi1, ml1, ex1, mi2, s1, s2, s3, s4, s5, s6⟩ := st12 (mi := mi) (ml := ml) (ex := ex) (A := A) (P := P) (x := f (6 * t + 1))  Z
  exact ⟨mi2, ml1, ex1, some (vI k), some (vI b), u7, u8, s6, s5, fun O K => r179_830 hN (q_1 t) (by omega) s1 (r179_841 hN (q_1 t) (by omega) s2 (r179_853 hN r87_0 (r179_859 hN (fun _ => r179_866 hN (fun z => r179_871 hN (fun _ => r179_883 hN K) (fun z2 => absurd (by rw [s4 z]; exact lg_same _) z2)) (fun _ => r179_883 hN K)) (fun z => absurd s3 z))))⟩
theorem ln13 (hN : N < 2 ^ 31) (ht : 6 * t + 6 ≤ N) (Z : Sim mi A P) (hA : A ≤ 90000) (hP : P ≤ 3000000) : Lp 886 N f t mi ml ex A P u5 u6 u7 u8 := by
  obtain ⟨k, b, mi1, ml1, ex1, mi2, s1, s2, s3, s4, s5, s6⟩ := st13 (mi := mi) (ml := ml) (ex := ex) (A := A) (P := P)   Z
  exact ⟨mi2, ml1, ex1, some (vI k), some (vI b), u7, u8, s6, s5, fun O K => r179_886 hN  s1 (r179_891 hN  s2 (r179_897 hN r87_0 (r179_903 hN (fun _ => r179_910 hN (fun z => r179_915 hN (fun _ => r179_927 hN K) (fun z2 => absurd (by rw [s4 z]; exact lg_same _) z2)) (fun _ => r179_927 hN K)) (fun z => absurd s3 z))))⟩
theorem ln14 (hN : N < 2 ^ 31) (ht : 6 * t + 6 ≤ N) (Z : Sim mi A P) (hA : A ≤ 90000) (hP : P ≤ 3000000) : Lp 930 N f t mi ml ex A P u5 u6 u7 u8 := by
  obtain ⟨k, b, mi1, ml1, ex1, mi2, s1, s2, s3, s4, s5, s6⟩ := st14 (mi := mi) (ml := ml) (ex := ex) (A := A) (P := P) (x := f (6 * t + 1)) (y := f (6 * t + 2)) Z hA
  exact ⟨mi2, ml1, ex1, some (vI k), some (vI b), u7, u8, s6, s5, fun O K => r179_930 hN (q_1 t) (by omega) (q_2 t) (by omega) s1 (r179_947 hN (q_1 t) (by omega) (q_2 t) (by omega) s2 (r179_965 hN r87_0 (r179_971 hN (fun _ => r179_978 hN (fun z => r179_983 hN (fun _ => r179_995 hN K) (fun z2 => absurd (by rw [s4 z]; exact lg_same _) z2)) (fun _ => r179_995 hN K)) (fun z => absurd s3 z))))⟩
theorem ln15 (hN : N < 2 ^ 31) (ht : 6 * t + 6 ≤ N) (Z : Sim mi A P) (hA : A ≤ 90000) (hP : P ≤ 3000000) : Lp 998 N f t mi ml ex A P u5 u6 u7 u8 := by
  obtain ⟨k, b, mi1, ml1, ex1, mi2, s1, s2, s3, s4, s5, s6⟩ := st15 (mi := mi) (ml := ml) (ex := ex) (A := A) (P := P) (x := f (6 * t + 1)) (y := f (6 * t + 2)) Z
  exact ⟨mi2, ml1, ex1, some (vI k), some (vI b), u7, u8, s6, s5, fun O K => r179_998 hN (q_1 t) (by omega) (q_2 t) (by omega) s1 (r179_1015 hN (q_1 t) (by omega) (q_2 t) (by omega) s2 (r179_1033 hN r87_0 (r179_1039 hN (fun _ => r179_1046 hN (fun z => r179_1051 hN (fun _ => r179_1063 hN K) (fun z2 => absurd (by rw [s4 z]; exact lg_same _) z2)) (fun _ => r179_1063 hN K)) (fun z => absurd s3 z))))⟩
theorem ln16 (hN : N < 2 ^ 31) (ht : 6 * t + 6 ≤ N) (Z : Sim mi A P) (hA : A ≤ 90000) (hP : P ≤ 3000000) : Lp 1066 N f t mi ml ex A P u5 u6 u7 u8 := by
  obtain ⟨k, b, mi1, ml1, ex1, mi2, s1, s2, s3, s4, s5, s6⟩ := st16 (mi := mi) (ml := ml) (ex := ex) (A := A) (P := P) (x := f (6 * t + 1))  Z
  exact ⟨mi2, ml1, ex1, some (vI k), some (vI b), u7, u8, s6, s5, fun O K => r179_1066 hN (q_1 t) (by omega) s1 (r179_1077 hN (q_1 t) (by omega) s2 (r179_1089 hN r87_0 (r179_1095 hN (fun _ => r179_1102 hN (fun z => r179_1107 hN (fun _ => r179_1119 hN K) (fun z2 => absurd (by rw [s4 z]; exact lg_same _) z2)) (fun _ => r179_1119 hN K)) (fun z => absurd s3 z))))⟩
theorem ln17 (hN : N < 2 ^ 31) (ht : 6 * t + 6 ≤ N) (Z : Sim mi A P) (hA : A ≤ 90000) (hP : P ≤ 3000000) : Lp 1122 N f t mi ml ex A P u5 u6 u7 u8 := by
  obtain ⟨k, b, mi1, ml1, ex1, mi2, s1, s2, s3, s4, s5, s6⟩ := st17 (mi := mi) (ml := ml) (ex := ex) (A := A) (P := P) (x := f (6 * t + 1))  Z
  exact ⟨mi2, ml1, ex1, some (vI k), some (vI b), u7, u8, s6, s5, fun O K => r179_1122 hN (q_1 t) (by omega) s1 (r179_1133 hN (q_1 t) (by omega) s2 (r179_1145 hN r87_0 (r179_1151 hN (fun _ => r179_1158 hN (fun z => r179_1163 hN (fun _ => r179_1175 hN K) (fun z2 => absurd (by rw [s4 z]; exact lg_same _) z2)) (fun _ => r179_1175 hN K)) (fun z => absurd s3 z))))⟩
theorem ln18 (hN : N < 2 ^ 31) (ht : 6 * t + 6 ≤ N) (Z : Sim mi A P) (hA : A ≤ 90000) (hP : P ≤ 3000000) : Lp 1178 N f t mi ml ex A P u5 u6 u7 u8 := by
  obtain ⟨k, b, mi1, ml1, ex1, mi2, s1, s2, s3, s4, s5, s6⟩ := st18 (mi := mi) (ml := ml) (ex := ex) (A := A) (P := P) (x := f (6 * t + 1))  Z
  exact ⟨mi2, ml1, ex1, some (vI k), some (vI b), u7, u8, s6, s5, fun O K => r179_1178 hN (q_1 t) (by omega) s1 (r179_1189 hN (q_1 t) (by omega) s2 (r179_1201 hN r87_0 (r179_1207 hN (fun _ => r179_1214 hN (fun z => r179_1219 hN (fun _ => r179_1231 hN K) (fun z2 => absurd (by rw [s4 z]; exact lg_same _) z2)) (fun _ => r179_1231 hN K)) (fun z => absurd s3 z))))⟩
theorem ln19 (hN : N < 2 ^ 31) (ht : 6 * t + 6 ≤ N) (Z : Sim mi A P) (hA : A ≤ 90000) (hP : P ≤ 3000000) : Lp 1234 N f t mi ml ex A P u5 u6 u7 u8 := by
  obtain ⟨k, b, mi1, ml1, ex1, mi2, s1, s2, s3, s4, s5, s6⟩ := st19 (mi := mi) (ml := ml) (ex := ex) (A := A) (P := P) (x := f (6 * t + 1))  Z hA
  exact ⟨mi2, ml1, ex1, some (vI k), some (vI b), u7, u8, s6, s5, fun O K => r179_1234 hN (q_1 t) (by omega) s1 (r179_1245 hN (q_1 t) (by omega) s2 (r179_1257 hN r87_0 (r179_1263 hN (fun _ => r179_1270 hN (fun z => r179_1275 hN (fun _ => r179_1287 hN K) (fun z2 => absurd (by rw [s4 z]; exact lg_same _) z2)) (fun _ => r179_1287 hN K)) (fun z => absurd s3 z))))⟩
theorem ln20 (hN : N < 2 ^ 31) (ht : 6 * t + 6 ≤ N) (Z : Sim mi A P) (hA : A ≤ 90000) (hP : P ≤ 3000000) : Lp 1290 N f t mi ml ex A P u5 u6 u7 u8 := by
  obtain ⟨k, b, mi1, ml1, ex1, mi2, s1, s2, s3, s4, s5, s6⟩ := st20 (mi := mi) (ml := ml) (ex := ex) (A := A) (P := P) (x := f (6 * t + 1))  Z hA
  exact ⟨mi2, ml1, ex1, some (vI k), some (vI b), u7, u8, s6, s5, fun O K => r179_1290 hN (q_1 t) (by omega) s1 (r179_1301 hN (q_1 t) (by omega) s2 (r179_1313 hN r87_0 (r179_1319 hN (fun _ => r179_1326 hN (fun z => r179_1331 hN (fun _ => r179_1343 hN K) (fun z2 => absurd (by rw [s4 z]; exact lg_same _) z2)) (fun _ => r179_1343 hN K)) (fun z => absurd s3 z))))⟩
theorem ln21 (hN : N < 2 ^ 31) (ht : 6 * t + 6 ≤ N) (Z : Sim mi A P) (hA : A ≤ 90000) (hP : P ≤ 3000000) : Lp 1346 N f t mi ml ex A P u5 u6 u7 u8 := by
  obtain ⟨w, mi1, mi2, ml2, s1, s2, s3⟩ := sd21 (mi := mi) (ml := ml) (ex := ex) (A := A) (P := P) Z
  exact ⟨mi2, ml2, ex, u5, u6, u7, u8, s3, by omega, fun O K => r179_1346 hN s1 (r179_1350 hN s2 (r179_1354 hN (fun _ => r179_1470 hN K) (fun z => absurd rfl z)))⟩
theorem ln22 (hN : N < 2 ^ 31) (ht : 6 * t + 6 ≤ N) (Z : Sim mi A P) (hA : A ≤ 90000) (hP : P ≤ 3000000) : Lp 1359 N f t mi ml ex A P u5 u6 u7 u8 := by
  obtain ⟨k, b, mi1, ml1, ex1, mi2, s1, s2, s3, s4, s5, s6⟩ := st22 (mi := mi) (ml := ml) (ex := ex) (A := A) (P := P) (x := f (6 * t + 1))  Z hA
  exact ⟨mi2, ml1, ex1, some (vI k), some (vI b), u7, u8, s6, s5, fun O K => r179_1359 hN (q_1 t) (by omega) s1 (r179_1370 hN (q_1 t) (by omega) s2 (r179_1382 hN r87_0 (r179_1388 hN (fun _ => r179_1395 hN (fun z => r179_1400 hN (fun _ => r179_1412 hN K) (fun z2 => absurd (by rw [s4 z]; exact lg_same _) z2)) (fun _ => r179_1412 hN K)) (fun z => absurd s3 z))))⟩
theorem ln23 (hN : N < 2 ^ 31) (ht : 6 * t + 6 ≤ N) (Z : Sim mi A P) (hA : A ≤ 90000) (hP : P ≤ 3000000) : Lp 1415 N f t mi ml ex A P u5 u6 u7 u8 := by
  obtain ⟨w, mi2, s0, s1, s2, s3⟩ := sd23 (ml := ml) (ex := ex) Z
  have same : Op.cmpValue (FP.dcmp w w) .l = 0 := by rw [s0]; rfl
  exact ⟨mi2, ml, ex, some (vD w), pt_clr none, some (vD w), none, s3, by omega, fun O K => r179_1415 hN s1 (r179_1419 hN s2 (r179_1425 hN (fun _ => r179_1453 hN K) (fun z => absurd same z)))⟩
theorem ln24 (hN : N < 2 ^ 31) (ht : 6 * t + 6 ≤ N) (Z : Sim mi A P) (hA : A ≤ 90000) (hP : P ≤ 3000000) : Lp 1456 N f t mi ml ex A P u5 u6 u7 u8 := by
  obtain ⟨w, mi1, mi2, ml2, s1, s2, s3⟩ := sd24 (mi := mi) (ml := ml) (ex := ex) (A := A) (P := P) Z hA
  exact ⟨mi2, ml2, ex, u5, u6, u7, u8, s3, by omega, fun O K => r179_1456 hN s1 (r179_1460 hN s2 (r179_1464 hN (fun _ => r179_1470 hN K) (fun z => absurd (lg_same _) z)))⟩
theorem ln_all (hN : N < 2 ^ 31) (ht : 6 * t + 6 ≤ N) (Z : Sim mi A P) (hA : A ≤ 90000) (hP : P ≤ 3000000) : Lp 33 N f t mi ml ex A P u5 u6 u7 u8 := by
  have q0 : nI (6 * t) = nI (6 * t) := rfl
  have p0 : 6 * t < N := by omega
  cases e : sIn3 (f (6 * t) &&& 31) 0 24 with
  | false =>
    have e2 : (f (6 * t) &&& 31).toInt < 0 ∨ 24 < (f (6 * t) &&& 31).toInt := by
      rcases Classical.em ((f (6 * t) &&& 31) < 0) with h | h
      · exact Or.inl (Int32.lt_iff_toInt_lt.mp h)
      · rcases Classical.em ((24 : Int32) < f (6 * t) &&& 31) with h2 | h2
        · exact Or.inr (Int32.lt_iff_toInt_lt.mp h2)
        · rw [sIn3_t.mpr ⟨h, h2⟩] at e
          cases e
    obtain ⟨S, s, H, K2, T, n, X, S2, H2, T2, R, Rm, G, E⟩ := Z
    exact ⟨mi, ml, ex, u5, u6, u7, u8, ⟨S, s, H, K2, T, n, X, S2, H2, T2, R, Rm, G.up, E⟩, by omega, fun O K => r179_33 hN q0 p0 e2 (r179_1470 hN K)⟩
  | true =>
    obtain ⟨j, hj, e2⟩ := sIn3_nI (n := 24) (by decide) (by decide +kernel) e
    match j, hj with
    | 0, _ =>
      obtain ⟨a1, a2, a3, a4, a5, a6, a7, a8, a9, a10⟩ := ln0 (f := f) (ml := ml) (ex := ex) (u5 := u5) (u6 := u6) (u7 := u7) (u8 := u8) hN ht Z hA hP
      exact ⟨a1, a2, a3, a4, a5, a6, a7, a8, a9, fun O K => r179_33_sw0 hN q0 p0 (a10 O K) e2⟩
    | 1, _ =>
      obtain ⟨a1, a2, a3, a4, a5, a6, a7, a8, a9, a10⟩ := ln1 (f := f) (ml := ml) (ex := ex) (u5 := u5) (u6 := u6) (u7 := u7) (u8 := u8) hN ht Z hA hP
      exact ⟨a1, a2, a3, a4, a5, a6, a7, a8, a9, fun O K => r179_33_sw1 hN q0 p0 (a10 O K) e2⟩
    | 2, _ =>
      obtain ⟨a1, a2, a3, a4, a5, a6, a7, a8, a9, a10⟩ := ln2 (f := f) (ml := ml) (ex := ex) (u5 := u5) (u6 := u6) (u7 := u7) (u8 := u8) hN ht Z hA hP
      exact ⟨a1, a2, a3, a4, a5, a6, a7, a8, a9, fun O K => r179_33_sw2 hN q0 p0 (a10 O K) e2⟩
    | 3, _ =>
      obtain ⟨a1, a2, a3, a4, a5, a6, a7, a8, a9, a10⟩ := ln3 (f := f) (ml := ml) (ex := ex) (u5 := u5) (u6 := u6) (u7 := u7) (u8 := u8) hN ht Z hA hP
      exact ⟨a1, a2, a3, a4, a5, a6, a7, a8, a9, fun O K => r179_33_sw3 hN q0 p0 (a10 O K) e2⟩
    | 4, _ =>
      obtain ⟨a1, a2, a3, a4, a5, a6, a7, a8, a9, a10⟩ := ln4 (f := f) (ml := ml) (ex := ex) (u5 := u5) (u6 := u6) (u7 := u7) (u8 := u8) hN ht Z hA hP
      exact ⟨a1, a2, a3, a4, a5, a6, a7, a8, a9, fun O K => r179_33_sw4 hN q0 p0 (a10 O K) e2⟩
    | 5, _ =>
      obtain ⟨a1, a2, a3, a4, a5, a6, a7, a8, a9, a10⟩ := ln5 (f := f) (ml := ml) (ex := ex) (u5 := u5) (u6 := u6) (u7 := u7) (u8 := u8) hN ht Z hA hP
      exact ⟨a1, a2, a3, a4, a5, a6, a7, a8, a9, fun O K => r179_33_sw5 hN q0 p0 (a10 O K) e2⟩
    | 6, _ =>
      obtain ⟨a1, a2, a3, a4, a5, a6, a7, a8, a9, a10⟩ := ln6 (f := f) (ml := ml) (ex := ex) (u5 := u5) (u6 := u6) (u7 := u7) (u8 := u8) hN ht Z hA hP
      exact ⟨a1, a2, a3, a4, a5, a6, a7, a8, a9, fun O K => r179_33_sw6 hN q0 p0 (a10 O K) e2⟩
    | 7, _ =>
      obtain ⟨a1, a2, a3, a4, a5, a6, a7, a8, a9, a10⟩ := ln7 (f := f) (ml := ml) (ex := ex) (u5 := u5) (u6 := u6) (u7 := u7) (u8 := u8) hN ht Z hA hP
      exact ⟨a1, a2, a3, a4, a5, a6, a7, a8, a9, fun O K => r179_33_sw7 hN q0 p0 (a10 O K) e2⟩
    | 8, _ =>
      obtain ⟨a1, a2, a3, a4, a5, a6, a7, a8, a9, a10⟩ := ln8 (f := f) (ml := ml) (ex := ex) (u5 := u5) (u6 := u6) (u7 := u7) (u8 := u8) hN ht Z hA hP
      exact ⟨a1, a2, a3, a4, a5, a6, a7, a8, a9, fun O K => r179_33_sw8 hN q0 p0 (a10 O K) e2⟩
    | 9, _ =>
      obtain ⟨a1, a2, a3, a4, a5, a6, a7, a8, a9, a10⟩ := ln9 (f := f) (ml := ml) (ex := ex) (u5 := u5) (u6 := u6) (u7 := u7) (u8 := u8) hN ht Z hA hP
      exact ⟨a1, a2, a3, a4, a5, a6, a7, a8, a9, fun O K => r179_33_sw9 hN q0 p0 (a10 O K) e2⟩
    | 10, _ =>
      obtain ⟨a1, a2, a3, a4, a5, a6, a7, a8, a9, a10⟩ := ln10 (f := f) (ml := ml) (ex := ex) (u5 := u5) (u6 := u6) (u7 := u7) (u8 := u8) hN ht Z hA hP
      exact ⟨a1, a2, a3, a4, a5, a6, a7, a8, a9, fun O K => r179_33_sw10 hN q0 p0 (a10 O K) e2⟩
    | 11, _ =>
      obtain ⟨a1, a2, a3, a4, a5, a6, a7, a8, a9, a10⟩ := ln11 (f := f) (ml := ml) (ex := ex) (u5 := u5) (u6 := u6) (u7 := u7) (u8 := u8) hN ht Z hA hP
      exact ⟨a1, a2, a3, a4, a5, a6, a7, a8, a9, fun O K => r179_33_sw11 hN q0 p0 (a10 O K) e2⟩
    | 12, _ =>
      obtain ⟨a1, a2, a3, a4, a5, a6, a7, a8, a9, a10⟩ := ln12 (f := f) (ml := ml) (ex := ex) (u5 := u5) (u6 := u6) (u7 := u7) (u8 := u8) hN ht Z hA hP
      exact ⟨a1, a2, a3, a4, a5, a6, a7, a8, a9, fun O K => r179_33_sw12 hN q0 p0 (a10 O K) e2⟩
    | 13, _ =>
      obtain ⟨a1, a2, a3, a4, a5, a6, a7, a8, a9, a10⟩ := ln13 (f := f) (ml := ml) (ex := ex) (u5 := u5) (u6 := u6) (u7 := u7) (u8 := u8) hN ht Z hA hP
      exact ⟨a1, a2, a3, a4, a5, a6, a7, a8, a9, fun O K => r179_33_sw13 hN q0 p0 (a10 O K) e2⟩
    | 14, _ =>
      obtain ⟨a1, a2, a3, a4, a5, a6, a7, a8, a9, a10⟩ := ln14 (f := f) (ml := ml) (ex := ex) (u5 := u5) (u6 := u6) (u7 := u7) (u8 := u8) hN ht Z hA hP
      exact ⟨a1, a2, a3, a4, a5, a6, a7, a8, a9, fun O K => r179_33_sw14 hN q0 p0 (a10 O K) e2⟩
    | 15, _ =>
      obtain ⟨a1, a2, a3, a4, a5, a6, a7, a8, a9, a10⟩ := ln15 (f := f) (ml := ml) (ex := ex) (u5 := u5) (u6 := u6) (u7 := u7) (u8 := u8) hN ht Z hA hP
      exact ⟨a1, a2, a3, a4, a5, a6, a7, a8, a9, fun O K => r179_33_sw15 hN q0 p0 (a10 O K) e2⟩
    | 16, _ =>
      obtain ⟨a1, a2, a3, a4, a5, a6, a7, a8, a9, a10⟩ := ln16 (f := f) (ml := ml) (ex := ex) (u5 := u5) (u6 := u6) (u7 := u7) (u8 := u8) hN ht Z hA hP
      exact ⟨a1, a2, a3, a4, a5, a6, a7, a8, a9, fun O K => r179_33_sw16 hN q0 p0 (a10 O K) e2⟩
    | 17, _ =>
      obtain ⟨a1, a2, a3, a4, a5, a6, a7, a8, a9, a10⟩ := ln17 (f := f) (ml := ml) (ex := ex) (u5 := u5) (u6 := u6) (u7 := u7) (u8 := u8) hN ht Z hA hP
      exact ⟨a1, a2, a3, a4, a5, a6, a7, a8, a9, fun O K => r179_33_sw17 hN q0 p0 (a10 O K) e2⟩
    | 18, _ =>
      obtain ⟨a1, a2, a3, a4, a5, a6, a7, a8, a9, a10⟩ := ln18 (f := f) (ml := ml) (ex := ex) (u5 := u5) (u6 := u6) (u7 := u7) (u8 := u8) hN ht Z hA hP
      exact ⟨a1, a2, a3, a4, a5, a6, a7, a8, a9, fun O K => r179_33_sw18 hN q0 p0 (a10 O K) e2⟩
    | 19, _ =>
      obtain ⟨a1, a2, a3, a4, a5, a6, a7, a8, a9, a10⟩ := ln19 (f := f) (ml := ml) (ex := ex) (u5 := u5) (u6 := u6) (u7 := u7) (u8 := u8) hN ht Z hA hP
      exact ⟨a1, a2, a3, a4, a5, a6, a7, a8, a9, fun O K => r179_33_sw19 hN q0 p0 (a10 O K) e2⟩
    | 20, _ =>
      obtain ⟨a1, a2, a3, a4, a5, a6, a7, a8, a9, a10⟩ := ln20 (f := f) (ml := ml) (ex := ex) (u5 := u5) (u6 := u6) (u7 := u7) (u8 := u8) hN ht Z hA hP
      exact ⟨a1, a2, a3, a4, a5, a6, a7, a8, a9, fun O K => r179_33_sw20 hN q0 p0 (a10 O K) e2⟩
    | 21, _ =>
      obtain ⟨a1, a2, a3, a4, a5, a6, a7, a8, a9, a10⟩ := ln21 (f := f) (ml := ml) (ex := ex) (u5 := u5) (u6 := u6) (u7 := u7) (u8 := u8) hN ht Z hA hP
      exact ⟨a1, a2, a3, a4, a5, a6, a7, a8, a9, fun O K => r179_33_sw21 hN q0 p0 (a10 O K) e2⟩
    | 22, _ =>
      obtain ⟨a1, a2, a3, a4, a5, a6, a7, a8, a9, a10⟩ := ln22 (f := f) (ml := ml) (ex := ex) (u5 := u5) (u6 := u6) (u7 := u7) (u8 := u8) hN ht Z hA hP
      exact ⟨a1, a2, a3, a4, a5, a6, a7, a8, a9, fun O K => r179_33_sw22 hN q0 p0 (a10 O K) e2⟩
    | 23, _ =>
      obtain ⟨a1, a2, a3, a4, a5, a6, a7, a8, a9, a10⟩ := ln23 (f := f) (ml := ml) (ex := ex) (u5 := u5) (u6 := u6) (u7 := u7) (u8 := u8) hN ht Z hA hP
      exact ⟨a1, a2, a3, a4, a5, a6, a7, a8, a9, fun O K => r179_33_sw23 hN q0 p0 (a10 O K) e2⟩
    | 24, _ =>
      obtain ⟨a1, a2, a3, a4, a5, a6, a7, a8, a9, a10⟩ := ln24 (f := f) (ml := ml) (ex := ex) (u5 := u5) (u6 := u6) (u7 := u7) (u8 := u8) hN ht Z hA hP
      exact ⟨a1, a2, a3, a4, a5, a6, a7, a8, a9, fun O K => r179_33_sw24 hN q0 p0 (a10 O K) e2⟩
    | d + 25, hd => exact absurd hd (by omega)
/-- the loop -/
theorem law_loop (hN : N ≤ 3072) : ∀ d t mi ml ex u5 u6 u7 u8, t + d = N / 6 → Sim mi (100 * t) (5000 * t) → ex ≤ t → ∃ mi' ml' ex', ex' ≤ 512 ∧ pt_Ev 179 (some (N, f)) 23 [some (vX true), some (vR 8 0), some (vR 9 0), some (vR 23 0), some (vI (nI (6 * t))), u5, u6, u7, u8] [] (pt_MEM mi ml ex) (.inl (some (vI 1)), pt_MEM mi' ml' ex') := by
  have hN2 : N < 2 ^ 31 := by omega
  have e6 : ((Int32.ofNat N) - 6).toInt = (N : Int) - 6 := by
    have e1 : (Int32.ofNat N).toInt = N := Int32.toInt_ofNat_of_lt (by omega)
    have e2 : (6 : Int32).toInt = 6 := rfl
    rw [Int32.toInt_sub, e1, e2, Int.bmod_def]
    omega
  have e7 : ∀ t, t ≤ 512 → (nI (6 * t)).toInt = 6 * t := fun t ht => by
    have e1 : (nI (6 * t)).toInt = ((6 * t : Nat) : Int) := Int32.toInt_ofNat_of_lt (by omega)
    rw [e1]
    omega
  intro d
  induction d with
  | zero =>
    intro t mi ml ex u5 u6 u7 u8 htd Z hex
    refine ⟨mi, ml, ex, by omega, r179_23 hN2 (fun _ => r179_1476 hN2) (fun c => absurd ?_ c)⟩
    rw [Int32.lt_iff_toInt_lt, e6, e7 t (by omega)]
    omega
  | succ d ih =>
    intro t mi ml ex u5 u6 u7 u8 htd Z hex
    obtain ⟨mi', ml', ex', v5, v6, v7, v8, z1, z2, z3⟩ := ln_all (f := f) (ml := ml) (ex := ex) (u5 := u5) (u6 := u6) (u7 := u7) (u8 := u8) (t := t) hN2 (by omega) Z (by omega) (by omega)
    have e8 : nI (6 * t) + 6 = nI (6 * (t + 1)) := nI_p (6 * t) 6
    rw [e8] at z3
    have z1' : Sim mi' (100 * (t + 1 : Nat)) (5000 * (t + 1 : Nat)) := by
      have c1 : (100 * (t : Int) + 100) = 100 * ((t + 1 : Nat) : Int) := by omega
      have c2 : (5000 * (t : Int) + 5000) = 5000 * ((t + 1 : Nat) : Int) := by omega
      rw [← c1, ← c2]
      exact z1
    obtain ⟨a1, a2, a3, a4, a5⟩ := ih (t + 1) mi' ml' ex' v5 v6 v7 v8 (by omega) z1' (by omega)
    refine ⟨a1, a2, a3, a4, r179_23 hN2 (fun c => absurd c ?_) (fun _ => z3 _ a5)⟩
    rw [Int32.lt_iff_toInt_lt, e6, e7 t (by omega)]
    omega
end
