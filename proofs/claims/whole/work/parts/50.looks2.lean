/-! pileOf in the model; machineOf, shelf, count, setting on both sides. -/
def sMach (S : Nat → Int32) (p j : Nat) : Int32 :=
  match j with
  | 0 => S (90 + 3 * p + 0)
  | 1 => sWeightIn S (nI p)
  | 2 => sColF S (nI p)
  | 3 => sPilesIn S (nI p)
  | 4 => S (90 + 3 * p + 1)
  | _ => S (90 + 3 * p + 2)
/-- the counts 0 to 9 -/
def sCount (S : Nat → Int32) (j : Nat) : Int32 :=
  match j with
  | 0 => S 96
  | 1 => sMany S 0 + sMany S 1 + sMany S 2
  | 2 => sMany S 0
  | 3 => sMany S 1
  | 4 => sMany S 2
  | 5 => S 98
  | 6 => S 99
  | 7 => S 100
  | 8 => S 101
  | _ => S 102
section
variable {mi : Nat → Nat → Nat → Int32} {ml : Nat → Nat → Nat → Int64} {ex p : Nat}
theorem m134a {x y : Int32} (hx : sIn3 x 0 9 = false) : pt_Ca 134 [vR 9 0, vI x, vI y] (pt_MEM mi ml ex) (.inl (some (vI 0)), pt_MEM (th mi 1) ml ex) :=
  r134_0 m88 (r134_8 (fun _ => r134_11 (m89f (by decide)) (r134_33 (fun _ => r134_45) (fun c => absurd rfl c))) (fun c => absurd (by rw [hx]; rfl) c))
theorem m134b {x y : Int32} (hx : sIn3 x 0 9 = true) (hy : sIn3 y 0 10 = false) : pt_Ca 134 [vR 9 0, vI x, vI y] (pt_MEM mi ml ex) (.inl (some (vI 0)), pt_MEM (th mi 2) ml ex) :=
  r134_0 m88 (r134_8 (fun c => absurd c (by rw [hx]; decide)) (fun _ => r134_15 m88 (r134_22 (fun _ => r134_29 (m89f (by decide)) (r134_33 (fun _ => r134_45) (fun c => absurd rfl c))) (fun c => absurd (by rw [hy]; rfl) c))))
theorem m134 {j : Nat} (hp : p < 10) (hj : j < 11) : pt_Ca 134 [vR 9 0, vI (nI p), vI (nI j)] (pt_MEM mi ml ex) (.inl (some (vI (mOf (ms mi) p j))), pt_MEM (th mi 0) ml ex) := by
  have hj10 : ∀ j, j < 11 → sIn3 (nI j) 0 10 = true := by decide +kernel
  have call := m133 (mi := th mi 0) (ml := ml) (ex := ex) hp hj
  rw [ms_th] at call
  exact r134_0 m88 (r134_8 (fun c => absurd c (by rw [in9 hp]; decide)) (fun _ => r134_15 m88 (r134_22 (fun c => absurd c (by rw [hj10 j hj]; decide)) (fun _ => r134_25 m89t (r134_33 (fun c => absurd c (by decide)) (fun _ => r134_36 call r134_42))))))
theorem m135 {j : Nat} (hp : p < 2) (hj : j < 6) (hcol : sColF (ms mi) (nI p) = mCol (ms mi) (nI p)) : pt_Ca 135 [vR 9 0, vI (nI p), vI (nI j)] (pt_MEM mi ml ex) (.inl (some (vI (sMach (ms mi) p j))), pt_MEM mi ml ex) := by
  match j, hj with
  | 0, _ =>
    refine r135_0_sw0 (r135_36 (m91 (j := 0) hp (by decide) (by decide)) ?_) (by decide)
    show pt_Ev 135 none 45 _ _ _ (.inl (some (vI (ms mi (90 + 3 * p + 0)))), _)
    rw [← ms_e mi (k := 90 + 3 * p + 0) (by omega)]
    exact r135_45 rfl (by omega)
  | 1, _ => exact r135_0_sw1 (r135_47 m101 r135_52) (by decide)
  | 2, _ =>
    refine r135_0_sw2 (r135_53 m103 ?_) (by decide)
    show pt_Ev 135 none 58 _ _ _ (.inl (some (vI (sColF (ms mi) (nI p)))), _)
    rw [hcol]
    exact r135_58
  | 3, _ => exact r135_0_sw3 (r135_59 m102 r135_64) (by decide)
  | 4, _ =>
    refine r135_0_sw4 (r135_65 (m91 (j := 1) hp (by decide) (by decide)) ?_) (by decide)
    show pt_Ev 135 none 74 _ _ _ (.inl (some (vI (ms mi (90 + 3 * p + 1)))), _)
    rw [← ms_e mi (k := 90 + 3 * p + 1) (by omega)]
    exact r135_74 rfl (by omega)
  | 5, _ =>
    refine r135_0 (Or.inr (by decide)) (r135_76 (m91 (j := 2) hp (by decide) (by decide)) ?_)
    show pt_Ev 135 none 85 _ _ _ (.inl (some (vI (ms mi (90 + 3 * p + 2)))), _)
    rw [← ms_e mi (k := 90 + 3 * p + 2) (by omega)]
    exact r135_85 rfl (by omega)
theorem m136a {x y : Int32} (hx : sIn3 x 0 1 = false) : pt_Ca 136 [vR 9 0, vI x, vI y] (pt_MEM mi ml ex) (.inl (some (vI 0)), pt_MEM (th mi 1) ml ex) :=
  r136_0 m92 (r136_5 (fun _ => r136_8 (m89f (by decide)) (r136_29 (fun _ => r136_41) (fun c => absurd rfl c))) (fun c => absurd (by rw [hx]; rfl) c))
theorem m136b {x y : Int32} (hx : sIn3 x 0 1 = true) (hy : sIn3 y 0 5 = false) : pt_Ca 136 [vR 9 0, vI x, vI y] (pt_MEM mi ml ex) (.inl (some (vI 0)), pt_MEM (th mi 2) ml ex) :=
  r136_0 m92 (r136_5 (fun c => absurd c (by rw [hx]; decide)) (fun _ => r136_12 m88 (r136_18 (fun _ => r136_25 (m89f (by decide)) (r136_29 (fun _ => r136_41) (fun c => absurd rfl c))) (fun c => absurd (by rw [hy]; rfl) c))))
theorem in1 : ∀ p, p < 2 → sIn3 (nI p) 0 1 = true := by decide +kernel
theorem m136 {j : Nat} (hp : p < 2) (hj : j < 6) (hcol : sColF (ms mi) (nI p) = mCol (ms mi) (nI p)) : pt_Ca 136 [vR 9 0, vI (nI p), vI (nI j)] (pt_MEM mi ml ex) (.inl (some (vI (sMach (ms mi) p j))), pt_MEM (th mi 0) ml ex) := by
  have hj5 : ∀ j, j < 6 → sIn3 (nI j) 0 5 = true := by decide +kernel
  have call := m135 (mi := th mi 0) (ml := ml) (ex := ex) hp hj (by rw [ms_th]; exact hcol)
  rw [ms_th] at call
  exact r136_0 m92 (r136_5 (fun c => absurd c (by rw [in1 p hp]; decide)) (fun _ => r136_12 m88 (r136_18 (fun c => absurd c (by rw [hj5 j hj]; decide)) (fun _ => r136_21 m89t (r136_29 (fun c => absurd c (by decide)) (fun _ => r136_32 call r136_38))))))
theorem c71a {x y : Int32} (hx : sIn3 x 0 1 = false) : pt_Ca 71 [vR 8 0, vI x, vI y] (pt_MEM mi ml ex) (.inr 3, pt_MEM mi ml (ex + 1)) := by
  refine r71_0 (fun _ => r71_9) (fun c => r71_4 (fun d => ?_) (fun _ => r71_9))
  rw [lt_lit (a := 1) (by decide)] at d
  rw [sIn3_t.mpr ⟨c, d⟩] at hx
  exact absurd hx (by decide)
theorem c71b {x y : Int32} (hx : sIn3 x 0 1 = true) (hy : sIn3 y 0 5 = false) : pt_Ca 71 [vR 8 0, vI x, vI y] (pt_MEM mi ml ex) (.inr 1, pt_MEM mi ml (ex + 1)) := by
  have h := sIn3_t.mp hx
  refine r71_0 (fun c => absurd c h.1) (fun _ => r71_4 (fun _ => r71_19 (fun _ => r71_28) (fun c => r71_23 (fun d => ?_) (fun _ => r71_28))) (fun d => absurd ((lt_lit (a := 1) (by decide)).mpr h.2) d))
  have d' : ¬ (5 : Int32) < y := fun z => (lt_nle.mp z) d
  rw [sIn3_t.mpr ⟨c, d'⟩] at hy
  exact absurd hy (by decide)
theorem c71 {j : Nat} (hp : p < 2) (hj : j < 6) : pt_Ca 71 [vR 8 0, vI (nI p), vI (nI j)] (pt_MEM mi ml ex) (.inl (some (vI (sMach (cs mi 0) p j))), pt_MEM mi ml ex) := by
  have h := sIn3_t.mp (in1 p hp)
  have hj5 : ∀ j, j < 6 → ¬ nI j < 0 ∧ nI j ≤ 5 := by decide +kernel
  refine r71_0 (fun c => absurd c h.1) (fun _ => r71_4 (fun _ => r71_19 (fun c => absurd c (hj5 j hj).1) (fun _ => r71_23 (fun _ => ?_) (fun c => absurd (hj5 j hj).2 c))) (fun d => absurd ((lt_lit (a := 1) (by decide)).mpr h.2) d))
  match j, hj with
  | 0, _ =>
    refine r71_38_sw0 ?_ (by decide)
    show pt_Ev 71 none 72 _ _ _ (.inl (some (vI (cs mi 0 (90 + 3 * p + 0)))), _)
    rw [← cs_m mi 0 hp (by decide)]
    exact r71_72 rfl rfl hp (pt_MR_m (by decide) hp)
  | 1, _ => exact r71_38_sw1 (r71_85 (c16 (by decide)) r71_93) (by decide)
  | 2, _ => exact r71_38_sw2 (r71_94 (c17 (by decide)) r71_102) (by decide)
  | 3, _ => exact r71_38_sw3 (r71_103 (c15 (by decide)) r71_111) (by decide)
  | 4, _ =>
    refine r71_38_sw4 ?_ (by decide)
    show pt_Ev 71 none 112 _ _ _ (.inl (some (vI (cs mi 0 (90 + 3 * p + 1)))), _)
    rw [← cs_m mi 0 hp (by decide)]
    exact r71_112 rfl rfl hp (pt_MR_m (by decide) hp)
  | 5, _ =>
    refine r71_38 (Or.inr (by decide)) ?_
    show pt_Ev 71 none 125 _ _ _ (.inl (some (vI (cs mi 0 (90 + 3 * p + 2)))), _)
    rw [← cs_m mi 0 hp (by decide)]
    exact r71_125 rfl rfl hp (pt_MR_m (by decide) hp)
theorem m138 {x : Int32} : pt_Ca 138 [vR 9 0, vI x] (pt_MEM mi ml ex) (.inl (some (vI (sMany (ms mi) x))), pt_MEM mi ml ex) := by
  refine r138_0 (fo_up (E := fun p a => pt_Ev 138 none 4 [some (vR 9 0), some (vI x), some (vI a), some (vI (nI p))] [] (pt_MEM mi ml ex) (.inl (some (vI (sMany (ms mi) x))), pt_MEM mi ml ex)) (f := fun p a => if sIn (ms mi) p x then a + 1 else a) (n := 10) (a := 0) ?_ ?_)
  · intro p a hp k
    rw [nI_succ] at k
    have e6 := ms_e mi (k := 9 * p + 6) (by omega)
    refine r138_4 (fun c => absurd c (n10_le hp)) (fun _ => r138_10 (m93 hp) (r138_16 (fun c => ?_) (fun c => ?_)))
    · rw [bI_eq0] at c
      rw [if_neg (by simp only [sIn, c, Bool.false_and]; decide)] at k
      exact r138_38 (by rw [Int32.add_zero]; exact k)
    · rw [bI_eq0, Bool.not_eq_false] at c
      refine r138_19 (m90 (j := 6) hp (by decide) (by decide)) (r138_29 rfl (by omega) (fun d => ?_) (fun d => ?_))
      · rw [e6] at d
        rw [if_pos (by simp only [sIn, c, d]; decide)] at k
        exact r138_34 k
      · rw [e6] at d
        rw [if_neg (by simp only [sIn, c, d]; decide)] at k
        exact r138_38 (by rw [Int32.add_zero]; exact k)
  · exact r138_4 (fun _ => r138_47) (fun c => absurd n10_le' c)
theorem c72a {x : Int32} (hx : sIn3 x 0 7 = false) : pt_Ca 72 [vR 8 0, vI x] (pt_MEM mi ml ex) (.inr 3, pt_MEM mi ml (ex + 1)) := by
  refine r72_0 (fun _ => r72_10) (fun c => r72_4 (fun d => ?_) (fun _ => r72_10))
  rw [lt_lit (a := 7) (by decide)] at d
  rw [sIn3_t.mpr ⟨c, d⟩] at hx
  exact absurd hx (by decide)
theorem c72 {x : Int32} (hx : sIn3 x 0 7 = true) : pt_Ca 72 [vR 8 0, vI x] (pt_MEM mi ml ex) (.inl (some (vI (oI (sShelf (cs mi 0) x)))), pt_MEM mi ml ex) := by
  have h := sIn3_t.mp hx
  exact r72_0 (fun c => absurd c h.1) (fun _ => r72_4 (fun _ => r72_20 (c12 (by decide)) r72_28) (fun d => absurd ((lt_lit (a := 7) (by decide)).mpr h.2) d))
theorem m137a {x : Int32} (hx : sIn3 x 0 7 = false) : pt_Ca 137 [vR 9 0, vI x] (pt_MEM mi ml ex) (.inl (some (vI 0)), pt_MEM (th mi 1) ml ex) :=
  r137_0 m88 (r137_8 (fun _ => r137_15 (m89f (by decide)) (r137_19 (fun _ => r137_30) (fun c => absurd rfl c))) (fun c => absurd (by rw [hx]; rfl) c))
theorem m137 {x : Int32} (hx : sIn3 x 0 7 = true) : pt_Ca 137 [vR 9 0, vI x] (pt_MEM mi ml ex) (.inl (some (vI (oI (mShelf (ms mi) x)))), pt_MEM (th mi 0) ml ex) := by
  have call := m107 (mi := th mi 0) (ml := ml) (ex := ex) (x := x)
  rw [ms_th] at call
  exact r137_0 m88 (r137_8 (fun c => absurd c (by rw [hx]; decide)) (fun _ => r137_11 m89t (r137_19 (fun c => absurd c (by decide)) (fun _ => r137_22 call r137_27))))
end
