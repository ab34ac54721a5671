/-! pileOf in the model; machineOf, shelf, count, setting on both sides. -/
def sMach (S : Nat → Int32) (p j : Nat) : Int32 :=
  match j with
  | 0 => S (90 + 3 * p + 0)
  | 1 => sWeightIn S (nI p)
  | 2 => sColF S (nI p)
  | 3 => sPilesIn S (nI p)
  | 4 => S (90 + 3 * p + 1)
  | _ => S (90 + 3 * p + 2)
/-- the counts 0 to 9 -/
def sCount (S : Nat → Int32) (j : Nat) : Int32 :=
  match j with
  | 0 => S 96
  | 1 => sMany S 0 + sMany S 1 + sMany S 2
  | 2 => sMany S 0
  | 3 => sMany S 1
  | 4 => sMany S 2
  | 5 => S 98
  | 6 => S 99
  | 7 => S 100
  | 8 => S 101
  | _ => S 102
section
variable {mi : Nat → Nat → Nat → Int32} {ml : Nat → Nat → Nat → Int64} {ex p : Nat}
theorem in1 : ∀ p, p < 2 → sIn3 (nI p) 0 1 = true := by decide +kernel
theorem c71a {x y : Int32} (hx : sIn3 x 0 1 = false) : pt_Ca 71 [vR 8 0, vI x, vI y] (pt_MEM mi ml ex) (.inr 3, pt_MEM mi ml (ex + 1)) := by
  refine r71_0 (fun _ => r71_9) (fun c => r71_4 (fun d => ?_) (fun _ => r71_9))
  rw [lt_lit (a := 1) (by decide)] at d
  rw [sIn3_t.mpr ⟨c, d⟩] at hx
  exact absurd hx (by decide)
theorem c71b {x y : Int32} (hx : sIn3 x 0 1 = true) (hy : sIn3 y 0 5 = false) : pt_Ca 71 [vR 8 0, vI x, vI y] (pt_MEM mi ml ex) (.inr 1, pt_MEM mi ml (ex + 1)) := by
  have h := sIn3_t.mp hx
  refine r71_0 (fun c => absurd c h.1) (fun _ => r71_4 (fun _ => r71_19 (fun _ => r71_28) (fun c => r71_23 (fun d => ?_) (fun _ => r71_28))) (fun d => absurd ((lt_lit (a := 1) (by decide)).mpr h.2) d))
  have d' : ¬ (5 : Int32) < y := fun z => (lt_nle.mp z) d
  rw [sIn3_t.mpr ⟨c, d'⟩] at hy
  exact absurd hy (by decide)
theorem c71 {j : Nat} (hp : p < 2) (hj : j < 6) : pt_Ca 71 [vR 8 0, vI (nI p), vI (nI j)] (pt_MEM mi ml ex) (.inl (some (vI (sMach (cs mi 0) p j))), pt_MEM mi ml ex) := by
  have h := sIn3_t.mp (in1 p hp)
  have hj5 : ∀ j, j < 6 → ¬ nI j < 0 ∧ nI j ≤ 5 := by decide +kernel
  refine r71_0 (fun c => absurd c h.1) (fun _ => r71_4 (fun _ => r71_19 (fun c => absurd c (hj5 j hj).1) (fun _ => r71_23 (fun _ => ?_) (fun c => absurd (hj5 j hj).2 c))) (fun d => absurd ((lt_lit (a := 1) (by decide)).mpr h.2) d))
  match j, hj with
  | 0, _ =>
    refine r71_38_sw0 ?_ (by decide)
    show pt_Ev 71 none 72 _ _ _ (.inl (some (vI (cs mi 0 (90 + 3 * p + 0)))), _)
    rw [← cs_m mi 0 hp (by decide)]
    exact r71_72 rfl rfl hp (pt_MR_m (by decide) hp)
  | 1, _ => exact r71_38_sw1 (r71_85 (c16 (by decide)) r71_93) (by decide)
  | 2, _ => exact r71_38_sw2 (r71_94 (c17 (by decide)) r71_102) (by decide)
  | 3, _ => exact r71_38_sw3 (r71_103 (c15 (by decide)) r71_111) (by decide)
  | 4, _ =>
    refine r71_38_sw4 ?_ (by decide)
    show pt_Ev 71 none 112 _ _ _ (.inl (some (vI (cs mi 0 (90 + 3 * p + 1)))), _)
    rw [← cs_m mi 0 hp (by decide)]
    exact r71_112 rfl rfl hp (pt_MR_m (by decide) hp)
  | 5, _ =>
    refine r71_38 (Or.inr (by decide)) ?_
    show pt_Ev 71 none 125 _ _ _ (.inl (some (vI (cs mi 0 (90 + 3 * p + 2)))), _)
    rw [← cs_m mi 0 hp (by decide)]
    exact r71_125 rfl rfl hp (pt_MR_m (by decide) hp)
theorem c72a {x : Int32} (hx : sIn3 x 0 7 = false) : pt_Ca 72 [vR 8 0, vI x] (pt_MEM mi ml ex) (.inr 3, pt_MEM mi ml (ex + 1)) := by
  refine r72_0 (fun _ => r72_10) (fun c => r72_4 (fun d => ?_) (fun _ => r72_10))
  rw [lt_lit (a := 7) (by decide)] at d
  rw [sIn3_t.mpr ⟨c, d⟩] at hx
  exact absurd hx (by decide)
theorem c72 {x : Int32} (hx : sIn3 x 0 7 = true) : pt_Ca 72 [vR 8 0, vI x] (pt_MEM mi ml ex) (.inl (some (vI (oI (sShelf (cs mi 0) x)))), pt_MEM mi ml ex) := by
  have h := sIn3_t.mp hx
  exact r72_0 (fun c => absurd c h.1) (fun _ => r72_4 (fun _ => r72_20 (c12 (by decide)) r72_28) (fun d => absurd ((lt_lit (a := 7) (by decide)).mpr h.2) d))
end
