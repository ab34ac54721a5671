/-! count and setting on both sides. -/
section
variable {mi : Nat → Nat → Nat → Int32} {ml : Nat → Nat → Nat → Int64} {ex p : Nat}
theorem c73a {x : Int32} (hx : sIn3 x 0 10 = false) : pt_Ca 73 [vR 8 0, vI x] (pt_MEM mi ml ex) (.inr 1, pt_MEM mi ml (ex + 1)) := by
  refine r73_0 (fun _ => r73_10) (fun c => r73_4 (fun d => ?_) (fun _ => r73_10))
  have d' : ¬ (10 : Int32) < x := fun z => (lt_nle.mp z) d
  rw [sIn3_t.mpr ⟨c, d'⟩] at hx
  exact absurd hx (by decide)
theorem c73s {j : Nat} {o : pt_O} (hj : j < 11) (k : pt_Ev 73 none 20 [some (vR 8 0), some (vI (nI j))] [] (pt_MEM mi ml ex) o) : pt_Ca 73 [vR 8 0, vI (nI j)] (pt_MEM mi ml ex) o := by
  have hj10 : ∀ j, j < 11 → ¬ nI j < 0 ∧ nI j ≤ 10 := by decide +kernel
  exact r73_0 (fun c => absurd c (hj10 j hj).1) (fun _ => r73_4 (fun _ => k) (fun c => absurd (hj10 j hj).2 c))
theorem c73 {j : Nat} (hj : j < 10) : pt_Ca 73 [vR 8 0, vI (nI j)] (pt_MEM mi ml ex) (.inl (some (vI (sCount (cs mi 0) j))), pt_MEM mi ml ex) := by
  refine c73s (by omega) ?_
  match j, hj with
  | 0, _ => exact r73_20_sw0 r73_76 (by decide)
  | 1, _ => exact r73_20_sw1 (r73_84 (c14 (by decide)) (r73_92 (c14 (by decide)) (r73_100 (c14 (by decide)) r73_109))) (by decide)
  | 2, _ => exact r73_20_sw2 (r73_111 (c14 (by decide)) r73_119) (by decide)
  | 3, _ => exact r73_20_sw3 (r73_120 (c14 (by decide)) r73_128) (by decide)
  | 4, _ => exact r73_20_sw4 (r73_129 (c14 (by decide)) r73_137) (by decide)
  | 5, _ => exact r73_20_sw5 r73_138 (by decide)
  | 6, _ => exact r73_20_sw6 r73_146 (by decide)
  | 7, _ => exact r73_20_sw7 r73_154 (by decide)
  | 8, _ => exact r73_20_sw8 r73_162 (by decide)
  | 9, _ => exact r73_20_sw9 r73_170 (by decide)
theorem c73h : pt_Ca 73 [vR 8 0, vI (nI 10)] (pt_MEM mi ml ex) (.inl (some (vI (mi 1 0 2))), pt_MEM mi ml ex) := c73s (by decide) (r73_20 (Or.inr (by decide)) r73_178)
theorem in10 : ∀ j, j < 11 → sIn3 (nI j) 0 10 = true := by decide +kernel
theorem c74a {x : Int32} (hx : sIn3 x 0 1 = false) : pt_Ca 74 [vR 8 0, vI x] (pt_MEM mi ml ex) (.inr 3, pt_MEM mi ml (ex + 1)) := by
  refine r74_0 (fun _ => r74_9) (fun c => r74_4 (fun d => ?_) (fun _ => r74_9))
  rw [lt_lit (a := 1) (by decide)] at d
  rw [sIn3_t.mpr ⟨c, d⟩] at hx
  exact absurd hx (by decide)
theorem cs_set (mi : Nat → Nat → Nat → Int32) (h : Nat) : ∀ {p : Nat}, p < 2 → mi 10 h p = cs mi h (104 + p)
  | 0, _ => rfl
  | 1, _ => rfl
theorem c74 (hp : p < 2) : pt_Ca 74 [vR 8 0, vI (nI p)] (pt_MEM mi ml ex) (.inl (some (vI (cs mi 0 (104 + p)))), pt_MEM mi ml ex) := by
  have h := sIn3_t.mp (in1 p hp)
  rw [← cs_set mi 0 hp]
  exact r74_0 (fun c => absurd c h.1) (fun _ => r74_4 (fun _ => r74_19 rfl rfl hp) (fun d => absurd ((lt_lit (a := 1) (by decide)).mpr h.2) d))
end
