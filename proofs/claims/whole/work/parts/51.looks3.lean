/-! count and setting on both sides. -/
section
variable {mi : Nat → Nat → Nat → Int32} {ml : Nat → Nat → Nat → Int64} {ex p : Nat}
theorem c73a {x : Int32} (hx : sIn3 x 0 10 = false) : pt_Ca 73 [vR 8 0, vI x] (pt_MEM mi ml ex) (.inr 1, pt_MEM mi ml (ex + 1)) := by
  refine r73_0 (fun _ => r73_10) (fun c => r73_4 (fun d => ?_) (fun _ => r73_10))
  have d' : ¬ (10 : Int32) < x := fun z => (lt_nle.mp z) d
  rw [sIn3_t.mpr ⟨c, d'⟩] at hx
  exact absurd hx (by decide)
theorem c73s {j : Nat} {o : pt_O} (hj : j < 11) (k : pt_Ev 73 none 20 [some (vR 8 0), some (vI (nI j))] [] (pt_MEM mi ml ex) o) : pt_Ca 73 [vR 8 0, vI (nI j)] (pt_MEM mi ml ex) o := by
  have hj10 : ∀ j, j < 11 → ¬ nI j < 0 ∧ nI j ≤ 10 := by decide +kernel
  exact r73_0 (fun c => absurd c (hj10 j hj).1) (fun _ => r73_4 (fun _ => k) (fun c => absurd (hj10 j hj).2 c))
theorem c73 {j : Nat} (hj : j < 10) : pt_Ca 73 [vR 8 0, vI (nI j)] (pt_MEM mi ml ex) (.inl (some (vI (sCount (cs mi 0) j))), pt_MEM mi ml ex) := by
  refine c73s (by omega) ?_
  match j, hj with
  | 0, _ => exact r73_20_sw0 r73_76 (by decide)
  | 1, _ => exact r73_20_sw1 (r73_84 (c14 (by decide)) (r73_92 (c14 (by decide)) (r73_100 (c14 (by decide)) r73_109))) (by decide)
  | 2, _ => exact r73_20_sw2 (r73_111 (c14 (by decide)) r73_119) (by decide)
  | 3, _ => exact r73_20_sw3 (r73_120 (c14 (by decide)) r73_128) (by decide)
  | 4, _ => exact r73_20_sw4 (r73_129 (c14 (by decide)) r73_137) (by decide)
  | 5, _ => exact r73_20_sw5 r73_138 (by decide)
  | 6, _ => exact r73_20_sw6 r73_146 (by decide)
  | 7, _ => exact r73_20_sw7 r73_154 (by decide)
  | 8, _ => exact r73_20_sw8 r73_162 (by decide)
  | 9, _ => exact r73_20_sw9 r73_170 (by decide)
theorem c73h : pt_Ca 73 [vR 8 0, vI (nI 10)] (pt_MEM mi ml ex) (.inl (some (vI (mi 1 0 2))), pt_MEM mi ml ex) := c73s (by decide) (r73_20 (Or.inr (by decide)) r73_178)
theorem m139 {j : Nat} (hj : j < 10) : pt_Ca 139 [vR 9 0, vI (nI j)] (pt_MEM mi ml ex) (.inl (some (vI (sCount (ms mi) j))), pt_MEM mi ml ex) := by
  match j, hj with
  | 0, _ =>
    refine r139_0_sw0 ?_ (by decide)
    show pt_Ev 139 none 56 _ _ _ (.inl (some (vI (ms mi 96))), _)
    rw [← ms_e mi (k := 96) (by omega)]
    exact r139_56
  | 1, _ => exact r139_0_sw1 (r139_64 m138 (r139_69 m138 (r139_74 m138 r139_80))) (by decide)
  | 2, _ =>
    have call := m138 (mi := mi) (ml := ml) (ex := ex) (x := 0)
    exact r139_0_sw2 (r139_82 (by rw [show nI 2 - 2 = 0 from by decide +kernel]; exact call) r139_89) (by decide)
  | 3, _ =>
    have call := m138 (mi := mi) (ml := ml) (ex := ex) (x := 1)
    exact r139_0_sw3 (r139_82 (by rw [show nI 3 - 2 = 1 from by decide +kernel]; exact call) r139_89) (by decide)
  | 4, _ =>
    have call := m138 (mi := mi) (ml := ml) (ex := ex) (x := 2)
    exact r139_0_sw4 (r139_82 (by rw [show nI 4 - 2 = 2 from by decide +kernel]; exact call) r139_89) (by decide)
  | 5, _ =>
    refine r139_0_sw5 ?_ (by decide)
    show pt_Ev 139 none 90 _ _ _ (.inl (some (vI (ms mi 98))), _)
    rw [← ms_e mi (k := 98) (by omega)]
    exact r139_90 (by decide +kernel) (by omega)
  | 6, _ =>
    refine r139_0_sw6 ?_ (by decide)
    show pt_Ev 139 none 90 _ _ _ (.inl (some (vI (ms mi 99))), _)
    rw [← ms_e mi (k := 99) (by omega)]
    exact r139_90 (by decide +kernel) (by omega)
  | 7, _ =>
    refine r139_0_sw7 ?_ (by decide)
    show pt_Ev 139 none 90 _ _ _ (.inl (some (vI (ms mi 100))), _)
    rw [← ms_e mi (k := 100) (by omega)]
    exact r139_90 (by decide +kernel) (by omega)
  | 8, _ =>
    refine r139_0_sw8 ?_ (by decide)
    show pt_Ev 139 none 90 _ _ _ (.inl (some (vI (ms mi 101))), _)
    rw [← ms_e mi (k := 101) (by omega)]
    exact r139_90 (by decide +kernel) (by omega)
  | 9, _ =>
    refine r139_0_sw9 ?_ (by decide)
    show pt_Ev 139 none 90 _ _ _ (.inl (some (vI (ms mi 102))), _)
    rw [← ms_e mi (k := 102) (by omega)]
    exact r139_90 (by decide +kernel) (by omega)
theorem m139h : pt_Ca 139 [vR 9 0, vI (nI 10)] (pt_MEM mi ml ex) (.inl (some (vI (mi 9 0 3))), pt_MEM mi ml ex) := r139_0 (Or.inr (by decide)) r139_102
theorem m140a {x : Int32} (hx : sIn3 x 0 10 = false) : pt_Ca 140 [vR 9 0, vI x] (pt_MEM mi ml ex) (.inl (some (vI 0)), pt_MEM (th mi 1) ml ex) :=
  r140_0 m88 (r140_8 (fun _ => r140_15 (m89f (by decide)) (r140_19 (fun _ => r140_30) (fun c => absurd rfl c))) (fun c => absurd (by rw [hx]; rfl) c))
theorem m140s {x w : Int32} (hx : sIn3 x 0 10 = true) (call : pt_Ca 139 [vR 9 0, vI x] (pt_MEM (th mi 0) ml ex) (.inl (some (vI w)), pt_MEM (th mi 0) ml ex)) : pt_Ca 140 [vR 9 0, vI x] (pt_MEM mi ml ex) (.inl (some (vI w)), pt_MEM (th mi 0) ml ex) :=
  r140_0 m88 (r140_8 (fun c => absurd c (by rw [hx]; decide)) (fun _ => r140_11 m89t (r140_19 (fun c => absurd c (by decide)) (fun _ => r140_22 call r140_27))))
theorem in10 : ∀ j, j < 11 → sIn3 (nI j) 0 10 = true := by decide +kernel
theorem m140 {j : Nat} (hj : j < 10) : pt_Ca 140 [vR 9 0, vI (nI j)] (pt_MEM mi ml ex) (.inl (some (vI (sCount (ms mi) j))), pt_MEM (th mi 0) ml ex) := by
  have call := m139 (mi := th mi 0) (ml := ml) (ex := ex) hj
  rw [ms_th] at call
  exact m140s (in10 j (by omega)) call
theorem m140h : pt_Ca 140 [vR 9 0, vI (nI 10)] (pt_MEM mi ml ex) (.inl (some (vI (mi 9 0 3))), pt_MEM (th mi 0) ml ex) := m140s (in10 10 (by decide)) m139h
theorem c74a {x : Int32} (hx : sIn3 x 0 1 = false) : pt_Ca 74 [vR 8 0, vI x] (pt_MEM mi ml ex) (.inr 3, pt_MEM mi ml (ex + 1)) := by
  refine r74_0 (fun _ => r74_9) (fun c => r74_4 (fun d => ?_) (fun _ => r74_9))
  rw [lt_lit (a := 1) (by decide)] at d
  rw [sIn3_t.mpr ⟨c, d⟩] at hx
  exact absurd hx (by decide)
theorem cs_set (mi : Nat → Nat → Nat → Int32) (h : Nat) : ∀ {p : Nat}, p < 2 → mi 10 h p = cs mi h (104 + p)
  | 0, _ => rfl
  | 1, _ => rfl
theorem c74 (hp : p < 2) : pt_Ca 74 [vR 8 0, vI (nI p)] (pt_MEM mi ml ex) (.inl (some (vI (cs mi 0 (104 + p)))), pt_MEM mi ml ex) := by
  have h := sIn3_t.mp (in1 p hp)
  rw [← cs_set mi 0 hp]
  exact r74_0 (fun c => absurd c h.1) (fun _ => r74_4 (fun _ => r74_19 rfl rfl hp) (fun d => absurd ((lt_lit (a := 1) (by decide)).mpr h.2) d))
theorem m141a {x : Int32} (hx : sIn3 x 0 1 = false) : pt_Ca 141 [vR 9 0, vI x] (pt_MEM mi ml ex) (.inl (some (vI 0)), pt_MEM (th mi 1) ml ex) :=
  r141_0 m88 (r141_7 (fun _ => r141_14 (m89f (by decide)) (r141_18 (fun _ => r141_33) (fun c => absurd rfl c))) (fun c => absurd (by rw [hx]; rfl) c))
theorem m141 (hp : p < 2) : pt_Ca 141 [vR 9 0, vI (nI p)] (pt_MEM mi ml ex) (.inl (some (vI (ms mi (104 + p)))), pt_MEM (th mi 0) ml ex) := by
  have hs : ∀ p, p < 2 → 104 + nI p = nI (104 + p) := by decide +kernel
  have e : (th mi 0) 14 0 (104 + p) = ms mi (104 + p) := by rw [ms_e (th mi 0) (by omega), ms_th]
  rw [← e]
  exact r141_0 m88 (r141_7 (fun c => absurd c (by rw [in1 p hp]; decide)) (fun _ => r141_10 m89t (r141_18 (fun c => absurd c (by decide)) (fun _ => r141_21 (hs p hp) (by omega)))))
end
