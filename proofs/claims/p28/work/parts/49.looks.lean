/-! pileOf on both sides. -/
theorem sIn3_nI {x hi : Int32} {n : Nat} (hn : n < 2 ^ 31) (hh : hi = nI n) : sIn3 x 0 hi = true → ∃ p : Nat, p < n + 1 ∧ x = nI p := by
  intro h
  rw [sIn3, Bool.and_eq_true, decide_eq_true_eq, decide_eq_true_eq] at h
  obtain ⟨r, hr, rfl⟩ := nI_nonneg h.1
  refine ⟨r, ?_, rfl⟩
  have h2 := h.2
  rw [hh, Int32.lt_iff_toInt_lt, nI_toInt hn, nI_toInt hr] at h2
  omega
theorem sIn3_t {x lo hi : Int32} : sIn3 x lo hi = true ↔ ¬ x < lo ∧ ¬ hi < x := by
  rw [sIn3, Bool.and_eq_true, decide_eq_true_eq, decide_eq_true_eq]
theorem lt_nle {x y : Int32} : x < y ↔ ¬ y ≤ x := by
  rw [Int32.lt_iff_toInt_lt, Int32.le_iff_toInt_le]; omega
theorem lt_lit {x a b : Int32} (h : b.toInt = a.toInt + 1) : x < b ↔ ¬ a < x := by
  rw [Int32.lt_iff_toInt_lt, Int32.lt_iff_toInt_lt]; omega
section
variable {mi : Nat → Nat → Nat → Int32} {ml : Nat → Nat → Nat → Int64} {ex p : Nat}
theorem sFee_mFee {S : Nat → Int32} (h5 : S (9 * p + 5) = 0 ∨ S (9 * p + 5) = 1) : sFee S (S 104) p = mFee S p := by
  have e : sFee0 S (S 104) p = mFee0 S p := by
    unfold sFee0 mFee0
    rcases h5 with h | h
    · rw [if_pos h, if_neg (by rw [h]; decide)]
    · rw [if_neg (by rw [h]; decide), if_pos h]
  unfold sFee mFee
  rw [e]
theorem c69a {x y : Int32} (hx : sIn3 x 0 9 = false) : pt_Ca 69 [vR 8 0, vI x, vI y] (pt_MEM mi ml ex) (.inr 3, pt_MEM mi ml (ex + 1)) := by
  refine r69_0 (fun _ => r69_10) (fun c => r69_4 (fun d => ?_) (fun _ => r69_10))
  rw [lt_lit (a := 9) (by decide)] at d
  rw [sIn3_t.mpr ⟨c, d⟩] at hx
  exact absurd hx (by decide)
theorem c69b {x y : Int32} (hx : sIn3 x 0 9 = true) (hy : sIn3 y 0 10 = false) : pt_Ca 69 [vR 8 0, vI x, vI y] (pt_MEM mi ml ex) (.inr 1, pt_MEM mi ml (ex + 1)) := by
  have h := sIn3_t.mp hx
  refine r69_0 (fun c => absurd c h.1) (fun _ => r69_4 (fun _ => r69_20 (fun _ => r69_30) (fun c => r69_24 (fun d => ?_) (fun _ => r69_30))) (fun d => absurd ((lt_lit (a := 9) (by decide)).mpr h.2) d))
  have d' : ¬ (10 : Int32) < y := fun z => (lt_nle.mp z) d
  rw [sIn3_t.mpr ⟨c, d'⟩] at hy
  exact absurd hy (by decide)
theorem c69 {j : Nat} (hp : p < 10) (hj : j < 11) (g : GO (cs mi 0)) : ∃ mi', pt_Ca 69 [vR 8 0, vI (nI p), vI (nI j)] (pt_MEM mi ml ex) (.inl (some (vI (mOf (cs mi 0) p j))), pt_MEM mi' ml ex) ∧ Fr [3, 12] mi mi' := by
  have hx : sIn3 (nI p) 0 9 = true := in9 hp
  have h := sIn3_t.mp hx
  have hj10 : ∀ j, j < 11 → ¬ nI j < 0 ∧ nI j ≤ 10 := by decide +kernel
  have start : ∀ {o : pt_O} (k : pt_Ev 69 none 40 [some (vR 8 0), some (vI (nI p)), some (vI (nI j)), none] [] (pt_MEM mi ml ex) o), pt_Ca 69 [vR 8 0, vI (nI p), vI (nI j)] (pt_MEM mi ml ex) o := fun k =>
    r69_0 (fun c => absurd c h.1) (fun _ => r69_4 (fun _ => r69_20 (fun c => absurd c (hj10 j hj).1) (fun _ => r69_24 (fun _ => k) (fun c => absurd (hj10 j hj).2 c))) (fun d => absurd ((lt_lit (a := 9) (by decide)).mpr h.2) d))
  have hC := c32 (mi := mi) (ml := ml) (ex := ex) (h := 0) hp
  cases hH : sHere (cs mi 0) p with
  | false =>
    refine ⟨mi, start (r69_40 rfl rfl hp (pt_MR_p (by decide) hp) hC (r69_54 (fun _ => ?_) (fun c => absurd (by rw [hH]; rfl) c))), Fr.rfl'⟩
    rw [mOf, if_neg (by rw [hH]; decide)]
    exact r69_57
  | true =>
    have st2 : ∀ {o : pt_O} (k : pt_Ev 69 none 59 [some (vR 8 0), some (vI (nI p)), some (vI (nI j)), some (vR 5 (p + 10 * 0))] [] (pt_MEM mi ml ex) o), pt_Ca 69 [vR 8 0, vI (nI p), vI (nI j)] (pt_MEM mi ml ex) o := fun k =>
      start (r69_40 rfl rfl hp (pt_MR_p (by decide) hp) hC (r69_54 (fun c => absurd c (by rw [hH]; decide)) (fun _ => k)))
    have e := fun (j : Nat) (hj : j < 9) => cs_p mi 0 hp hj
    rw [mOf, if_pos hH]
    match j, hj with
    | 0, _ => exact ⟨mi, st2 (r69_59_sw0 (by have := e 0 (by decide); rw [if_neg (by decide), if_neg (by decide), if_neg (by decide), ← this]; exact r69_116) (by decide)), Fr.rfl'⟩
    | 1, _ => exact ⟨mi, st2 (r69_59_sw1 (by have := e 1 (by decide); rw [if_neg (by decide), if_neg (by decide), if_neg (by decide), ← this]; exact r69_121) (by decide)), Fr.rfl'⟩
    | 2, _ => exact ⟨mi, st2 (r69_59_sw2 (by have := e 2 (by decide); rw [if_neg (by decide), if_neg (by decide), if_neg (by decide), ← this]; exact r69_126) (by decide)), Fr.rfl'⟩
    | 3, _ => exact ⟨mi, st2 (r69_59_sw3 (by have := e 3 (by decide); rw [if_neg (by decide), if_neg (by decide), if_neg (by decide), ← this]; exact r69_131) (by decide)), Fr.rfl'⟩
    | 4, _ => exact ⟨mi, st2 (r69_59_sw4 (by have := e 4 (by decide); rw [if_neg (by decide), if_neg (by decide), if_neg (by decide), ← this]; exact r69_136) (by decide)), Fr.rfl'⟩
    | 5, _ =>
      refine ⟨mi, st2 (r69_59_sw5 ?_ (by decide)), Fr.rfl'⟩
      rw [if_neg (by decide), if_neg (by decide), if_neg (by decide)]
      have e5 := e 5 (by decide)
      refine r69_141 (fun c => ?_) (fun c => ?_)
      · rw [e5] at c; rw [c]; exact r69_152
      · rw [e5] at c; rw [(g.1 p hp).resolve_left c]; exact r69_148
    | 6, _ => exact ⟨mi, st2 (r69_59_sw6 (by have := e 6 (by decide); rw [if_neg (by decide), if_neg (by decide), if_neg (by decide), ← this]; exact r69_154) (by decide)), Fr.rfl'⟩
    | 7, _ => exact ⟨mi, st2 (r69_59_sw7 (by have := e 7 (by decide); rw [if_neg (by decide), if_neg (by decide), if_neg (by decide), ← this]; exact r69_159) (by decide)), Fr.rfl'⟩
    | 8, _ =>
      obtain ⟨mi', h1, h2⟩ := c70 (mi := mi) (ml := ml) (ex := ex) hp g
      refine ⟨mi', st2 (r69_59_sw8 ?_ (by decide)), h2⟩
      rw [if_pos rfl]
      exact r69_164 h1 r69_169
    | 9, _ => exact ⟨mi, st2 (r69_59_sw9 (by have := e 8 (by decide); rw [if_neg (by decide), if_pos rfl, ← this]; exact r69_170) (by decide)), Fr.rfl'⟩
    | 10, _ =>
      refine ⟨mi, st2 (r69_59 (Or.inr (by decide)) ?_), Fr.rfl'⟩
      rw [if_neg (by decide), if_neg (by decide), if_pos rfl, ← sFee_mFee (g.1 p hp)]
      exact r69_175 rfl (c35 hp) r69_188
end
