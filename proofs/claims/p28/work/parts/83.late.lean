/-! The fewest late: the model, and both sides' call. -/
theorem bt_nI {m i : Nat} (hi : i < 32) : bt (nI m) i = m.testBit i := by
  unfold bt nI
  show (BitVec.ofNat 32 m).getLsbD i = _
  rw [BitVec.getLsbD_ofNat]
  simp [hi]
theorem Can.cg {c : Nat} {t d : Nat → Nat} {U V : Nat → Bool} {n : Nat} (h : Can c t d U n) (e : ∀ q, q < n → V q = U q) : Can c t d V n := fun i hi hv => by
  have : sg (wt (fun q => V q && decide (d q ≤ d i)) t) n = sg (wt (fun q => U q && decide (d q ≤ d i)) t) n := sg_congr (fun q hq => wt_cg (by simp only [e q hq]))
  rw [this]
  exact h i hi (by rw [← e i hi]; exact hv)
theorem sub_iff {x y : Int32} : (x &&& (y ^^^ (-1))) = 0 ↔ ∀ i, i < 32 → bt x i = true → bt y i = true := by
  constructor
  · intro h i hi hx
    have := b_and x (y ^^^ (-1)) i
    rw [h, b_0, b_xor, b_m1 i hi, hx] at this
    simpa using this.symm
  · intro h
    refine b_ext (fun i hi => ?_)
    rw [b_and, b_xor, b_m1 i hi, b_0]
    cases hx : bt x i with
    | false => rfl
    | true => rw [h i hi hx]; rfl
theorem bit_bI {x : Int32} {p : Nat} (hp : p < 32) : ((x >>> (nI p &&& 31)) &&& 1) = bI (bt x p) := by
  cases h : bt x p with
  | true => exact (bit_iff hp).mpr h
  | false =>
    refine b_ext (fun i hi => ?_)
    rw [b_and, bt_one i hi]
    by_cases c : i = 0
    · subst c
      rw [b_sshr p hp x (by omega), if_pos (by omega), Nat.add_zero, h]
      decide
    · simp [c, bI, b_0]
section
variable {mi : Nat → Nat → Nat → Int32} {ml : Nat → Nat → Nat → Int64} {ex : Nat} {L : Nat → Nat} {n : Nat} {S : Nat → Int32}
theorem c78t {x : Int32} (hx : sIn3 x 0 1 = false) : pt_Ca 78 [vR 8 0, vI x] (pt_MEM mi ml ex) (.inr 1, pt_MEM mi ml (ex + 1)) := by
  refine r78_0 (fun _ => r78_9) (fun c => r78_4 (fun d => ?_) (fun _ => r78_9))
  rw [sIn3_t.mpr ⟨c, le_nlt.mp d⟩] at hx
  exact absurd hx (by decide)
theorem c78 {x : Int32} (hx : sIn3 x 0 1 = true) (hS : cs mi 0 = S) (f : FO S) : ∃ L n M mi', M ≤ n ∧ n ≤ 10 ∧ LPr S L n ∧ Best (cS S) (fun j => tS S (L j)) (fun j => dS S (L j)) n M ∧ pt_Ca 78 [vR 8 0, vI x] (pt_MEM mi ml ex) (.inl (some (vI (nI (n - M)))), pt_MEM mi' ml ex) ∧ Fr [3, 12, 13] mi mi' := by
  have hx' := sIn3_t.mp hx
  obtain ⟨L, n, m1, q1, q2, q3, q4, q5⟩ := c24 (mi := mi) (ml := ml) (ex := ex) (h := 0) (rf := 0) (by decide) (by rw [hS]; exact f.1.1) (by rw [hS]; exact sSTO 0 f.1)
  rw [hS] at q2
  have hS1 : cs m1 0 = S := (cs_fr 0 q5 (by decide) (by decide) (by decide) (by decide)).trans hS
  have start : ∀ {o}, pt_Ev 78 none 32 [some (vR 8 0), some (vI x)] [] (pt_MEM m1 ml ex) o → pt_Ca 78 [vR 8 0, vI x] (pt_MEM mi ml ex) o := fun kk => r78_0 (fun c => absurd c hx'.1) (fun _ => r78_4 (fun _ => r78_20 q1 kk) (fun c => absurd (le_nlt.mpr hx'.2) c))
  by_cases c : x = 0
  · obtain ⟨M, w1, w2, w3⟩ := c1 (ml := ml) (ex := ex) hS1 f q2 q3 q4
    exact ⟨L, n, M, m1, w1, q2.1, q2, w2, start (r78_32 (fun _ => r78_36 w3 r78_51) (fun z => absurd c z)), q5.wd (by decide)⟩
  · obtain ⟨M, m2, w1, w2, w3, w4⟩ := c3 (ml := ml) (ex := ex) hS1 f q2 q3 q4
    exact ⟨L, n, M, m2, w1, q2.1, q2, w2, start (r78_32 (fun z => absurd z c) (fun _ => r78_54 w3 r78_69)), (q5.wd (by decide)).tr (w4.wd (by decide))⟩
end
