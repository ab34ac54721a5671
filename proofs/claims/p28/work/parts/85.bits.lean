/-! The share between 0 and 1; its bits on both sides. -/
theorem i2d_pos {a : Int32} (ha : 0 < a.toInt) : ∃ (c A : Nat), FP.Core.val64 (FP.i2d a) = .fin false c ((A : Int) - 1074) ∧ c * 2 ^ A = a.toInt.toNat * 2 ^ 1074 := by
  have hlt : a.toInt < 2 ^ 31 := Int32.toInt_lt a
  have hv : FP.Core.val64 (FP.i2d a) = FP.Core.round FP.Core.b64 (.fin false a.toInt.natAbs 0) := by
    rw [FP.Core.val64_i2d, FP.Core.ofInt, show decide (a.toInt < 0) = false from by simp; omega]
  obtain ⟨c, q, h1, h2⟩ := FP.Core.round_exact FP.Core.good_b64 false (c := a.toInt.natAbs) (q := 0) (show _ < 2 ^ 53 by omega) (by rw [FP.Core.qmin_b64]; omega) (by rw [show FP.Core.b64.qmax = 971 from by decide]; omega)
  have hf := FP.Core.val64_fits (FP.i2d a)
  rw [hv, h1] at hf
  have hq : -1074 ≤ q := by have := hf.2.1; rw [FP.Core.qmin_b64] at this; exact this
  refine ⟨c, (q + 1074).toNat, ?_, ?_⟩
  · rw [hv, h1]
    congr 1
    omega
  · unfold FP.Core.inUnits at h2
    rw [FP.Core.qmin_b64, show (q - -1074).toNat = (q + 1074).toNat from by omega, show ((0 : Int) - -1074).toNat = 1074 from by decide] at h2
    rw [h2]
    congr 1
    omega
theorem share_b {a b : Int32} (ha : 0 < a.toInt) (hab : a.toInt ≤ b.toInt) : 992 * 2 ^ 52 ≤ (FP.ddiv (FP.i2d a) (FP.i2d b)).toNat ∧ (FP.ddiv (FP.i2d a) (FP.i2d b)).toNat ≤ 1023 * 2 ^ 52 := by
  have hb31 : b.toInt < 2 ^ 31 := Int32.toInt_lt b
  obtain ⟨ca, A, va, ea⟩ := i2d_pos ha
  obtain ⟨cb, B, vb, eb⟩ := i2d_pos (a := b) (by omega)
  have hcb : 0 < cb := by
    apply Nat.pos_of_ne_zero
    intro z
    rw [z, Nat.zero_mul] at eb
    have : 0 < b.toInt.toNat * 2 ^ 1074 := Nat.mul_pos (by omega) (Nat.two_pow_pos _)
    omega
  have hv : FP.Core.val64 (FP.ddiv (FP.i2d a) (FP.i2d b)) = FP.Core.roundRatio FP.Core.b64 false ca cb (((A : Int) - 1074) - ((B : Int) - 1074)) := by
    rw [FP.Core.val64_ddiv, va, vb]
    show (if cb = 0 then _ else _) = _
    rw [if_neg (by omega)]
    rfl
  generalize FP.ddiv (FP.i2d a) (FP.i2d b) = x at hv
  have hnn : FP.Core.val64 x ≠ .nan := by rw [hv]; exact FP.Core.roundRatio_ne_nan _ _ _ _ _
  have hs := FP.Core.sgn_bits hnn
  rw [hv, FP.Core.sgn_roundRatio] at hs
  have hlt : x.toNat < 2 ^ 63 := by
    by_cases c : 2 ^ 63 ≤ x.toNat
    · rw [decide_eq_true c] at hs; simp at hs
    · omega
  have hmag : FP.Core.mag FP.Core.b64 x.toNat = x.toNat := by rw [FP.Core.mag_toNat64]; exact Nat.mod_eq_of_lt hlt
  have hL : FP.Core.inUnits ca (((A : Int) - 1074) - ((B : Int) - 1074)) (-1074 - (B : Int)) = a.toInt.toNat * 2 ^ 1074 * 2 ^ 1074 := by
    unfold FP.Core.inUnits
    rw [show ((((A : Int) - 1074) - ((B : Int) - 1074)) - (-1074 - (B : Int))).toNat = A + 1074 from by omega, Nat.pow_add, ← Nat.mul_assoc, ea]
  have hU : ∀ K : Nat, 1 ≤ K → FP.Core.unitsOf FP.Core.b64 (K * 2 ^ 52) = 2 ^ 52 * 2 ^ (K - 1) := by
    intro K hK
    have := FP.Core.unitsOf_start (f := FP.Core.b64) hK
    rw [FP.Core.tails_b64] at this
    exact this
  have hq0 : (FP.Core.b64.qmin - (-1074 - (B : Int))).toNat = B := by rw [FP.Core.qmin_b64]; omega
  have hp : ∀ k : Nat, (2 : Nat) ^ 52 * 2 ^ k * 2 ^ B * cb = 2 ^ (52 + k) * (b.toInt.toNat * 2 ^ 1074) := by
    intro k
    rw [← Nat.pow_add, Nat.mul_assoc, Nat.mul_comm (2 ^ B) cb, eb]
  constructor
  · have := FP.Core.mag_ge FP.Core.good_b64 (s := false) (n := x.toNat) (m := 992 * 2 ^ 52) (A := ca) (B := cb) (e := ((A : Int) - 1074) - ((B : Int) - 1074)) (e0 := -1074 - (B : Int)) hv hcb (by rw [FP.Core.qmin_b64]; omega) (by omega) (by rw [FP.Core.infBits_b64]; decide) (by
      rw [hL, hU 992 (by decide), hq0, hp]
      have h1 : 2 ^ (52 + (992 - 1)) * (b.toInt.toNat * 2 ^ 1074) ≤ 2 ^ (52 + (992 - 1)) * (2 ^ 31 * 2 ^ 1074) := Nat.mul_le_mul_left _ (Nat.mul_le_mul_right _ (by omega))
      have h2 : (2 : Nat) ^ (52 + (992 - 1)) * (2 ^ 31 * 2 ^ 1074) = 1 * 2 ^ 1074 * 2 ^ 1074 := by
        rw [Nat.one_mul, ← Nat.mul_assoc, ← Nat.pow_add]
      have h3 : 1 * 2 ^ 1074 * 2 ^ 1074 ≤ a.toInt.toNat * 2 ^ 1074 * 2 ^ 1074 := Nat.mul_le_mul_right _ (Nat.mul_le_mul_right _ (by omega))
      exact Nat.le_trans h1 (Nat.le_trans (Nat.le_of_eq h2) h3))
    rw [hmag] at this
    exact this
  · have := FP.Core.mag_le FP.Core.good_b64 (s := false) (n := x.toNat) (m := 1023 * 2 ^ 52) (A := ca) (B := cb) (e := ((A : Int) - 1074) - ((B : Int) - 1074)) (e0 := -1074 - (B : Int)) hv hcb (by rw [FP.Core.qmin_b64]; omega) (by omega) (by
      rw [hL, hU 1023 (by decide), hq0, hp]
      have h1 : a.toInt.toNat * 2 ^ 1074 * 2 ^ 1074 ≤ b.toInt.toNat * 2 ^ 1074 * 2 ^ 1074 := Nat.mul_le_mul_right _ (Nat.mul_le_mul_right _ (by omega))
      refine Nat.le_trans h1 (Nat.le_of_eq ?_)
      exact Nat.mul_comm _ _)
    rw [hmag] at this
    exact this
theorem share_0 {b : Int32} (hb : 0 < b.toInt) : FP.ddiv (FP.i2d 0) (FP.i2d b) = 0 := by
  obtain ⟨cb, B, vb, eb⟩ := i2d_pos hb
  have hcb : ¬ cb = 0 := by
    intro z
    rw [z, Nat.zero_mul] at eb
    have : 0 < b.toInt.toNat * 2 ^ 1074 := Nat.mul_pos (by omega) (Nat.two_pow_pos _)
    omega
  have v0 : FP.Core.val64 (FP.i2d 0) = .fin false 0 (-1074) := by decide +kernel
  have vz : FP.Core.val64 0 = .fin false 0 (-1074) := by decide +kernel
  have hv : FP.Core.val64 (FP.ddiv (FP.i2d 0) (FP.i2d b)) = .fin false 0 (-1074) := by
    rw [FP.Core.val64_ddiv, v0, vb]
    show (if cb = 0 then _ else FP.Core.roundRatio FP.Core.b64 (false != false) 0 cb _) = _
    rw [if_neg hcb]
    show FP.Core.Datum.fin false 0 FP.Core.b64.qmin = _
    rw [FP.Core.qmin_b64]
  exact FP.Core.val64_inj (by rw [hv]; exact FP.Core.Datum.noConfusion) (hv.trans vz.symm)
def shW (S : Nat → Int32) : UInt64 := if S 103 = 0 then 0 else FP.ddiv (FP.i2d (S 100)) (FP.i2d (S 103))
/-- 0 or from 2^-31 to 1 -/
def ShOk (x : UInt64) : Prop := x = 0 ∨ (992 * 2 ^ 52 ≤ x.toNat ∧ x.toNat ≤ 1023 * 2 ^ 52)
theorem shW_ok {S : Nat → Int32} {P : Int} (u : GPut S P) : ShOk (shW S) := by
  unfold shW
  by_cases c : S 103 = 0
  · rw [if_pos c]; exact Or.inl rfl
  · rw [if_neg c]
    have u1 := u.1
    have u2 := u.2.1
    have h3 : ¬ (S 103).toInt = 0 := fun z => c (Int32.toInt_inj.mp (by rw [z]; decide))
    by_cases c0 : (S 100).toInt = 0
    · have e : S 100 = 0 := Int32.toInt_inj.mp (by rw [c0]; decide)
      rw [e]
      exact Or.inl (share_0 (by omega))
    · exact Or.inr (share_b (by omega) u2)
theorem ShOk.lt {x : UInt64} (h : ShOk x) : x.toNat < 2047 * 2 ^ 52 := by
  rcases h with h | h
  · rw [h]; decide
  · omega
theorem ShOk.nn {x : UInt64} (h : ShOk x) : x &&& 0x7fffffffffffffff ≤ 0x7ff0000000000000 := nn64 (by have := h.lt; omega)
theorem ShOk.self {x : UInt64} (h : ShOk x) : FP.dcmp x x = some .eq := by
  rw [dcmp_n h.lt h.lt]
  congr 1
  rw [Int.compare_eq_eq]
/-- the share doubled up to 1, and its bits -/
def rsV (x : UInt64) : UInt64 := UInt64.ofNat (x.toNat % 2 ^ 52 + 1023 * 2 ^ 52)
def bV (x : UInt64) : Int64 := if x = 0 then 0 else (1023 - Int64.ofNat (1023 - x.toNat / 2 ^ 52)) * 4503599627370496 + FP.d2l (FP.dmul (FP.dsub (rsV x) 4607182418800017408) 4841369599423283200)
theorem ex_sh : ∀ k, k < 40 → ((1023 : Int64) - Int64.ofNat k) <<< (Int32.toInt64 52 &&& 63) = (1023 - Int64.ofNat k) * 4503599627370496 := by decide +kernel
theorem ex_1 (k : Nat) : (1023 : Int64) - Int64.ofNat k - 1 = 1023 - Int64.ofNat (k + 1) := by
  rw [Int64.ofNat_add, Int64.sub_eq_add_neg, Int64.sub_eq_add_neg, Int64.sub_eq_add_neg, Int64.neg_add, Int64.sub_eq_add_neg, Int64.add_assoc]
  rfl
theorem rest_ok {y : UInt64} (h1 : 1023 * 2 ^ 52 ≤ y.toNat) (h2 : y.toNat < 1024 * 2 ^ 52) : (FP.dsub y 4607182418800017408) &&& 0x7fffffffffffffff ≤ 0x7ff0000000000000 ∧ (FP.dmul (FP.dsub y 4607182418800017408) 4841369599423283200) &&& 0x7fffffffffffffff ≤ 0x7ff0000000000000 := by
  have a := FP.Core.dsub_mag (a := y) (b := 4607182418800017408) (K := 1024) (by omega) (by rw [one64]; decide) (by decide)
  have b := FP.Core.dmul_mag (a := FP.dsub y 4607182418800017408) (b := 4841369599423283200) (Ka := 1026) (Kb := 1076) a (by decide) (by decide) (by decide)
  exact ⟨nn64 (by have : (FP.dsub y 4607182418800017408).toNat % 2 ^ 63 < (1024 + 2) * 2 ^ 52 := a; omega), nn64 (by have : (FP.dmul (FP.dsub y 4607182418800017408) 4841369599423283200).toNat % 2 ^ 63 < (1026 + 1076 - 1025 + 3) * 2 ^ 52 := b; omega)⟩
section
variable {mi : Nat → Nat → Nat → Int32} {ml : Nat → Nat → Nat → Int64} {ex : Nat} {x : UInt64}
theorem c79 {P : Int} (u : GPut (cs mi 0) P) : pt_Ca 79 [vR 8 0] (pt_MEM mi ml ex) (.inl (some (vD (shW (cs mi 0)))), pt_MEM mi ml ex) := by
  have hk := (shW_ok u).nn
  unfold shW at hk ⊢
  refine r79_0 (fun c => ?_) (fun c => ?_)
  · rw [← cs_103 mi 0] at c
    rw [if_pos c]; exact r79_10
  · rw [← cs_103 mi 0] at c
    rw [if_neg c] at hk ⊢
    exact r79_14 hk
theorem rs_of (y : UInt64) (h : ShOk x) (hx : ¬ x = 0) (hy : y.toNat = x.toNat + (1023 - x.toNat / 2 ^ 52) * 2 ^ 52) : y = rsV x := by
  have hr := h.resolve_left hx
  apply UInt64.toNat_inj.mp
  unfold rsV
  rw [UInt64.toNat_ofNat_of_lt' (by show _ < 2 ^ 64; have := Nat.mod_lt x.toNat (show 2 ^ 52 > 0 by decide); omega), hy]
  omega
end
