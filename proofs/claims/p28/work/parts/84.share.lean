/-! The share as a double, and its bits. -/
theorem nn64 {x : UInt64} (h : x.toNat % 2 ^ 63 ≤ 9218868437227405312) : x &&& 0x7fffffffffffffff ≤ 0x7ff0000000000000 := by
  rw [UInt64.le_iff_toNat_le, UInt64.toNat_and]
  show x.toNat &&& (2 ^ 63 - 1) ≤ 9218868437227405312
  rw [Nat.and_two_pow_sub_one_eq_mod]
  exact h
theorem val_n {x : UInt64} (h1 : 2 ^ 52 ≤ x.toNat) (h2 : x.toNat < 2046 * 2 ^ 52) : FP.Core.val64 x = .fin false (2 ^ 52 + x.toNat % 2 ^ 52) (((x.toNat / 2 ^ 52 : Nat) : Int) - 1075) := by
  have ht : FP.Core.b64.tails = 2 ^ 52 := FP.Core.tails_b64
  have he : FP.Core.b64.exps = 2048 := by decide
  have hE : FP.Core.fieldE FP.Core.b64 x.toNat = x.toNat / 2 ^ 52 := by
    unfold FP.Core.fieldE
    rw [ht, he]
    exact Nat.mod_eq_of_lt (by omega)
  have hT : FP.Core.fieldT FP.Core.b64 x.toNat = x.toNat % 2 ^ 52 := by
    unfold FP.Core.fieldT
    rw [ht]
  have hS : FP.Core.fieldS FP.Core.b64 x.toNat = false := by
    unfold FP.Core.fieldS
    rw [ht, he]
    have : x.toNat / 2 ^ 52 / 2048 = 0 := by omega
    rw [this]
    rfl
  unfold FP.Core.val64 FP.Core.decode
  rw [hE, hT, hS, he, ht, FP.Core.qmin_b64, if_neg (by omega), if_neg (by omega)]
  congr 1
  omega
theorem not_nan {x : UInt64} (h : x.toNat < 2047 * 2 ^ 52) : FP.Core.val64 x ≠ .nan := by
  rw [FP.Core.ne_nan]
  omega
theorem two64 : (4611686018427387904 : UInt64).toNat = 1024 * 2 ^ 52 := by decide
theorem one64 : (4607182418800017408 : UInt64).toNat = 1023 * 2 ^ 52 := by decide
theorem dbl {x : UInt64} (h1 : 2 ^ 52 ≤ x.toNat) (h2 : x.toNat < 1100 * 2 ^ 52) : (FP.dmul x 4611686018427387904).toNat = x.toNat + 2 ^ 52 := by
  have hy : (UInt64.ofNat (x.toNat + 2 ^ 52)).toNat = x.toNat + 2 ^ 52 := UInt64.toNat_ofNat_of_lt' (by show _ < 2 ^ 64; omega)
  have v1 := val_n h1 (by omega)
  have v2 := val_n (x := 4611686018427387904) (by rw [two64]; omega) (by rw [two64]; omega)
  have v3 := val_n (x := UInt64.ofNat (x.toNat + 2 ^ 52)) (by rw [hy]; omega) (by rw [hy]; omega)
  rw [two64, show 1024 * 2 ^ 52 % 2 ^ 52 = 0 from by decide, show 1024 * 2 ^ 52 / 2 ^ 52 = 1024 from by decide] at v2
  rw [hy, show (x.toNat + 2 ^ 52) % 2 ^ 52 = x.toNat % 2 ^ 52 from by omega, show (x.toNat + 2 ^ 52) / 2 ^ 52 = x.toNat / 2 ^ 52 + 1 from by omega] at v3
  have hE : x.toNat / 2 ^ 52 < 1100 := by omega
  have hE1 : 1 ≤ x.toNat / 2 ^ 52 := by omega
  have hT : x.toNat % 2 ^ 52 < 2 ^ 52 := Nat.mod_lt _ (by decide)
  have hp : FP.Core.val64 (FP.dmul x 4611686018427387904) = .fin false (2 ^ 52 + x.toNat % 2 ^ 52) (((x.toNat / 2 ^ 52 + 1 : Nat) : Int) - 1075) := by
    rw [FP.Core.val64_dmul, v1, v2]
    show FP.Core.roundRatio FP.Core.b64 false ((2 ^ 52 + x.toNat % 2 ^ 52) * (2 ^ 52 + 0)) 1 ((((x.toNat / 2 ^ 52 : Nat) : Int) - 1075) + (((1024 : Nat) : Int) - 1075)) = _
    refine FP.Core.roundRatio_exact FP.Core.good_b64 (by decide) ⟨?_, ?_, ?_, Or.inr ?_⟩ ?_
    · show _ < 2 ^ 53
      omega
    · rw [FP.Core.qmin_b64]; omega
    · rw [show FP.Core.b64.qmax = 971 from by decide]; omega
    · rw [FP.Core.tails_b64]; omega
    · rw [show ((((x.toNat / 2 ^ 52 : Nat) : Int) - 1075) + (((1024 : Nat) : Int) - 1075) - (((x.toNat / 2 ^ 52 + 1 : Nat) : Int) - 1075)).toNat = 0 from by omega, show ((((x.toNat / 2 ^ 52 + 1 : Nat) : Int) - 1075) - ((((x.toNat / 2 ^ 52 : Nat) : Int) - 1075) + (((1024 : Nat) : Int) - 1075))).toNat = 52 from by omega]
      omega
  have e := FP.Core.val64_inj (a := FP.dmul x 4611686018427387904) (b := UInt64.ofNat (x.toNat + 2 ^ 52)) (by rw [hp]; exact FP.Core.Datum.noConfusion) (hp.trans v3.symm)
  rw [e, hy]
theorem dcmp_n {x y : UInt64} (h1 : x.toNat < 2047 * 2 ^ 52) (h2 : y.toNat < 2047 * 2 ^ 52) : FP.dcmp x y = some (compare (x.toNat : Int) (y.toNat : Int)) := by
  have k : ∀ z : UInt64, z.toNat < 2047 * 2 ^ 52 → FP.Core.key FP.Core.b64 z.toNat = (z.toNat : Int) := by
    intro z hz
    unfold FP.Core.key
    rw [FP.Core.mag_toNat64, FP.Core.half_b64, show decide (2 ^ 63 ≤ z.toNat) = false from by simp; omega, Nat.mod_eq_of_lt (by omega)]
    rfl
  show FP.Core.cmp FP.Core.b64 x.toNat y.toNat = _
  rw [FP.Core.cmp_key FP.Core.good_b64 (FP.Core.lt_full64 x) (FP.Core.lt_full64 y) (not_nan h1) (not_nan h2), k x h1, k y h2]
theorem cmp_one {x : UInt64} (h1 : x.toNat < 2047 * 2 ^ 52) : (0 : Int32) ≤ (Op.cmpValue (FP.dcmp x 4607182418800017408) .g) ↔ ¬ x.toNat < 1023 * 2 ^ 52 := by
  rw [dcmp_n h1 (by rw [one64]; decide), one64]
  rcases Nat.lt_trichotomy x.toNat (1023 * 2 ^ 52) with c | c | c
  · rw [show compare (x.toNat : Int) ((1023 * 2 ^ 52 : Nat) : Int) = .lt from by rw [Int.compare_eq_lt]; omega]
    exact ⟨fun z => absurd z (by decide), fun z => absurd c z⟩
  · rw [show compare (x.toNat : Int) ((1023 * 2 ^ 52 : Nat) : Int) = .eq from by rw [Int.compare_eq_eq]; omega]
    exact ⟨fun _ => by omega, fun _ => by decide⟩
  · rw [show compare (x.toNat : Int) ((1023 * 2 ^ 52 : Nat) : Int) = .gt from by rw [Int.compare_eq_gt]; omega]
    exact ⟨fun _ => by omega, fun _ => by decide⟩
theorem cmp_zero {x : UInt64} (h0 : 0 < x.toNat) (h1 : x.toNat < 2047 * 2 ^ 52) : FP.dcmp x 0 = some .gt := by
  rw [dcmp_n h1 (by decide)]
  congr 1
  rw [Int.compare_eq_gt]
  show ((0 : UInt64).toNat : Int) < _
  rw [show (0 : UInt64).toNat = 0 from by decide]
  omega
