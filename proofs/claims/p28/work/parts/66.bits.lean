/-! Bits of ints (rows of the kit, pasted), and masks of places. -/
def bt (x : Int32) (i : Nat) : Bool := x.toBitVec.getLsbD i
theorem b_ext {x y : Int32} (h : ∀ i, i < 32 → bt x i = bt y i) : x = y := Int32.toBitVec_inj.mp (BitVec.eq_of_getLsbD_eq (fun i hi => h i hi))
theorem b_or (x y : Int32) (i : Nat) : bt (x ||| y) i = (bt x i || bt y i) := by unfold bt; rw [Int32.toBitVec_or, BitVec.getLsbD_or]
theorem b_and (x y : Int32) (i : Nat) : bt (x &&& y) i = (bt x i && bt y i) := by unfold bt; rw [Int32.toBitVec_and, BitVec.getLsbD_and]
theorem b_xor (x y : Int32) (i : Nat) : bt (x ^^^ y) i = (bt x i ^^ bt y i) := by unfold bt; rw [Int32.toBitVec_xor, BitVec.getLsbD_xor]
theorem b_big {x : Int32} {i : Nat} (h : 32 ≤ i) : bt x i = false := BitVec.getLsbD_of_ge _ _ h
theorem b_m1 : ∀ i, i < 32 → bt (-1) i = true := by decide +kernel
theorem b_0 (i : Nat) : bt 0 i = false := BitVec.getLsbD_zero
theorem s_l : ∀ n, n < 32 → ((nI n &&& 31).toBitVec.smod 32).toNat = n := by decide +kernel
theorem b_shl (n : Nat) (hn : n < 32) (x : Int32) {i : Nat} (hi : i < 32) : bt (x <<< (nI n &&& 31)) i = (decide (n ≤ i) && bt x (i - n)) := by
  unfold bt
  rw [Int32.toBitVec_shiftLeft]
  show (x.toBitVec <<< ((nI n &&& 31).toBitVec.smod 32).toNat).getLsbD i = _
  rw [s_l n hn, BitVec.getLsbD_shiftLeft]
  rcases Nat.lt_or_ge i n with h | h
  · simp [h, Nat.not_le.mpr h]
  · simp [hi, h, Nat.not_lt.mpr h]
theorem b_sshr (n : Nat) (hn : n < 32) (x : Int32) {i : Nat} (hi : i < 32) : bt (x >>> (nI n &&& 31)) i = if n + i < 32 then bt x (n + i) else bt x 31 := by
  unfold bt
  rw [Int32.toBitVec_shiftRight]
  show (x.toBitVec.sshiftRight ((nI n &&& 31).toBitVec.smod 32).toNat).getLsbD i = _
  rw [s_l n hn, BitVec.getLsbD_sshiftRight, BitVec.msb_eq_getLsbD_last]
  simp [hi]
theorem bt_1 : ∀ q, q < 32 → ∀ p, p < 32 → bt ((1 : Int32) <<< (nI q &&& 31)) p = decide (p = q) := by decide +kernel
theorem bt_one : ∀ p, p < 32 → bt 1 p = decide (p = 0) := by decide +kernel
theorem bit_iff {x : Int32} {p : Nat} (hp : p < 32) : ((x >>> (nI p &&& 31)) &&& 1) = 1 ↔ bt x p = true := by
  have h0 : bt ((x >>> (nI p &&& 31)) &&& 1) 0 = bt x p := by
    rw [b_and, b_sshr p hp x (by omega), if_pos (by omega), bt_one 0 (by omega)]
    simp
  constructor
  · intro h
    rw [← h0, h]
    decide
  · intro h
    refine b_ext (fun i hi => ?_)
    by_cases c : i = 0
    · subst c
      rw [h0, h]
      decide
    · rw [b_and, bt_one i hi]
      simp [c]
theorem bt_or1 {x : Int32} {p q : Nat} (hp : p < 32) (hq : q < 32) : bt (x ||| ((1 : Int32) <<< (nI q &&& 31))) p = (bt x p || decide (p = q)) := by rw [b_or, bt_1 q hq p hp]
theorem bt_ex {x : Int32} (h : ¬ x = 0) : ∃ i, i < 32 ∧ bt x i = true := by
  apply Classical.byContradiction
  intro n
  refine h (b_ext (fun i hi => ?_))
  rw [b_0]
  cases c : bt x i with
  | false => rfl
  | true => exact absurd ⟨i, hi, c⟩ n
