/-! Both ways to say when the earliest machine ends are one. -/
theorem mLeft_I (x : Int32) : (mLeft x).toInt = if 0 ≤ x.toInt then x.toInt else 0 := by
  unfold mLeft
  by_cases h : 0 ≤ x
  · rw [if_pos h, if_pos (nn32.mp h)]
  · rw [if_neg h, if_neg (fun z => h (nn32.mpr z)), Int32.toInt_zero]
theorem cMax0_I (x : Int32) : (cMax0 x).toInt = if 0 ≤ x.toInt then x.toInt else 0 := by
  unfold cMax0
  by_cases h : 0 < x
  · rw [if_pos h]
    rw [Int32.lt_iff_toInt_lt, Int32.toInt_zero] at h
    rw [if_pos (by omega)]
  · rw [if_neg h, Int32.toInt_zero]
    rw [Int32.lt_iff_toInt_lt, Int32.toInt_zero] at h
    split <;> omega
theorem cMax_mLeft (x : Int32) : cMax0 x = mLeft x := by
  apply Int32.toInt_inj.mp
  rw [cMax0_I, mLeft_I]
theorem mLeft_ne (x : Int32) : ¬ mLeft x = -1 := by
  intro h
  have := mLeft_I x
  rw [h, show (-1 : Int32).toInt = -1 from by decide] at this
  split at this <;> omega
theorem end_same {S : Nat → Int32} (hc : 0 ≤ (S 96).toInt ∧ (S 96).toInt < 2 ^ 20) (h1 : S 91 = -1 ∨ (0 ≤ (S 91).toInt ∧ (S 91).toInt < 2 ^ 20)) (h2 : S 94 = -1 ∨ (0 ≤ (S 94).toInt ∧ (S 94).toInt < 2 ^ 20)) : cEnd S = mEnd S := by
  unfold cEnd mEnd
  simp only []
  generalize S 91 = a at *
  generalize S 94 = b at *
  generalize S 96 = c at *
  have m1 : (-1 : Int32).toInt = -1 := by decide
  by_cases ha : a = -1
  · rw [show cEnd1 a (-1) = -1 from if_pos ha, show mEnd1 a c (-1) = -1 from if_pos ha]
    by_cases hb : b = -1
    · rw [show cEnd1 b (-1) = -1 from if_pos hb, show mEnd1 b c (-1) = -1 from if_pos hb, if_pos rfl]
    · rw [show cEnd1 b (-1) = b from (if_neg hb).trans (if_pos rfl), show mEnd1 b c (-1) = mLeft (b - c) from (if_neg hb).trans (if_pos rfl), if_neg hb, cMax_mLeft]
  · rw [show cEnd1 a (-1) = a from (if_neg ha).trans (if_pos rfl), show mEnd1 a c (-1) = mLeft (a - c) from (if_neg ha).trans (if_pos rfl)]
    by_cases hb : b = -1
    · rw [show cEnd1 b a = a from if_pos hb, show mEnd1 b c (mLeft (a - c)) = mLeft (a - c) from if_pos hb, if_neg ha, cMax_mLeft]
    · have a1 := h1.resolve_left ha
      have b1 := h2.resolve_left hb
      have sa : (a - c).toInt = a.toInt - c.toInt := sb32 (by omega) (by omega)
      have sb : (b - c).toInt = b.toInt - c.toInt := sb32 (by omega) (by omega)
      have la := mLeft_I (a - c)
      have lb := mLeft_I (b - c)
      rw [sa] at la
      rw [sb] at lb
      rw [show cEnd1 b a = (if a ≤ b then a else b) from (if_neg hb).trans (if_neg ha), show mEnd1 b c (mLeft (a - c)) = (if mLeft (a - c) ≤ mLeft (b - c) then mLeft (a - c) else mLeft (b - c)) from (if_neg hb).trans (if_neg (mLeft_ne _))]
      by_cases hab : a ≤ b
      · rw [if_pos hab, if_neg ha, cMax_mLeft, if_pos]
        rw [Int32.le_iff_toInt_le] at hab ⊢
        rw [la, lb]
        split <;> split <;> omega
      · rw [if_neg hab, if_neg hb, cMax_mLeft]
        by_cases hl : mLeft (a - c) ≤ mLeft (b - c)
        · rw [if_pos hl]
          apply Int32.toInt_inj.mp
          rw [Int32.le_iff_toInt_le] at hab hl
          rw [la, lb] at hl ⊢
          revert hl
          split <;> split <;> intro hl <;> omega
        · rw [if_neg hl]
