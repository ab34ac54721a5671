/-! Every instruction of the tables is checked. -/
theorem pt_nth_lt {α : Type} : ∀ (l : List α) (n : Nat) (a : α), pt_nth l n = some a → n < l.length
  | [], _, _, h => by simp [pt_nth] at h
  | _ :: _, 0, _, _ => by simp
  | _ :: l, n + 1, a, h => by
    have := pt_nth_lt l n a h
    simp only [List.length_cons]
    omega
theorem pt_fe_lt {cd : List (List (Option pt_E))} {pc : Nat} {e : pt_E} (h : pt_fe cd pc = some e) : pc < 16 * cd.length := by
  unfold pt_fe at h
  cases h1 : pt_nth cd (pc / 16) with
  | none => rw [h1] at h; simp at h
  | some l =>
    have := pt_nth_lt _ _ _ h1
    omega
theorem pt_cks_use {k a b : Nat} (h : pt_cks k a b = true) {pc : Nat} {e : pt_E} (h1 : a ≤ pc) (h2 : pc < b) (hf : pt_fe (pt_code k) pc = some e) : pt_ck k pc e = true := by
  have := List.all_eq_true.mp h (pc - a) (List.mem_range.mpr (by omega))
  rw [show a + (pc - a) = pc by omega, hf] at this
  exact this
theorem pt_ka_0 (pc : Nat) (e : pt_E) (hf : pt_fe (pt_code 0) pc = some e) : pt_ck 0 pc e = true := by
  have hl := pt_fe_lt hf
  rw [show (pt_code 0).length = 1 from rfl] at hl
  exact pt_cks_use pt_k_0_0 (by omega) (by omega) hf
theorem pt_ka_1 (pc : Nat) (e : pt_E) (hf : pt_fe (pt_code 1) pc = some e) : pt_ck 1 pc e = true := by
  have hl := pt_fe_lt hf
  rw [show (pt_code 1).length = 7 from rfl] at hl
  exact pt_cks_use pt_k_1_0 (by omega) (by omega) hf
theorem pt_ka_2 (pc : Nat) (e : pt_E) (hf : pt_fe (pt_code 2) pc = some e) : pt_ck 2 pc e = true := by
  have hl := pt_fe_lt hf
  rw [show (pt_code 2).length = 5 from rfl] at hl
  exact pt_cks_use pt_k_2_0 (by omega) (by omega) hf
theorem pt_ka_3 (pc : Nat) (e : pt_E) (hf : pt_fe (pt_code 3) pc = some e) : pt_ck 3 pc e = true := by
  have hl := pt_fe_lt hf
  rw [show (pt_code 3).length = 10 from rfl] at hl
  exact pt_cks_use pt_k_3_0 (by omega) (by omega) hf
theorem pt_ka_4 (pc : Nat) (e : pt_E) (hf : pt_fe (pt_code 4) pc = some e) : pt_ck 4 pc e = true := by
  have hl := pt_fe_lt hf
  rw [show (pt_code 4).length = 3 from rfl] at hl
  exact pt_cks_use pt_k_4_0 (by omega) (by omega) hf
theorem pt_ka_5 (pc : Nat) (e : pt_E) (hf : pt_fe (pt_code 5) pc = some e) : pt_ck 5 pc e = true := by
  have hl := pt_fe_lt hf
  rw [show (pt_code 5).length = 4 from rfl] at hl
  exact pt_cks_use pt_k_5_0 (by omega) (by omega) hf
theorem pt_ka_6 (pc : Nat) (e : pt_E) (hf : pt_fe (pt_code 6) pc = some e) : pt_ck 6 pc e = true := by
  have hl := pt_fe_lt hf
  rw [show (pt_code 6).length = 3 from rfl] at hl
  exact pt_cks_use pt_k_6_0 (by omega) (by omega) hf
theorem pt_ka_7 (pc : Nat) (e : pt_E) (hf : pt_fe (pt_code 7) pc = some e) : pt_ck 7 pc e = true := by
  have hl := pt_fe_lt hf
  rw [show (pt_code 7).length = 7 from rfl] at hl
  exact pt_cks_use pt_k_7_0 (by omega) (by omega) hf
theorem pt_ka_8 (pc : Nat) (e : pt_E) (hf : pt_fe (pt_code 8) pc = some e) : pt_ck 8 pc e = true := by
  have hl := pt_fe_lt hf
  rw [show (pt_code 8).length = 8 from rfl] at hl
  exact pt_cks_use pt_k_8_0 (by omega) (by omega) hf
theorem pt_ka_9 (pc : Nat) (e : pt_E) (hf : pt_fe (pt_code 9) pc = some e) : pt_ck 9 pc e = true := by
  have hl := pt_fe_lt hf
  rw [show (pt_code 9).length = 8 from rfl] at hl
  exact pt_cks_use pt_k_9_0 (by omega) (by omega) hf
theorem pt_ka_10 (pc : Nat) (e : pt_E) (hf : pt_fe (pt_code 10) pc = some e) : pt_ck 10 pc e = true := by
  have hl := pt_fe_lt hf
  rw [show (pt_code 10).length = 2 from rfl] at hl
  exact pt_cks_use pt_k_10_0 (by omega) (by omega) hf
theorem pt_ka_11 (pc : Nat) (e : pt_E) (hf : pt_fe (pt_code 11) pc = some e) : pt_ck 11 pc e = true := by
  have hl := pt_fe_lt hf
  rw [show (pt_code 11).length = 7 from rfl] at hl
  exact pt_cks_use pt_k_11_0 (by omega) (by omega) hf
theorem pt_ka_12 (pc : Nat) (e : pt_E) (hf : pt_fe (pt_code 12) pc = some e) : pt_ck 12 pc e = true := by
  have hl := pt_fe_lt hf
  rw [show (pt_code 12).length = 2 from rfl] at hl
  exact pt_cks_use pt_k_12_0 (by omega) (by omega) hf
theorem pt_ka_13 (pc : Nat) (e : pt_E) (hf : pt_fe (pt_code 13) pc = some e) : pt_ck 13 pc e = true := by
  have hl := pt_fe_lt hf
  rw [show (pt_code 13).length = 2 from rfl] at hl
  exact pt_cks_use pt_k_13_0 (by omega) (by omega) hf
theorem pt_ka_14 (pc : Nat) (e : pt_E) (hf : pt_fe (pt_code 14) pc = some e) : pt_ck 14 pc e = true := by
  have hl := pt_fe_lt hf
  rw [show (pt_code 14).length = 3 from rfl] at hl
  exact pt_cks_use pt_k_14_0 (by omega) (by omega) hf
theorem pt_ka_15 (pc : Nat) (e : pt_E) (hf : pt_fe (pt_code 15) pc = some e) : pt_ck 15 pc e = true := by
  have hl := pt_fe_lt hf
  rw [show (pt_code 15).length = 3 from rfl] at hl
  exact pt_cks_use pt_k_15_0 (by omega) (by omega) hf
theorem pt_ka_16 (pc : Nat) (e : pt_E) (hf : pt_fe (pt_code 16) pc = some e) : pt_ck 16 pc e = true := by
  have hl := pt_fe_lt hf
  rw [show (pt_code 16).length = 3 from rfl] at hl
  exact pt_cks_use pt_k_16_0 (by omega) (by omega) hf
theorem pt_ka_17 (pc : Nat) (e : pt_E) (hf : pt_fe (pt_code 17) pc = some e) : pt_ck 17 pc e = true := by
  have hl := pt_fe_lt hf
  rw [show (pt_code 17).length = 2 from rfl] at hl
  exact pt_cks_use pt_k_17_0 (by omega) (by omega) hf
theorem pt_ka_18 (pc : Nat) (e : pt_E) (hf : pt_fe (pt_code 18) pc = some e) : pt_ck 18 pc e = true := by
  have hl := pt_fe_lt hf
  rw [show (pt_code 18).length = 4 from rfl] at hl
  exact pt_cks_use pt_k_18_0 (by omega) (by omega) hf
theorem pt_ka_19 (pc : Nat) (e : pt_E) (hf : pt_fe (pt_code 19) pc = some e) : pt_ck 19 pc e = true := by
  have hl := pt_fe_lt hf
  rw [show (pt_code 19).length = 6 from rfl] at hl
  exact pt_cks_use pt_k_19_0 (by omega) (by omega) hf
theorem pt_ka_20 (pc : Nat) (e : pt_E) (hf : pt_fe (pt_code 20) pc = some e) : pt_ck 20 pc e = true := by
  have hl := pt_fe_lt hf
  rw [show (pt_code 20).length = 4 from rfl] at hl
  exact pt_cks_use pt_k_20_0 (by omega) (by omega) hf
theorem pt_ka_21 (pc : Nat) (e : pt_E) (hf : pt_fe (pt_code 21) pc = some e) : pt_ck 21 pc e = true := by
  have hl := pt_fe_lt hf
  rw [show (pt_code 21).length = 5 from rfl] at hl
  exact pt_cks_use pt_k_21_0 (by omega) (by omega) hf
theorem pt_ka_22 (pc : Nat) (e : pt_E) (hf : pt_fe (pt_code 22) pc = some e) : pt_ck 22 pc e = true := by
  have hl := pt_fe_lt hf
  rw [show (pt_code 22).length = 3 from rfl] at hl
  exact pt_cks_use pt_k_22_0 (by omega) (by omega) hf
theorem pt_ka_23 (pc : Nat) (e : pt_E) (hf : pt_fe (pt_code 23) pc = some e) : pt_ck 23 pc e = true := by
  have hl := pt_fe_lt hf
  rw [show (pt_code 23).length = 1 from rfl] at hl
  exact pt_cks_use pt_k_23_0 (by omega) (by omega) hf
theorem pt_ka_24 (pc : Nat) (e : pt_E) (hf : pt_fe (pt_code 24) pc = some e) : pt_ck 24 pc e = true := by
  have hl := pt_fe_lt hf
  rw [show (pt_code 24).length = 4 from rfl] at hl
  exact pt_cks_use pt_k_24_0 (by omega) (by omega) hf
theorem pt_ka_25 (pc : Nat) (e : pt_E) (hf : pt_fe (pt_code 25) pc = some e) : pt_ck 25 pc e = true := by
  have hl := pt_fe_lt hf
  rw [show (pt_code 25).length = 5 from rfl] at hl
  exact pt_cks_use pt_k_25_0 (by omega) (by omega) hf
theorem pt_ka_26 (pc : Nat) (e : pt_E) (hf : pt_fe (pt_code 26) pc = some e) : pt_ck 26 pc e = true := by
  have hl := pt_fe_lt hf
  rw [show (pt_code 26).length = 2 from rfl] at hl
  exact pt_cks_use pt_k_26_0 (by omega) (by omega) hf
theorem pt_ka_27 (pc : Nat) (e : pt_E) (hf : pt_fe (pt_code 27) pc = some e) : pt_ck 27 pc e = true := by
  have hl := pt_fe_lt hf
  rw [show (pt_code 27).length = 6 from rfl] at hl
  exact pt_cks_use pt_k_27_0 (by omega) (by omega) hf
theorem pt_ka_28 (pc : Nat) (e : pt_E) (hf : pt_fe (pt_code 28) pc = some e) : pt_ck 28 pc e = true := by
  have hl := pt_fe_lt hf
  rw [show (pt_code 28).length = 1 from rfl] at hl
  exact pt_cks_use pt_k_28_0 (by omega) (by omega) hf
theorem pt_ka_29 (pc : Nat) (e : pt_E) (hf : pt_fe (pt_code 29) pc = some e) : pt_ck 29 pc e = true := by
  have hl := pt_fe_lt hf
  rw [show (pt_code 29).length = 1 from rfl] at hl
  exact pt_cks_use pt_k_29_0 (by omega) (by omega) hf
theorem pt_ka_30 (pc : Nat) (e : pt_E) (hf : pt_fe (pt_code 30) pc = some e) : pt_ck 30 pc e = true := by
  have hl := pt_fe_lt hf
  rw [show (pt_code 30).length = 2 from rfl] at hl
  exact pt_cks_use pt_k_30_0 (by omega) (by omega) hf
theorem pt_ka_31 (pc : Nat) (e : pt_E) (hf : pt_fe (pt_code 31) pc = some e) : pt_ck 31 pc e = true := by
  have hl := pt_fe_lt hf
  rw [show (pt_code 31).length = 2 from rfl] at hl
  exact pt_cks_use pt_k_31_0 (by omega) (by omega) hf
theorem pt_ka_32 (pc : Nat) (e : pt_E) (hf : pt_fe (pt_code 32) pc = some e) : pt_ck 32 pc e = true := by
  have hl := pt_fe_lt hf
  rw [show (pt_code 32).length = 1 from rfl] at hl
  exact pt_cks_use pt_k_32_0 (by omega) (by omega) hf
theorem pt_ka_33 (pc : Nat) (e : pt_E) (hf : pt_fe (pt_code 33) pc = some e) : pt_ck 33 pc e = true := by
  have hl := pt_fe_lt hf
  rw [show (pt_code 33).length = 2 from rfl] at hl
  exact pt_cks_use pt_k_33_0 (by omega) (by omega) hf
theorem pt_ka_34 (pc : Nat) (e : pt_E) (hf : pt_fe (pt_code 34) pc = some e) : pt_ck 34 pc e = true := by
  have hl := pt_fe_lt hf
  rw [show (pt_code 34).length = 2 from rfl] at hl
  exact pt_cks_use pt_k_34_0 (by omega) (by omega) hf
theorem pt_ka_35 (pc : Nat) (e : pt_E) (hf : pt_fe (pt_code 35) pc = some e) : pt_ck 35 pc e = true := by
  have hl := pt_fe_lt hf
  rw [show (pt_code 35).length = 3 from rfl] at hl
  exact pt_cks_use pt_k_35_0 (by omega) (by omega) hf
theorem pt_ka_36 (pc : Nat) (e : pt_E) (hf : pt_fe (pt_code 36) pc = some e) : pt_ck 36 pc e = true := by
  have hl := pt_fe_lt hf
  rw [show (pt_code 36).length = 5 from rfl] at hl
  exact pt_cks_use pt_k_36_0 (by omega) (by omega) hf
theorem pt_ka_37 (pc : Nat) (e : pt_E) (hf : pt_fe (pt_code 37) pc = some e) : pt_ck 37 pc e = true := by
  have hl := pt_fe_lt hf
  rw [show (pt_code 37).length = 5 from rfl] at hl
  exact pt_cks_use pt_k_37_0 (by omega) (by omega) hf
theorem pt_ka_38 (pc : Nat) (e : pt_E) (hf : pt_fe (pt_code 38) pc = some e) : pt_ck 38 pc e = true := by
  have hl := pt_fe_lt hf
  rw [show (pt_code 38).length = 1 from rfl] at hl
  exact pt_cks_use pt_k_38_0 (by omega) (by omega) hf
theorem pt_ka_39 (pc : Nat) (e : pt_E) (hf : pt_fe (pt_code 39) pc = some e) : pt_ck 39 pc e = true := by
  have hl := pt_fe_lt hf
  rw [show (pt_code 39).length = 1 from rfl] at hl
  exact pt_cks_use pt_k_39_0 (by omega) (by omega) hf
theorem pt_ka_40 (pc : Nat) (e : pt_E) (hf : pt_fe (pt_code 40) pc = some e) : pt_ck 40 pc e = true := by
  have hl := pt_fe_lt hf
  rw [show (pt_code 40).length = 1 from rfl] at hl
  exact pt_cks_use pt_k_40_0 (by omega) (by omega) hf
theorem pt_ka_41 (pc : Nat) (e : pt_E) (hf : pt_fe (pt_code 41) pc = some e) : pt_ck 41 pc e = true := by
  have hl := pt_fe_lt hf
  rw [show (pt_code 41).length = 1 from rfl] at hl
  exact pt_cks_use pt_k_41_0 (by omega) (by omega) hf
theorem pt_ka_42 (pc : Nat) (e : pt_E) (hf : pt_fe (pt_code 42) pc = some e) : pt_ck 42 pc e = true := by
  have hl := pt_fe_lt hf
  rw [show (pt_code 42).length = 1 from rfl] at hl
  exact pt_cks_use pt_k_42_0 (by omega) (by omega) hf
theorem pt_ka_43 (pc : Nat) (e : pt_E) (hf : pt_fe (pt_code 43) pc = some e) : pt_ck 43 pc e = true := by
  have hl := pt_fe_lt hf
  rw [show (pt_code 43).length = 1 from rfl] at hl
  exact pt_cks_use pt_k_43_0 (by omega) (by omega) hf
theorem pt_ka_44 (pc : Nat) (e : pt_E) (hf : pt_fe (pt_code 44) pc = some e) : pt_ck 44 pc e = true := by
  have hl := pt_fe_lt hf
  rw [show (pt_code 44).length = 1 from rfl] at hl
  exact pt_cks_use pt_k_44_0 (by omega) (by omega) hf
theorem pt_ka_45 (pc : Nat) (e : pt_E) (hf : pt_fe (pt_code 45) pc = some e) : pt_ck 45 pc e = true := by
  have hl := pt_fe_lt hf
  rw [show (pt_code 45).length = 1 from rfl] at hl
  exact pt_cks_use pt_k_45_0 (by omega) (by omega) hf
theorem pt_ka_46 (pc : Nat) (e : pt_E) (hf : pt_fe (pt_code 46) pc = some e) : pt_ck 46 pc e = true := by
  have hl := pt_fe_lt hf
  rw [show (pt_code 46).length = 1 from rfl] at hl
  exact pt_cks_use pt_k_46_0 (by omega) (by omega) hf
theorem pt_ka_47 (pc : Nat) (e : pt_E) (hf : pt_fe (pt_code 47) pc = some e) : pt_ck 47 pc e = true := by
  have hl := pt_fe_lt hf
  rw [show (pt_code 47).length = 1 from rfl] at hl
  exact pt_cks_use pt_k_47_0 (by omega) (by omega) hf
theorem pt_ka_48 (pc : Nat) (e : pt_E) (hf : pt_fe (pt_code 48) pc = some e) : pt_ck 48 pc e = true := by
  have hl := pt_fe_lt hf
  rw [show (pt_code 48).length = 1 from rfl] at hl
  exact pt_cks_use pt_k_48_0 (by omega) (by omega) hf
theorem pt_ka_49 (pc : Nat) (e : pt_E) (hf : pt_fe (pt_code 49) pc = some e) : pt_ck 49 pc e = true := by
  have hl := pt_fe_lt hf
  rw [show (pt_code 49).length = 2 from rfl] at hl
  exact pt_cks_use pt_k_49_0 (by omega) (by omega) hf
theorem pt_ka_50 (pc : Nat) (e : pt_E) (hf : pt_fe (pt_code 50) pc = some e) : pt_ck 50 pc e = true := by
  have hl := pt_fe_lt hf
  rw [show (pt_code 50).length = 1 from rfl] at hl
  exact pt_cks_use pt_k_50_0 (by omega) (by omega) hf
theorem pt_ka_51 (pc : Nat) (e : pt_E) (hf : pt_fe (pt_code 51) pc = some e) : pt_ck 51 pc e = true := by
  have hl := pt_fe_lt hf
  rw [show (pt_code 51).length = 1 from rfl] at hl
  exact pt_cks_use pt_k_51_0 (by omega) (by omega) hf
theorem pt_ka_52 (pc : Nat) (e : pt_E) (hf : pt_fe (pt_code 52) pc = some e) : pt_ck 52 pc e = true := by
  have hl := pt_fe_lt hf
  rw [show (pt_code 52).length = 1 from rfl] at hl
  exact pt_cks_use pt_k_52_0 (by omega) (by omega) hf
theorem pt_ka_53 (pc : Nat) (e : pt_E) (hf : pt_fe (pt_code 53) pc = some e) : pt_ck 53 pc e = true := by
  have hl := pt_fe_lt hf
  rw [show (pt_code 53).length = 7 from rfl] at hl
  exact pt_cks_use pt_k_53_0 (by omega) (by omega) hf
theorem pt_ka_54 (pc : Nat) (e : pt_E) (hf : pt_fe (pt_code 54) pc = some e) : pt_ck 54 pc e = true := by
  have hl := pt_fe_lt hf
  rw [show (pt_code 54).length = 7 from rfl] at hl
  exact pt_cks_use pt_k_54_0 (by omega) (by omega) hf
theorem pt_ka_55 (pc : Nat) (e : pt_E) (hf : pt_fe (pt_code 55) pc = some e) : pt_ck 55 pc e = true := by
  have hl := pt_fe_lt hf
  rw [show (pt_code 55).length = 3 from rfl] at hl
  exact pt_cks_use pt_k_55_0 (by omega) (by omega) hf
theorem pt_ka_56 (pc : Nat) (e : pt_E) (hf : pt_fe (pt_code 56) pc = some e) : pt_ck 56 pc e = true := by
  have hl := pt_fe_lt hf
  rw [show (pt_code 56).length = 7 from rfl] at hl
  exact pt_cks_use pt_k_56_0 (by omega) (by omega) hf
theorem pt_ka_57 (pc : Nat) (e : pt_E) (hf : pt_fe (pt_code 57) pc = some e) : pt_ck 57 pc e = true := by
  have hl := pt_fe_lt hf
  rw [show (pt_code 57).length = 6 from rfl] at hl
  exact pt_cks_use pt_k_57_0 (by omega) (by omega) hf
theorem pt_ka_58 (pc : Nat) (e : pt_E) (hf : pt_fe (pt_code 58) pc = some e) : pt_ck 58 pc e = true := by
  have hl := pt_fe_lt hf
  rw [show (pt_code 58).length = 7 from rfl] at hl
  exact pt_cks_use pt_k_58_0 (by omega) (by omega) hf
theorem pt_ka_59 (pc : Nat) (e : pt_E) (hf : pt_fe (pt_code 59) pc = some e) : pt_ck 59 pc e = true := by
  have hl := pt_fe_lt hf
  rw [show (pt_code 59).length = 7 from rfl] at hl
  exact pt_cks_use pt_k_59_0 (by omega) (by omega) hf
theorem pt_ka_60 (pc : Nat) (e : pt_E) (hf : pt_fe (pt_code 60) pc = some e) : pt_ck 60 pc e = true := by
  have hl := pt_fe_lt hf
  rw [show (pt_code 60).length = 5 from rfl] at hl
  exact pt_cks_use pt_k_60_0 (by omega) (by omega) hf
theorem pt_ka_61 (pc : Nat) (e : pt_E) (hf : pt_fe (pt_code 61) pc = some e) : pt_ck 61 pc e = true := by
  have hl := pt_fe_lt hf
  rw [show (pt_code 61).length = 3 from rfl] at hl
  exact pt_cks_use pt_k_61_0 (by omega) (by omega) hf
theorem pt_ka_62 (pc : Nat) (e : pt_E) (hf : pt_fe (pt_code 62) pc = some e) : pt_ck 62 pc e = true := by
  have hl := pt_fe_lt hf
  rw [show (pt_code 62).length = 1 from rfl] at hl
  exact pt_cks_use pt_k_62_0 (by omega) (by omega) hf
theorem pt_ka_63 (pc : Nat) (e : pt_E) (hf : pt_fe (pt_code 63) pc = some e) : pt_ck 63 pc e = true := by
  have hl := pt_fe_lt hf
  rw [show (pt_code 63).length = 1 from rfl] at hl
  exact pt_cks_use pt_k_63_0 (by omega) (by omega) hf
theorem pt_ka_64 (pc : Nat) (e : pt_E) (hf : pt_fe (pt_code 64) pc = some e) : pt_ck 64 pc e = true := by
  have hl := pt_fe_lt hf
  rw [show (pt_code 64).length = 1 from rfl] at hl
  exact pt_cks_use pt_k_64_0 (by omega) (by omega) hf
theorem pt_ka_65 (pc : Nat) (e : pt_E) (hf : pt_fe (pt_code 65) pc = some e) : pt_ck 65 pc e = true := by
  have hl := pt_fe_lt hf
  rw [show (pt_code 65).length = 1 from rfl] at hl
  exact pt_cks_use pt_k_65_0 (by omega) (by omega) hf
theorem pt_ka_66 (pc : Nat) (e : pt_E) (hf : pt_fe (pt_code 66) pc = some e) : pt_ck 66 pc e = true := by
  have hl := pt_fe_lt hf
  rw [show (pt_code 66).length = 1 from rfl] at hl
  exact pt_cks_use pt_k_66_0 (by omega) (by omega) hf
theorem pt_ka_67 (pc : Nat) (e : pt_E) (hf : pt_fe (pt_code 67) pc = some e) : pt_ck 67 pc e = true := by
  have hl := pt_fe_lt hf
  rw [show (pt_code 67).length = 1 from rfl] at hl
  exact pt_cks_use pt_k_67_0 (by omega) (by omega) hf
theorem pt_ka_68 (pc : Nat) (e : pt_E) (hf : pt_fe (pt_code 68) pc = some e) : pt_ck 68 pc e = true := by
  have hl := pt_fe_lt hf
  rw [show (pt_code 68).length = 3 from rfl] at hl
  exact pt_cks_use pt_k_68_0 (by omega) (by omega) hf
theorem pt_ka_69 (pc : Nat) (e : pt_E) (hf : pt_fe (pt_code 69) pc = some e) : pt_ck 69 pc e = true := by
  have hl := pt_fe_lt hf
  rw [show (pt_code 69).length = 12 from rfl] at hl
  rcases Nat.lt_or_ge pc 160 with h0 | h0
  · exact pt_cks_use pt_k_69_0 (by omega) h0 hf
  exact pt_cks_use pt_k_69_160 (by omega) (by omega) hf
theorem pt_ka_70 (pc : Nat) (e : pt_E) (hf : pt_fe (pt_code 70) pc = some e) : pt_ck 70 pc e = true := by
  have hl := pt_fe_lt hf
  rw [show (pt_code 70).length = 3 from rfl] at hl
  exact pt_cks_use pt_k_70_0 (by omega) (by omega) hf
theorem pt_ka_71 (pc : Nat) (e : pt_E) (hf : pt_fe (pt_code 71) pc = some e) : pt_ck 71 pc e = true := by
  have hl := pt_fe_lt hf
  rw [show (pt_code 71).length = 9 from rfl] at hl
  exact pt_cks_use pt_k_71_0 (by omega) (by omega) hf
theorem pt_ka_72 (pc : Nat) (e : pt_E) (hf : pt_fe (pt_code 72) pc = some e) : pt_ck 72 pc e = true := by
  have hl := pt_fe_lt hf
  rw [show (pt_code 72).length = 2 from rfl] at hl
  exact pt_cks_use pt_k_72_0 (by omega) (by omega) hf
theorem pt_ka_73 (pc : Nat) (e : pt_E) (hf : pt_fe (pt_code 73) pc = some e) : pt_ck 73 pc e = true := by
  have hl := pt_fe_lt hf
  rw [show (pt_code 73).length = 12 from rfl] at hl
  rcases Nat.lt_or_ge pc 160 with h0 | h0
  · exact pt_cks_use pt_k_73_0 (by omega) h0 hf
  exact pt_cks_use pt_k_73_160 (by omega) (by omega) hf
theorem pt_ka_74 (pc : Nat) (e : pt_E) (hf : pt_fe (pt_code 74) pc = some e) : pt_ck 74 pc e = true := by
  have hl := pt_fe_lt hf
  rw [show (pt_code 74).length = 2 from rfl] at hl
  exact pt_cks_use pt_k_74_0 (by omega) (by omega) hf
theorem pt_ka_75 (pc : Nat) (e : pt_E) (hf : pt_fe (pt_code 75) pc = some e) : pt_ck 75 pc e = true := by
  have hl := pt_fe_lt hf
  rw [show (pt_code 75).length = 5 from rfl] at hl
  exact pt_cks_use pt_k_75_0 (by omega) (by omega) hf
theorem pt_ka_76 (pc : Nat) (e : pt_E) (hf : pt_fe (pt_code 76) pc = some e) : pt_ck 76 pc e = true := by
  have hl := pt_fe_lt hf
  rw [show (pt_code 76).length = 5 from rfl] at hl
  exact pt_cks_use pt_k_76_0 (by omega) (by omega) hf
theorem pt_ka_77 (pc : Nat) (e : pt_E) (hf : pt_fe (pt_code 77) pc = some e) : pt_ck 77 pc e = true := by
  have hl := pt_fe_lt hf
  rw [show (pt_code 77).length = 5 from rfl] at hl
  exact pt_cks_use pt_k_77_0 (by omega) (by omega) hf
theorem pt_ka_78 (pc : Nat) (e : pt_E) (hf : pt_fe (pt_code 78) pc = some e) : pt_ck 78 pc e = true := by
  have hl := pt_fe_lt hf
  rw [show (pt_code 78).length = 5 from rfl] at hl
  exact pt_cks_use pt_k_78_0 (by omega) (by omega) hf
theorem pt_ka_79 (pc : Nat) (e : pt_E) (hf : pt_fe (pt_code 79) pc = some e) : pt_ck 79 pc e = true := by
  have hl := pt_fe_lt hf
  rw [show (pt_code 79).length = 2 from rfl] at hl
  exact pt_cks_use pt_k_79_0 (by omega) (by omega) hf
theorem pt_ka_80 (pc : Nat) (e : pt_E) (hf : pt_fe (pt_code 80) pc = some e) : pt_ck 80 pc e = true := by
  have hl := pt_fe_lt hf
  rw [show (pt_code 80).length = 1 from rfl] at hl
  exact pt_cks_use pt_k_80_0 (by omega) (by omega) hf
theorem pt_ka_81 (pc : Nat) (e : pt_E) (hf : pt_fe (pt_code 81) pc = some e) : pt_ck 81 pc e = true := by
  have hl := pt_fe_lt hf
  rw [show (pt_code 81).length = 1 from rfl] at hl
  exact pt_cks_use pt_k_81_0 (by omega) (by omega) hf
theorem pt_ka_82 (pc : Nat) (e : pt_E) (hf : pt_fe (pt_code 82) pc = some e) : pt_ck 82 pc e = true := by
  have hl := pt_fe_lt hf
  rw [show (pt_code 82).length = 1 from rfl] at hl
  exact pt_cks_use pt_k_82_0 (by omega) (by omega) hf
theorem pt_ka_83 (pc : Nat) (e : pt_E) (hf : pt_fe (pt_code 83) pc = some e) : pt_ck 83 pc e = true := by
  have hl := pt_fe_lt hf
  rw [show (pt_code 83).length = 1 from rfl] at hl
  exact pt_cks_use pt_k_83_0 (by omega) (by omega) hf
theorem pt_ka_84 (pc : Nat) (e : pt_E) (hf : pt_fe (pt_code 84) pc = some e) : pt_ck 84 pc e = true := by
  have hl := pt_fe_lt hf
  rw [show (pt_code 84).length = 1 from rfl] at hl
  exact pt_cks_use pt_k_84_0 (by omega) (by omega) hf
theorem pt_ka_85 (pc : Nat) (e : pt_E) (hf : pt_fe (pt_code 85) pc = some e) : pt_ck 85 pc e = true := by
  have hl := pt_fe_lt hf
  rw [show (pt_code 85).length = 1 from rfl] at hl
  exact pt_cks_use pt_k_85_0 (by omega) (by omega) hf
theorem pt_ka_86 (pc : Nat) (e : pt_E) (hf : pt_fe (pt_code 86) pc = some e) : pt_ck 86 pc e = true := by
  have hl := pt_fe_lt hf
  rw [show (pt_code 86).length = 1 from rfl] at hl
  exact pt_cks_use pt_k_86_0 (by omega) (by omega) hf
theorem pt_ka_87 (pc : Nat) (e : pt_E) (hf : pt_fe (pt_code 87) pc = some e) : pt_ck 87 pc e = true := by
  have hl := pt_fe_lt hf
  rw [show (pt_code 87).length = 1 from rfl] at hl
  exact pt_cks_use pt_k_87_0 (by omega) (by omega) hf
theorem pt_ka_88 (pc : Nat) (e : pt_E) (hf : pt_fe (pt_code 88) pc = some e) : pt_ck 88 pc e = true := by
  have hl := pt_fe_lt hf
  rw [show (pt_code 88).length = 1 from rfl] at hl
  exact pt_cks_use pt_k_88_0 (by omega) (by omega) hf
theorem pt_ka_89 (pc : Nat) (e : pt_E) (hf : pt_fe (pt_code 89) pc = some e) : pt_ck 89 pc e = true := by
  have hl := pt_fe_lt hf
  rw [show (pt_code 89).length = 1 from rfl] at hl
  exact pt_cks_use pt_k_89_0 (by omega) (by omega) hf
theorem pt_ka_90 (pc : Nat) (e : pt_E) (hf : pt_fe (pt_code 90) pc = some e) : pt_ck 90 pc e = true := by
  have hl := pt_fe_lt hf
  rw [show (pt_code 90).length = 1 from rfl] at hl
  exact pt_cks_use pt_k_90_0 (by omega) (by omega) hf
theorem pt_ka_91 (pc : Nat) (e : pt_E) (hf : pt_fe (pt_code 91) pc = some e) : pt_ck 91 pc e = true := by
  have hl := pt_fe_lt hf
  rw [show (pt_code 91).length = 1 from rfl] at hl
  exact pt_cks_use pt_k_91_0 (by omega) (by omega) hf
theorem pt_ka_92 (pc : Nat) (e : pt_E) (hf : pt_fe (pt_code 92) pc = some e) : pt_ck 92 pc e = true := by
  have hl := pt_fe_lt hf
  rw [show (pt_code 92).length = 1 from rfl] at hl
  exact pt_cks_use pt_k_92_0 (by omega) (by omega) hf
theorem pt_ka_93 (pc : Nat) (e : pt_E) (hf : pt_fe (pt_code 93) pc = some e) : pt_ck 93 pc e = true := by
  have hl := pt_fe_lt hf
  rw [show (pt_code 93).length = 1 from rfl] at hl
  exact pt_cks_use pt_k_93_0 (by omega) (by omega) hf
theorem pt_ka_94 (pc : Nat) (e : pt_E) (hf : pt_fe (pt_code 94) pc = some e) : pt_ck 94 pc e = true := by
  have hl := pt_fe_lt hf
  rw [show (pt_code 94).length = 1 from rfl] at hl
  exact pt_cks_use pt_k_94_0 (by omega) (by omega) hf
theorem pt_ka_95 (pc : Nat) (e : pt_E) (hf : pt_fe (pt_code 95) pc = some e) : pt_ck 95 pc e = true := by
  have hl := pt_fe_lt hf
  rw [show (pt_code 95).length = 1 from rfl] at hl
  exact pt_cks_use pt_k_95_0 (by omega) (by omega) hf
theorem pt_ka_96 (pc : Nat) (e : pt_E) (hf : pt_fe (pt_code 96) pc = some e) : pt_ck 96 pc e = true := by
  have hl := pt_fe_lt hf
  rw [show (pt_code 96).length = 1 from rfl] at hl
  exact pt_cks_use pt_k_96_0 (by omega) (by omega) hf
theorem pt_ka_97 (pc : Nat) (e : pt_E) (hf : pt_fe (pt_code 97) pc = some e) : pt_ck 97 pc e = true := by
  have hl := pt_fe_lt hf
  rw [show (pt_code 97).length = 1 from rfl] at hl
  exact pt_cks_use pt_k_97_0 (by omega) (by omega) hf
theorem pt_ka_98 (pc : Nat) (e : pt_E) (hf : pt_fe (pt_code 98) pc = some e) : pt_ck 98 pc e = true := by
  have hl := pt_fe_lt hf
  rw [show (pt_code 98).length = 1 from rfl] at hl
  exact pt_cks_use pt_k_98_0 (by omega) (by omega) hf
theorem pt_ka_99 (pc : Nat) (e : pt_E) (hf : pt_fe (pt_code 99) pc = some e) : pt_ck 99 pc e = true := by
  have hl := pt_fe_lt hf
  rw [show (pt_code 99).length = 1 from rfl] at hl
  exact pt_cks_use pt_k_99_0 (by omega) (by omega) hf
theorem pt_ka_100 (pc : Nat) (e : pt_E) (hf : pt_fe (pt_code 100) pc = some e) : pt_ck 100 pc e = true := by
  have hl := pt_fe_lt hf
  rw [show (pt_code 100).length = 1 from rfl] at hl
  exact pt_cks_use pt_k_100_0 (by omega) (by omega) hf
theorem pt_ka_101 (pc : Nat) (e : pt_E) (hf : pt_fe (pt_code 101) pc = some e) : pt_ck 101 pc e = true := by
  have hl := pt_fe_lt hf
  rw [show (pt_code 101).length = 1 from rfl] at hl
  exact pt_cks_use pt_k_101_0 (by omega) (by omega) hf
theorem pt_ka_102 (pc : Nat) (e : pt_E) (hf : pt_fe (pt_code 102) pc = some e) : pt_ck 102 pc e = true := by
  have hl := pt_fe_lt hf
  rw [show (pt_code 102).length = 1 from rfl] at hl
  exact pt_cks_use pt_k_102_0 (by omega) (by omega) hf
theorem pt_ka_103 (pc : Nat) (e : pt_E) (hf : pt_fe (pt_code 103) pc = some e) : pt_ck 103 pc e = true := by
  have hl := pt_fe_lt hf
  rw [show (pt_code 103).length = 1 from rfl] at hl
  exact pt_cks_use pt_k_103_0 (by omega) (by omega) hf
theorem pt_ka_104 (pc : Nat) (e : pt_E) (hf : pt_fe (pt_code 104) pc = some e) : pt_ck 104 pc e = true := by
  have hl := pt_fe_lt hf
  rw [show (pt_code 104).length = 1 from rfl] at hl
  exact pt_cks_use pt_k_104_0 (by omega) (by omega) hf
theorem pt_ka_105 (pc : Nat) (e : pt_E) (hf : pt_fe (pt_code 105) pc = some e) : pt_ck 105 pc e = true := by
  have hl := pt_fe_lt hf
  rw [show (pt_code 105).length = 1 from rfl] at hl
  exact pt_cks_use pt_k_105_0 (by omega) (by omega) hf
theorem pt_ka_106 (pc : Nat) (e : pt_E) (hf : pt_fe (pt_code 106) pc = some e) : pt_ck 106 pc e = true := by
  have hl := pt_fe_lt hf
  rw [show (pt_code 106).length = 1 from rfl] at hl
  exact pt_cks_use pt_k_106_0 (by omega) (by omega) hf
theorem pt_ka_107 (pc : Nat) (e : pt_E) (hf : pt_fe (pt_code 107) pc = some e) : pt_ck 107 pc e = true := by
  have hl := pt_fe_lt hf
  rw [show (pt_code 107).length = 1 from rfl] at hl
  exact pt_cks_use pt_k_107_0 (by omega) (by omega) hf
theorem pt_ka_108 (pc : Nat) (e : pt_E) (hf : pt_fe (pt_code 108) pc = some e) : pt_ck 108 pc e = true := by
  have hl := pt_fe_lt hf
  rw [show (pt_code 108).length = 1 from rfl] at hl
  exact pt_cks_use pt_k_108_0 (by omega) (by omega) hf
theorem pt_ka_109 (pc : Nat) (e : pt_E) (hf : pt_fe (pt_code 109) pc = some e) : pt_ck 109 pc e = true := by
  have hl := pt_fe_lt hf
  rw [show (pt_code 109).length = 1 from rfl] at hl
  exact pt_cks_use pt_k_109_0 (by omega) (by omega) hf
theorem pt_ka_110 (pc : Nat) (e : pt_E) (hf : pt_fe (pt_code 110) pc = some e) : pt_ck 110 pc e = true := by
  have hl := pt_fe_lt hf
  rw [show (pt_code 110).length = 1 from rfl] at hl
  exact pt_cks_use pt_k_110_0 (by omega) (by omega) hf
theorem pt_ka_111 (pc : Nat) (e : pt_E) (hf : pt_fe (pt_code 111) pc = some e) : pt_ck 111 pc e = true := by
  have hl := pt_fe_lt hf
  rw [show (pt_code 111).length = 1 from rfl] at hl
  exact pt_cks_use pt_k_111_0 (by omega) (by omega) hf
theorem pt_ka_112 (pc : Nat) (e : pt_E) (hf : pt_fe (pt_code 112) pc = some e) : pt_ck 112 pc e = true := by
  have hl := pt_fe_lt hf
  rw [show (pt_code 112).length = 1 from rfl] at hl
  exact pt_cks_use pt_k_112_0 (by omega) (by omega) hf
theorem pt_ka_113 (pc : Nat) (e : pt_E) (hf : pt_fe (pt_code 113) pc = some e) : pt_ck 113 pc e = true := by
  have hl := pt_fe_lt hf
  rw [show (pt_code 113).length = 1 from rfl] at hl
  exact pt_cks_use pt_k_113_0 (by omega) (by omega) hf
theorem pt_ka_114 (pc : Nat) (e : pt_E) (hf : pt_fe (pt_code 114) pc = some e) : pt_ck 114 pc e = true := by
  have hl := pt_fe_lt hf
  rw [show (pt_code 114).length = 1 from rfl] at hl
  exact pt_cks_use pt_k_114_0 (by omega) (by omega) hf
theorem pt_ka_115 (pc : Nat) (e : pt_E) (hf : pt_fe (pt_code 115) pc = some e) : pt_ck 115 pc e = true := by
  have hl := pt_fe_lt hf
  rw [show (pt_code 115).length = 1 from rfl] at hl
  exact pt_cks_use pt_k_115_0 (by omega) (by omega) hf
theorem pt_ka_116 (pc : Nat) (e : pt_E) (hf : pt_fe (pt_code 116) pc = some e) : pt_ck 116 pc e = true := by
  have hl := pt_fe_lt hf
  rw [show (pt_code 116).length = 1 from rfl] at hl
  exact pt_cks_use pt_k_116_0 (by omega) (by omega) hf
theorem pt_ka_117 (pc : Nat) (e : pt_E) (hf : pt_fe (pt_code 117) pc = some e) : pt_ck 117 pc e = true := by
  have hl := pt_fe_lt hf
  rw [show (pt_code 117).length = 1 from rfl] at hl
  exact pt_cks_use pt_k_117_0 (by omega) (by omega) hf
theorem pt_ka_118 (pc : Nat) (e : pt_E) (hf : pt_fe (pt_code 118) pc = some e) : pt_ck 118 pc e = true := by
  have hl := pt_fe_lt hf
  rw [show (pt_code 118).length = 1 from rfl] at hl
  exact pt_cks_use pt_k_118_0 (by omega) (by omega) hf
theorem pt_ka_119 (pc : Nat) (e : pt_E) (hf : pt_fe (pt_code 119) pc = some e) : pt_ck 119 pc e = true := by
  have hl := pt_fe_lt hf
  rw [show (pt_code 119).length = 1 from rfl] at hl
  exact pt_cks_use pt_k_119_0 (by omega) (by omega) hf
theorem pt_ka_120 (pc : Nat) (e : pt_E) (hf : pt_fe (pt_code 120) pc = some e) : pt_ck 120 pc e = true := by
  have hl := pt_fe_lt hf
  rw [show (pt_code 120).length = 1 from rfl] at hl
  exact pt_cks_use pt_k_120_0 (by omega) (by omega) hf
theorem pt_ka_121 (pc : Nat) (e : pt_E) (hf : pt_fe (pt_code 121) pc = some e) : pt_ck 121 pc e = true := by
  have hl := pt_fe_lt hf
  rw [show (pt_code 121).length = 1 from rfl] at hl
  exact pt_cks_use pt_k_121_0 (by omega) (by omega) hf
theorem pt_ka_122 (pc : Nat) (e : pt_E) (hf : pt_fe (pt_code 122) pc = some e) : pt_ck 122 pc e = true := by
  have hl := pt_fe_lt hf
  rw [show (pt_code 122).length = 1 from rfl] at hl
  exact pt_cks_use pt_k_122_0 (by omega) (by omega) hf
theorem pt_ka_123 (pc : Nat) (e : pt_E) (hf : pt_fe (pt_code 123) pc = some e) : pt_ck 123 pc e = true := by
  have hl := pt_fe_lt hf
  rw [show (pt_code 123).length = 1 from rfl] at hl
  exact pt_cks_use pt_k_123_0 (by omega) (by omega) hf
theorem pt_ka_124 (pc : Nat) (e : pt_E) (hf : pt_fe (pt_code 124) pc = some e) : pt_ck 124 pc e = true := by
  have hl := pt_fe_lt hf
  rw [show (pt_code 124).length = 1 from rfl] at hl
  exact pt_cks_use pt_k_124_0 (by omega) (by omega) hf
theorem pt_ka_125 (pc : Nat) (e : pt_E) (hf : pt_fe (pt_code 125) pc = some e) : pt_ck 125 pc e = true := by
  have hl := pt_fe_lt hf
  rw [show (pt_code 125).length = 1 from rfl] at hl
  exact pt_cks_use pt_k_125_0 (by omega) (by omega) hf
theorem pt_ka_126 (pc : Nat) (e : pt_E) (hf : pt_fe (pt_code 126) pc = some e) : pt_ck 126 pc e = true := by
  have hl := pt_fe_lt hf
  rw [show (pt_code 126).length = 1 from rfl] at hl
  exact pt_cks_use pt_k_126_0 (by omega) (by omega) hf
theorem pt_ka_127 (pc : Nat) (e : pt_E) (hf : pt_fe (pt_code 127) pc = some e) : pt_ck 127 pc e = true := by
  have hl := pt_fe_lt hf
  rw [show (pt_code 127).length = 1 from rfl] at hl
  exact pt_cks_use pt_k_127_0 (by omega) (by omega) hf
theorem pt_ka_128 (pc : Nat) (e : pt_E) (hf : pt_fe (pt_code 128) pc = some e) : pt_ck 128 pc e = true := by
  have hl := pt_fe_lt hf
  rw [show (pt_code 128).length = 1 from rfl] at hl
  exact pt_cks_use pt_k_128_0 (by omega) (by omega) hf
theorem pt_ka_129 (pc : Nat) (e : pt_E) (hf : pt_fe (pt_code 129) pc = some e) : pt_ck 129 pc e = true := by
  have hl := pt_fe_lt hf
  rw [show (pt_code 129).length = 1 from rfl] at hl
  exact pt_cks_use pt_k_129_0 (by omega) (by omega) hf
theorem pt_ka_130 (pc : Nat) (e : pt_E) (hf : pt_fe (pt_code 130) pc = some e) : pt_ck 130 pc e = true := by
  have hl := pt_fe_lt hf
  rw [show (pt_code 130).length = 1 from rfl] at hl
  exact pt_cks_use pt_k_130_0 (by omega) (by omega) hf
theorem pt_ka_131 (pc : Nat) (e : pt_E) (hf : pt_fe (pt_code 131) pc = some e) : pt_ck 131 pc e = true := by
  have hl := pt_fe_lt hf
  rw [show (pt_code 131).length = 1 from rfl] at hl
  exact pt_cks_use pt_k_131_0 (by omega) (by omega) hf
theorem pt_ka_132 (pc : Nat) (e : pt_E) (hf : pt_fe (pt_code 132) pc = some e) : pt_ck 132 pc e = true := by
  have hl := pt_fe_lt hf
  rw [show (pt_code 132).length = 1 from rfl] at hl
  exact pt_cks_use pt_k_132_0 (by omega) (by omega) hf
theorem pt_ka_133 (pc : Nat) (e : pt_E) (hf : pt_fe (pt_code 133) pc = some e) : pt_ck 133 pc e = true := by
  have hl := pt_fe_lt hf
  rw [show (pt_code 133).length = 1 from rfl] at hl
  exact pt_cks_use pt_k_133_0 (by omega) (by omega) hf
theorem pt_ka_134 (pc : Nat) (e : pt_E) (hf : pt_fe (pt_code 134) pc = some e) : pt_ck 134 pc e = true := by
  have hl := pt_fe_lt hf
  rw [show (pt_code 134).length = 1 from rfl] at hl
  exact pt_cks_use pt_k_134_0 (by omega) (by omega) hf
theorem pt_ka_135 (pc : Nat) (e : pt_E) (hf : pt_fe (pt_code 135) pc = some e) : pt_ck 135 pc e = true := by
  have hl := pt_fe_lt hf
  rw [show (pt_code 135).length = 1 from rfl] at hl
  exact pt_cks_use pt_k_135_0 (by omega) (by omega) hf
theorem pt_ka_136 (pc : Nat) (e : pt_E) (hf : pt_fe (pt_code 136) pc = some e) : pt_ck 136 pc e = true := by
  have hl := pt_fe_lt hf
  rw [show (pt_code 136).length = 1 from rfl] at hl
  exact pt_cks_use pt_k_136_0 (by omega) (by omega) hf
theorem pt_ka_137 (pc : Nat) (e : pt_E) (hf : pt_fe (pt_code 137) pc = some e) : pt_ck 137 pc e = true := by
  have hl := pt_fe_lt hf
  rw [show (pt_code 137).length = 1 from rfl] at hl
  exact pt_cks_use pt_k_137_0 (by omega) (by omega) hf
theorem pt_ka_138 (pc : Nat) (e : pt_E) (hf : pt_fe (pt_code 138) pc = some e) : pt_ck 138 pc e = true := by
  have hl := pt_fe_lt hf
  rw [show (pt_code 138).length = 1 from rfl] at hl
  exact pt_cks_use pt_k_138_0 (by omega) (by omega) hf
theorem pt_ka_139 (pc : Nat) (e : pt_E) (hf : pt_fe (pt_code 139) pc = some e) : pt_ck 139 pc e = true := by
  have hl := pt_fe_lt hf
  rw [show (pt_code 139).length = 1 from rfl] at hl
  exact pt_cks_use pt_k_139_0 (by omega) (by omega) hf
theorem pt_ka_140 (pc : Nat) (e : pt_E) (hf : pt_fe (pt_code 140) pc = some e) : pt_ck 140 pc e = true := by
  have hl := pt_fe_lt hf
  rw [show (pt_code 140).length = 1 from rfl] at hl
  exact pt_cks_use pt_k_140_0 (by omega) (by omega) hf
theorem pt_ka_141 (pc : Nat) (e : pt_E) (hf : pt_fe (pt_code 141) pc = some e) : pt_ck 141 pc e = true := by
  have hl := pt_fe_lt hf
  rw [show (pt_code 141).length = 1 from rfl] at hl
  exact pt_cks_use pt_k_141_0 (by omega) (by omega) hf
theorem pt_ka_142 (pc : Nat) (e : pt_E) (hf : pt_fe (pt_code 142) pc = some e) : pt_ck 142 pc e = true := by
  have hl := pt_fe_lt hf
  rw [show (pt_code 142).length = 1 from rfl] at hl
  exact pt_cks_use pt_k_142_0 (by omega) (by omega) hf
theorem pt_ka_143 (pc : Nat) (e : pt_E) (hf : pt_fe (pt_code 143) pc = some e) : pt_ck 143 pc e = true := by
  have hl := pt_fe_lt hf
  rw [show (pt_code 143).length = 1 from rfl] at hl
  exact pt_cks_use pt_k_143_0 (by omega) (by omega) hf
theorem pt_ka_144 (pc : Nat) (e : pt_E) (hf : pt_fe (pt_code 144) pc = some e) : pt_ck 144 pc e = true := by
  have hl := pt_fe_lt hf
  rw [show (pt_code 144).length = 1 from rfl] at hl
  exact pt_cks_use pt_k_144_0 (by omega) (by omega) hf
theorem pt_ka_145 (pc : Nat) (e : pt_E) (hf : pt_fe (pt_code 145) pc = some e) : pt_ck 145 pc e = true := by
  have hl := pt_fe_lt hf
  rw [show (pt_code 145).length = 1 from rfl] at hl
  exact pt_cks_use pt_k_145_0 (by omega) (by omega) hf
theorem pt_ka_146 (pc : Nat) (e : pt_E) (hf : pt_fe (pt_code 146) pc = some e) : pt_ck 146 pc e = true := by
  have hl := pt_fe_lt hf
  rw [show (pt_code 146).length = 1 from rfl] at hl
  exact pt_cks_use pt_k_146_0 (by omega) (by omega) hf
theorem pt_ka_147 (pc : Nat) (e : pt_E) (hf : pt_fe (pt_code 147) pc = some e) : pt_ck 147 pc e = true := by
  have hl := pt_fe_lt hf
  rw [show (pt_code 147).length = 1 from rfl] at hl
  exact pt_cks_use pt_k_147_0 (by omega) (by omega) hf
theorem pt_ka_148 (pc : Nat) (e : pt_E) (hf : pt_fe (pt_code 148) pc = some e) : pt_ck 148 pc e = true := by
  have hl := pt_fe_lt hf
  rw [show (pt_code 148).length = 1 from rfl] at hl
  exact pt_cks_use pt_k_148_0 (by omega) (by omega) hf
theorem pt_ka_149 (pc : Nat) (e : pt_E) (hf : pt_fe (pt_code 149) pc = some e) : pt_ck 149 pc e = true := by
  have hl := pt_fe_lt hf
  rw [show (pt_code 149).length = 1 from rfl] at hl
  exact pt_cks_use pt_k_149_0 (by omega) (by omega) hf
theorem pt_ka_150 (pc : Nat) (e : pt_E) (hf : pt_fe (pt_code 150) pc = some e) : pt_ck 150 pc e = true := by
  have hl := pt_fe_lt hf
  rw [show (pt_code 150).length = 1 from rfl] at hl
  exact pt_cks_use pt_k_150_0 (by omega) (by omega) hf
theorem pt_ka_151 (pc : Nat) (e : pt_E) (hf : pt_fe (pt_code 151) pc = some e) : pt_ck 151 pc e = true := by
  have hl := pt_fe_lt hf
  rw [show (pt_code 151).length = 1 from rfl] at hl
  exact pt_cks_use pt_k_151_0 (by omega) (by omega) hf
theorem pt_ka_152 (pc : Nat) (e : pt_E) (hf : pt_fe (pt_code 152) pc = some e) : pt_ck 152 pc e = true := by
  have hl := pt_fe_lt hf
  rw [show (pt_code 152).length = 1 from rfl] at hl
  exact pt_cks_use pt_k_152_0 (by omega) (by omega) hf
theorem pt_ka_153 (pc : Nat) (e : pt_E) (hf : pt_fe (pt_code 153) pc = some e) : pt_ck 153 pc e = true := by
  have hl := pt_fe_lt hf
  rw [show (pt_code 153).length = 1 from rfl] at hl
  exact pt_cks_use pt_k_153_0 (by omega) (by omega) hf
theorem pt_ka_154 (pc : Nat) (e : pt_E) (hf : pt_fe (pt_code 154) pc = some e) : pt_ck 154 pc e = true := by
  have hl := pt_fe_lt hf
  rw [show (pt_code 154).length = 1 from rfl] at hl
  exact pt_cks_use pt_k_154_0 (by omega) (by omega) hf
theorem pt_ka_155 (pc : Nat) (e : pt_E) (hf : pt_fe (pt_code 155) pc = some e) : pt_ck 155 pc e = true := by
  have hl := pt_fe_lt hf
  rw [show (pt_code 155).length = 1 from rfl] at hl
  exact pt_cks_use pt_k_155_0 (by omega) (by omega) hf
theorem pt_ka_156 (pc : Nat) (e : pt_E) (hf : pt_fe (pt_code 156) pc = some e) : pt_ck 156 pc e = true := by
  have hl := pt_fe_lt hf
  rw [show (pt_code 156).length = 1 from rfl] at hl
  exact pt_cks_use pt_k_156_0 (by omega) (by omega) hf
theorem pt_ka_157 (pc : Nat) (e : pt_E) (hf : pt_fe (pt_code 157) pc = some e) : pt_ck 157 pc e = true := by
  have hl := pt_fe_lt hf
  rw [show (pt_code 157).length = 4 from rfl] at hl
  exact pt_cks_use pt_k_157_0 (by omega) (by omega) hf
theorem pt_ka_158 (pc : Nat) (e : pt_E) (hf : pt_fe (pt_code 158) pc = some e) : pt_ck 158 pc e = true := by
  have hl := pt_fe_lt hf
  rw [show (pt_code 158).length = 1 from rfl] at hl
  exact pt_cks_use pt_k_158_0 (by omega) (by omega) hf
theorem pt_ka_159 (pc : Nat) (e : pt_E) (hf : pt_fe (pt_code 159) pc = some e) : pt_ck 159 pc e = true := by
  have hl := pt_fe_lt hf
  rw [show (pt_code 159).length = 1 from rfl] at hl
  exact pt_cks_use pt_k_159_0 (by omega) (by omega) hf
theorem pt_ka_160 (pc : Nat) (e : pt_E) (hf : pt_fe (pt_code 160) pc = some e) : pt_ck 160 pc e = true := by
  have hl := pt_fe_lt hf
  rw [show (pt_code 160).length = 1 from rfl] at hl
  exact pt_cks_use pt_k_160_0 (by omega) (by omega) hf
theorem pt_ka_161 (pc : Nat) (e : pt_E) (hf : pt_fe (pt_code 161) pc = some e) : pt_ck 161 pc e = true := by
  have hl := pt_fe_lt hf
  rw [show (pt_code 161).length = 1 from rfl] at hl
  exact pt_cks_use pt_k_161_0 (by omega) (by omega) hf
theorem pt_ka_162 (pc : Nat) (e : pt_E) (hf : pt_fe (pt_code 162) pc = some e) : pt_ck 162 pc e = true := by
  have hl := pt_fe_lt hf
  rw [show (pt_code 162).length = 1 from rfl] at hl
  exact pt_cks_use pt_k_162_0 (by omega) (by omega) hf
theorem pt_ka_163 (pc : Nat) (e : pt_E) (hf : pt_fe (pt_code 163) pc = some e) : pt_ck 163 pc e = true := by
  have hl := pt_fe_lt hf
  rw [show (pt_code 163).length = 1 from rfl] at hl
  exact pt_cks_use pt_k_163_0 (by omega) (by omega) hf
theorem pt_ka_164 (pc : Nat) (e : pt_E) (hf : pt_fe (pt_code 164) pc = some e) : pt_ck 164 pc e = true := by
  have hl := pt_fe_lt hf
  rw [show (pt_code 164).length = 1 from rfl] at hl
  exact pt_cks_use pt_k_164_0 (by omega) (by omega) hf
theorem pt_ka_165 (pc : Nat) (e : pt_E) (hf : pt_fe (pt_code 165) pc = some e) : pt_ck 165 pc e = true := by
  have hl := pt_fe_lt hf
  rw [show (pt_code 165).length = 1 from rfl] at hl
  exact pt_cks_use pt_k_165_0 (by omega) (by omega) hf
theorem pt_ka_166 (pc : Nat) (e : pt_E) (hf : pt_fe (pt_code 166) pc = some e) : pt_ck 166 pc e = true := by
  have hl := pt_fe_lt hf
  rw [show (pt_code 166).length = 1 from rfl] at hl
  exact pt_cks_use pt_k_166_0 (by omega) (by omega) hf
theorem pt_ka_167 (pc : Nat) (e : pt_E) (hf : pt_fe (pt_code 167) pc = some e) : pt_ck 167 pc e = true := by
  have hl := pt_fe_lt hf
  rw [show (pt_code 167).length = 1 from rfl] at hl
  exact pt_cks_use pt_k_167_0 (by omega) (by omega) hf
theorem pt_ka_168 (pc : Nat) (e : pt_E) (hf : pt_fe (pt_code 168) pc = some e) : pt_ck 168 pc e = true := by
  have hl := pt_fe_lt hf
  rw [show (pt_code 168).length = 1 from rfl] at hl
  exact pt_cks_use pt_k_168_0 (by omega) (by omega) hf
theorem pt_ka_169 (pc : Nat) (e : pt_E) (hf : pt_fe (pt_code 169) pc = some e) : pt_ck 169 pc e = true := by
  have hl := pt_fe_lt hf
  rw [show (pt_code 169).length = 1 from rfl] at hl
  exact pt_cks_use pt_k_169_0 (by omega) (by omega) hf
theorem pt_ka_170 (pc : Nat) (e : pt_E) (hf : pt_fe (pt_code 170) pc = some e) : pt_ck 170 pc e = true := by
  have hl := pt_fe_lt hf
  rw [show (pt_code 170).length = 2 from rfl] at hl
  exact pt_cks_use pt_k_170_0 (by omega) (by omega) hf
theorem pt_ka_171 (pc : Nat) (e : pt_E) (hf : pt_fe (pt_code 171) pc = some e) : pt_ck 171 pc e = true := by
  have hl := pt_fe_lt hf
  rw [show (pt_code 171).length = 1 from rfl] at hl
  exact pt_cks_use pt_k_171_0 (by omega) (by omega) hf
theorem pt_ka_172 (pc : Nat) (e : pt_E) (hf : pt_fe (pt_code 172) pc = some e) : pt_ck 172 pc e = true := by
  have hl := pt_fe_lt hf
  rw [show (pt_code 172).length = 6 from rfl] at hl
  exact pt_cks_use pt_k_172_0 (by omega) (by omega) hf
theorem pt_ka_173 (pc : Nat) (e : pt_E) (hf : pt_fe (pt_code 173) pc = some e) : pt_ck 173 pc e = true := by
  have hl := pt_fe_lt hf
  rw [show (pt_code 173).length = 7 from rfl] at hl
  exact pt_cks_use pt_k_173_0 (by omega) (by omega) hf
theorem pt_ka_174 (pc : Nat) (e : pt_E) (hf : pt_fe (pt_code 174) pc = some e) : pt_ck 174 pc e = true := by
  have hl := pt_fe_lt hf
  rw [show (pt_code 174).length = 20 from rfl] at hl
  rcases Nat.lt_or_ge pc 160 with h0 | h0
  · exact pt_cks_use pt_k_174_0 (by omega) h0 hf
  exact pt_cks_use pt_k_174_160 (by omega) (by omega) hf
theorem pt_ka_175 (pc : Nat) (e : pt_E) (hf : pt_fe (pt_code 175) pc = some e) : pt_ck 175 pc e = true := by
  have hl := pt_fe_lt hf
  rw [show (pt_code 175).length = 12 from rfl] at hl
  rcases Nat.lt_or_ge pc 160 with h0 | h0
  · exact pt_cks_use pt_k_175_0 (by omega) h0 hf
  exact pt_cks_use pt_k_175_160 (by omega) (by omega) hf
theorem pt_ka_176 (pc : Nat) (e : pt_E) (hf : pt_fe (pt_code 176) pc = some e) : pt_ck 176 pc e = true := by
  have hl := pt_fe_lt hf
  rw [show (pt_code 176).length = 43 from rfl] at hl
  rcases Nat.lt_or_ge pc 160 with h0 | h0
  · exact pt_cks_use pt_k_176_0 (by omega) h0 hf
  rcases Nat.lt_or_ge pc 320 with h160 | h160
  · exact pt_cks_use pt_k_176_160 (by omega) h160 hf
  rcases Nat.lt_or_ge pc 480 with h320 | h320
  · exact pt_cks_use pt_k_176_320 (by omega) h320 hf
  rcases Nat.lt_or_ge pc 640 with h480 | h480
  · exact pt_cks_use pt_k_176_480 (by omega) h480 hf
  exact pt_cks_use pt_k_176_640 (by omega) (by omega) hf
theorem pt_ka_177 (pc : Nat) (e : pt_E) (hf : pt_fe (pt_code 177) pc = some e) : pt_ck 177 pc e = true := by
  have hl := pt_fe_lt hf
  rw [show (pt_code 177).length = 18 from rfl] at hl
  rcases Nat.lt_or_ge pc 160 with h0 | h0
  · exact pt_cks_use pt_k_177_0 (by omega) h0 hf
  exact pt_cks_use pt_k_177_160 (by omega) (by omega) hf
theorem pt_ka_178 (pc : Nat) (e : pt_E) (hf : pt_fe (pt_code 178) pc = some e) : pt_ck 178 pc e = true := by
  have hl := pt_fe_lt hf
  rw [show (pt_code 178).length = 26 from rfl] at hl
  rcases Nat.lt_or_ge pc 160 with h0 | h0
  · exact pt_cks_use pt_k_178_0 (by omega) h0 hf
  rcases Nat.lt_or_ge pc 320 with h160 | h160
  · exact pt_cks_use pt_k_178_160 (by omega) h160 hf
  exact pt_cks_use pt_k_178_320 (by omega) (by omega) hf
theorem pt_ka_179 (pc : Nat) (e : pt_E) (hf : pt_fe (pt_code 179) pc = some e) : pt_ck 179 pc e = true := by
  have hl := pt_fe_lt hf
  rw [show (pt_code 179).length = 16 from rfl] at hl
  rcases Nat.lt_or_ge pc 96 with h0 | h0
  · exact pt_cks_use pt_k_179_0 (by omega) h0 hf
  rcases Nat.lt_or_ge pc 192 with h96 | h96
  · exact pt_cks_use pt_k_179_96 (by omega) h96 hf
  exact pt_cks_use pt_k_179_192 (by omega) (by omega) hf
theorem pt_ck_ok (k pc : Nat) (e : pt_E) (hf : pt_fetch k pc = some e) : pt_ck k pc e = true := by
  have hf : pt_fe (pt_code k) pc = some e := hf
  rcases Nat.lt_or_ge k 180 with h180 | h180
  · rcases Nat.lt_or_ge k 90 with h | h
    · rcases Nat.lt_or_ge k 45 with h | h
      · rcases Nat.lt_or_ge k 22 with h | h
        · rcases Nat.lt_or_ge k 11 with h | h
          · rcases Nat.lt_or_ge k 5 with h | h
            · rcases Nat.lt_or_ge k 2 with h | h
              · rcases Nat.lt_or_ge k 1 with h | h
                · obtain rfl : k = 0 := by omega
                  exact pt_ka_0 pc e hf
                · obtain rfl : k = 1 := by omega
                  exact pt_ka_1 pc e hf
              · rcases Nat.lt_or_ge k 3 with h | h
                · obtain rfl : k = 2 := by omega
                  exact pt_ka_2 pc e hf
                · rcases Nat.lt_or_ge k 4 with h | h
                  · obtain rfl : k = 3 := by omega
                    exact pt_ka_3 pc e hf
                  · obtain rfl : k = 4 := by omega
                    exact pt_ka_4 pc e hf
            · rcases Nat.lt_or_ge k 8 with h | h
              · rcases Nat.lt_or_ge k 6 with h | h
                · obtain rfl : k = 5 := by omega
                  exact pt_ka_5 pc e hf
                · rcases Nat.lt_or_ge k 7 with h | h
                  · obtain rfl : k = 6 := by omega
                    exact pt_ka_6 pc e hf
                  · obtain rfl : k = 7 := by omega
                    exact pt_ka_7 pc e hf
              · rcases Nat.lt_or_ge k 9 with h | h
                · obtain rfl : k = 8 := by omega
                  exact pt_ka_8 pc e hf
                · rcases Nat.lt_or_ge k 10 with h | h
                  · obtain rfl : k = 9 := by omega
                    exact pt_ka_9 pc e hf
                  · obtain rfl : k = 10 := by omega
                    exact pt_ka_10 pc e hf
          · rcases Nat.lt_or_ge k 16 with h | h
            · rcases Nat.lt_or_ge k 13 with h | h
              · rcases Nat.lt_or_ge k 12 with h | h
                · obtain rfl : k = 11 := by omega
                  exact pt_ka_11 pc e hf
                · obtain rfl : k = 12 := by omega
                  exact pt_ka_12 pc e hf
              · rcases Nat.lt_or_ge k 14 with h | h
                · obtain rfl : k = 13 := by omega
                  exact pt_ka_13 pc e hf
                · rcases Nat.lt_or_ge k 15 with h | h
                  · obtain rfl : k = 14 := by omega
                    exact pt_ka_14 pc e hf
                  · obtain rfl : k = 15 := by omega
                    exact pt_ka_15 pc e hf
            · rcases Nat.lt_or_ge k 19 with h | h
              · rcases Nat.lt_or_ge k 17 with h | h
                · obtain rfl : k = 16 := by omega
                  exact pt_ka_16 pc e hf
                · rcases Nat.lt_or_ge k 18 with h | h
                  · obtain rfl : k = 17 := by omega
                    exact pt_ka_17 pc e hf
                  · obtain rfl : k = 18 := by omega
                    exact pt_ka_18 pc e hf
              · rcases Nat.lt_or_ge k 20 with h | h
                · obtain rfl : k = 19 := by omega
                  exact pt_ka_19 pc e hf
                · rcases Nat.lt_or_ge k 21 with h | h
                  · obtain rfl : k = 20 := by omega
                    exact pt_ka_20 pc e hf
                  · obtain rfl : k = 21 := by omega
                    exact pt_ka_21 pc e hf
        · rcases Nat.lt_or_ge k 33 with h | h
          · rcases Nat.lt_or_ge k 27 with h | h
            · rcases Nat.lt_or_ge k 24 with h | h
              · rcases Nat.lt_or_ge k 23 with h | h
                · obtain rfl : k = 22 := by omega
                  exact pt_ka_22 pc e hf
                · obtain rfl : k = 23 := by omega
                  exact pt_ka_23 pc e hf
              · rcases Nat.lt_or_ge k 25 with h | h
                · obtain rfl : k = 24 := by omega
                  exact pt_ka_24 pc e hf
                · rcases Nat.lt_or_ge k 26 with h | h
                  · obtain rfl : k = 25 := by omega
                    exact pt_ka_25 pc e hf
                  · obtain rfl : k = 26 := by omega
                    exact pt_ka_26 pc e hf
            · rcases Nat.lt_or_ge k 30 with h | h
              · rcases Nat.lt_or_ge k 28 with h | h
                · obtain rfl : k = 27 := by omega
                  exact pt_ka_27 pc e hf
                · rcases Nat.lt_or_ge k 29 with h | h
                  · obtain rfl : k = 28 := by omega
                    exact pt_ka_28 pc e hf
                  · obtain rfl : k = 29 := by omega
                    exact pt_ka_29 pc e hf
              · rcases Nat.lt_or_ge k 31 with h | h
                · obtain rfl : k = 30 := by omega
                  exact pt_ka_30 pc e hf
                · rcases Nat.lt_or_ge k 32 with h | h
                  · obtain rfl : k = 31 := by omega
                    exact pt_ka_31 pc e hf
                  · obtain rfl : k = 32 := by omega
                    exact pt_ka_32 pc e hf
          · rcases Nat.lt_or_ge k 39 with h | h
            · rcases Nat.lt_or_ge k 36 with h | h
              · rcases Nat.lt_or_ge k 34 with h | h
                · obtain rfl : k = 33 := by omega
                  exact pt_ka_33 pc e hf
                · rcases Nat.lt_or_ge k 35 with h | h
                  · obtain rfl : k = 34 := by omega
                    exact pt_ka_34 pc e hf
                  · obtain rfl : k = 35 := by omega
                    exact pt_ka_35 pc e hf
              · rcases Nat.lt_or_ge k 37 with h | h
                · obtain rfl : k = 36 := by omega
                  exact pt_ka_36 pc e hf
                · rcases Nat.lt_or_ge k 38 with h | h
                  · obtain rfl : k = 37 := by omega
                    exact pt_ka_37 pc e hf
                  · obtain rfl : k = 38 := by omega
                    exact pt_ka_38 pc e hf
            · rcases Nat.lt_or_ge k 42 with h | h
              · rcases Nat.lt_or_ge k 40 with h | h
                · obtain rfl : k = 39 := by omega
                  exact pt_ka_39 pc e hf
                · rcases Nat.lt_or_ge k 41 with h | h
                  · obtain rfl : k = 40 := by omega
                    exact pt_ka_40 pc e hf
                  · obtain rfl : k = 41 := by omega
                    exact pt_ka_41 pc e hf
              · rcases Nat.lt_or_ge k 43 with h | h
                · obtain rfl : k = 42 := by omega
                  exact pt_ka_42 pc e hf
                · rcases Nat.lt_or_ge k 44 with h | h
                  · obtain rfl : k = 43 := by omega
                    exact pt_ka_43 pc e hf
                  · obtain rfl : k = 44 := by omega
                    exact pt_ka_44 pc e hf
      · rcases Nat.lt_or_ge k 67 with h | h
        · rcases Nat.lt_or_ge k 56 with h | h
          · rcases Nat.lt_or_ge k 50 with h | h
            · rcases Nat.lt_or_ge k 47 with h | h
              · rcases Nat.lt_or_ge k 46 with h | h
                · obtain rfl : k = 45 := by omega
                  exact pt_ka_45 pc e hf
                · obtain rfl : k = 46 := by omega
                  exact pt_ka_46 pc e hf
              · rcases Nat.lt_or_ge k 48 with h | h
                · obtain rfl : k = 47 := by omega
                  exact pt_ka_47 pc e hf
                · rcases Nat.lt_or_ge k 49 with h | h
                  · obtain rfl : k = 48 := by omega
                    exact pt_ka_48 pc e hf
                  · obtain rfl : k = 49 := by omega
                    exact pt_ka_49 pc e hf
            · rcases Nat.lt_or_ge k 53 with h | h
              · rcases Nat.lt_or_ge k 51 with h | h
                · obtain rfl : k = 50 := by omega
                  exact pt_ka_50 pc e hf
                · rcases Nat.lt_or_ge k 52 with h | h
                  · obtain rfl : k = 51 := by omega
                    exact pt_ka_51 pc e hf
                  · obtain rfl : k = 52 := by omega
                    exact pt_ka_52 pc e hf
              · rcases Nat.lt_or_ge k 54 with h | h
                · obtain rfl : k = 53 := by omega
                  exact pt_ka_53 pc e hf
                · rcases Nat.lt_or_ge k 55 with h | h
                  · obtain rfl : k = 54 := by omega
                    exact pt_ka_54 pc e hf
                  · obtain rfl : k = 55 := by omega
                    exact pt_ka_55 pc e hf
          · rcases Nat.lt_or_ge k 61 with h | h
            · rcases Nat.lt_or_ge k 58 with h | h
              · rcases Nat.lt_or_ge k 57 with h | h
                · obtain rfl : k = 56 := by omega
                  exact pt_ka_56 pc e hf
                · obtain rfl : k = 57 := by omega
                  exact pt_ka_57 pc e hf
              · rcases Nat.lt_or_ge k 59 with h | h
                · obtain rfl : k = 58 := by omega
                  exact pt_ka_58 pc e hf
                · rcases Nat.lt_or_ge k 60 with h | h
                  · obtain rfl : k = 59 := by omega
                    exact pt_ka_59 pc e hf
                  · obtain rfl : k = 60 := by omega
                    exact pt_ka_60 pc e hf
            · rcases Nat.lt_or_ge k 64 with h | h
              · rcases Nat.lt_or_ge k 62 with h | h
                · obtain rfl : k = 61 := by omega
                  exact pt_ka_61 pc e hf
                · rcases Nat.lt_or_ge k 63 with h | h
                  · obtain rfl : k = 62 := by omega
                    exact pt_ka_62 pc e hf
                  · obtain rfl : k = 63 := by omega
                    exact pt_ka_63 pc e hf
              · rcases Nat.lt_or_ge k 65 with h | h
                · obtain rfl : k = 64 := by omega
                  exact pt_ka_64 pc e hf
                · rcases Nat.lt_or_ge k 66 with h | h
                  · obtain rfl : k = 65 := by omega
                    exact pt_ka_65 pc e hf
                  · obtain rfl : k = 66 := by omega
                    exact pt_ka_66 pc e hf
        · rcases Nat.lt_or_ge k 78 with h | h
          · rcases Nat.lt_or_ge k 72 with h | h
            · rcases Nat.lt_or_ge k 69 with h | h
              · rcases Nat.lt_or_ge k 68 with h | h
                · obtain rfl : k = 67 := by omega
                  exact pt_ka_67 pc e hf
                · obtain rfl : k = 68 := by omega
                  exact pt_ka_68 pc e hf
              · rcases Nat.lt_or_ge k 70 with h | h
                · obtain rfl : k = 69 := by omega
                  exact pt_ka_69 pc e hf
                · rcases Nat.lt_or_ge k 71 with h | h
                  · obtain rfl : k = 70 := by omega
                    exact pt_ka_70 pc e hf
                  · obtain rfl : k = 71 := by omega
                    exact pt_ka_71 pc e hf
            · rcases Nat.lt_or_ge k 75 with h | h
              · rcases Nat.lt_or_ge k 73 with h | h
                · obtain rfl : k = 72 := by omega
                  exact pt_ka_72 pc e hf
                · rcases Nat.lt_or_ge k 74 with h | h
                  · obtain rfl : k = 73 := by omega
                    exact pt_ka_73 pc e hf
                  · obtain rfl : k = 74 := by omega
                    exact pt_ka_74 pc e hf
              · rcases Nat.lt_or_ge k 76 with h | h
                · obtain rfl : k = 75 := by omega
                  exact pt_ka_75 pc e hf
                · rcases Nat.lt_or_ge k 77 with h | h
                  · obtain rfl : k = 76 := by omega
                    exact pt_ka_76 pc e hf
                  · obtain rfl : k = 77 := by omega
                    exact pt_ka_77 pc e hf
          · rcases Nat.lt_or_ge k 84 with h | h
            · rcases Nat.lt_or_ge k 81 with h | h
              · rcases Nat.lt_or_ge k 79 with h | h
                · obtain rfl : k = 78 := by omega
                  exact pt_ka_78 pc e hf
                · rcases Nat.lt_or_ge k 80 with h | h
                  · obtain rfl : k = 79 := by omega
                    exact pt_ka_79 pc e hf
                  · obtain rfl : k = 80 := by omega
                    exact pt_ka_80 pc e hf
              · rcases Nat.lt_or_ge k 82 with h | h
                · obtain rfl : k = 81 := by omega
                  exact pt_ka_81 pc e hf
                · rcases Nat.lt_or_ge k 83 with h | h
                  · obtain rfl : k = 82 := by omega
                    exact pt_ka_82 pc e hf
                  · obtain rfl : k = 83 := by omega
                    exact pt_ka_83 pc e hf
            · rcases Nat.lt_or_ge k 87 with h | h
              · rcases Nat.lt_or_ge k 85 with h | h
                · obtain rfl : k = 84 := by omega
                  exact pt_ka_84 pc e hf
                · rcases Nat.lt_or_ge k 86 with h | h
                  · obtain rfl : k = 85 := by omega
                    exact pt_ka_85 pc e hf
                  · obtain rfl : k = 86 := by omega
                    exact pt_ka_86 pc e hf
              · rcases Nat.lt_or_ge k 88 with h | h
                · obtain rfl : k = 87 := by omega
                  exact pt_ka_87 pc e hf
                · rcases Nat.lt_or_ge k 89 with h | h
                  · obtain rfl : k = 88 := by omega
                    exact pt_ka_88 pc e hf
                  · obtain rfl : k = 89 := by omega
                    exact pt_ka_89 pc e hf
    · rcases Nat.lt_or_ge k 135 with h | h
      · rcases Nat.lt_or_ge k 112 with h | h
        · rcases Nat.lt_or_ge k 101 with h | h
          · rcases Nat.lt_or_ge k 95 with h | h
            · rcases Nat.lt_or_ge k 92 with h | h
              · rcases Nat.lt_or_ge k 91 with h | h
                · obtain rfl : k = 90 := by omega
                  exact pt_ka_90 pc e hf
                · obtain rfl : k = 91 := by omega
                  exact pt_ka_91 pc e hf
              · rcases Nat.lt_or_ge k 93 with h | h
                · obtain rfl : k = 92 := by omega
                  exact pt_ka_92 pc e hf
                · rcases Nat.lt_or_ge k 94 with h | h
                  · obtain rfl : k = 93 := by omega
                    exact pt_ka_93 pc e hf
                  · obtain rfl : k = 94 := by omega
                    exact pt_ka_94 pc e hf
            · rcases Nat.lt_or_ge k 98 with h | h
              · rcases Nat.lt_or_ge k 96 with h | h
                · obtain rfl : k = 95 := by omega
                  exact pt_ka_95 pc e hf
                · rcases Nat.lt_or_ge k 97 with h | h
                  · obtain rfl : k = 96 := by omega
                    exact pt_ka_96 pc e hf
                  · obtain rfl : k = 97 := by omega
                    exact pt_ka_97 pc e hf
              · rcases Nat.lt_or_ge k 99 with h | h
                · obtain rfl : k = 98 := by omega
                  exact pt_ka_98 pc e hf
                · rcases Nat.lt_or_ge k 100 with h | h
                  · obtain rfl : k = 99 := by omega
                    exact pt_ka_99 pc e hf
                  · obtain rfl : k = 100 := by omega
                    exact pt_ka_100 pc e hf
          · rcases Nat.lt_or_ge k 106 with h | h
            · rcases Nat.lt_or_ge k 103 with h | h
              · rcases Nat.lt_or_ge k 102 with h | h
                · obtain rfl : k = 101 := by omega
                  exact pt_ka_101 pc e hf
                · obtain rfl : k = 102 := by omega
                  exact pt_ka_102 pc e hf
              · rcases Nat.lt_or_ge k 104 with h | h
                · obtain rfl : k = 103 := by omega
                  exact pt_ka_103 pc e hf
                · rcases Nat.lt_or_ge k 105 with h | h
                  · obtain rfl : k = 104 := by omega
                    exact pt_ka_104 pc e hf
                  · obtain rfl : k = 105 := by omega
                    exact pt_ka_105 pc e hf
            · rcases Nat.lt_or_ge k 109 with h | h
              · rcases Nat.lt_or_ge k 107 with h | h
                · obtain rfl : k = 106 := by omega
                  exact pt_ka_106 pc e hf
                · rcases Nat.lt_or_ge k 108 with h | h
                  · obtain rfl : k = 107 := by omega
                    exact pt_ka_107 pc e hf
                  · obtain rfl : k = 108 := by omega
                    exact pt_ka_108 pc e hf
              · rcases Nat.lt_or_ge k 110 with h | h
                · obtain rfl : k = 109 := by omega
                  exact pt_ka_109 pc e hf
                · rcases Nat.lt_or_ge k 111 with h | h
                  · obtain rfl : k = 110 := by omega
                    exact pt_ka_110 pc e hf
                  · obtain rfl : k = 111 := by omega
                    exact pt_ka_111 pc e hf
        · rcases Nat.lt_or_ge k 123 with h | h
          · rcases Nat.lt_or_ge k 117 with h | h
            · rcases Nat.lt_or_ge k 114 with h | h
              · rcases Nat.lt_or_ge k 113 with h | h
                · obtain rfl : k = 112 := by omega
                  exact pt_ka_112 pc e hf
                · obtain rfl : k = 113 := by omega
                  exact pt_ka_113 pc e hf
              · rcases Nat.lt_or_ge k 115 with h | h
                · obtain rfl : k = 114 := by omega
                  exact pt_ka_114 pc e hf
                · rcases Nat.lt_or_ge k 116 with h | h
                  · obtain rfl : k = 115 := by omega
                    exact pt_ka_115 pc e hf
                  · obtain rfl : k = 116 := by omega
                    exact pt_ka_116 pc e hf
            · rcases Nat.lt_or_ge k 120 with h | h
              · rcases Nat.lt_or_ge k 118 with h | h
                · obtain rfl : k = 117 := by omega
                  exact pt_ka_117 pc e hf
                · rcases Nat.lt_or_ge k 119 with h | h
                  · obtain rfl : k = 118 := by omega
                    exact pt_ka_118 pc e hf
                  · obtain rfl : k = 119 := by omega
                    exact pt_ka_119 pc e hf
              · rcases Nat.lt_or_ge k 121 with h | h
                · obtain rfl : k = 120 := by omega
                  exact pt_ka_120 pc e hf
                · rcases Nat.lt_or_ge k 122 with h | h
                  · obtain rfl : k = 121 := by omega
                    exact pt_ka_121 pc e hf
                  · obtain rfl : k = 122 := by omega
                    exact pt_ka_122 pc e hf
          · rcases Nat.lt_or_ge k 129 with h | h
            · rcases Nat.lt_or_ge k 126 with h | h
              · rcases Nat.lt_or_ge k 124 with h | h
                · obtain rfl : k = 123 := by omega
                  exact pt_ka_123 pc e hf
                · rcases Nat.lt_or_ge k 125 with h | h
                  · obtain rfl : k = 124 := by omega
                    exact pt_ka_124 pc e hf
                  · obtain rfl : k = 125 := by omega
                    exact pt_ka_125 pc e hf
              · rcases Nat.lt_or_ge k 127 with h | h
                · obtain rfl : k = 126 := by omega
                  exact pt_ka_126 pc e hf
                · rcases Nat.lt_or_ge k 128 with h | h
                  · obtain rfl : k = 127 := by omega
                    exact pt_ka_127 pc e hf
                  · obtain rfl : k = 128 := by omega
                    exact pt_ka_128 pc e hf
            · rcases Nat.lt_or_ge k 132 with h | h
              · rcases Nat.lt_or_ge k 130 with h | h
                · obtain rfl : k = 129 := by omega
                  exact pt_ka_129 pc e hf
                · rcases Nat.lt_or_ge k 131 with h | h
                  · obtain rfl : k = 130 := by omega
                    exact pt_ka_130 pc e hf
                  · obtain rfl : k = 131 := by omega
                    exact pt_ka_131 pc e hf
              · rcases Nat.lt_or_ge k 133 with h | h
                · obtain rfl : k = 132 := by omega
                  exact pt_ka_132 pc e hf
                · rcases Nat.lt_or_ge k 134 with h | h
                  · obtain rfl : k = 133 := by omega
                    exact pt_ka_133 pc e hf
                  · obtain rfl : k = 134 := by omega
                    exact pt_ka_134 pc e hf
      · rcases Nat.lt_or_ge k 157 with h | h
        · rcases Nat.lt_or_ge k 146 with h | h
          · rcases Nat.lt_or_ge k 140 with h | h
            · rcases Nat.lt_or_ge k 137 with h | h
              · rcases Nat.lt_or_ge k 136 with h | h
                · obtain rfl : k = 135 := by omega
                  exact pt_ka_135 pc e hf
                · obtain rfl : k = 136 := by omega
                  exact pt_ka_136 pc e hf
              · rcases Nat.lt_or_ge k 138 with h | h
                · obtain rfl : k = 137 := by omega
                  exact pt_ka_137 pc e hf
                · rcases Nat.lt_or_ge k 139 with h | h
                  · obtain rfl : k = 138 := by omega
                    exact pt_ka_138 pc e hf
                  · obtain rfl : k = 139 := by omega
                    exact pt_ka_139 pc e hf
            · rcases Nat.lt_or_ge k 143 with h | h
              · rcases Nat.lt_or_ge k 141 with h | h
                · obtain rfl : k = 140 := by omega
                  exact pt_ka_140 pc e hf
                · rcases Nat.lt_or_ge k 142 with h | h
                  · obtain rfl : k = 141 := by omega
                    exact pt_ka_141 pc e hf
                  · obtain rfl : k = 142 := by omega
                    exact pt_ka_142 pc e hf
              · rcases Nat.lt_or_ge k 144 with h | h
                · obtain rfl : k = 143 := by omega
                  exact pt_ka_143 pc e hf
                · rcases Nat.lt_or_ge k 145 with h | h
                  · obtain rfl : k = 144 := by omega
                    exact pt_ka_144 pc e hf
                  · obtain rfl : k = 145 := by omega
                    exact pt_ka_145 pc e hf
          · rcases Nat.lt_or_ge k 151 with h | h
            · rcases Nat.lt_or_ge k 148 with h | h
              · rcases Nat.lt_or_ge k 147 with h | h
                · obtain rfl : k = 146 := by omega
                  exact pt_ka_146 pc e hf
                · obtain rfl : k = 147 := by omega
                  exact pt_ka_147 pc e hf
              · rcases Nat.lt_or_ge k 149 with h | h
                · obtain rfl : k = 148 := by omega
                  exact pt_ka_148 pc e hf
                · rcases Nat.lt_or_ge k 150 with h | h
                  · obtain rfl : k = 149 := by omega
                    exact pt_ka_149 pc e hf
                  · obtain rfl : k = 150 := by omega
                    exact pt_ka_150 pc e hf
            · rcases Nat.lt_or_ge k 154 with h | h
              · rcases Nat.lt_or_ge k 152 with h | h
                · obtain rfl : k = 151 := by omega
                  exact pt_ka_151 pc e hf
                · rcases Nat.lt_or_ge k 153 with h | h
                  · obtain rfl : k = 152 := by omega
                    exact pt_ka_152 pc e hf
                  · obtain rfl : k = 153 := by omega
                    exact pt_ka_153 pc e hf
              · rcases Nat.lt_or_ge k 155 with h | h
                · obtain rfl : k = 154 := by omega
                  exact pt_ka_154 pc e hf
                · rcases Nat.lt_or_ge k 156 with h | h
                  · obtain rfl : k = 155 := by omega
                    exact pt_ka_155 pc e hf
                  · obtain rfl : k = 156 := by omega
                    exact pt_ka_156 pc e hf
        · rcases Nat.lt_or_ge k 168 with h | h
          · rcases Nat.lt_or_ge k 162 with h | h
            · rcases Nat.lt_or_ge k 159 with h | h
              · rcases Nat.lt_or_ge k 158 with h | h
                · obtain rfl : k = 157 := by omega
                  exact pt_ka_157 pc e hf
                · obtain rfl : k = 158 := by omega
                  exact pt_ka_158 pc e hf
              · rcases Nat.lt_or_ge k 160 with h | h
                · obtain rfl : k = 159 := by omega
                  exact pt_ka_159 pc e hf
                · rcases Nat.lt_or_ge k 161 with h | h
                  · obtain rfl : k = 160 := by omega
                    exact pt_ka_160 pc e hf
                  · obtain rfl : k = 161 := by omega
                    exact pt_ka_161 pc e hf
            · rcases Nat.lt_or_ge k 165 with h | h
              · rcases Nat.lt_or_ge k 163 with h | h
                · obtain rfl : k = 162 := by omega
                  exact pt_ka_162 pc e hf
                · rcases Nat.lt_or_ge k 164 with h | h
                  · obtain rfl : k = 163 := by omega
                    exact pt_ka_163 pc e hf
                  · obtain rfl : k = 164 := by omega
                    exact pt_ka_164 pc e hf
              · rcases Nat.lt_or_ge k 166 with h | h
                · obtain rfl : k = 165 := by omega
                  exact pt_ka_165 pc e hf
                · rcases Nat.lt_or_ge k 167 with h | h
                  · obtain rfl : k = 166 := by omega
                    exact pt_ka_166 pc e hf
                  · obtain rfl : k = 167 := by omega
                    exact pt_ka_167 pc e hf
          · rcases Nat.lt_or_ge k 174 with h | h
            · rcases Nat.lt_or_ge k 171 with h | h
              · rcases Nat.lt_or_ge k 169 with h | h
                · obtain rfl : k = 168 := by omega
                  exact pt_ka_168 pc e hf
                · rcases Nat.lt_or_ge k 170 with h | h
                  · obtain rfl : k = 169 := by omega
                    exact pt_ka_169 pc e hf
                  · obtain rfl : k = 170 := by omega
                    exact pt_ka_170 pc e hf
              · rcases Nat.lt_or_ge k 172 with h | h
                · obtain rfl : k = 171 := by omega
                  exact pt_ka_171 pc e hf
                · rcases Nat.lt_or_ge k 173 with h | h
                  · obtain rfl : k = 172 := by omega
                    exact pt_ka_172 pc e hf
                  · obtain rfl : k = 173 := by omega
                    exact pt_ka_173 pc e hf
            · rcases Nat.lt_or_ge k 177 with h | h
              · rcases Nat.lt_or_ge k 175 with h | h
                · obtain rfl : k = 174 := by omega
                  exact pt_ka_174 pc e hf
                · rcases Nat.lt_or_ge k 176 with h | h
                  · obtain rfl : k = 175 := by omega
                    exact pt_ka_175 pc e hf
                  · obtain rfl : k = 176 := by omega
                    exact pt_ka_176 pc e hf
              · rcases Nat.lt_or_ge k 178 with h | h
                · obtain rfl : k = 177 := by omega
                  exact pt_ka_177 pc e hf
                · rcases Nat.lt_or_ge k 179 with h | h
                  · obtain rfl : k = 178 := by omega
                    exact pt_ka_178 pc e hf
                  · obtain rfl : k = 179 := by omega
                    exact pt_ka_179 pc e hf
  · have h1 : Nat.ble 180 k = true := Nat.ble_eq_true_of_le h180
    rw [show pt_code k = [] by unfold pt_code; rw [h1]; rfl] at hf
    simp [pt_fe, pt_nth] at hf
