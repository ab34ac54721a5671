/-! The methods' code words. -/
def pt_wY (k : Nat) : Cond := match pt_hh k with
  | [] => .code (pt_nm k) (pt_by k) (pt_maxL k) (pt_rt k)
  | h :: t => .codeWith (pt_nm k) (pt_by k) (pt_maxL k) (pt_rt k) (h :: t)
set_option maxRecDepth 100000 in
theorem pt_wY_0 : pt_zip (fun k i => pt_at (pt_wY k) i) ((List.range 30).map (fun k => k + 0)) ((pt_clpC.drop 0).take 30) = true := by decide +kernel
set_option maxRecDepth 100000 in
theorem pt_wY_30 : pt_zip (fun k i => pt_at (pt_wY k) i) ((List.range 30).map (fun k => k + 30)) ((pt_clpC.drop 30).take 30) = true := by decide +kernel
set_option maxRecDepth 100000 in
theorem pt_wY_60 : pt_zip (fun k i => pt_at (pt_wY k) i) ((List.range 30).map (fun k => k + 60)) ((pt_clpC.drop 60).take 30) = true := by decide +kernel
set_option maxRecDepth 100000 in
theorem pt_wY_90 : pt_zip (fun k i => pt_at (pt_wY k) i) ((List.range 30).map (fun k => k + 90)) ((pt_clpC.drop 90).take 30) = true := by decide +kernel
set_option maxRecDepth 100000 in
theorem pt_wY_120 : pt_zip (fun k i => pt_at (pt_wY k) i) ((List.range 30).map (fun k => k + 120)) ((pt_clpC.drop 120).take 30) = true := by decide +kernel
set_option maxRecDepth 100000 in
theorem pt_wY_150 : pt_zip (fun k i => pt_at (pt_wY k) i) ((List.range 20).map (fun k => k + 150)) ((pt_clpC.drop 150).take 20) = true := by decide +kernel
theorem pt_at_rfl {w : Cond} {i : Nat} (h : lw_tbl[i]? = some w) (hg : goodWord w = true) : pt_at w i = true := by
  unfold pt_at
  rw [h, hg]
  simp
set_option maxRecDepth 100000 in
theorem pt_wYl_170 : pt_at (pt_wY 170) 390 = true := pt_at_rfl rfl rfl
set_option maxRecDepth 100000 in
theorem pt_wYl_171 : pt_at (pt_wY 171) 396 = true := pt_at_rfl rfl rfl
set_option maxRecDepth 100000 in
theorem pt_wYl_172 : pt_at (pt_wY 172) 487 = true := pt_at_rfl rfl rfl
set_option maxRecDepth 100000 in
theorem pt_wYl_173 : pt_at (pt_wY 173) 400 = true := pt_at_rfl rfl rfl
set_option maxRecDepth 100000 in
theorem pt_wYl_174 : pt_at (pt_wY 174) 393 = true := pt_at_rfl rfl rfl
set_option maxRecDepth 100000 in
theorem pt_wYl_175 : pt_at (pt_wY 175) 581 = true := pt_at_rfl rfl rfl
set_option maxRecDepth 100000 in
theorem pt_wYl_176 : pt_at (pt_wY 176) 605 = true := pt_at_rfl rfl rfl
set_option maxRecDepth 100000 in
theorem pt_wYl_177 : pt_at (pt_wY 177) 613 = true := pt_at_rfl rfl rfl
set_option maxRecDepth 100000 in
theorem pt_wYl_178 : pt_at (pt_wY 178) 621 = true := pt_at_rfl rfl rfl
theorem pt_wY_of {a n : Nat} {l : List Nat} (h : pt_zip (fun k i => pt_at (pt_wY k) i) ((List.range n).map (fun k => k + a)) l = true) {k : Nat} (h1 : a ≤ k) (h2 : k < a + n) : pt_wY k ∈ pt_W := by
  obtain ⟨i, hi⟩ := pt_zip_mem _ _ h k (List.mem_map.mpr ⟨k - a, List.mem_range.mpr (by omega), by omega⟩)
  exact pt_at_W hi
theorem pt_wY_ok (k : Nat) (h : k < 179) : pt_wY k ∈ pt_W := by
  rcases Nat.lt_or_ge k 30 with h30 | h30
  · exact pt_wY_of pt_wY_0 (by omega) (by omega)
  rcases Nat.lt_or_ge k 60 with h60 | h60
  · exact pt_wY_of pt_wY_30 (by omega) (by omega)
  rcases Nat.lt_or_ge k 90 with h90 | h90
  · exact pt_wY_of pt_wY_60 (by omega) (by omega)
  rcases Nat.lt_or_ge k 120 with h120 | h120
  · exact pt_wY_of pt_wY_90 (by omega) (by omega)
  rcases Nat.lt_or_ge k 150 with h150 | h150
  · exact pt_wY_of pt_wY_120 (by omega) (by omega)
  rcases Nat.lt_or_ge k 170 with h170 | h170
  · exact pt_wY_of pt_wY_150 (by omega) (by omega)
  obtain ⟨d, rfl⟩ := Nat.le.dest h170
  match d, h with
  | 0, _ => exact pt_at_W pt_wYl_170
  | 1, _ => exact pt_at_W pt_wYl_171
  | 2, _ => exact pt_at_W pt_wYl_172
  | 3, _ => exact pt_at_W pt_wYl_173
  | 4, _ => exact pt_at_W pt_wYl_174
  | 5, _ => exact pt_at_W pt_wYl_175
  | 6, _ => exact pt_at_W pt_wYl_176
  | 7, _ => exact pt_at_W pt_wYl_177
  | 8, _ => exact pt_at_W pt_wYl_178
  | d + 9, h => exact absurd h (by omega)
