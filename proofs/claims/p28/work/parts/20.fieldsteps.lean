/-! One step: fields, rows, new cells. -/
section
variable {p : Program} {l : Launch} {e : Env} {R : Room} {s : State} {m : MethodId} {args : Array Value} {below : List Frame} {meth : Method} {c : Code} {Q : State → Prop} {D : va_G} {cy : Nat → ClassId} {A : Nat → Prop} {k b x : Nat} {ad : pt_R → Nat} {dl : List pt_R} {μ μ' : pt_M} {H : Heap} {locs : List Loc} {cells slots : Nat} {ls : Array Slot} {L L' : pt_L} {st st' : List pt_V} {pc pc' n t : Nat}
theorem pt_In_put {X a Y q0 : Nat} {v : Value} {H1 : Heap} (hI : pt_In D cy A ad dl μ H) (hX : X < 10) (hY : Y < pt_len X) (h0 : dl[q0]? = some (X, a)) (hM : pt_okM μ') (hcn : ∀ q, pt_vd μ' q ↔ pt_vd μ q) (hv : pt_fv ad μ' X a Y = v) (hs : ∀ j', j' ≠ Y → pt_fv ad μ' X a j' = pt_fv ad μ X a j') (hc : ∀ q', q' ≠ (X, a) → pt_cell cy ad μ' q' = pt_cell cy ad μ q')
    (hP1 : va_P D vwCl ((pt_ws cy ad μ dl).set q0 (ad (X, a), .inr (X, ((List.range (pt_len X)).map (fun j => pt_fv ad μ X a j)).set Y v))) H1) (hD1 : va_D A ((pt_ws cy ad μ dl).set q0 (ad (X, a), .inr (X, ((List.range (pt_len X)).map (fun j => pt_fv ad μ X a j)).set Y v)))) : pt_In D cy A ad dl μ' H1 := by
  have he : (pt_ws cy ad μ dl).set q0 (ad (X, a), .inr (X, ((List.range (pt_len X)).map (fun j => pt_fv ad μ X a j)).set Y v)) = pt_ws cy ad μ' dl := by
    rw [pt_fs_set hY hv hs, ← pt_cell_obj (cy := cy) hX]
    exact pt_ws_set hI.2.1 h0 hc
  rw [he] at hP1 hD1
  exact ⟨hM, hI.2.1, fun q => (hI.2.2.1 q).trans (hcn q).symm, hP1, hD1⟩
theorem pt_In_ast {X a q0 : Nat} {u : (Nat → Int32) ⊕ (Nat → Int64) ⊕ (Nat → UInt32) ⊕ (Nat → UInt64) ⊕ (Nat → Option Nat)} {H1 : Heap} (hI : pt_In D cy A ad dl μ H) (hX : ¬ X < 10) (h0 : dl[q0]? = some (X, a)) (hM : pt_okM μ') (hcn : ∀ q, pt_vd μ' q ↔ pt_vd μ q) (hu : pt_row ad μ' X a = u) (hc : ∀ q', q' ≠ (X, a) → pt_cell cy ad μ' q' = pt_cell cy ad μ q')
    (hP1 : va_P D vwCl ((pt_ws cy ad μ dl).set q0 (ad (X, a), .inl (cy (pt_ti X), pt_len X, u))) H1) (hD1 : va_D A ((pt_ws cy ad μ dl).set q0 (ad (X, a), .inl (cy (pt_ti X), pt_len X, u)))) : pt_In D cy A ad dl μ' H1 := by
  have he : (pt_ws cy ad μ dl).set q0 (ad (X, a), .inl (cy (pt_ti X), pt_len X, u)) = pt_ws cy ad μ' dl := by
    rw [← hu, ← pt_cell_arr (cy := cy) hX]
    exact pt_ws_set hI.2.1 h0 hc
  rw [he] at hP1 hD1
  exact ⟨hM, hI.2.1, fun q => (hI.2.2.1 q).trans (hcn q).symm, hP1, hD1⟩
theorem pt_W_getf {j X Y : Nat} (C : pt_Cx p l R s m args meth c D cy A k) (hdg : decode (pt_by k) pc = .ok (.getfield j, 3)) (hfl : (pt_own k, j, X, Y) ∈ pt_fl) (hs : pt_getf (pc + 3) L st μ X Y = some (.inl (pc', L', st', μ'))) (T : pt_Tw D cy A s k b x ad dl μ H locs ls L st) (K : pt_K p l e R s m args below meth c Q D cy A k b x cells slots μ ad pc' L' st' μ') : W p l e R s m args below meth c H locs cells slots Q (F0 m pc ls (st.map (pt_cv ad x b))) := by
  obtain ⟨hx, hb, hr, hml, hown, hts, -, -, -, -, -, hK, hA, -⟩ := C
  obtain ⟨hlk, hX, hY⟩ := pt_fl_spec hfl
  unfold pt_getf at hs
  split at hs
  · next c9 a9 r =>
    cases hb9 : Nat.beq c9 X with
    | false => rw [hb9] at hs; cases hs
    | true =>
      rw [hb9] at hs
      obtain rfl : c9 = X := Nat.eq_of_beq_eq_true hb9
      have hvd : pt_vd μ (c9, a9) := pt_okS_h T.2.2.2.1
      have hr9 := pt_okS_t T.2.2.2.1
      have hI := T.2.2.2.2.1
      obtain ⟨q0, hd0, hw0⟩ := pt_ws_get (cy := cy) (ad := ad) hI.2.2.1 hvd
      rw [pt_cell_obj hX] at hw0
      have row : ∀ v : Value, pt_fv ad μ c9 a9 Y = v → W p l e R s m args below meth c H locs cells slots Q (F0 m (pc + 3) ls (v :: r.map (pt_cv ad x b))) → W p l e R s m args below meth c H locs cells slots Q (F0 m pc ls (.ref (ad (c9, a9)) :: r.map (pt_cv ad x b))) := fun v hv kk =>
        va_get (D := D) (tys := pt_tys cy) hx hb hts (pt_uws hX) hown hK hI.2.2.2.1 q0 hw0 (pt_cl_at c9 hX) Y hY (hts _ hlk) (fun z hz => by rw [pt_T_own c9 hX Y hY] at hz; exact hz) (by rw [pt_fs_get hY, hv]) hdg kk
      simp only [cond_true] at hs
      split at hs
      · next h9 => cases hs; exact row (.int _) (by simp only [pt_fv, h9]) (K.go T (pt_okS_c trivial hr9))
      · next h9 => cases hs; exact row (.int _) (by simp only [pt_fv, h9]) (K.go T (pt_okS_c trivial hr9))
      · next h9 => cases hs; exact row (.long _) (by simp only [pt_fv, h9]) (K.go T (pt_okS_c trivial hr9))
      · next h9 =>
        split at hs
        · next q hq =>
          cases hs
          exact row _ (by simp only [pt_fv, h9, hq]; rfl) (K.go T (pt_okS_c (hI.1 _ _ _ _ hq) hr9))
        · cases hs
      · cases hs
  · cases hs
theorem pt_put_row {j X Y a9 q0 : Nat} {v : Value} {r : List Value} (C : pt_Cx p l R s m args meth c D cy A k) (hdg : decode (pt_by k) pc = .ok (.putfield j, 3)) (hfl : (pt_own k, j, X, Y) ∈ pt_fl) (hfin : (pt_T X Y).2.2.2 = true → (pt_nm k).name = "<init>" ∧ pt_own k = X) (hI : pt_In D cy A ad dl μ H) (hS : va_S A s.heap H locs) (hw0 : (pt_ws cy ad μ dl)[q0]? = some (ad (X, a9), .inr (X, (List.range (pt_len X)).map (fun j => pt_fv ad μ X a9 j))))
    (hn : narrow (pt_fty X Y) v = v) (hfit : fits (pt_fty X Y) v = true)
    (kk : ∀ (H1 : Heap) (locs1 : List Loc), va_P D vwCl ((pt_ws cy ad μ dl).set q0 (ad (X, a9), .inr (X, ((List.range (pt_len X)).map (fun j => pt_fv ad μ X a9 j)).set Y v))) H1 → va_D A ((pt_ws cy ad μ dl).set q0 (ad (X, a9), .inr (X, ((List.range (pt_len X)).map (fun j => pt_fv ad μ X a9 j)).set Y v))) → va_S A s.heap H1 locs1 → W p l e R s m args below meth c H1 locs1 cells slots Q (F0 m (pc + 3) ls r)) : W p l e R s m args below meth c H locs cells slots Q (F0 m pc ls (v :: .ref (ad (X, a9)) :: r)) := by
  obtain ⟨hx, hb, hr, hml, hown, hts, -, hnm, -, -, -, hK, hA, -⟩ := C
  obtain ⟨hlk, hX, hY⟩ := pt_fl_spec hfl
  have hlen : Y < ((List.range (pt_len X)).map (fun j => pt_fv ad μ X a9 j)).length := by rw [List.length_map, List.length_range]; exact hY
  cases hf : (pt_T X Y).2.2.2 with
  | false => exact va_put (D := D) (tys := pt_tys cy) hx hb hts (pt_uws hX) (pt_fty X) (pt_fty_ok X hX) (pt_nmX X hX) hown hK hI.2.2.2.1 hI.2.2.2.2 hS q0 hw0 (pt_cl_at X hX) Y hY (hts _ hlk) (fun z hz => by rw [pt_T_own X hX Y hY] at hz; exact hz) hf (pt_fty_ok X hX Y hY) hn hfit hlen hdg kk
  | true =>
    obtain ⟨h1, h2⟩ := hfin hf
    exact va_putF (D := D) (tys := pt_tys cy) hx hb hts (pt_uws hX) (pt_fty X) (pt_fty_ok X hX) (pt_nmX X hX) hown hK hI.2.2.2.1 hI.2.2.2.2 hS q0 hw0 (pt_cl_at X hX) Y hY (hts _ hlk) (fun z hz => by rw [pt_T_own X hX Y hY] at hz; exact hz) hf (hnm h1) (by rw [pt_T_own X hX Y hY, h2]) (pt_fty_ok X hX Y hY) hn hfit hlen hdg kk
theorem pt_W_putf {j X Y : Nat} (C : pt_Cx p l R s m args meth c D cy A k) (hdg : decode (pt_by k) pc = .ok (.putfield j, 3)) (hfl : (pt_own k, j, X, Y) ∈ pt_fl) (hfin : (pt_T X Y).2.2.2 = true → (pt_nm k).name = "<init>" ∧ pt_own k = X) (hs : pt_putf (pc + 3) L st μ X Y = some (.inl (pc', L', st', μ'))) (T : pt_Tw D cy A s k b x ad dl μ H locs ls L st) (K : pt_K p l e R s m args below meth c Q D cy A k b x cells slots μ ad pc' L' st' μ') : W p l e R s m args below meth c H locs cells slots Q (F0 m pc ls (st.map (pt_cv ad x b))) := by
  obtain ⟨-, hX, hY⟩ := pt_fl_spec hfl
  have hfty := pt_ft_fty X hX Y hY
  have hI := T.2.2.2.2.1
  have hS := T.2.2.2.2.2
  unfold pt_putf at hs
  split at hs
  · next v c9 a9 r =>
    cases hb9 : Nat.beq c9 X with
    | false => rw [hb9] at hs; cases hs
    | true =>
      rw [hb9] at hs
      obtain rfl : c9 = X := Nat.eq_of_beq_eq_true hb9
      have hvd : pt_vd μ (c9, a9) := pt_okS_h (pt_okS_t T.2.2.2.1)
      have hr9 := pt_okS_t (pt_okS_t T.2.2.2.1)
      obtain ⟨q0, hd0, hw0⟩ := pt_ws_get (cy := cy) (ad := ad) hI.2.2.1 hvd
      rw [pt_cell_obj hX] at hw0
      simp only [cond_true] at hs
      have fin : (pt_ft c9 Y = 0 ∨ pt_ft c9 Y = 1) → ∀ (H1 : Heap) (locs1 : List Loc), va_P D vwCl ((pt_ws cy ad μ dl).set q0 (ad (c9, a9), .inr (c9, ((List.range (pt_len c9)).map (fun j => pt_fv ad μ c9 a9 j)).set Y (.int v)))) H1 → va_D A ((pt_ws cy ad μ dl).set q0 (ad (c9, a9), .inr (c9, ((List.range (pt_len c9)).map (fun j => pt_fv ad μ c9 a9 j)).set Y (.int v)))) → va_S A s.heap H1 locs1 → pt_Tw D cy A s k b x ad dl (pt_wI μ c9 a9 Y v) H1 locs1 ls L r := fun hft H1 locs1 hP1 hD1 hS1 =>
        ⟨T.1, T.2.1, T.2.2.1, hr9, pt_In_put hI hX hY hd0 hI.1 (fun _ => Iff.rfl) (by rcases hft with hft | hft <;> simp only [pt_fv, hft, pt_rI_wI, and_self, if_true]) (fun j' hj => by simp only [pt_fv, pt_rI_wI, pt_rJ_wI, pt_rR_wI, hj, and_false, if_false]) (fun q' hq => pt_cell_wI v hq) hP1 hD1, hS1⟩
      split at hs
      · next h9 =>
        cases hs
        have ht := pt_ftk_inv.1 (hfty.symm.trans h9)
        exact pt_put_row C hdg hfl hfin hI hS hw0 (by rw [ht]; rfl) (by rw [ht]; rfl) (fun H1 locs1 hP1 hD1 hS1 => K ad dl H1 locs1 cells slots ls (fun _ _ => rfl) rfl rfl (fin (Or.inl h9) H1 locs1 hP1 hD1 hS1))
      · next h9 =>
        split at hs
        · next hv =>
          cases hs
          have ht := pt_ftk_inv.2.1 (hfty.symm.trans h9)
          exact pt_put_row C hdg hfl hfin hI hS hw0 (by rw [ht]; exact (pt_fits_bool hv).1) (by rw [ht]; exact (pt_fits_bool hv).2) (fun H1 locs1 hP1 hD1 hS1 => K ad dl H1 locs1 cells slots ls (fun _ _ => rfl) rfl rfl (fin (Or.inr h9) H1 locs1 hP1 hD1 hS1))
        · cases hs
      · cases hs
  · next v c9 a9 r =>
    cases hb9 : Nat.beq c9 X with
    | false => rw [hb9] at hs; cases hs
    | true =>
      rw [hb9] at hs
      obtain rfl : c9 = X := Nat.eq_of_beq_eq_true hb9
      have hvd : pt_vd μ (c9, a9) := pt_okS_h (pt_okS_t T.2.2.2.1)
      have hr9 := pt_okS_t (pt_okS_t T.2.2.2.1)
      obtain ⟨q0, hd0, hw0⟩ := pt_ws_get (cy := cy) (ad := ad) hI.2.2.1 hvd
      rw [pt_cell_obj hX] at hw0
      simp only [cond_true] at hs
      split at hs
      · next h9 =>
        cases hs
        have ht := pt_ftk_inv.2.2 (hfty.symm.trans h9)
        exact pt_put_row (v := .long v) C hdg hfl hfin hI hS hw0 (by rw [ht]; rfl) (by rw [ht]; rfl) (fun H1 locs1 hP1 hD1 hS1 => K ad dl H1 locs1 cells slots ls (fun _ _ => rfl) rfl rfl
          ⟨T.1, T.2.1, T.2.2.1, hr9, pt_In_put hI hX hY hd0 hI.1 (fun _ => Iff.rfl) (by simp only [pt_fv, h9, pt_rJ_wJ, and_self, if_true]) (fun j' hj => by simp only [pt_fv, pt_rI_wJ, pt_rJ_wJ, pt_rR_wJ, hj, and_false, if_false]) (fun q' hq => pt_cell_wJ v hq) hP1 hD1, hS1⟩)
      · cases hs
  · next q c9 a9 r =>
    cases hb9 : Nat.beq c9 X with
    | false => rw [hb9] at hs; cases hs
    | true =>
      rw [hb9] at hs
      obtain rfl : c9 = X := Nat.eq_of_beq_eq_true hb9
      have hvq : pt_vd μ q := pt_okS_h T.2.2.2.1
      have hvd : pt_vd μ (c9, a9) := pt_okS_h (pt_okS_t T.2.2.2.1)
      have hr9 := pt_okS_t (pt_okS_t T.2.2.2.1)
      obtain ⟨q0, hd0, hw0⟩ := pt_ws_get (cy := cy) (ad := ad) hI.2.2.1 hvd
      rw [pt_cell_obj hX] at hw0
      simp only [cond_true] at hs
      split at hs
      · next h9 =>
        cases hs
        have ht : pt_ftk (pt_fty c9 Y) = 3 := hfty.symm.trans h9
        exact pt_put_row (v := .ref (ad q)) C hdg hfl hfin hI hS hw0 (pt_fits_ref ht _).1 (pt_fits_ref ht _).2 (fun H1 locs1 hP1 hD1 hS1 => K ad dl H1 locs1 cells slots ls (fun _ _ => rfl) rfl rfl
          ⟨T.1, T.2.1, T.2.2.1, hr9, pt_In_put hI hX hY hd0 (pt_okM_wR hI.1 hvq) (fun _ => Iff.rfl) (by simp only [pt_fv, h9, pt_rR_wR, and_self, if_true]; rfl) (fun j' hj => by simp only [pt_fv, pt_rI_wR, pt_rJ_wR, pt_rR_wR, hj, and_false, if_false]) (fun q' hq => pt_cell_wR _ hq) hP1 hD1, hS1⟩)
      · cases hs
  · cases hs
theorem pt_ety_ge {c : Nat} (h : pt_ety c < 9) : ¬ c < 10 ∧ c < 24 := by
  by_cases h1 : c < 10
  · exfalso
    have : ∀ c, c < 10 → pt_ety c = 9 := by decide
    rw [this c h1] at h
    omega
  · refine ⟨h1, ?_⟩
    rcases Nat.lt_or_ge c 24 with h2 | h2
    · exact h2
    · exfalso
      unfold pt_ety at h
      split at h <;> omega
/-- there are no rows of longs -/
theorem pt_no2 (c : Nat) : ¬ pt_ety c = 2 := by
  unfold pt_ety
  split <;> decide
theorem pt_tys_at (cy : Nat → ClassId) : ∀ c, c < 24 → (pt_ety c = 0 → (pt_tys cy)[pt_ti c]? = some (cy (pt_ti c), .int)) ∧ (pt_ety c = 1 → (pt_tys cy)[pt_ti c]? = some (cy (pt_ti c), .boolean)) ∧ (pt_ety c = 2 → (pt_tys cy)[pt_ti c]? = some (cy (pt_ti c), .long)) ∧ (pt_ety c = 3 → (pt_tys cy)[pt_ti c]? = some (cy (pt_ti c), .object (pt_cname (pt_ekd c))) ∧ pt_ekd c < 10) := by
  intro c hc
  rcases Nat.lt_or_ge c 10 with h | h
  · have : ∀ c, c < 10 → pt_ety c = 9 := by decide
    rw [this c h]
    simp
  · obtain ⟨d, rfl⟩ := Nat.le.dest h
    match d, hc with
    | 0, _ => exact ⟨fun _ => rfl, fun h => by simp [pt_ety] at h, fun h => by simp [pt_ety] at h, fun h => by simp [pt_ety] at h⟩
    | 1, _ => exact ⟨fun _ => rfl, fun h => by simp [pt_ety] at h, fun h => by simp [pt_ety] at h, fun h => by simp [pt_ety] at h⟩
    | 2, _ => exact ⟨fun _ => rfl, fun h => by simp [pt_ety] at h, fun h => by simp [pt_ety] at h, fun h => by simp [pt_ety] at h⟩
    | 3, _ => exact ⟨fun _ => rfl, fun h => by simp [pt_ety] at h, fun h => by simp [pt_ety] at h, fun h => by simp [pt_ety] at h⟩
    | 4, _ => exact ⟨fun _ => rfl, fun h => by simp [pt_ety] at h, fun h => by simp [pt_ety] at h, fun h => by simp [pt_ety] at h⟩
    | 5, _ => exact ⟨fun _ => rfl, fun h => by simp [pt_ety] at h, fun h => by simp [pt_ety] at h, fun h => by simp [pt_ety] at h⟩
    | 6, _ => exact ⟨fun _ => rfl, fun h => by simp [pt_ety] at h, fun h => by simp [pt_ety] at h, fun h => by simp [pt_ety] at h⟩
    | 7, _ => exact ⟨fun _ => rfl, fun h => by simp [pt_ety] at h, fun h => by simp [pt_ety] at h, fun h => by simp [pt_ety] at h⟩
    | 8, _ => exact ⟨fun h => by simp [pt_ety] at h, fun _ => rfl, fun h => by simp [pt_ety] at h, fun h => by simp [pt_ety] at h⟩
    | 9, _ => exact ⟨fun h => by simp [pt_ety] at h, fun h => by simp [pt_ety] at h, fun h => by simp [pt_ety] at h, fun _ => ⟨rfl, by decide⟩⟩
    | 10, _ => exact ⟨fun h => by simp [pt_ety] at h, fun h => by simp [pt_ety] at h, fun h => by simp [pt_ety] at h, fun _ => ⟨rfl, by decide⟩⟩
    | 11, _ => exact ⟨fun h => by simp [pt_ety] at h, fun h => by simp [pt_ety] at h, fun h => by simp [pt_ety] at h, fun _ => ⟨rfl, by decide⟩⟩
    | 12, _ => exact ⟨fun h => by simp [pt_ety] at h, fun h => by simp [pt_ety] at h, fun h => by simp [pt_ety] at h, fun _ => ⟨rfl, by decide⟩⟩
    | 13, _ => exact ⟨fun _ => rfl, fun h => by simp [pt_ety] at h, fun h => by simp [pt_ety] at h, fun h => by simp [pt_ety] at h⟩
    | d + 14, hc => exact absurd hc (by omega)
theorem pt_row_0 {c n : Nat} (h : pt_ety c = 0 ∨ pt_ety c = 1) : pt_row ad μ c n = .inl (fun j => pt_rI μ c n j) := by
  rcases h with h | h <;> simp only [pt_row, h]
theorem pt_row_2 {c n : Nat} (h : pt_ety c = 2) : pt_row ad μ c n = .inr (.inl (fun j => pt_rJ μ c n j)) := by
  simp only [pt_row, h]
theorem pt_row_3 {c n : Nat} (h : pt_ety c = 3) : pt_row ad μ c n = .inr (.inr (.inr (.inr (fun j => (pt_rR μ c n j).map ad)))) := by
  simp only [pt_row, h]
end
