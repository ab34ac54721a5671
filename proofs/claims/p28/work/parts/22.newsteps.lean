/-! One step: new cells, arraycopy. -/
def pt_df (c j : Nat) : Value := match pt_ft c j with
  | 2 => .long 0
  | 3 => .null
  | _ => .int 0
theorem pt_ft_lt : ∀ c, c < 10 → ∀ k, k < pt_len c → pt_ft c k < 4 := by decide +kernel
theorem pt_df_fv (ad : pt_R → Nat) (μ : pt_M) (c j : Nat) : pt_fv ad (pt_nw μ c) c (pt_cn μ c) j = pt_df c j := by
  simp only [pt_fv, pt_df, pt_rI_nw, pt_rJ_nw, pt_rR_nw, and_self, if_true]
  generalize pt_ft c j = t
  match t with
  | 0 => rfl
  | 1 => rfl
  | 2 => rfl
  | 3 => rfl
  | _ + 4 => rfl
theorem pt_df_ok {c j : Nat} (hc : c < 10) (hj : j < pt_len c) : defaultValue (pt_fty c j) = pt_df c j := by
  have h1 := pt_ft_fty c hc j hj
  have h2 := pt_ft_lt c hc j hj
  rw [h1] at h2
  unfold pt_df
  rw [h1]
  cases h : pt_fty c j <;> rw [h] at h2 <;> first | rfl | (simp [pt_ftk] at h2)
theorem pt_RA_fc {U : State} {cA : ClassId} {ty : FieldType} (h : va_RA U cA ty) : U.vm.findClass ("[" ++ ty.toString) = some cA := by
  cases ty with
  | object C =>
    obtain ⟨kA, comp, h1, h2, h3, h4⟩ := h
    exact h4
  | _ => exact h
theorem pt_cA_eq {D : va_G} {cy : Nat → ClassId} {s : State} {cA cB : ClassId} {ty : FieldType} {i : Nat} (h1 : va_K D vwCl (pt_tys cy) s) (hi : (pt_tys cy)[i]? = some (cB, ty)) (h2 : va_K D vwCl (pt_tys cy ++ [(cA, ty)]) s) : cA = cB := by
  have a1 := pt_RA_fc (h1.2 i _ hi).2
  have a2 := pt_RA_fc (h2.2 (pt_tys cy).length (cA, ty) (by simp)).2
  exact Option.some.inj (a2.symm.trans a1)
set_option maxRecDepth 100000 in
theorem pt_arr_all : [FieldType.int, .boolean].all (fun t => decide (Cond.arrayClass t ∈ lw_tbl) && goodWord (.arrayClass t)) = true := by decide +kernel
theorem pt_arr_W (n : Nat) : Cond.arrayClass (pt_ty n) ∈ pt_W := by
  have h := List.all_eq_true.mp pt_arr_all (pt_ty n) (by unfold pt_ty; split <;> simp)
  simp only [Bool.and_eq_true, decide_eq_true_eq] at h
  exact List.mem_filter.mpr h
theorem pt_len_le (n : Nat) : pt_len n ≤ 1024 := by
  unfold pt_len
  split <;> omega
theorem pt_ekd_or {c : Nat} (h : pt_ety c = 3) : pt_ekd c = 2 ∨ pt_ekd c = 4 ∨ pt_ekd c = 5 := by
  unfold pt_ety at h
  split at h <;> first | (simp [pt_ekd]; done) | (exfalso; omega)
section
variable {p : Program} {l : Launch} {e : Env} {R : Room} {s : State} {m : MethodId} {args : Array Value} {below : List Frame} {meth : Method} {c : Code} {Q : State → Prop} {D : va_G} {cy : Nat → ClassId} {A : Nat → Prop} {k b x : Nat} {ad : pt_R → Nat} {dl : List pt_R} {μ μ' : pt_M} {H : Heap} {locs : List Loc} {cells slots : Nat} {ls : Array Slot} {L L' : pt_L} {st st' : List pt_V} {pc pc' n t : Nat}
theorem pt_new_fin {X a : Nat} {r : List pt_V} {H1 : Heap} (hX : X < 24) (T : pt_Tw D cy A s k b x ad dl μ H locs ls L st) (hr9 : pt_okS μ r)
    {e9 : va_E} (hc : pt_cell cy (pt_adU ad (X, pt_cn μ X) a) (pt_nw μ X) (X, pt_cn μ X) = e9) (hP1 : va_P D vwCl (pt_ws cy ad μ dl ++ [(a, e9)]) H1) (hD1 : va_D A (pt_ws cy ad μ dl ++ [(a, e9)])) (hS1 : va_S A s.heap H1 locs)
    (K : pt_K p l e R s m args below meth c Q D cy A k b x cells slots μ ad pc' L (vR X (pt_cn μ X) :: r) (pt_nw μ X)) : W p l e R s m args below meth c H1 locs (cells + 1) (slots + pt_len X) Q (F0 m pc' ls (.ref a :: r.map (pt_cv ad x b))) := by
  have hI := T.2.2.2.2.1
  have hag : pt_ag μ ad (pt_adU ad (X, pt_cn μ X) a) := pt_adU_ag
  have hle := pt_le_nw μ X
  subst hc
  rw [← pt_new_cells hI.1 hI.2.2.1] at hP1 hD1
  obtain ⟨hn1, hm1⟩ := pt_new_dl hI.2.1 hI.2.2.1 hX
  have hvn : pt_vd (pt_nw μ X) (X, pt_cn μ X) := (hm1 _).mp (by simp)
  have hres := K (pt_adU ad (X, pt_cn μ X) a) (dl ++ [(X, pt_cn μ X)]) H1 locs (cells + 1) (slots + pt_len X) ls hag (by rw [pt_sz_nw μ (by omega)]; omega) (by rw [pt_sn_nw μ (by omega)]; omega)
    ⟨by rw [pt_lv_ag hag L 0 T.2.2.1]; exact T.1, T.2.1, pt_okL_le hle T.2.2.1, pt_okS_c hvn (pt_okS_le hle hr9), ⟨pt_okM_nw hI.1 X, hn1, hm1, hP1, hD1⟩, hS1⟩
  rw [List.map_cons, pt_map_ag hag hr9, show pt_cv (pt_adU ad (X, pt_cn μ X) a) x b (vR X (pt_cn μ X)) = .ref a by show Value.ref (pt_adU ad (X, pt_cn μ X) a (X, pt_cn μ X)) = _; simp only [pt_adU, if_true]] at hres
  exact hres
theorem pt_W_new {j X : Nat} (C : pt_Cx p l R s m args meth c D cy A k) (hdg : decode (pt_by k) pc = .ok (.new j, 3)) (hkl : (pt_own k, j, X) ∈ pt_kl) (hc : cells + pt_sz (pt_nw μ X) ≤ R.cells + pt_sz μ) (hn : slots + pt_sn (pt_nw μ X) ≤ R.slots + pt_sn μ) (T : pt_Tw D cy A s k b x ad dl μ H locs ls L st) (K : pt_K p l e R s m args below meth c Q D cy A k b x cells slots μ ad (pc + 3) L (vR X (pt_cn μ X) :: st) (pt_nw μ X)) : W p l e R s m args below meth c H locs cells slots Q (F0 m pc ls (st.map (pt_cv ad x b))) := by
  obtain ⟨hx, hb, hr, hml, hown, hts, -, -, -, -, -, hK, hA, -⟩ := C
  obtain ⟨hw, hX⟩ := pt_kl_spec hkl
  have hX : X < 10 := hX
  have hI := T.2.2.2.2.1
  rw [pt_sz_nw μ (by omega)] at hc
  rw [pt_sn_nw μ (by omega)] at hn
  refine va_new (D := D) (tys := pt_tys cy) (fs := (List.range (pt_len X)).map (pt_df X)) hx hb hts (pt_uws hX) (pt_fty X) (pt_fty_ok X hX) hown (hts _ (hw _ (by simp [pt_wK]))) (hts _ (hw _ (by simp [pt_wK]))) (hts _ (hw _ (by simp [pt_wK]))) hK hI.2.2.2.1 hI.2.2.2.2 T.2.2.2.2.2 hA (pt_cl_at X hX) (fun i hi => ?_) (by omega) (by omega) hdg (fun a H1 hP1 hD1 hS1 => ?_)
  · rw [pt_df_ok hX hi]
    simp [vp_V, hi]
  · exact pt_new_fin (by omega) T T.2.2.2.1 (by rw [pt_cell_obj hX]; congr 2; exact List.map_congr_left (fun i _ => pt_df_fv _ _ _ _)) hP1 hD1 hS1 K
theorem pt_W_newa {ty : ArrayType} {X : Nat} {v : Int32} {r : List pt_V} (C : pt_Cx p l R s m args meth c D cy A k) (hdg : decode (pt_by k) pc = .ok (.newarray ty, 2)) (hX : 10 ≤ X) (hX2 : X < 24) (he : pt_ety X < 3) (hty : newarray.typeOf ty = pt_ty (pt_ety X)) (hv0 : ¬ v < 0) (hv : v.toNatClampNeg = pt_len X) (hc : cells + pt_sz (pt_nw μ X) ≤ R.cells + pt_sz μ) (hn : slots + pt_sn (pt_nw μ X) ≤ R.slots + pt_sn μ) (T : pt_Tw D cy A s k b x ad dl μ H locs ls L (.inl v :: r)) (K : pt_K p l e R s m args below meth c Q D cy A k b x cells slots μ ad (pc + 2) L (vR X (pt_cn μ X) :: r) (pt_nw μ X)) : W p l e R s m args below meth c H locs cells slots Q (F0 m pc ls (.int v :: r.map (pt_cv ad x b))) := by
  obtain ⟨hx, hb, hr, hml, hown, hts, -, -, -, -, -, hK, hA, -⟩ := C
  have hI := T.2.2.2.2.1
  have hr9 := pt_okS_t T.2.2.2.1
  rw [pt_sz_nw μ (by omega)] at hc
  rw [pt_sn_nw μ (by omega)] at hn
  have hlen := pt_len_le X
  have hN : ¬ X < 10 := by omega
  have harr : (Cond.arrayClass (newarray.typeOf ty)).before args s = true := by rw [hty]; exact hts _ (pt_arr_W _)
  have ht3 := pt_tys_at cy X hX2
  have he3 : pt_ety X = 0 ∨ pt_ety X = 1 ∨ pt_ety X = 2 := by omega
  have fin : ∀ (u : (Nat → Int32) ⊕ (Nat → Int64) ⊕ (Nat → UInt32) ⊕ (Nat → UInt64) ⊕ (Nat → Option Nat)), (∀ ad' : pt_R → Nat, pt_row ad' (pt_nw μ X) X (pt_cn μ X) = u) → (pt_tys cy)[pt_ti X]? = some (cy (pt_ti X), pt_ty (pt_ety X)) → ∀ (q : Nat) (cA : ClassId) (H1 : Heap), va_K D vwCl (pt_tys cy ++ [(cA, pt_ty (pt_ety X))]) s → va_P D vwCl (pt_ws cy ad μ dl ++ [(q, .inl (cA, pt_len X, u))]) H1 → va_D A (pt_ws cy ad μ dl ++ [(q, .inl (cA, pt_len X, u))]) → va_S A s.heap H1 locs → W p l e R s m args below meth c H1 locs (cells + 1) (slots + pt_len X) Q (F0 m (pc + 2) ls (.ref q :: r.map (pt_cv ad x b))) := by
    intro u hu ht q cA H1 hK1 hP1 hD1 hS1
    obtain rfl := pt_cA_eq hK ht hK1
    have T' : pt_Tw D cy A s k b x ad dl μ H locs ls L r := ⟨T.1, T.2.1, T.2.2.1, hr9, T.2.2.2.2⟩
    exact pt_new_fin hX2 T' hr9 (by rw [pt_cell_arr hN, hu]) hP1 hD1 hS1 K
  rcases he3 with h9 | h9 | h9
  · rw [h9] at fin hty
    exact va_newa (D := D) (tys := pt_tys cy) (a0 := (pt_len X, .inl (fun _ => 0))) hx hb harr hty hK hI.2.2.2.1 hI.2.2.2.2 T.2.2.2.2.2 hA (fun _ => rfl) hv0 hv (by show pt_len X * 4 ≤ _; omega) (by omega) (by omega) hdg (fin _ (fun ad' => by rw [pt_row_0 (Or.inl h9)]; congr 1; funext j; simp [pt_rI_nw]) (ht3.1 h9))
  · rw [h9] at fin hty
    exact va_newa (D := D) (tys := pt_tys cy) (a0 := (pt_len X, .inl (fun _ => 0))) hx hb harr hty hK hI.2.2.2.1 hI.2.2.2.2 T.2.2.2.2.2 hA (fun _ => rfl) hv0 hv (by show pt_len X * 1 ≤ _; omega) (by omega) (by omega) hdg (fin _ (fun ad' => by rw [pt_row_0 (Or.inr h9)]; congr 1; funext j; simp [pt_rI_nw]) (ht3.2.1 h9))
  · exact absurd h9 (pt_no2 X)
theorem pt_W_newq {j X : Nat} {v : Int32} {r : List pt_V} (C : pt_Cx p l R s m args meth c D cy A k) (hdg : decode (pt_by k) pc = .ok (.anewarray j, 3)) (hX : 10 ≤ X) (hX2 : X < 24) (he : pt_ety X = 3) (hkl : (pt_own k, j, pt_ekd X) ∈ pt_kl) (hv0 : ¬ v < 0) (hv : v.toNatClampNeg = pt_len X) (hc : cells + pt_sz (pt_nw μ X) ≤ R.cells + pt_sz μ) (hn : slots + pt_sn (pt_nw μ X) ≤ R.slots + pt_sn μ) (T : pt_Tw D cy A s k b x ad dl μ H locs ls L (.inl v :: r)) (K : pt_K p l e R s m args below meth c Q D cy A k b x cells slots μ ad (pc + 3) L (vR X (pt_cn μ X) :: r) (pt_nw μ X)) : W p l e R s m args below meth c H locs cells slots Q (F0 m pc ls (.int v :: r.map (pt_cv ad x b))) := by
  obtain ⟨hx, hb, hr, hml, hown, hts, -, -, -, -, -, hK, hA, hSt⟩ := C
  obtain ⟨hw, hX9⟩ := pt_kl_spec hkl
  have hI := T.2.2.2.2.1
  have hr9 := pt_okS_t T.2.2.2.1
  rw [pt_sz_nw μ (by omega)] at hc
  rw [pt_sn_nw μ (by omega)] at hn
  have hlen := pt_len_le X
  have hN : ¬ X < 10 := by omega
  have hao : va_AO (pt_cname (pt_ekd X)) s := by
    rcases pt_ekd_or he with h | h | h <;> rw [h]
    · exact hSt.2.2.2.2.1
    · exact hSt.2.2.2.2.2.1
    · exact hSt.2.2.2.2.2.2.1
  refine va_newq (D := D) (tys := pt_tys cy) hx hb hown (hts _ (hw _ (by simp [pt_wK]))) hao hK hI.2.2.2.1 hI.2.2.2.2 T.2.2.2.2.2 hA hv0 hv (by omega) (by omega) (by omega) hdg (fun q cA H1 hK1 hP1 hD1 hS1 => ?_)
  obtain rfl := pt_cA_eq hK ((pt_tys_at cy X hX2).2.2.2 he).1 hK1
  have T' : pt_Tw D cy A s k b x ad dl μ H locs ls L r := ⟨T.1, T.2.1, T.2.2.1, hr9, T.2.2.2.2⟩
  exact pt_new_fin hX2 T' hr9 (by rw [pt_cell_arr hN, pt_row_3 he, show (fun j => (pt_rR (pt_nw μ X) X (pt_cn μ X) j).map (pt_adU ad (X, pt_cn μ X) q)) = fun _ => none by funext j; simp [pt_rR_nw]]) hP1 hD1 hS1 K
theorem pt_W_inv {X Y Z : Nat} {j : Nat} (C : pt_Cx p l R s m args meth c D cy A k) (hX : (X = 4 ∧ decode (pt_by k) pc = .ok (.invokespecial j, 3)) ∨ (X = 6 ∧ decode (pt_by k) pc = .ok (.invokestatic j, 3))) (hml9 : (pt_own k, j, X, Y, Z) ∈ pt_ml) (hs : pt_inv k (pc + 3) L st μ X Y Z = some (.inl (pc', L', st', μ'))) (T : pt_Tw D cy A s k b x ad dl μ H locs ls L st) (K : pt_K p l e R s m args below meth c Q D cy A k b x cells slots μ ad pc' L' st' μ') : W p l e R s m args below meth c H locs cells slots Q (F0 m pc ls (st.map (pt_cv ad x b))) := by
  obtain ⟨hx, hb, hr, hml, hown, hts, -, -, hfr, hlo, -, hK, hA, hSt⟩ := C
  have hI := T.2.2.2.2.1
  have hw := pt_ml_spec hml9
  rcases hX with ⟨rfl, hdg⟩ | ⟨rfl, hdg⟩
  · simp only [pt_inv] at hs
    split at hs
    · next q r =>
      cases h9 : (Nat.ble (pt_cats r) 8 && (Nat.ble 1 (pt_fr k) && Nat.ble 20 (pt_lo k))) with
      | false => rw [h9] at hs; cases hs
      | true =>
        rw [h9] at hs
        cases hs
        simp only [Bool.and_eq_true, Nat.ble_eq] at h9
        have hr9 := pt_okS_t T.2.2.2.1
        refine W.objInit (rest := st'.map (pt_cv ad x b)) hx hb hown (hts _ (hw _ (by simp [pt_wM]))) (hts _ (hw _ (by simp [pt_wM]))) (hts _ (hw _ (by simp [pt_wM]))) rfl (by rw [hml]; exact T.1.1) rfl hdg (by omega) (by rw [pt_cats_map]; show 2 * 0 + _ + 12 ≤ _; omega) ?_
        exact K.go T hr9
    · cases hs
  · simp only [pt_inv] at hs
    split at hs
    · next m9 dp c1 a1 sp c0 a0 r =>
      split at hs
      · next hq =>
        obtain ⟨hq0, hq1, hq2⟩ := hq
        cases h9 : (Nat.beq (pt_ety c0) 0 && (Nat.beq (pt_ety c1) 0 && (Nat.ble (pt_cats r) 8 && (Nat.ble 1 (pt_fr k) && Nat.ble 26 (pt_lo k))))) with
        | false => rw [h9] at hs; cases hs
        | true =>
          rw [h9] at hs
          cases hs
          simp only [Bool.and_eq_true, Nat.ble_eq] at h9
          have he0 : pt_ety c0 = 0 := Nat.eq_of_beq_eq_true h9.1
          have he1 : pt_ety c1 = 0 := Nat.eq_of_beq_eq_true h9.2.1
          have hv1 : pt_vd μ (c1, a1) := pt_okS_h (pt_okS_t (pt_okS_t T.2.2.2.1))
          have hv0 : pt_vd μ (c0, a0) := pt_okS_h (pt_okS_t (pt_okS_t (pt_okS_t (pt_okS_t T.2.2.2.1))))
          have hr9 := pt_okS_t (pt_okS_t (pt_okS_t (pt_okS_t (pt_okS_t T.2.2.2.1))))
          have hc0 := (pt_ety_ge (c := c0) (by omega)).1
          have hc1 := (pt_ety_ge (c := c1) (by omega)).1
          obtain ⟨q0, hd0, hw0⟩ := pt_ws_get (cy := cy) (ad := ad) hI.2.2.1 hv0
          obtain ⟨q1, hd1, hw1⟩ := pt_ws_get (cy := cy) (ad := ad) hI.2.2.1 hv1
          rw [pt_cell_arr hc0, pt_row_0 (Or.inl he0)] at hw0
          rw [pt_cell_arr hc1, pt_row_0 (Or.inl he1)] at hw1
          have hcats := pt_cats_map ad x b st'
          refine va_copyi (D := D) (tys := pt_tys cy) (ty := .int) hx hb (hml.trans T.1.1.symm) hown (hts _ (hw _ (by simp [pt_wM]))) (hts _ (hw _ (by simp [pt_wM]))) (hts _ (hw _ (by simp [pt_wM]))) (hts _ (hw _ (by simp [pt_wM]))) hK hI.2.2.2.1 hI.2.2.2.2 T.2.2.2.2.2 q0 q1 (pt_ti c0) (pt_ti c1) hw0 hw1 ((pt_tys_at cy c0 hv0.1).1 he0) ((pt_tys_at cy c1 hv1.1).1 he1) rfl (fun z => hq0 (Or.inr (Or.inr z))) (fun z => hq0 (Or.inr (Or.inl z))) (fun z => hq0 (Or.inl z)) hq1 hq2 (fun _ _ => rfl) (by omega) ?_ hdg (fun H1 locs1 hP1 hD1 hS1 => ?_)
          · rw [hcats]
            have : nativeFrameWords "java/lang/System" "arraycopy" 5 = 7 := by decide
            omega
          · exact K ad dl H1 locs1 cells slots ls (fun _ _ => rfl) rfl rfl ⟨T.1, T.2.1, T.2.2.1, hr9, pt_In_ast hI hc1 hd1 hI.1 (fun _ => Iff.rfl) (by rw [pt_row_0 (Or.inl he1)]; congr 1; funext j9; simp [pt_rI_wRow]) (fun q' hq => pt_cell_wRow _ hq) hP1 hD1, hS1⟩
      · cases hs
    · cases hs
end
