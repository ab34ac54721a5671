/-! One step: rows, new cells, the script. -/
section
variable {p : Program} {l : Launch} {e : Env} {R : Room} {s : State} {m : MethodId} {args : Array Value} {below : List Frame} {meth : Method} {c : Code} {Q : State → Prop} {D : va_G} {cy : Nat → ClassId} {A : Nat → Prop} {k b x : Nat} {ad : pt_R → Nat} {dl : List pt_R} {μ μ' : pt_M} {H : Heap} {locs : List Loc} {cells slots : Nat} {ls : Array Slot} {L L' : pt_L} {st st' : List pt_V} {pc pc' n t : Nat}
theorem pt_W_ald {et : Nat} {ext : Option (Nat × (Nat → Int32))} (C : pt_Cx p l R s m args meth c D cy A k) (hX : pt_Xt ext A s b) (hdg : decode (pt_by k) pc = .ok ((match et with | 0 => Instr.iaload | 1 => .baload | 2 => .laload | _ => .aaload), 1)) (hs : pt_ald et ext (pc + 1) L st μ = some (.inl (pc', L', st', μ'))) (T : pt_Tw D cy A s k b x ad dl μ H locs ls L st) (K : pt_K p l e R s m args below meth c Q D cy A k b x cells slots μ ad pc' L' st' μ') : W p l e R s m args below meth c H locs cells slots Q (F0 m pc ls (st.map (pt_cv ad x b))) := by
  obtain ⟨hx, hb, hr, hml, hown, hts, -, -, -, -, -, hK, hA, -⟩ := C
  have hI := T.2.2.2.2.1
  unfold pt_ald at hs
  split at hs
  · next i c9 a9 r =>
    split at hs
    · next hin =>
      cases hb9 : Nat.beq (pt_ety c9) et with
      | false => rw [hb9] at hs; cases hs
      | true =>
        rw [hb9] at hs
        have he : pt_ety c9 = et := Nat.eq_of_beq_eq_true hb9
        have hvd : pt_vd μ (c9, a9) := pt_okS_h (pt_okS_t T.2.2.2.1)
        have hr9 := pt_okS_t (pt_okS_t T.2.2.2.1)
        obtain ⟨q0, hd0, hw0⟩ := pt_ws_get (cy := cy) (ad := ad) hI.2.2.1 hvd
        simp only [cond_true] at hs
        split at hs
        · cases hs
          have hc := (pt_ety_ge (c := c9) (by omega)).1
          rw [pt_cell_arr hc, pt_row_0 (Or.inl he)] at hw0
          exact va_iald (D := D) (tys := pt_tys cy) hx hb hK hI.2.2.2.1 q0 _ hw0 ((pt_tys_at cy c9 hvd.1).1 he) hin hdg (K.go T (pt_okS_c trivial hr9))
        · cases hs
          have hc := (pt_ety_ge (c := c9) (by omega)).1
          rw [pt_cell_arr hc, pt_row_0 (Or.inr he)] at hw0
          exact va_zald (D := D) (tys := pt_tys cy) hx hb hK hI.2.2.2.1 q0 _ hw0 ((pt_tys_at cy c9 hvd.1).2.1 he) hin hdg (K.go T (pt_okS_c trivial hr9))
        · cases hs
          have hc := (pt_ety_ge (c := c9) (by omega)).1
          rw [pt_cell_arr hc, pt_row_2 he] at hw0
          exact va_lald (D := D) (tys := pt_tys cy) hx hb hK hI.2.2.2.1 q0 _ hw0 ((pt_tys_at cy c9 hvd.1).2.2.1 he) hin hdg (K.go T (pt_okS_c trivial hr9))
        · split at hs
          · next q hq =>
            cases hs
            have hc := (pt_ety_ge (c := c9) (by omega)).1
            rw [pt_cell_arr hc, pt_row_3 he] at hw0
            have hv : va_rf ((fun j => (pt_rR μ c9 a9 j).map ad) i.toNatClampNeg) = .ref (ad q) := by
              show va_rf ((pt_rR μ c9 a9 i.toNatClampNeg).map ad) = _
              rw [hq]
              rfl
            refine va_aldq (D := D) (tys := pt_tys cy) hx hb hK hI.2.2.2.1 q0 _ hw0 ((pt_tys_at cy c9 hvd.1).2.2.2 he).1 hin hdg ?_
            rw [hv]
            exact K.go T (pt_okS_c (hI.1 _ _ _ _ hq) hr9)
          · cases hs
        · cases hs
    · cases hs
  · next i r =>
    split at hs
    · next N f =>
      split at hs
      · next hin =>
        cases hs
        have hr9 := pt_okS_t (pt_okS_t T.2.2.2.1)
        exact va_sld hx hb hX.1 hX.2.1 hX.2.2 T.2.2.2.2.2 hin hdg (K.go T (pt_okS_c trivial hr9))
      · cases hs
    · cases hs
  · cases hs
theorem pt_W_ast {et : Nat} (C : pt_Cx p l R s m args meth c D cy A k) (hdg : decode (pt_by k) pc = .ok ((match et with | 0 => Instr.iastore | 1 => .bastore | 2 => .lastore | _ => .aastore), 1)) (hs : pt_ast et (pc + 1) L st μ = some (.inl (pc', L', st', μ'))) (T : pt_Tw D cy A s k b x ad dl μ H locs ls L st) (K : pt_K p l e R s m args below meth c Q D cy A k b x cells slots μ ad pc' L' st' μ') : W p l e R s m args below meth c H locs cells slots Q (F0 m pc ls (st.map (pt_cv ad x b))) := by
  obtain ⟨hx, hb, hr, hml, hown, hts, -, -, -, -, -, hK, hA, -⟩ := C
  have hI := T.2.2.2.2.1
  have hS := T.2.2.2.2.2
  unfold pt_ast at hs
  split at hs
  · next v i c9 a9 r =>
    split at hs
    · next hin =>
      cases hb9 : Nat.beq (pt_ety c9) et with
      | false => rw [hb9] at hs; cases hs
      | true =>
        rw [hb9] at hs
        have he : pt_ety c9 = et := Nat.eq_of_beq_eq_true hb9
        have hvd : pt_vd μ (c9, a9) := pt_okS_h (pt_okS_t (pt_okS_t T.2.2.2.1))
        have hr9 := pt_okS_t (pt_okS_t (pt_okS_t T.2.2.2.1))
        obtain ⟨q0, hd0, hw0⟩ := pt_ws_get (cy := cy) (ad := ad) hI.2.2.1 hvd
        simp only [cond_true] at hs
        have hup : ∀ w : Int32, upd (fun j => pt_rI μ c9 a9 j) i.toNatClampNeg w = fun j => pt_rI (pt_wI μ c9 a9 i.toNatClampNeg w) c9 a9 j := fun w => by
          funext j
          simp only [upd, pt_rI_wI, true_and]
        split at hs
        · cases hs
          have hc := (pt_ety_ge (c := c9) (by omega)).1
          rw [pt_cell_arr hc, pt_row_0 (Or.inl he)] at hw0
          exact va_iast (D := D) (tys := pt_tys cy) hx hb hK hI.2.2.2.1 hI.2.2.2.2 hS q0 _ hw0 ((pt_tys_at cy c9 hvd.1).1 he) hin hdg (fun H1 locs1 hP1 hD1 hS1 => K ad dl H1 locs1 cells slots ls (fun _ _ => rfl) rfl rfl
            ⟨T.1, T.2.1, T.2.2.1, hr9, pt_In_ast hI hc hd0 hI.1 (fun _ => Iff.rfl) (by rw [pt_row_0 (Or.inl he), hup]) (fun q' hq => pt_cell_wI _ hq) hP1 hD1, hS1⟩)
        · split at hs
          · next hv =>
            cases hs
            have hc := (pt_ety_ge (c := c9) (by omega)).1
            rw [pt_cell_arr hc, pt_row_0 (Or.inr he)] at hw0
            have hnar : vp_nar .boolean v = v := by rcases hv with rfl | rfl <;> decide
            exact va_zast (D := D) (tys := pt_tys cy) hx hb hK hI.2.2.2.1 hI.2.2.2.2 hS q0 _ hw0 ((pt_tys_at cy c9 hvd.1).2.1 he) hin hdg (fun H1 locs1 hP1 hD1 hS1 => K ad dl H1 locs1 cells slots ls (fun _ _ => rfl) rfl rfl
              ⟨T.1, T.2.1, T.2.2.1, hr9, pt_In_ast hI hc hd0 hI.1 (fun _ => Iff.rfl) (by rw [pt_row_0 (Or.inr he), hnar, hup]) (fun q' hq => pt_cell_wI _ hq) hP1 hD1, hS1⟩)
          · cases hs
        · cases hs
    · cases hs
  · next v i c9 a9 r =>
    split at hs
    · next hin =>
      cases hb9 : Nat.beq (pt_ety c9) et with
      | false => rw [hb9] at hs; cases hs
      | true =>
        rw [hb9] at hs
        have he : pt_ety c9 = et := Nat.eq_of_beq_eq_true hb9
        have hvd : pt_vd μ (c9, a9) := pt_okS_h (pt_okS_t (pt_okS_t T.2.2.2.1))
        have hr9 := pt_okS_t (pt_okS_t (pt_okS_t T.2.2.2.1))
        obtain ⟨q0, hd0, hw0⟩ := pt_ws_get (cy := cy) (ad := ad) hI.2.2.1 hvd
        simp only [cond_true] at hs
        split at hs
        · cases hs
          have hc := (pt_ety_ge (c := c9) (by omega)).1
          rw [pt_cell_arr hc, pt_row_2 he] at hw0
          have hup : vp_updL (fun j => pt_rJ μ c9 a9 j) i.toNatClampNeg v = fun j => pt_rJ (pt_wJ μ c9 a9 i.toNatClampNeg v) c9 a9 j := by
            funext j
            simp only [vp_updL, pt_rJ_wJ, true_and]
          exact va_last (D := D) (tys := pt_tys cy) hx hb hK hI.2.2.2.1 hI.2.2.2.2 hS q0 _ hw0 ((pt_tys_at cy c9 hvd.1).2.2.1 he) hin hdg (fun H1 locs1 hP1 hD1 hS1 => K ad dl H1 locs1 cells slots ls (fun _ _ => rfl) rfl rfl
            ⟨T.1, T.2.1, T.2.2.1, hr9, pt_In_ast hI hc hd0 hI.1 (fun _ => Iff.rfl) (by rw [pt_row_2 he, hup]) (fun q' hq => pt_cell_wJ _ hq) hP1 hD1, hS1⟩)
        · cases hs
    · cases hs
  · next c2 a2 i c9 a9 r =>
    split at hs
    · next hin =>
      cases hb9 : (Nat.beq (pt_ety c9) et && Nat.beq c2 (pt_ekd c9)) with
      | false => rw [hb9] at hs; cases hs
      | true =>
        rw [hb9] at hs
        simp only [Bool.and_eq_true] at hb9
        have he : pt_ety c9 = et := Nat.eq_of_beq_eq_true hb9.1
        have h2 : c2 = pt_ekd c9 := Nat.eq_of_beq_eq_true hb9.2
        have hv2 : pt_vd μ (c2, a2) := pt_okS_h T.2.2.2.1
        have hvd : pt_vd μ (c9, a9) := pt_okS_h (pt_okS_t (pt_okS_t T.2.2.2.1))
        have hr9 := pt_okS_t (pt_okS_t (pt_okS_t T.2.2.2.1))
        obtain ⟨q0, hd0, hw0⟩ := pt_ws_get (cy := cy) (ad := ad) hI.2.2.1 hvd
        obtain ⟨q2, hd2, hw2⟩ := pt_ws_get (cy := cy) (ad := ad) hI.2.2.1 hv2
        simp only [cond_true] at hs
        split at hs
        · cases hs
          have hc := (pt_ety_ge (c := c9) (by omega)).1
          obtain ⟨ht, hk10⟩ := (pt_tys_at cy c9 hvd.1).2.2.2 he
          rw [pt_cell_arr hc, pt_row_3 he] at hw0
          rw [pt_cell_obj (by rw [h2]; exact hk10)] at hw2
          have hup : va_up (fun j => (pt_rR μ c9 a9 j).map ad) i.toNatClampNeg (some (ad (c2, a2))) = fun j => (pt_rR (pt_wR μ c9 a9 i.toNatClampNeg (some (c2, a2))) c9 a9 j).map ad := by
            funext j
            simp only [va_up, pt_rR_wR, true_and]
            split <;> rfl
          exact va_astq (D := D) (tys := pt_tys cy) hx hb hK hI.2.2.2.1 hI.2.2.2.2 hS q0 _ q2 c2 hw0 (r := (pt_cname c2, pt_T c2, pt_len c2)) (by rw [ht, h2]) hw2 (pt_cl_at c2 (by rw [h2]; exact hk10)) hin hdg (fun H1 locs1 hP1 hD1 hS1 => K ad dl H1 locs1 cells slots ls (fun _ _ => rfl) rfl rfl
            ⟨T.1, T.2.1, T.2.2.1, hr9, pt_In_ast hI hc hd0 (pt_okM_wR hI.1 hv2) (fun _ => Iff.rfl) (by rw [pt_row_3 he, hup]) (fun q' hq => pt_cell_wR _ hq) hP1 hD1, hS1⟩)
        · cases hs
    · cases hs
  · cases hs
end
