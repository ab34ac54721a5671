/-! The ends: returns and throws. -/
set_option maxRecDepth 100000 in
theorem pt_rt_all : (List.range 180).all (fun k => (match pt_ret k with
  | 0 => decide (pt_rt k = none)
  | 1 => decide (pt_rt k = some .int)
  | 2 => decide (pt_rt k = some .boolean)
  | 3 => decide (pt_rt k = some .long)
  | 4 => decide (pt_rt k = some .double)
  | _ => false)) = true := by decide +kernel
theorem pt_rt_of {k : Nat} (h : pt_ret k < 9) : (match pt_ret k with
  | 0 => decide (pt_rt k = none)
  | 1 => decide (pt_rt k = some .int)
  | 2 => decide (pt_rt k = some .boolean)
  | 3 => decide (pt_rt k = some .long)
  | 4 => decide (pt_rt k = some .double)
  | _ => false) = true := by
  rcases Nat.lt_or_ge k 180 with h1 | h1
  · exact List.all_eq_true.mp pt_rt_all k (List.mem_range.mpr h1)
  · exfalso
    have h2 : Nat.ble 180 k = true := Nat.ble_eq_true_of_le h1
    have h3 : pt_ret k = 9 := by unfold pt_ret; rw [h2]; rfl
    omega
theorem pt_rt_0 {k : Nat} (h : pt_ret k = 0) : pt_rt k = none := by have := pt_rt_of (k := k) (by omega); rw [h] at this; simpa using this
theorem pt_rt_1 {k : Nat} (h : pt_ret k = 1) : pt_rt k = some .int := by have := pt_rt_of (k := k) (by omega); rw [h] at this; simpa using this
theorem pt_rt_2 {k : Nat} (h : pt_ret k = 2) : pt_rt k = some .boolean := by have := pt_rt_of (k := k) (by omega); rw [h] at this; simpa using this
theorem pt_rt_3 {k : Nat} (h : pt_ret k = 3) : pt_rt k = some .long := by have := pt_rt_of (k := k) (by omega); rw [h] at this; simpa using this
theorem pt_rt_4 {k : Nat} (h : pt_ret k = 4) : pt_rt k = some .double := by have := pt_rt_of (k := k) (by omega); rw [h] at this; simpa using this
section
variable {p : Program} {l : Launch} {e : Env} {R : Room} {s : State} {m : MethodId} {args : Array Value} {below : List Frame} {meth : Method} {c : Code} {Q : State → Prop} {D : va_G} {cy : Nat → ClassId} {A : Nat → Prop} {k b x : Nat} {ad : pt_R → Nat} {dl : List pt_R} {μ μ' : pt_M} {H : Heap} {locs : List Loc} {cells slots : Nat} {ls : Array Slot} {L L' : pt_L} {st st' : List pt_V} {pc pc' n t : Nat}
variable {Qc : Array Value → State → Outcome → State → Prop} {free : Addr → Prop} {XC : String → State → State → Prop}
theorem pt_W_ret {e9 : pt_E} {ext : Option (Nat × (Nat → Int32))} {v : Option pt_V} (C : pt_Cx p l R s m args meth c D cy A k) (hf : pt_fetch k pc = some e9) (hs : pt_step k ext e9 L st μ = some (.inr (.inr (.inl v)))) (T : pt_Tw D cy A s k b x ad dl μ H locs ls L st) (hq : ∀ t : State, t.heap = H → s.WarmedH t.vm → Qc args s (.returned (v.map (pt_cv ad x b))) t) (hfr : ∀ q ∈ locs, free q.base) :
    W p l e R s m args below meth c H locs cells slots (MQ below Qc args s cells slots free) (F0 m pc ls (st.map (pt_cv ad x b))) := by
  have hck := pt_ck_ok k pc e9 hf
  obtain ⟨hx, hb, hr, hml, hown, hts, hlk, -, -, -, -, hK, hA, hSt⟩ := id C
  obtain ⟨i, n9, t9, X, Y, Z, c9⟩ := e9
  cases i
  case ireturn =>
    simp only [pt_ck, Bool.and_eq_true, decide_eq_true_eq, Nat.beq_eq, Nat.blt_eq] at hck
    simp only [pt_step, pt_end] at hs
    obtain ⟨⟨h1, -⟩, h2⟩ := hck
    have hd := pt_hd h1 (d := 1) h2
    split at hs
    · split at hs
      · next h9 => cases hs; exact W.iret hx hb (hr.trans (pt_rt_1 h9)) hq hfr hd hlk
      · next h9 =>
        split at hs
        · next hv => cases hs; exact W.zret hx hb (hr.trans (pt_rt_2 h9)) (pt_fits_bool hv).1 hq hfr hd hlk
        · cases hs
      · cases hs
    · cases hs
  case lreturn =>
    simp only [pt_ck, Bool.and_eq_true, decide_eq_true_eq, Nat.beq_eq, Nat.blt_eq] at hck
    simp only [pt_step, pt_end] at hs
    obtain ⟨⟨h1, -⟩, h2⟩ := hck
    have hd := pt_hd h1 (d := 1) h2
    split at hs
    · cases h9 : Nat.beq (pt_ret k) 3 with
      | false => rw [h9] at hs; cases hs
      | true => rw [h9] at hs; cases hs; exact W.lret hx hb (hr.trans (pt_rt_3 (Nat.eq_of_beq_eq_true h9))) hq hfr hd hlk
    · cases hs
  case dreturn =>
    simp only [pt_ck, Bool.and_eq_true, decide_eq_true_eq, Nat.beq_eq, Nat.blt_eq] at hck
    simp only [pt_step, pt_end] at hs
    obtain ⟨⟨h1, -⟩, h2⟩ := hck
    have hd := pt_hd h1 (d := 1) h2
    split at hs
    · cases h9 : Nat.beq (pt_ret k) 4 with
      | false => rw [h9] at hs; cases hs
      | true => rw [h9] at hs; cases hs; exact W.dret hx hb (hr.trans (pt_rt_4 (Nat.eq_of_beq_eq_true h9))) hq hfr hd hlk
    · cases hs
  case return_ =>
    simp only [pt_ck, Bool.and_eq_true, decide_eq_true_eq, Nat.beq_eq, Nat.blt_eq] at hck
    simp only [pt_step, pt_end] at hs
    obtain ⟨⟨h1, -⟩, h2⟩ := hck
    have hd := pt_hd h1 (d := 1) h2
    split at hs
    · cases h9 : Nat.beq (pt_ret k) 0 with
      | false => rw [h9] at hs; cases hs
      | true => rw [h9] at hs; cases hs; exact W.vret hx hb (hr.trans (pt_rt_0 (Nat.eq_of_beq_eq_true h9))) hq hfr hd hlk
    · cases hs
  all_goals (simp only [pt_step, pt_ldR, pt_ldI, pt_ldJ, pt_ldD, pt_stR, pt_stI, pt_stJ, pt_stD, pt_i2, pt_j2, pt_d2, pt_if0, pt_if2, pt_getf, pt_putf, pt_ald, pt_ast, pt_inv, pt_end, cond] at hs)
  all_goals (repeat' split at hs)
  all_goals cases hs
theorem pt_tl_all : ∀ q ∈ pt_tl, q = (8, 52, 56, 1) ∨ q = (8, 73, 77, 3) ∨ q = (8, 98, 102, 2) := by decide
theorem pt_th_words {q : Nat × Nat × Nat × Nat} (h : q ∈ pt_tl) : (∀ w ∈ Cond.classLink (pt_cname q.1) q.2.1 (pt_xn q.2.2.2) :: Cond.initialized (pt_xn q.2.2.2) :: pt_atS q, goodWord w = true → w ∈ pt_W) ∧ (∀ w ∈ pt_atS q, goodWord w = true ∨ w ∈ pt_ng) ∧ (∀ w ∈ Cond.classLink (pt_cname q.1) q.2.1 (pt_xn q.2.2.2) :: Cond.initialized (pt_xn q.2.2.2) :: pt_atS q, vx_ot w = true) := by
  have go : ∀ q : Nat × Nat × Nat × Nat, ((Cond.classLink (pt_cname q.1) q.2.1 (pt_xn q.2.2.2) :: Cond.initialized (pt_xn q.2.2.2) :: pt_atS q).filter goodWord).all (fun w => decide (w ∈ lw_tbl)) = true → (pt_atS q).all (fun w => goodWord w || decide (w ∈ pt_ng)) = true → (Cond.classLink (pt_cname q.1) q.2.1 (pt_xn q.2.2.2) :: Cond.initialized (pt_xn q.2.2.2) :: pt_atS q).all vx_ot = true → (∀ w ∈ Cond.classLink (pt_cname q.1) q.2.1 (pt_xn q.2.2.2) :: Cond.initialized (pt_xn q.2.2.2) :: pt_atS q, goodWord w = true → w ∈ pt_W) ∧ (∀ w ∈ pt_atS q, goodWord w = true ∨ w ∈ pt_ng) ∧ (∀ w ∈ Cond.classLink (pt_cname q.1) q.2.1 (pt_xn q.2.2.2) :: Cond.initialized (pt_xn q.2.2.2) :: pt_atS q, vx_ot w = true) := by
    intro q h1 h2 h3
    refine ⟨fun w hw hg => ?_, fun w hw => ?_, fun w hw => List.all_eq_true.mp h3 w hw⟩
    · have := List.all_eq_true.mp h1 w (List.mem_filter.mpr ⟨hw, hg⟩)
      exact List.mem_filter.mpr ⟨by simpa using this, hg⟩
    · have := List.all_eq_true.mp h2 w hw
      simp only [Bool.or_eq_true, decide_eq_true_eq] at this
      exact this
  rcases pt_tl_all q h with rfl | rfl | rfl
  · exact go _ pt_th_a0 pt_th_b0 pt_th_c0
  · exact go _ pt_th_a1 pt_th_b1 pt_th_c1
  · exact go _ pt_th_a2 pt_th_b2 pt_th_c2
theorem pt_xn_fit (n : Nat) : Bundle.fit (pt_xn n) = true := by
  unfold pt_xn
  split <;> decide +kernel
theorem pt_sup_fit : ∀ n ∈ pt_sup, Bundle.fit n = true := by decide +kernel
theorem pt_cl_good (w : String) (i : Nat) (n : String) : goodWord (.classLink w i n) = true ∧ goodWord (.initialized n) = true := ⟨rfl, rfl⟩
theorem pt_W_thr {e9 : pt_E} {ext : Option (Nat × (Nat → Int32))} {E : Nat} {mc ms : Nat} (C : pt_Cx p l R s m args meth c D cy A k) (htab : c.exceptionTable.toList = tableOf (pt_hh k)) (hf : pt_fetch k pc = some e9) (hs : pt_step k ext e9 L st μ = some (.inr (.inr (.inr E)))) (T : pt_Tw D cy A s k b x ad dl μ H locs ls L st) (hc : cells + 1 ≤ R.cells) (hn : slots + 6 ≤ R.slots) (hmc : cells + 1 ≤ mc) (hms : slots + 6 ≤ ms)
    (hxc : ∀ t : State, s.vm.Alike t.vm → H.size ≤ t.heap.size → (∀ q : Nat, q < H.size → t.heap[q]? = H[q]?) → XC (pt_xn E) s t) (hfr : ∀ q ∈ locs, free q.base) :
    W p l e R s m args below meth c H locs cells slots (vx_MQ below Qc XC args s mc ms free) (F0 m pc ls (st.map (pt_cv ad x b))) := by
  have hck := pt_ck_ok k pc e9 hf
  obtain ⟨hx, hb, hr, hml, hown, hts, hlk, -, hfr9, hlo9, hl0, hK, hA, hSt⟩ := id C
  obtain ⟨i, n9, t9, X, Y, Z, c9⟩ := e9
  cases i
  case new j =>
    simp only [pt_ck, Bool.and_eq_true, decide_eq_true_eq, Nat.beq_eq, Nat.blt_eq] at hck
    simp only [pt_step] at hs
    obtain ⟨⟨h1, -⟩, h2, h3⟩ := hck
    have hd := pt_hd h1 (d := 3) h2
    cases h9 : Nat.ble 100 X with
    | false => rw [h9] at hs; cases hs
    | true =>
      rw [h9] at hs h3
      simp only [cond_true, Bool.and_eq_true, decide_eq_true_eq, Nat.ble_eq] at hs h3
      split at hs
      · cases hs
        obtain ⟨⟨⟨⟨⟨⟨h4, h5⟩, h6⟩, h7⟩, h8⟩, hfr6⟩, hlo6⟩ := h3
        obtain ⟨a1, a2, a3⟩ := pt_th_words h6
        obtain ⟨q9, hq9, hq8⟩ := List.mem_map.mp h7
        obtain ⟨sa, hsa⟩ := hSt.1 q9 hq9
        have e1 : q9.1 = pt_own k := congrArg Prod.fst hq8
        have e2 : q9.2.1 = Y := congrArg Prod.snd hq8
        rw [e1, e2] at hsa
        have hout : ∀ z : Nat, ∀ y ∈ c.exceptionTable.toList, covers y z = false := by
          rw [htab, pt_hh, h8]
          intro z y hy
          cases hy
        have hat : ∀ w ∈ vx_atS (pt_cname (pt_own k)) Z (pt_xn (X % 10)) pt_sup, w.before args s = true := fun w hw => by
          rcases a2 w hw with hg | hg
          · exact hts _ (a1 w (List.mem_cons_of_mem _ (List.mem_cons_of_mem _ hw)) hg)
          · exact va_Nw.use (pt_ng_on w hg) (hSt.2.2.2.1 w hg)
        cases h10 : Nat.ble 110 X with
        | false =>
          rw [h10] at h4
          simp only [cond_false, Bool.and_eq_true, decide_eq_true_eq] at h4
          obtain ⟨⟨g1, g2⟩, g3⟩ := h4
          exact vx_throwS (own := pt_cname (pt_own k)) (cls := pt_xn (X % 10)) (names := pt_sup) (ic := Z) (sa := sa) hx hb hl0 hown (pt_xn_fit _) pt_sup_fit (hts _ (a1 _ List.mem_cons_self (pt_cl_good _ _ _).1)) (hts _ (a1 _ (List.mem_cons_of_mem _ List.mem_cons_self) (pt_cl_good "" 0 _).2)) hsa hat a3 hSt.2.1 hSt.2.2.1 T.2.2.2.2.2 (T.1.1.trans hml.symm) hd h5 g1 g2 g3 (hout _) (by show 2 + 3 < R.frames; omega) (by show 0 + (13 * (2 + 1) + 43) ≤ R.locals; omega) hc hn hlk hxc hfr hmc hms
        | true =>
          rw [h10] at h4
          simp only [cond_true, Bool.and_eq_true, decide_eq_true_eq] at h4
          obtain ⟨⟨g1, g2⟩, g3⟩ := h4
          exact vx_throwSW (own := pt_cname (pt_own k)) (cls := pt_xn (X % 10)) (names := pt_sup) (ic := Z) (sa := sa) hx hb hl0 hown (pt_xn_fit _) pt_sup_fit (hts _ (a1 _ List.mem_cons_self (pt_cl_good _ _ _).1)) (hts _ (a1 _ (List.mem_cons_of_mem _ List.mem_cons_self) (pt_cl_good "" 0 _).2)) hsa hat a3 hSt.2.1 hSt.2.2.1 T.2.2.2.2.2 (T.1.1.trans hml.symm) hd h5 g1 g2 g3 (hout _) (by show 2 + 3 < R.frames; omega) (by show 0 + (13 * (2 + 1) + 43) ≤ R.locals; omega) hc hn hlk hxc hfr hmc hms
      · cases hs
  all_goals (simp only [pt_step, pt_ldR, pt_ldI, pt_ldJ, pt_ldD, pt_stR, pt_stI, pt_stJ, pt_stD, pt_i2, pt_j2, pt_d2, pt_if0, pt_if2, pt_getf, pt_putf, pt_ald, pt_ast, pt_inv, pt_end, cond] at hs)
  all_goals (repeat' split at hs)
  all_goals cases hs
end
