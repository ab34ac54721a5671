/-! Calls. -/
def pt_ws9 (y : Nat) : List Cond := pt_wY y :: pt_W
set_option maxRecDepth 100000 in
theorem pt_mth_all : (List.range 180).all (fun k => plainFor (pt_nm k) && decide ((pt_nm k).cls = pt_cname (pt_own k)) && decide ((pt_nm k).cls ≠ "java/lang/invoke/MethodHandle") && decide ((pt_nm k).cls ≠ "java/lang/invoke/VarHandle")) = true := by decide +kernel
theorem pt_mth {k : Nat} (h : k < 180) : plainFor (pt_nm k) = true ∧ (pt_nm k).cls = pt_cname (pt_own k) ∧ ((pt_nm k).cls ≠ "java/lang/invoke/MethodHandle" ∧ (pt_nm k).cls ≠ "java/lang/invoke/VarHandle") := by
  have := List.all_eq_true.mp pt_mth_all k (List.mem_range.mpr h)
  simp only [Bool.and_eq_true, decide_eq_true_eq] at this
  exact ⟨this.1.1.1, this.1.1.2, this.1.2, this.2⟩
set_option maxRecDepth 100000 in
theorem pt_ml_all : pt_ml.all (fun q => match q with
  | (_, _, X, y, Z) => Nat.beq X 4 || Nat.beq X 6 || (Nat.blt y 179 && decide ((parseMethodDescriptor (pt_nm y).desc).map (fun d => d.parameters.length) = some (if X = 0 ∨ X = 5 then Z else Z - 1)) && (Nat.beq X 0 || Nat.beq X 5 || (Nat.blt 0 Z && Nat.blt (pt_own y) 10)) && decide (X = 5 ↔ pt_hh y ≠ []) && (Nat.beq X 0 || Nat.beq X 5 || Nat.beq X 1 || (decide ((pt_nm y).name = "<init>") && decide (pt_rt y = none))) && (!pt_mayT y || Nat.beq X 1))) = true := by decide +kernel
theorem pt_ml_use {w i X y Z : Nat} (h : (w, i, X, y, Z) ∈ pt_ml) (h4 : X ≠ 4) (h6 : X ≠ 6) : y < 179 ∧ ((parseMethodDescriptor (pt_nm y).desc).map (fun d => d.parameters.length) = some (if X = 0 ∨ X = 5 then Z else Z - 1)) ∧ (X = 0 ∨ X = 5 ∨ (0 < Z ∧ pt_own y < 10)) ∧ (X = 5 ↔ pt_hh y ≠ []) ∧ (X = 0 ∨ X = 5 ∨ X = 1 ∨ ((pt_nm y).name = "<init>" ∧ pt_rt y = none)) ∧ (pt_mayT y = true → X = 1) := by
  have := List.all_eq_true.mp pt_ml_all _ h
  simp only [Bool.or_eq_true, Bool.and_eq_true, Nat.beq_eq, Nat.blt_eq, decide_eq_true_eq, Bool.not_eq_true'] at this
  rcases this with (h9 | h9) | ⟨⟨⟨⟨⟨a1, a2⟩, a3⟩, a4⟩, a5⟩, a6⟩
  · exact absurd h9 h4
  · exact absurd h9 h6
  · refine ⟨a1, a2, ?_, a4, ?_, fun z => ?_⟩
    · rcases a3 with (q | q) | q
      · exact Or.inl q
      · exact Or.inr (Or.inl q)
      · exact Or.inr (Or.inr q)
    · rcases a5 with ((q | q) | q) | q
      · exact Or.inl q
      · exact Or.inr (Or.inl q)
      · exact Or.inr (Or.inr (Or.inl q))
      · exact Or.inr (Or.inr (Or.inr q))
    · rcases a6 with q | q
      · rw [z] at q; cases q
      · exact q
theorem pt_pop_spec : ∀ (n : Nat) (acc st as r : List pt_V), pt_pop n acc st = some (as, r) → ∃ q : List pt_V, q.length = n ∧ st = q ++ r ∧ as = q.reverse ++ acc
  | 0, acc, st, as, r, h => by
    simp only [pt_pop, Option.some.injEq, Prod.mk.injEq] at h
    obtain ⟨rfl, rfl⟩ := h
    exact ⟨[], rfl, rfl, rfl⟩
  | n + 1, acc, [], as, r, h => by simp [pt_pop] at h
  | n + 1, acc, v :: st, as, r, h => by
    simp only [pt_pop] at h
    obtain ⟨q, h1, h2, h3⟩ := pt_pop_spec n (v :: acc) st as r h
    exact ⟨v :: q, by simp [h1], by rw [h2]; rfl, by rw [h3]; simp⟩
theorem pt_pop_all {n : Nat} {st as r : List pt_V} (h : pt_pop n [] st = some (as, r)) : as.length = n ∧ st = as.reverse ++ r := by
  obtain ⟨q, h1, h2, h3⟩ := pt_pop_spec n [] st as r h
  rw [List.append_nil] at h3
  subst h3
  exact ⟨by rw [List.length_reverse]; exact h1, by rw [List.reverse_reverse]; exact h2⟩
theorem pt_fit_spec {k y : Nat} {as r : List pt_V} (h : pt_fit k y as r = true) : pt_fr y + 1 ≤ pt_fr k ∧ 8 + (pt_maxL y + 11) + pt_lo y ≤ pt_lo k ∧ pt_cats r ≤ 8 ∧ (pt_flat as).length ≤ pt_maxL y := by
  simp only [pt_fit, Bool.and_eq_true, Nat.ble_eq] at h
  exact ⟨h.1.1.1, h.1.1.2, h.1.2, h.2⟩
theorem pt_inv_call {k n X Y Z y pc' : Nat} {L : pt_L} {st as r : List pt_V} {μ : pt_M} (hs : pt_inv k n L st μ X Y Z = some (.inr (.inl (y, as, pc', r)))) : X ≠ 4 ∧ X ≠ 6 ∧ y = Y ∧ pc' = n ∧ pt_pop Z [] st = some (as, r) ∧ pt_rcv X y as = true ∧ pt_fit k y as r = true := by
  unfold pt_inv at hs
  split at hs
  · split at hs
    · simp only [cond] at hs
      split at hs <;> cases hs
    · cases hs
  · split at hs
    · split at hs
      · simp only [cond] at hs
        split at hs <;> cases hs
      · cases hs
    · cases hs
  · cases hs
  · next h4 h6 h9 =>
    split at hs
    · next as' r' hp =>
      cases h8 : (pt_rcv X Y as' && pt_fit k Y as' r') with
      | false => rw [h8] at hs; cases hs
      | true =>
        rw [h8] at hs
        simp only [Bool.and_eq_true] at h8
        cases hs
        exact ⟨h4, h6, rfl, rfl, hp, h8.1, h8.2⟩
    · cases hs
theorem pt_call_inv {k pc y pc' : Nat} {ext : Option (Nat × (Nat → Int32))} {e9 : pt_E} {L : pt_L} {st as r : List pt_V} {μ : pt_M} (hf : pt_fetch k pc = some e9) (hs : pt_step k ext e9 L st μ = some (.inr (.inl (y, as, pc', r)))) :
    ∃ X j Z : Nat, X ≠ 4 ∧ X ≠ 6 ∧ pc' = pc + 3 ∧ (pt_own k, j, X, y, Z) ∈ pt_ml ∧ pt_pop Z [] st = some (as, r) ∧ pt_rcv X y as = true ∧ pt_fit k y as r = true ∧
      (((X = 0 ∨ X = 5) ∧ decode (pt_by k) pc = .ok (.invokestatic j, 3)) ∨ (X = 1 ∧ decode (pt_by k) pc = .ok (.invokevirtual j, 3)) ∨ ((X = 2 ∨ (X = 3 ∧ (pt_own k, j, y) ∈ pt_nl)) ∧ decode (pt_by k) pc = .ok (.invokespecial j, 3))) := by
  have hck := pt_ck_ok k pc e9 hf
  obtain ⟨i, n9, t9, X, Y, Z, c9⟩ := e9
  cases i
  case invokestatic j =>
    simp only [pt_ck, Bool.and_eq_true, Bool.or_eq_true, decide_eq_true_eq, Nat.beq_eq, Nat.blt_eq] at hck
    simp only [pt_step] at hs
    obtain ⟨⟨h1, -⟩, ⟨h2, h3⟩, h4⟩ := hck
    have hd := pt_hd h1 (d := 3) h2
    obtain ⟨a1, a2, rfl, a4, a5, a6, a7⟩ := pt_inv_call hs
    refine ⟨X, j, Z, a1, a2, a4.trans h2, h3, a5, a6, a7, Or.inl ⟨?_, hd⟩⟩
    rcases h4 with (h4 | h4) | h4
    · exact Or.inl h4
    · exact Or.inr h4
    · exact absurd h4 a2
  case invokevirtual j =>
    simp only [pt_ck, Bool.and_eq_true, decide_eq_true_eq, Nat.beq_eq, Nat.blt_eq] at hck
    simp only [pt_step] at hs
    obtain ⟨⟨h1, -⟩, ⟨h2, h3⟩, h4⟩ := hck
    have hd := pt_hd h1 (d := 3) h2
    obtain ⟨a1, a2, rfl, a4, a5, a6, a7⟩ := pt_inv_call hs
    exact ⟨X, j, Z, a1, a2, a4.trans h2, h3, a5, a6, a7, Or.inr (Or.inl ⟨h4, hd⟩)⟩
  case invokespecial j =>
    simp only [pt_ck, Bool.and_eq_true, Bool.or_eq_true, decide_eq_true_eq, Nat.beq_eq, Nat.blt_eq] at hck
    simp only [pt_step] at hs
    obtain ⟨⟨h1, -⟩, h2, h3⟩ := hck
    have hd := pt_hd h1 (d := 3) h2
    rcases h3 with rfl | ⟨h3, h4⟩
    · simp only [pt_inv] at hs; cases hs
    · obtain ⟨a1, a2, rfl, a4, a5, a6, a7⟩ := pt_inv_call hs
      refine ⟨X, j, Z, a1, a2, a4.trans h2, h3, a5, a6, a7, Or.inr (Or.inr ⟨?_, hd⟩)⟩
      rcases h4 with (h4 | h4) | h4
      · exact Or.inl h4
      · exact absurd h4 a1
      · exact Or.inr h4
  all_goals (simp only [pt_step, pt_ldR, pt_ldI, pt_ldJ, pt_ldD, pt_stR, pt_stI, pt_stJ, pt_stD, pt_i2, pt_j2, pt_d2, pt_if0, pt_if2, pt_getf, pt_putf, pt_ald, pt_ast, pt_end, cond] at hs)
  all_goals (repeat' split at hs)
  all_goals cases hs
theorem pt_W_good {args : Array Value} {s : State} (hts : ∀ w ∈ pt_W, w.before args s = true) : ∀ w ∈ pt_W, ∀ (a' : Array Value) (U : State), s.WarmedH U.vm → w.before a' U = true := fun w hw a' U hW => word_at hW (good_of_word (List.mem_filter.mp hw).2) (hts w hw)
theorem pt_wY_no {y : Nat} (h : pt_hh y = []) : pt_wY y = .code (pt_nm y) (pt_by y) (pt_maxL y) (pt_rt y) := by
  unfold pt_wY
  rw [h]
theorem pt_wY_hh {y : Nat} (h : pt_hh y ≠ []) : pt_wY y = .codeWith (pt_nm y) (pt_by y) (pt_maxL y) (pt_rt y) (pt_hh y) := by
  unfold pt_wY
  split
  · next h1 => exact absurd h1 h
  · next h1 => rw [h1]
section
variable {p : Program} {l : Launch} {e : Env} {R : Room} {s : State} {m : MethodId} {args : Array Value} {below : List Frame} {meth : Method} {c : Code} {Q : State → Prop} {D : va_G} {cy : Nat → ClassId} {A : Nat → Prop} {k b x : Nat} {ad : pt_R → Nat} {dl : List pt_R} {μ μ' : pt_M} {H : Heap} {locs : List Loc} {cells slots : Nat} {ls : Array Slot} {L L' : pt_L} {st st' : List pt_V} {pc pc' n t : Nat}
variable {Pc : Array Value → State → Prop} {Qc : Array Value → State → Outcome → State → Prop} {free : Addr → Prop} {XC : String → State → State → Prop} {rm : Room} {mc ms y : Nat} {as r : List pt_V}
theorem pt_call_run {X j Z : Nat} (C : pt_Cx p l R s m args meth c D cy A k) (hml9 : (pt_own k, j, X, y, Z) ∈ pt_ml) (h4 : X ≠ 4) (h6 : X ≠ 6) (hp : pt_pop Z [] st = some (as, r)) (hrc : pt_rcv X y as = true) (hfit : pt_fit k y as r = true) (T : pt_Tw D cy A s k b x ad dl μ H locs ls L st)
    (hM : Met l (pt_nm y) (pt_ws9 y) rm Pc Qc mc ms free) (hrm : rm.cells = mc ∧ rm.slots = ms ∧ rm.frames = pt_fr y ∧ rm.locals = pt_lo y) (hPc : FrameBlind Pc ∧ ∀ U : State, U.heap = H → s.WarmedH U.vm → Pc (as.map (pt_cv ad x b)).toArray U) (hroom : cells + mc ≤ R.cells ∧ slots + ms ≤ R.slots)
    (hk : ((X = 0 ∨ X = 5) ∧ decode (pt_by k) pc = .ok (.invokestatic j, 3)) ∨ (X = 1 ∧ decode (pt_by k) pc = .ok (.invokevirtual j, 3)) ∨ ((X = 2 ∨ (X = 3 ∧ (pt_own k, j, y) ∈ pt_nl)) ∧ decode (pt_by k) pc = .ok (.invokespecial j, 3))) :
    va_Run p l e R s m args below meth c H locs cells slots mc ms (F0 m pc ls (st.map (pt_cv ad x b))) (r.map (pt_cv ad x b)) (Qc (as.map (pt_cv ad x b)).toArray) free := by
  obtain ⟨hx, hb, hr, hml, hown, hts, hlk, -, hfr9, hlo9, hl0, hK, hA, hSt⟩ := id C
  have hI := T.2.2.2.2.1
  have hw := pt_ml_spec hml9
  obtain ⟨hy, hds, hz, h5, hini, hmt⟩ := pt_ml_use hml9 h4 h6
  obtain ⟨hpn, hcls, hmh⟩ := pt_mth (k := y) (by omega)
  obtain ⟨hlen, hst⟩ := pt_pop_all hp
  obtain ⟨f1, f2, f3, f4⟩ := pt_fit_spec hfit
  obtain ⟨r1, r2, r3, r4⟩ := hrm
  have hgd : ∀ w ∈ pt_ws9 y, ∀ (a' : Array Value) (U : State), s.WarmedH U.vm → w.before a' U = true := fun w hw9 => by
    rcases List.mem_cons.mp hw9 with rfl | hw9
    · exact pt_W_good hts _ (pt_wY_ok y hy)
    · exact pt_W_good hts _ hw9
  have hcats : 2 * (F0 m pc ls (st.map (pt_cv ad x b))).monitorRoom + (((r.map (pt_cv ad x b))).map fun v => v.category).sum ≤ 8 := lv_room (by rw [pt_cats_map]; exact f3)
  rcases hk with ⟨hX, hd⟩ | ⟨rfl, hd⟩ | ⟨hX, hd⟩
  · -- static
    have hds' : (parseMethodDescriptor (pt_nm y).desc).map (fun d => d.parameters.length) = some Z := by
      rcases hX with rfl | rfl <;> simpa using hds
    have hn9 : ∀ sig, parseMethodDescriptor (pt_nm y).desc = some sig → Z = sig.parameters.length := fun sig h => by rw [h] at hds'; exact (Option.some.inj hds').symm
    have hstk : (F0 m pc ls (st.map (pt_cv ad x b))).stack = (as.map (pt_cv ad x b)).reverse ++ r.map (pt_cv ad x b) := by
      show st.map (pt_cv ad x b) = _
      rw [hst, List.map_append, List.map_reverse]
    rcases hX with rfl | rfl
    · have hno : pt_hh y = [] := Classical.not_not.mp (fun z => absurd (h5.mpr z) (by decide))
      have hcode : Cond.code (pt_nm y) (pt_by y) (pt_maxL y) (pt_rt y) ∈ pt_ws9 y := by rw [← pt_wY_no hno]; exact List.mem_cons_self
      exact va_runS (cc := pt_by k) (nL := pt_maxL k) (Ts := pt_W) (own := pt_cname (pt_own k)) (index := j) (bytes := pt_by y) (maxL := pt_maxL y) (ret := pt_rt y) (n := Z) (As := as.map (pt_cv ad x b)) ⟨hx, hb, hml, hown, hts⟩ hM
        ⟨⟨r1, r2, by omega, by omega, hgd, hcode, hgd _ hcode _ s (State.WarmedH.refl s), hts _ (hw _ (by simp [pt_wM])), hmh, hn9, hts _ (hw _ (by simp [pt_wM]))⟩, hts _ (hw _ (by simp [pt_wM]))⟩ hPc rfl (by rw [List.length_map]; exact hlen) T.1.1 hstk hcats hd hroom
    · have hyes : pt_hh y ≠ [] := h5.mp rfl
      have hcode : Cond.codeWith (pt_nm y) (pt_by y) (pt_maxL y) (pt_rt y) (pt_hh y) ∈ pt_ws9 y := by rw [← pt_wY_hh hyes]; exact List.mem_cons_self
      exact vx_runSW (cc := pt_by k) (nL := pt_maxL k) (Ts := pt_W) (own := pt_cname (pt_own k)) (index := j) (bytes := pt_by y) (maxL := pt_maxL y) (ret := pt_rt y) (hh := pt_hh y) (n := Z) (As := as.map (pt_cv ad x b)) ⟨hx, hb, hml, hown, hts⟩ hM
        ⟨⟨r1, r2, by omega, by omega, hgd, hcode⟩, hgd _ hcode _ s (State.WarmedH.refl s), hts _ (hw _ (by simp [pt_wM])), hmh, hn9, hts _ (hw _ (by simp [pt_wM])), hts _ (hw _ (by simp [pt_wM]))⟩ hPc rfl (by rw [List.length_map]; exact hlen) T.1.1 hstk hcats hd hroom
  · -- virtual
    have hno : pt_hh y = [] := Classical.not_not.mp (fun z => absurd (h5.mpr z) (by decide))
    have hcode : Cond.code (pt_nm y) (pt_by y) (pt_maxL y) (pt_rt y) ∈ pt_ws9 y := by rw [← pt_wY_no hno]; exact List.mem_cons_self
    obtain ⟨hZ, ho10⟩ : 0 < Z ∧ pt_own y < 10 := by
      rcases hz with z | z | z
      · cases z
      · cases z
      · exact z
    have hds' : (parseMethodDescriptor (pt_nm y).desc).map (fun d => d.parameters.length) = some (Z - 1) := by simpa using hds
    have hn9 : ∀ sig, parseMethodDescriptor (pt_nm y).desc = some sig → Z - 1 = sig.parameters.length := fun sig h => by rw [h] at hds'; exact (Option.some.inj hds').symm
    simp only [pt_rcv] at hrc
    split at hrc
    · next c9 a9 as' =>
      obtain rfl : c9 = pt_own y := Nat.eq_of_beq_eq_true hrc
      have hvd : pt_vd μ (pt_own y, a9) := T.2.2.2.1 (vR (pt_own y) a9) (by rw [hst]; simp)
      obtain ⟨q0, hd0, hw0⟩ := pt_ws_get (cy := cy) (ad := ad) hI.2.2.1 hvd
      rw [pt_cell_obj ho10] at hw0
      have hrecv := va_recv hK hI.2.2.2.1 (pt_cl_at _ ho10) hw0
      rw [show (pt_cname (pt_own y), pt_T (pt_own y), pt_len (pt_own y)).1 = (pt_nm y).cls from hcls.symm] at hrecv
      exact va_runV (cc := pt_by k) (nL := pt_maxL k) (Ts := pt_W) (own := pt_cname (pt_own k)) (C := (pt_nm y).cls) (index := j) (bytes := pt_by y) (maxL := pt_maxL y) (ret := pt_rt y) (n := Z - 1) (b := ad (pt_own y, a9)) (As := as'.map (pt_cv ad x b)) ⟨hx, hb, hml, hown, hts⟩ hM
        ⟨⟨r1, r2, by omega, by omega, hgd, hcode, hgd _ hcode _ s (State.WarmedH.refl s), hts _ (hw _ (by simp [pt_wM])), hmh, hn9, hts _ (hw _ (by simp [pt_wM]))⟩, hts _ (hw _ (by simp [pt_wM])), hts _ (hw _ (by simp [pt_wM]))⟩ ⟨hPc.1, hrecv, hPc.2⟩ rfl (by rw [List.length_map]; simp only [List.length_cons] at hlen; omega) T.1.1 (by
          show st.map (pt_cv ad x b) = _
          rw [hst, List.map_append, List.map_reverse]
          simp only [List.map_cons, List.reverse_cons, List.append_assoc, List.cons_append, List.nil_append]
          rfl) hcats hd hroom
    · cases hrc
  · -- special
    have hX5 : X ≠ 5 ∧ X ≠ 0 ∧ X ≠ 1 := by rcases hX with rfl | ⟨rfl, -⟩ <;> exact ⟨by decide, by decide, by decide⟩
    have hno : pt_hh y = [] := Classical.not_not.mp (fun z => hX5.1 (h5.mpr z))
    obtain ⟨hnm9, hrt9⟩ : (pt_nm y).name = "<init>" ∧ pt_rt y = none := by
      rcases hini with z | z | z | z
      · exact absurd z hX5.2.1
      · exact absurd z hX5.1
      · exact absurd z hX5.2.2
      · exact z
    have hcode : Cond.code (pt_nm y) (pt_by y) (pt_maxL y) none ∈ pt_ws9 y := by rw [← hrt9, ← pt_wY_no hno]; exact List.mem_cons_self
    obtain ⟨hZ, ho10⟩ : 0 < Z ∧ pt_own y < 10 := by
      rcases hz with z | z | z
      · exact absurd z hX5.2.1
      · exact absurd z hX5.1
      · exact z
    have hds' : (parseMethodDescriptor (pt_nm y).desc).map (fun d => d.parameters.length) = some (Z - 1) := by rw [if_neg (fun z => z.elim hX5.2.1 hX5.1)] at hds; exact hds
    have hn9 : ∀ sig, parseMethodDescriptor (pt_nm y).desc = some sig → Z - 1 = sig.parameters.length := fun sig h => by rw [h] at hds'; exact (Option.some.inj hds').symm
    have hrc2 : ∃ c9 a9 as', as = .inr (.inr (.inr (.inl (some (c9, a9))))) :: as' := by
      unfold pt_rcv at hrc
      split at hrc
      · exact absurd rfl hX5.2.1
      · exact absurd rfl hX5.1
      · split at hrc
        · exact ⟨_, _, _, rfl⟩
        · cases hrc
    obtain ⟨c9, a9, as', rfl⟩ := hrc2
    have hstk : (F0 m pc ls (st.map (pt_cv ad x b))).stack = (as'.map (pt_cv ad x b)).reverse ++ .ref (ad (c9, a9)) :: r.map (pt_cv ad x b) := by
      show st.map (pt_cv ad x b) = _
      rw [hst, List.map_append, List.map_reverse]
      simp only [List.map_cons, List.reverse_cons, List.append_assoc, List.cons_append, List.nil_append]
      rfl
    have hl9 : (as'.map (pt_cv ad x b)).length = Z - 1 := by rw [List.length_map]; simp only [List.length_cons] at hlen; omega
    rcases hX with rfl | ⟨rfl, hnl⟩
    · exact va_runI (cc := pt_by k) (nL := pt_maxL k) (Ts := pt_W) (own := pt_cname (pt_own k)) (index := j) (bytes := pt_by y) (maxL := pt_maxL y) (n := Z - 1) (b := ad (c9, a9)) (As := as'.map (pt_cv ad x b)) ⟨hx, hb, hml, hown, hts⟩ hM
        ⟨⟨r1, r2, by omega, by omega, hgd, hcode, hgd _ hcode _ s (State.WarmedH.refl s), hts _ (hw _ (by simp [pt_wM])), hmh, hn9, hts _ (hw _ (by simp [pt_wM]))⟩, hnm9, hts _ (hw _ (by simp [pt_wM]))⟩ hPc rfl hl9 T.1.1 hstk hcats hd hroom
    · have hnw : va_Nw (.methodLinkNest (pt_cname (pt_own k)) j (pt_nm y) "PileTickets") s := hSt.2.2.2.1 _ (List.mem_append_left _ (List.mem_map.mpr ⟨_, hnl, rfl⟩))
      exact va_runIN (cc := pt_by k) (nL := pt_maxL k) (Ts := pt_W) (own := pt_cname (pt_own k)) (host := "PileTickets") (index := j) (bytes := pt_by y) (maxL := pt_maxL y) (n := Z - 1) (b := ad (c9, a9)) (As := as'.map (pt_cv ad x b)) ⟨hx, hb, hml, hown, hts⟩ hM
        ⟨⟨⟨r1, r2, by omega, by omega, hgd, hcode⟩, hgd _ hcode _ s (State.WarmedH.refl s), hts _ (hw _ (by simp [pt_wM])), hmh, hn9, va_Nw.use rfl hnw⟩, hnm9, hts _ (hw _ (by simp [pt_wM]))⟩ hPc rfl hl9 T.1.1 hstk hcats hd hroom
theorem pt_call_runX {X j Z : Nat} (C : pt_Cx p l R s m args meth c D cy A k) (hml9 : (pt_own k, j, X, y, Z) ∈ pt_ml) (h4 : X ≠ 4) (h6 : X ≠ 6) (hp : pt_pop Z [] st = some (as, r)) (hrc : pt_rcv X y as = true) (hfit : pt_fit k y as r = true) (T : pt_Tw D cy A s k b x ad dl μ H locs ls L st)
    (hM : vx_Met l (pt_nm y) (pt_ws9 y) rm Pc Qc XC mc ms free) (hrm : rm.cells = mc ∧ rm.slots = ms ∧ rm.frames = pt_fr y ∧ rm.locals = pt_lo y) (hPc : FrameBlind Pc ∧ ∀ U : State, U.heap = H → s.WarmedH U.vm → Pc (as.map (pt_cv ad x b)).toArray U) (hroom : cells + mc ≤ R.cells ∧ slots + ms ≤ R.slots)
    (hk : X = 1 ∧ decode (pt_by k) pc = .ok (.invokevirtual j, 3)) :
    vx_Run p l e R s m args below meth c H locs cells slots mc ms (F0 m pc ls (st.map (pt_cv ad x b))) (r.map (pt_cv ad x b)) (Qc (as.map (pt_cv ad x b)).toArray) XC free := by
  obtain ⟨hx, hb, hr, hml, hown, hts, hlk, -, hfr9, hlo9, hl0, hK, hA, hSt⟩ := id C
  have hI := T.2.2.2.2.1
  have hw := pt_ml_spec hml9
  obtain ⟨hy, hds, hz, h5, hini, hmt⟩ := pt_ml_use hml9 h4 h6
  obtain ⟨hpn, hcls, hmh⟩ := pt_mth (k := y) (by omega)
  obtain ⟨hlen, hst⟩ := pt_pop_all hp
  obtain ⟨f1, f2, f3, f4⟩ := pt_fit_spec hfit
  obtain ⟨r1, r2, r3, r4⟩ := hrm
  have hgd : ∀ w ∈ pt_ws9 y, ∀ (a' : Array Value) (U : State), s.WarmedH U.vm → w.before a' U = true := fun w hw9 => by
    rcases List.mem_cons.mp hw9 with rfl | hw9
    · exact pt_W_good hts _ (pt_wY_ok y hy)
    · exact pt_W_good hts _ hw9
  have hcats : 2 * (F0 m pc ls (st.map (pt_cv ad x b))).monitorRoom + (((r.map (pt_cv ad x b))).map fun v => v.category).sum ≤ 8 := lv_room (by rw [pt_cats_map]; exact f3)
  obtain ⟨rfl, hd⟩ := hk
  have hno : pt_hh y = [] := Classical.not_not.mp (fun z => absurd (h5.mpr z) (by decide))
  have hcode : Cond.code (pt_nm y) (pt_by y) (pt_maxL y) (pt_rt y) ∈ pt_ws9 y := by rw [← pt_wY_no hno]; exact List.mem_cons_self
  obtain ⟨hZ, ho10⟩ : 0 < Z ∧ pt_own y < 10 := by
    rcases hz with z | z | z
    · cases z
    · cases z
    · exact z
  have hds' : (parseMethodDescriptor (pt_nm y).desc).map (fun d => d.parameters.length) = some (Z - 1) := by simpa using hds
  have hn9 : ∀ sig, parseMethodDescriptor (pt_nm y).desc = some sig → Z - 1 = sig.parameters.length := fun sig h => by rw [h] at hds'; exact (Option.some.inj hds').symm
  simp only [pt_rcv] at hrc
  split at hrc
  · next c9 a9 as' =>
    obtain rfl : c9 = pt_own y := Nat.eq_of_beq_eq_true hrc
    have hvd : pt_vd μ (pt_own y, a9) := T.2.2.2.1 (vR (pt_own y) a9) (by rw [hst]; simp)
    obtain ⟨q0, hd0, hw0⟩ := pt_ws_get (cy := cy) (ad := ad) hI.2.2.1 hvd
    rw [pt_cell_obj ho10] at hw0
    have hrecv := va_recv hK hI.2.2.2.1 (pt_cl_at _ ho10) hw0
    rw [show (pt_cname (pt_own y), pt_T (pt_own y), pt_len (pt_own y)).1 = (pt_nm y).cls from hcls.symm] at hrecv
    exact vx_runV (cc := pt_by k) (nL := pt_maxL k) (Ts := pt_W) (own := pt_cname (pt_own k)) (C := (pt_nm y).cls) (index := j) (bytes := pt_by y) (maxL := pt_maxL y) (ret := pt_rt y) (n := Z - 1) (b := ad (pt_own y, a9)) (As := as'.map (pt_cv ad x b)) ⟨hx, hb, hml, hown, hts⟩ hM
      ⟨⟨r1, r2, by omega, by omega, hgd, hcode, hgd _ hcode _ s (State.WarmedH.refl s), hts _ (hw _ (by simp [pt_wM])), hmh, hn9, hts _ (hw _ (by simp [pt_wM]))⟩, hts _ (hw _ (by simp [pt_wM])), hts _ (hw _ (by simp [pt_wM]))⟩ ⟨hPc.1, hrecv, hPc.2⟩ rfl (by rw [List.length_map]; simp only [List.length_cons] at hlen; omega) T.1.1 (by
        show st.map (pt_cv ad x b) = _
        rw [hst, List.map_append, List.map_reverse]
        simp only [List.map_cons, List.reverse_cons, List.append_assoc, List.cons_append, List.nil_append]
        rfl) hcats hd hroom
  · cases hrc
end
