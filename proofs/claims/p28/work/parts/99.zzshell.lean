/-! THE CLAIM OUT OF ONE WALK OF THE LAW'S BODY. Your part is whole_start (and what it stands on); all else here is the same for every law, but numbers. -/
def R_law : String := "PileTicketsLaw"
def lw_P (b : Addr) (xs : List Int32) (args : Array Value) (s : State) : Prop := args = #[.ref b] ∧ s.IntsAt b xs ∧ xs.length ≤ 260 ∧ (Jvm.Cond.and given_1 narrow_1).before args s = true
/-- what a walk over the start with the record d0 says of its end, said of the start itself -/
theorem lw_closed {s t : State} {o : Outcome} {d0 : Drawn} {L : List Loc} {k n : Nat} (hd0 : s.drawn.sameBut d0 lw_cs) (hv : ∃ v, o = .returned v) (hW : (s.setDrawn d0).WarmedH t.vm) (hs : (s.setDrawn d0).sameButNew ({ t with vm := s.vm } : State) L k n) : State.butDraws s t lw_cs (fun t1 => Framed s o t1 L k n) := by
  have h2 : t.drawn = d0 := congrArg State.drawn hs.1
  refine ⟨⟨hv, hW, State.sameButNew.setDrawn hs s.drawn⟩, ?_, by decide⟩
  rw [h2]
  exact hd0
def lw_Q (_ : Array Value) (s : State) (o : Outcome) (t : State) : Prop := o = .returned (some (.int 1)) ∧ State.butDraws s t lw_cs (fun t1 => Framed s o t1 [] 600086 7301442)
def lw_Z (below : List Frame) (a : Array Value) (s : State) : State → Prop := fun t => ∃ o, t.status = .running ∧ Ended t below o ∧ lw_Q a s o t
/-- the law's own end, with 1 on the stack, nothing written that was there before, its room as the claim has it; d0: the record of draws at this point (at the entry s.drawn: begin with 'refine W.base ?_' and 'have hd0 := Drawn.sameBut.refl s.drawn lw_cs') -/
theorem lw_ret {p : Program} {l : Launch} {e : Env} {s : State} {m : MethodId} {below : List Frame} {meth : Method} {c : Code} {b : Nat} {d0 : Drawn} (hd0 : s.drawn.sameBut d0 lw_cs) (hx : p.tables.exec = Jvm.exec) (hb : c.code = code) (hr : meth.sig.returnType = ret) (hlocks : meth.locks = false) {pc : Nat} {H : Heap} {ls : Array Slot} (hdg : decode code pc = .ok (.ireturn, 1)) : W p l e room_1 (s.setDrawn d0) m #[Value.ref b] below meth c H [] 600086 7301442 (lw_Z below #[Value.ref b] s) (F0 m pc ls [.int 1]) := by
  intro T hT X
  obtain ⟨fs, hret, hrun, hended, hW, hframe⟩ := X.leave (v := some (.int 1)) (hlocks := hlocks) (fun h => by rw [hr] at h; cases h)
  have hmeth' : T.vm.method? m = some meth := X.method'
  refine ⟨T.setFrames fs, ?_, .returned (some (.int 1)), hrun, hended, rfl, lw_closed hd0 ⟨_, rfl⟩ hW hframe⟩
  jvm_step X.here [X.here.top, hx, hb, hdg, hmeth', hr, ret, narrow_b1]
  (try refine ⟨rfl, ?_⟩); (try refine ⟨rfl, ?_⟩)
  first | (intro acts; rw [hret _ acts rfl rfl rfl]) | rw [hret _ _ rfl rfl rfl]
  exact Steps.refl _
/-- what holds at the law's entry: the machine, the code, the tables' words (any of lw_tbl by 'hts w (by decide +kernel)'), the script of L ints xs at the cell b, what the Statement gives of the start (any of its parts by flat_of_before) -/
def lw_At (p : Program) (s : State) (m : MethodId) (meth : Method) (c : Code) (b L : Nat) (xs : Nat → Int32) : Prop :=
  p.tables.exec = Jvm.exec ∧ c.code = code ∧ meth.sig.returnType = ret ∧ c.maxLocals = 10 ∧ s.vm.findClass R_law = some m.cls ∧ (∀ w ∈ lw_tbl, w.before #[Value.ref b] s = true) ∧ va_X b L xs s s.heap ∧ b < s.heap.size ∧ meth.locks = false ∧ (Jvm.Cond.and given_1 narrow_1).before #[Value.ref b] s = true
-- ===== my part =====
theorem pt_ret_ins {k pc : Nat} {ext : Option (Nat × (Nat → Int32))} {e9 : pt_E} {L : pt_L} {st : List pt_V} {μ : pt_M} {v : Int32} (hf : pt_fetch k pc = some e9) (hs : pt_step k ext e9 L st μ = some (.inr (.inr (.inl (some (.inl v)))))) : decode (pt_by k) pc = .ok (.ireturn, 1) ∧ st = [.inl v] := by
  have hck := pt_ck_ok k pc e9 hf
  obtain ⟨i, n9, t9, X, Y, Z, c9⟩ := e9
  cases i
  case ireturn =>
    simp only [pt_ck, Bool.and_eq_true, decide_eq_true_eq, Nat.beq_eq, Nat.blt_eq] at hck
    simp only [pt_step, pt_end] at hs
    obtain ⟨⟨h1, -⟩, h2⟩ := hck
    have hd := pt_hd h1 (d := 1) h2
    refine ⟨hd, ?_⟩
    split at hs
    · split at hs
      · cases hs; rfl
      · split at hs
        · cases hs; rfl
        · cases hs
      · cases hs
    · cases hs
  all_goals (simp only [pt_step, pt_ldR, pt_ldI, pt_ldJ, pt_ldD, pt_stR, pt_stI, pt_stJ, pt_stD, pt_i2, pt_j2, pt_d2, pt_if0, pt_if2, pt_getf, pt_putf, pt_ald, pt_ast, pt_inv, pt_end, cond] at hs)
  all_goals (repeat' split at hs)
  all_goals cases hs
set_option maxRecDepth 100000 in
theorem pt_ng_tbl : pt_ng.all (fun w => decide (w ∈ lw_tbl)) = true := by decide +kernel
set_option maxRecDepth 100000 in
theorem pt_sl_tbl : pt_sl.all (fun q => decide (Cond.stringRef (pt_cname q.1) q.2.1 q.2.2 ∈ lw_tbl)) = true := by decide +kernel
set_option maxRecDepth 100000 in
theorem pt_sl_nar : pt_sl.all (fun q => decide (Cond.exactly (.string (pt_cname q.1) q.2.1) "java/lang/String" ∈ flatC (Jvm.Cond.and given_1 narrow_1))) = true := by decide +kernel
set_option maxRecDepth 100000 in
theorem pt_nc_nar : pt_ncl.all (fun q => decide (Cond.not (.castable (pt_xn q.1) (pt_xn q.2)) ∈ flatC (Jvm.Cond.and given_1 narrow_1))) = true := by decide +kernel
set_option maxRecDepth 100000 in
theorem pt_etc_tbl : [Cond.arrayOver (.object (pt_cname 2)), .arrayOver (.object (pt_cname 4)), .arrayOver (.object (pt_cname 5)), .laysStatic Bundle.tN "UNASSIGNED_STACK" Bundle.steD, .laysStatic Bundle.tN "SUPPRESSED_SENTINEL" Bundle.listD, .initialized Bundle.tN].all (fun w => decide (w ∈ lw_tbl)) = true := by decide +kernel
set_option maxRecDepth 100000 in
theorem pt_etc_nar : [Cond.isRef (.static Bundle.tN "UNASSIGNED_STACK" Bundle.steD), .isRef (.static Bundle.tN "SUPPRESSED_SENTINEL" Bundle.listD)].all (fun w => decide (w ∈ flatC (Jvm.Cond.and given_1 narrow_1))) = true := by decide +kernel
set_option maxRecDepth 100000 in
theorem pt_inst_tbl : (List.range 10).all (fun c => decide (Cond.instantiable (pt_cname c) (pt_len c) ∈ lw_tbl)) = true := by decide +kernel
theorem pt_cyP {args : Array Value} {s : State} {ty : FieldType} (h : (Cond.arrayClass ty).before args s = true) (hp : ∀ C, ty ≠ .object C) : ∃ cA, ArrOfT s cA ty ∧ va_RA s cA ty := by
  obtain ⟨cA, kA, comp, h1, h2, h3⟩ := Cond.arrayClass_spec h
  refine ⟨cA, fun n z => ⟨fun k h => (by cases h), kA, h2, comp, h3⟩, ?_⟩
  cases ty with
  | object C => exact absurd rfl (hp C)
  | _ => exact h1
theorem pt_cyO {args : Array Value} {s : State} {C : String} (h : (Cond.arrayOver (.object C)).before args s = true) : ∃ cA, ArrOfT s cA (.object C) ∧ va_RA s cA (.object C) := by
  obtain ⟨comp, cA, kA, h0, -, h2, h3, h1⟩ := Cond.arrayOver_spec h
  exact ⟨cA, fun n z => ⟨fun k h => (by cases h), kA, h2, comp, h3⟩, kA, comp, h2, h3, h0, h1⟩
set_option maxHeartbeats 4000000 in
set_option maxRecDepth 100000 in
theorem whole_start {p : Program} {e : Env} {s : State} {m : MethodId} {below : List Frame} {meth : Method} {c : Code} (l : Launch) (hflags : l.flags = flags0) {b L : Nat} {xs : Nat → Int32} (hL : L ≤ 260) (C0 : lw_At p s m meth c b L xs) : W p l e room_1 s m #[Value.ref b] below meth c s.heap [] 0 0 (lw_Z below #[Value.ref b] s) (entryFrame m ([Value.ref b] : List Value).toArray 10) := by
  obtain ⟨hx, hb, hr, hml, hown, hts0, hX, hbl, hlocks, hgv⟩ := id C0
  have hl0 : l.stackTraces = false := by rw [Launch.stackTraces, hflags]; decide +kernel
  have hnar := flat_of_before _ hgv
  have inT : ∀ {L : List Cond}, L.all (fun w => decide (w ∈ lw_tbl)) = true → ∀ w ∈ L, w.before #[Value.ref b] s = true := fun h w hw => hts0 w (by simpa using List.all_eq_true.mp h w hw)
  have inN : ∀ {L : List Cond}, L.all (fun w => decide (w ∈ flatC (Jvm.Cond.and given_1 narrow_1))) = true → ∀ w ∈ L, w.before #[Value.ref b] s = true := fun h w hw => hnar w (by simpa using List.all_eq_true.mp h w hw)
  have htsW : ∀ w ∈ pt_W, w.before #[Value.ref b] s = true := fun w hw => hts0 w (List.mem_filter.mp hw).1
  have hu : ∀ k, ∃ (cC : ClassId) (iS : Nat → Nat), k < 10 → u_Kn s (pt_cname k) (pt_T k) (pt_len k) cC iS := by
    intro k
    by_cases hk : k < 10
    · obtain ⟨cC, iS, h⟩ := u_known (C := pt_cname k) (T := pt_T k) (N := pt_len k) (n := pt_len k) htsW (pt_uws hk) (hts0 _ (by simpa using List.all_eq_true.mp pt_inst_tbl k (List.mem_range.mpr hk)))
      exact ⟨cC, iS, fun _ => h⟩
    · exact ⟨0, fun _ => 0, fun z => absurd z hk⟩
  obtain ⟨y0, z0⟩ := pt_cyP (ty := .int) (htsW _ (pt_arr_W 0)) (fun C z => by cases z)
  obtain ⟨y1, z1⟩ := pt_cyP (ty := .boolean) (htsW _ (pt_arr_W 1)) (fun C z => by cases z)
  have ho2 := inT pt_etc_tbl (.arrayOver (.object (pt_cname 2))) (by simp)
  have ho4 := inT pt_etc_tbl (.arrayOver (.object (pt_cname 4))) (by simp)
  have ho5 := inT pt_etc_tbl (.arrayOver (.object (pt_cname 5))) (by simp)
  obtain ⟨y3, z3⟩ := pt_cyO ho2
  obtain ⟨y4, z4⟩ := pt_cyO ho4
  obtain ⟨y5, z5⟩ := pt_cyO ho5
  obtain ⟨D, hD9⟩ : ∃ D : va_G, ∀ k, k < 10 → u_Kn s (pt_cname k) (pt_T k) (pt_len k) (D.1 k) (D.2 k) := ⟨(fun k => Classical.choose (hu k), fun k => Classical.choose (Classical.choose_spec (hu k))), fun k hk => Classical.choose_spec (Classical.choose_spec (hu k)) hk⟩
  obtain ⟨cy, e0, e1, e2, e3, e4, e5⟩ : ∃ cy : Nat → ClassId, cy 0 = y0 ∧ cy 1 = y1 ∧ cy 2 = y0 ∧ cy 3 = y3 ∧ cy 4 = y4 ∧ cy 5 = y5 := ⟨fun k => match k with | 0 => y0 | 1 => y1 | 2 => y0 | 3 => y3 | 4 => y4 | _ => y5, rfl, rfl, rfl, rfl, rfl, rfl⟩
  have hK : va_K D vwCl (pt_tys cy) s := by
    refine ⟨fun k q hq => ?_, fun k q hq => ?_⟩
    · have hk : k < 10 := (List.getElem?_eq_some_iff.mp hq).1
      rw [pt_cl_at k hk] at hq
      cases hq
      exact hD9 k hk
    · have hm : q ∈ pt_tys cy := List.mem_of_getElem? hq
      simp only [pt_tys, e0, e1, e2, e3, e4, e5, List.mem_cons, List.not_mem_nil, or_false] at hm
      rcases hm with rfl | rfl | rfl | rfl | rfl | rfl
      · exact z0
      · exact z1
      · exact z0
      · exact z3
      · exact z4
      · exact z5
  obtain ⟨A, hAe⟩ : ∃ A : Nat → Prop, A = fun q : Nat => s.heap.size ≤ q := ⟨_, rfl⟩
  have hA : ∀ q : Nat, s.heap.size ≤ q → A q := fun q h => by rw [hAe]; exact h
  have hAn : ∀ q : Nat, q < s.heap.size → ¬ A q := fun q h z => by rw [hAe] at z; exact absurd z (Nat.not_le.mpr h)
  have hini : (Cond.initialized Bundle.tN).before #[Value.ref b] s = true := inT pt_etc_tbl _ (by simp)
  have hSt : pt_St A s := by
    refine ⟨fun q hq => ?_, ?_, ?_, fun w hw => va_Nw.of (pt_ng_on w hw) (inT pt_ng_tbl w hw), va_AO.of ho2, va_AO.of ho4, va_AO.of ho5, fun q hq => va_Nc.of (hnar _ (by simpa using List.all_eq_true.mp pt_nc_nar q hq))⟩
    · have h1 : (Cond.stringRef (pt_cname q.1) q.2.1 q.2.2).before #[Value.ref b] s = true := hts0 _ (by simpa using List.all_eq_true.mp pt_sl_tbl q hq)
      have h2 : (Cond.exactly (.string (pt_cname q.1) q.2.1) "java/lang/String").before #[Value.ref b] s = true := hnar _ (by simpa using List.all_eq_true.mp pt_sl_nar q hq)
      obtain ⟨a, c9, cell, k9, h3, -⟩ := Cond.exactly_spec h2
      exact ⟨a, vk_R.of h1 h3⟩
    · exact vx_Zqof (inT pt_etc_tbl _ (by simp)) hini (inN pt_etc_nar _ (by simp)) hAn
    · exact vx_Zqof (inT pt_etc_tbl _ (by simp)) hini (inN pt_etc_nar _ (by simp)) hAn
  obtain ⟨μ', ⟨n, hex⟩, hsz, hsn⟩ := pt_goal L xs hL
  have hd0 := Drawn.sameBut.refl s.drawn lw_cs
  refine W.base ?_
  have hwords := dr_words htsW s.drawn
  have hSt' : pt_St A (s.setDrawn s.drawn) := hSt
  have C : pt_Cx p l room_1 (s.setDrawn s.drawn) m #[Value.ref b] meth c D cy A 179 := ⟨hx, hb, hr, hml, hown, hwords, hlocks, fun z => absurd z (by decide +kernel), by show pt_fr 179 ≤ 12; decide +kernel, by show pt_lo 179 ≤ 440; decide +kernel, hl0, hK, hA, hSt'⟩
  have hl := lv_entry ([.ref b]) (n := 10) (Nat.le_of_ble_eq_true rfl)
  rw [lg_entry_eq]
  generalize (lg_sl ([.ref b]) ++ List.replicate (10 - (lg_sl ([.ref b])).length) Slot.unset).toArray = ls at hl ⊢
  have hl : lv_has ls 10 [(0, .ref b)] := hl
  have htab : pt_hand 179 ≠ [] → c.exceptionTable.toList = tableOf (pt_hh 179) := fun z => absurd rfl z
  have T : pt_Tw D cy A (s.setDrawn s.drawn) 179 b 0 (fun _ => 0) [] pt_M0 s.heap [] ls (pt_ent 10 [vX true]) [] := by
    refine ⟨hl, rfl, fun v hv => ?_, fun v hv => (by cases hv), ⟨fun c9 n9 j9 q hq => (by cases hq), List.nodup_nil, fun q => ⟨fun z => (by cases z), fun z => absurd z.2 (Nat.not_lt_zero _)⟩, fun k q h => (by simp [pt_ws] at h), ⟨fun i j p9 q h => (by simp [pt_ws] at h), fun k q h => (by simp [pt_ws] at h)⟩⟩, va_S.rf⟩
    have := pt_flat_mem _ v (pt_pad_mem _ _ v hv)
    simp only [List.mem_singleton] at this
    subst this
    trivial
  refine pt_PX_all hl0 n p e room_1 (s.setDrawn s.drawn) m #[Value.ref b] below meth c _ D cy A 179 b 0 (some (L, xs)) 0 _ [] pt_M0 (.inl (some (.inl 1)), μ') (fun _ => 0) [] s.heap [] 0 0 ls C htab ⟨hX, hbl, hAn b hbl⟩ hex T (by show 0 + pt_sz μ' ≤ 600086 + pt_sz pt_M0; omega) (by show 0 + pt_sn μ' ≤ 7301442 + pt_sn pt_M0; omega) ?_
  intro ad2 dl2 x2 H2 locs2 cells2 slots2 ls2 pc2 L2 st2 e9 μ2 a1 a2 a3 a4 a5 a6 a7
  rcases a7 with ⟨w, hw, hs2⟩ | ⟨E, hw, hs2⟩
  · simp only [Prod.mk.injEq, Sum.inl.injEq] at hw
    obtain ⟨rfl, rfl⟩ := hw
    obtain ⟨hd, rfl⟩ := pt_ret_ins a6 hs2
    have g1 : pt_sz pt_M0 = 0 := rfl
    have g2 : pt_sn pt_M0 = 0 := rfl
    have hloc := a5.2.2.2.2.2.2.2
    refine va_forget (fun q hq => ?_) ?_
    · have := hloc q hq
      rw [hAe] at this
      exact this
    · refine W.widen (k := 600086) (n := 7301442) (by omega) (by omega) ?_
      exact lw_ret hd0 hx hb hr hlocks hd
  · simp at hw
-- ===== end of my part =====
set_option maxHeartbeats 4000000 in
theorem lw_walk (l : Launch) (hflags : l.flags = flags0) (b : Addr) (xs : List Int32) : MetFree l x (headSpec (Jvm.Cond.code x code maxLocals ret :: tables_1) room_1) (lw_P b xs) (fun _ _ _ _ _ => True) lw_Q := by
  refine MetFree.of_bodyS (code := code) (maxLocals := maxLocals) (ret := ret) (by decide) ?_ ?_
  · intro args s m h hn
    obtain ⟨meth, c, h1, h2, h3, h4, h5, h6, -, -⟩ := Cond.code_spec hn (atoms_spec (ws := Jvm.Cond.code x code maxLocals ret :: tables_1) h _ List.mem_cons_self)
    exact ⟨meth, c, h1, h2, h3, h4, h5, h6⟩
  · intro p e s m args below meth c s₁ B hml0 hP _
    obtain ⟨rfl, hx, hbd, hgv⟩ := hP
    obtain ⟨scr, harrAt, hlist, hof, hsmall⟩ := hx
    obtain ⟨hcb, hkn, -, -⟩ := State.arrayAt?_spec harrAt
    have hown : s.vm.findClass R_law = some m.cls := findClass_of_methodNamed B.named
    have hts0 : ∀ c ∈ (Jvm.Cond.code x code maxLocals ret :: tables_1), c.before #[Value.ref b] s = true := atoms_spec (ws := Jvm.Cond.code x code maxLocals ret :: tables_1) B.pre
    have hts : ∀ w ∈ lw_tbl, w.before #[Value.ref b] s = true := k2_hts_sels lw_privs (fun w hw => hts0 w (List.mem_cons_of_mem _ hw)) lw_privs_ok
    have hml : c.maxLocals = 10 := B.maxLocals_eq (hts0 _ List.mem_cons_self)
    have X₀ : Stand p l e room_1 s m #[Value.ref b] below meth c s₁ [] 0 0 := Stand.of_body B
    have hh0 : s₁.heap = s.heap := by rw [B.state]; rfl
    have hsz : scr.slots.size = xs.length := by rw [← Array.length_toList, hlist, List.length_map]
    have hval : ∀ j : Nat, j < xs.length → scr.slots[j]? = some (.int (xs.getD j 0)) := fun j hj => by
      rw [← Array.getElem?_toList, hlist]
      simp [hj]
    have hbl : b < s.heap.size := (Array.getElem?_eq_some_iff.mp hcb).1
    have hX : va_X b xs.length (fun j => xs.getD j 0) s s.heap := ⟨scr, hcb, hof, hkn, hsz, hval⟩
    have K : W p l e room_1 s m #[Value.ref b] below meth c s₁.heap [] 0 0 (lw_Z below #[Value.ref b] s) (entryFrame m ([Value.ref b] : List Value).toArray 10) := by
      rw [hh0]
      exact whole_start l hflags hbd ⟨B.exec, B.bytes, B.returns, hml, hown, hts, hX, hbl, B.notSynchronized, hgv⟩
    obtain ⟨t, a1, o, b1, b2, b3⟩ := K s₁ rfl X₀
    exact ⟨t, o, a1, b1, b2, b3⟩
theorem lw_pre_spec {args : Array Value} {s : State} (h : (Jvm.Cond.and given_1 narrow_1).before args s = true) (hr : rest_1_c.before args s = true) : ∃ (b : Addr) (xs : List Int32), lw_P b xs args s := by
  have hs := flat_of_before _ h
  have hq := flat_of_before _ hr
  have hc : (Cond.count 1).before args s = true := hs _ (by decide +kernel)
  have harr : (Cond.arrayOf (.arg 0) .int).before args s = true := hs _ (by decide +kernel)
  have hle : (Cond.le (.length (.arg 0)) (.int 260)).before args s = true := hs _ (by decide +kernel)
  have hlen : (Cond.isInt (.length (.arg 0))).before args s = true := hq _ (by decide +kernel)
  have hall : (Cond.all (.arg 0) (.isInt (.elem (.arg 0) (.index 0)))).before args s = true := hq _ (by decide +kernel)
  obtain ⟨b, xs, hb, hx⟩ := State.ints_of_pre rfl harr hlen hall
  have hsm : xs.length < 2 ^ 31 := hx.choose_spec.2.2.2
  have hev : (Term.length (.arg 0)).eval args s none [] s = some (.int xs.length.toInt32) := hx.length_eval hb
  have hv := Cond.le_ints hev (show (Term.int 260).eval args s none [] s = some (.int 260) from rfl)
  have hd : xs.length.toInt32 ≤ 260 := by
    simpa [Cond.before, Cond.holds, hv] using hle
  have hN : xs.length ≤ 260 := (Int32.ofNat_le_ofNat hsm (by decide)).mp (show Int32.ofNat xs.length ≤ Int32.ofNat 260 from hd)
  exact ⟨b, xs, Cond.one_arg hc (show args[0]? = some (.ref b) from hb), hx, hN, h⟩
theorem lw_comes (l : Launch) (hflags : l.flags = flags0) : Comes l x (Jvm.Cond.code x code maxLocals ret :: tables_1) room_1 (fun tb e args s => Calls_1 tb e args s ∧ rest_1 tb e args s ∧ Pre_1 tb e args s)
    (fun _ _ args s o t => lw_Q args s o t) := by
  intro p e ha hc hk s m args below hf hfit hheap happ hpre
  obtain ⟨b, xs, hP⟩ := lw_pre_spec hpre.2.2 hpre.2.1
  obtain ⟨k, o, h1, h2, h3, hQ⟩ := lw_walk l hflags b xs p e ha hc hk s m args below hf ((Spec.applies_iff_loose hf).mp happ).1 hP trivial
  exact ⟨k, o, h1, h2, h3, hQ⟩
theorem lw_frame {s t : State} {o : Outcome} {args : Array Value} (h : State.butDraws s t lw_cs (fun t1 => Framed s o t1 [] 600086 7301442)) :
    State.butDraws s t [Jvm.Choice.named "NaN.bits"] (fun t1 => Framed s o t1 (fieldLocs frame_1_writes args s ++ arrayLocs frame_1_arrays args s ++ staticLocs frame_1_statics s) 600086 7301442) := h
theorem lw_limb (L : Cond) (hL : ∀ (args : Array Value) (s t : State), L.after args s (.returned (some (.int 1))) t = true) :
    ArmFor flags0 classFile x code maxLocals ret World_1 tables_1 room_1 Calls_1 rest_1 Pre_1
      (fun tb e a s o t => postC L tb e a s o t ∧ State.butDraws s t [Jvm.Choice.named "NaN.bits"] (fun t1 => Framed s o t1 (fieldLocs frame_1_writes a s ++ arrayLocs frame_1_arrays a s ++ staticLocs frame_1_statics s) 600086 7301442)) := by
  intro l hflags _ _ p e ha hc hk s m args below hf hfit hheap happ hpre
  obtain ⟨k, o, h1, h2, h3, rfl, hF⟩ := lw_comes l hflags p e ha hc hk s m args below hf hfit hheap happ hpre
  exact ⟨k, _, h1, h2, h3, hL args s _, lw_frame hF⟩
theorem i_vc : Claimed_1_1 ∧ Claimed_1_2 := ⟨lw_limb limb_1_1 (fun args s t => by simp [limb_1_1, Cond.after, Cond.holds, Cond.value]), lw_limb limb_1_2 (fun args s t => Cond.after_iff.mpr (by
  first | (rw [show limb_1_2 = Cond.eq .result (.int 1) from rfl, Cond.eq_ints (x := 1) (y := 1) rfl rfl]; simp; done) | (simp [limb_1_2, Cond.value, Term.eval]; done)))⟩
