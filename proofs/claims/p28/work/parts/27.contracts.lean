/-! Contracts of whole methods, and runs of the abstract machine. -/
def pt_A1 (cy : Nat → ClassId) (ad : pt_R → Nat) (μ : pt_M) (dl : List pt_R) (sz : Nat) : Nat → Prop := va_A (pt_ws cy ad μ dl) sz
def pt_Bg (D : va_G) (cy : Nat → ClassId) (ad : pt_R → Nat) (dl : List pt_R) (μ : pt_M) (sz : Nat) (U : State) : Prop := U.heap.size = sz ∧ pt_In D cy (pt_A1 cy ad μ dl sz) ad dl μ U.heap ∧ va_K D vwCl (pt_tys cy) U ∧ pt_St (pt_A1 cy ad μ dl sz) U
def pt_Pc (ext : Option (Nat × (Nat → Int32))) (D : va_G) (cy : Nat → ClassId) (ad : pt_R → Nat) (dl : List pt_R) (μ : pt_M) (sz x b : Nat) (as : List pt_V) : Array Value → State → Prop := va_Pc (as.map (pt_cv ad x b)) (fun U => pt_Bg D cy ad dl μ sz U ∧ pt_Xt ext (pt_A1 cy ad μ dl sz) U b)
def pt_Bf (D : va_G) (cy : Nat → ClassId) (ad : pt_R → Nat) (dl : List pt_R) (μ : pt_M) (sz : Nat) (μ' : pt_M) (u : (pt_R → Nat) × List pt_R) (t : State) : Prop := pt_ag μ ad u.1 ∧ pt_In D cy (pt_A1 cy ad μ dl sz) u.1 u.2 μ' t.heap
def pt_Qn (D : va_G) (cy : Nat → ClassId) (ad : pt_R → Nat) (dl : List pt_R) (μ : pt_M) (sz : Nat) (μ' : pt_M) (v : Option pt_V) : Array Value → State → Outcome → State → Prop := match v with
  | none => va_Qv (fun _ => True) (pt_Bf D cy ad dl μ sz μ') (pt_A1 cy ad μ dl sz)
  | some (.inl r) => va_Qi (fun r' _ => r' = r) (pt_Bf D cy ad dl μ sz μ') (pt_A1 cy ad μ dl sz)
  | some (.inr (.inl r)) => va_Ql (fun r' _ => r' = r) (pt_Bf D cy ad dl μ sz μ') (pt_A1 cy ad μ dl sz)
  | some (.inr (.inr (.inl r))) => va_Qd (fun r' _ => r' = r) (pt_Bf D cy ad dl μ sz μ') (pt_A1 cy ad μ dl sz)
  | some (.inr (.inr (.inr _))) => fun _ _ _ _ => False
def pt_Xt9 (D : va_G) (cy : Nat → ClassId) (ad : pt_R → Nat) (dl : List pt_R) (μ : pt_M) (sz : Nat) (μ' : pt_M) (E : Nat) : String → State → State → Prop := vx_X (fun _ => True) (fun E' u t => E' = pt_xn E ∧ pt_Bf D cy ad dl μ sz μ' u t) (pt_A1 cy ad μ dl sz)
def pt_rm (y : Nat) (μ μ' : pt_M) : Room := { frames := pt_fr y, cells := pt_sz μ' - pt_sz μ, slots := pt_sn μ' - pt_sn μ, locals := pt_lo y }
/-- the method, called with these arguments at this memory, returns v and leaves the memory so -/
def pt_Mn (l : Launch) (ext : Option (Nat × (Nat → Int32))) (D : va_G) (cy : Nat → ClassId) (y : Nat) (as : List pt_V) (μ : pt_M) (v : Option pt_V) (μ' : pt_M) : Prop := ∀ (ad : pt_R → Nat) (dl : List pt_R) (sz x b : Nat), Met l (pt_nm y) (pt_ws9 y) (pt_rm y μ μ') (pt_Pc ext D cy ad dl μ sz x b as) (pt_Qn D cy ad dl μ sz μ' v) (pt_sz μ' - pt_sz μ) (pt_sn μ' - pt_sn μ) (pt_A1 cy ad μ dl sz)
/-- .. throws -/
def pt_Mt (l : Launch) (ext : Option (Nat × (Nat → Int32))) (D : va_G) (cy : Nat → ClassId) (y : Nat) (as : List pt_V) (μ : pt_M) (E : Nat) (μ' : pt_M) : Prop := ∀ (ad : pt_R → Nat) (dl : List pt_R) (sz x b : Nat), vx_Met l (pt_nm y) (pt_ws9 y) (pt_rm y μ μ') (pt_Pc ext D cy ad dl μ sz x b as) (fun _ _ _ _ => False) (pt_Xt9 D cy ad dl μ sz μ' E) (pt_sz μ' - pt_sz μ) (pt_sn μ' - pt_sn μ) (pt_A1 cy ad μ dl sz)
theorem pt_Pc_blind {ext : Option (Nat × (Nat → Int32))} {D : va_G} {cy : Nat → ClassId} {ad : pt_R → Nat} {dl : List pt_R} {μ : pt_M} {sz x b : Nat} {as : List pt_V} : FrameBlind (pt_Pc ext D cy ad dl μ sz x b as) := by
  intro a U g mk h
  obtain ⟨h1, ⟨h2, h3, h4, h5⟩, h6⟩ := h
  refine ⟨h1, ⟨h2, h3, va_K.moved (u := U) (U := U.calling g mk a) (Vm.Alike.refl U.vm) h4, pt_St_call h5⟩, ?_⟩
  cases ext with
  | none => trivial
  | some q => exact ⟨va_X.moved (u := U) (U := U.calling g mk a) (Vm.Alike.refl U.vm) h6.1, h6.2⟩
/-- the script lies there yet, seen by a callee -/
theorem pt_Xt_of {ext : Option (Nat × (Nat → Int32))} {A A1 : Nat → Prop} {s U : State} {H : Heap} {locs : List Loc} {b : Nat} (h : pt_Xt ext A s b) (hS : va_S A s.heap H locs) (hsub : ∀ q, A1 q → A q) (hU : U.heap = H) (hW : s.WarmedH U.vm) : pt_Xt ext A1 U b := by
  cases ext with
  | none => trivial
  | some q =>
    obtain ⟨h1, h2, h3⟩ := h
    refine ⟨?_, by rw [hU]; exact Nat.lt_of_lt_of_le h2 hS.1, fun z => h3 (hsub _ z)⟩
    rw [hU]
    exact va_X.moved hW.alike (h1.kept (hS.2.1 b h2 h3))
/-- what is owed where a run ends -/
def pt_KE (p : Program) (l : Launch) (e : Env) (R : Room) (s : State) (m : MethodId) (args : Array Value) (below : List Frame) (meth : Method) (c : Code) (Q : State → Prop) (D : va_G) (cy : Nat → ClassId) (A : Nat → Prop) (k b : Nat) (ext : Option (Nat × (Nat → Int32))) (cells slots : Nat) (μ : pt_M) (ad : pt_R → Nat) (o : pt_O) : Prop :=
  ∀ (ad' : pt_R → Nat) (dl' : List pt_R) (x' : Nat) (H' : Heap) (locs' : List Loc) (cells' slots' : Nat) (ls' : Array Slot) (pc' : Nat) (L' : pt_L) (st' : List pt_V) (e' : pt_E) (μ' : pt_M), pt_ag μ ad ad' → pt_le μ μ' → cells' + pt_sz μ = cells + pt_sz μ' → slots' + pt_sn μ = slots + pt_sn μ' → pt_Tw D cy A s k b x' ad' dl' μ' H' locs' ls' L' st' → pt_fetch k pc' = some e' →
    ((∃ v, o = (.inl v, μ') ∧ pt_step k ext e' L' st' μ' = some (.inr (.inr (.inl v)))) ∨ (∃ E, o = (.inr E, pt_thr μ') ∧ pt_step k ext e' L' st' μ' = some (.inr (.inr (.inr E))))) →
    W p l e R s m args below meth c H' locs' cells' slots' Q (F0 m pc' ls' (st'.map (pt_cv ad' x' b)))
theorem pt_KE.next {p : Program} {l : Launch} {e : Env} {R : Room} {s : State} {m : MethodId} {args : Array Value} {below : List Frame} {meth : Method} {c : Code} {Q : State → Prop} {D : va_G} {cy : Nat → ClassId} {A : Nat → Prop} {k b : Nat} {ext : Option (Nat × (Nat → Int32))} {cells slots cells' slots' : Nat} {μ μ' : pt_M} {ad ad' : pt_R → Nat} {o : pt_O} (h : pt_KE p l e R s m args below meth c Q D cy A k b ext cells slots μ ad o) (hle : pt_le μ μ') (hag : pt_ag μ ad ad') (hc : cells' + pt_sz μ = cells + pt_sz μ') (hn : slots' + pt_sn μ = slots + pt_sn μ') : pt_KE p l e R s m args below meth c Q D cy A k b ext cells' slots' μ' ad' o :=
  fun ad2 dl2 x2 H2 locs2 cells2 slots2 ls2 pc2 L2 st2 e2 μ2 a1 a2 a3 a4 a5 a6 a7 => h ad2 dl2 x2 H2 locs2 cells2 slots2 ls2 pc2 L2 st2 e2 μ2 (pt_ag_tr hle hag a1) (pt_le_tr hle a2) (by omega) (by omega) a5 a6 a7
/-- runs of n steps are runs of the machine -/
def pt_PX (l : Launch) (n : Nat) : Prop := ∀ (p : Program) (e : Env) (R : Room) (s : State) (m : MethodId) (args : Array Value) (below : List Frame) (meth : Method) (c : Code) (Q : State → Prop) (D : va_G) (cy : Nat → ClassId) (A : Nat → Prop) (k b x : Nat) (ext : Option (Nat × (Nat → Int32))) (pc : Nat) (L : pt_L) (st : List pt_V) (μ : pt_M) (o : pt_O) (ad : pt_R → Nat) (dl : List pt_R) (H : Heap) (locs : List Loc) (cells slots : Nat) (ls : Array Slot),
  pt_Cx p l R s m args meth c D cy A k → (pt_hand k ≠ [] → c.exceptionTable.toList = tableOf (pt_hh k)) → pt_Xt ext A s b → pt_ex n k ext pc L st μ = some o → pt_Tw D cy A s k b x ad dl μ H locs ls L st → cells + pt_sz o.2 ≤ R.cells + pt_sz μ → slots + pt_sn o.2 ≤ R.slots + pt_sn μ →
  pt_KE p l e R s m args below meth c Q D cy A k b ext cells slots μ ad o → W p l e R s m args below meth c H locs cells slots Q (F0 m pc ls (st.map (pt_cv ad x b)))
theorem pt_ofW {l : Launch} {y : MethodName} {ws ws' : List Cond} {rm : Room} {Pc : Array Value → State → Prop} {Qc : Array Value → State → Outcome → State → Prop} {mc ms : Nat} {free : Addr → Prop} {cc : ByteArray} {maxL : Nat} {ret : Option FieldType}
    (hy : plainFor y = true) (hw : ws = Cond.code y cc maxL ret :: ws')
    (body : ∀ p e s m args below meth c s₁, BodyLoose p l y (headSpec ws rm) cc maxL ret e s m args below meth c s₁ → c.maxLocals = maxL → (c.exceptionTable.toList = []) → Pc args s →
      W p l e (headSpec ws rm).room s m args below meth c s.heap [] 0 0 (MQ below Qc args s mc ms free) (entryFrame m args maxL)) : Met l y ws rm Pc Qc mc ms free := by
  refine MetFree.of_bodySF (code := cc) (maxLocals := maxL) (ret := ret) hy ?_ ?_
  · intro args s m h hn
    obtain ⟨meth, c, h1, h2, h3, h4, h5, h6, -, -⟩ := Cond.code_spec hn (atoms_spec (ws := ws) h _ (by rw [hw]; exact List.mem_cons_self))
    exact ⟨meth, c, h1, h2, h3, h4, h5, h6⟩
  · intro p e s m args below meth c s₁ B hml hP _
    have hh0 : s₁.heap = s.heap := by rw [B.state]; rfl
    have ht : c.exceptionTable.toList = [] := by
      obtain ⟨meth9, c9, h1, h2, -, -, -, -, h7, -⟩ := Cond.code_spec B.named (atoms_spec (ws := ws) B.pre _ (by rw [hw]; exact List.mem_cons_self))
      cases Option.some.inj (h1.symm.trans B.method)
      cases Option.some.inj (h2.symm.trans (Stand.of_body B).code)
      rw [Array.isEmpty_iff.mp h7]
    obtain ⟨t, a1, o, b1, b2, b3⟩ := body p e s m args below meth c s₁ B hml ht hP s₁ hh0 (Stand.of_body B)
    exact ⟨t, o, a1, b1, b2, ⟨b3.1, b3.2⟩⟩
theorem pt_ofWH2 {l : Launch} {y : MethodName} {ws ws' : List Cond} {rm : Room} {Pc : Array Value → State → Prop} {Qc : Array Value → State → Outcome → State → Prop} {mc ms : Nat} {free : Addr → Prop} {cc : ByteArray} {maxL : Nat} {ret : Option FieldType} {hh : List (Nat × Nat × Nat × Nat)}
    (hy : plainFor y = true) (hw : ws = Cond.codeWith y cc maxL ret hh :: ws')
    (body : ∀ p e s m args below meth c s₁, BodyLoose p l y (headSpec ws rm) cc maxL ret e s m args below meth c s₁ → c.maxLocals = maxL → c.exceptionTable.toList = tableOf hh → Pc args s →
      W p l e (headSpec ws rm).room s m args below meth c s.heap [] 0 0 (MQ below Qc args s mc ms free) (entryFrame m args maxL)) : Met l y ws rm Pc Qc mc ms free := by
  refine MetFree.of_bodySF (code := cc) (maxLocals := maxL) (ret := ret) hy ?_ ?_
  · intro args s m h hn
    obtain ⟨m9, meth, c, hn9, h1, h2, h3, h4, -, h5, h6, -⟩ := Cond.codeWith_spec (atoms_spec (ws := ws) h _ (by rw [hw]; exact List.mem_cons_self))
    cases hn.symm.trans hn9
    exact ⟨meth, c, h1, h2, h3, h4, h5, h6⟩
  · intro p e s m args below meth c s₁ B hml hP _
    have hh0 : s₁.heap = s.heap := by rw [B.state]; rfl
    have ht : c.exceptionTable.toList = tableOf hh := vx_table (x := y) (y := y) (bytes := cc) (maxL' := maxL) (ret' := ret) B (atoms_spec (ws := ws) B.pre _ (by rw [hw]; exact List.mem_cons_self))
    obtain ⟨t, a1, o, b1, b2, b3⟩ := body p e s m args below meth c s₁ B hml ht hP s₁ hh0 (Stand.of_body B)
    exact ⟨t, o, a1, b1, b2, ⟨b3.1, b3.2⟩⟩
theorem pt_ofWX {l : Launch} {y : MethodName} {ws ws' : List Cond} {rm : Room} {Pc : Array Value → State → Prop} {Qc : Array Value → State → Outcome → State → Prop} {XC : String → State → State → Prop} {mc ms : Nat} {free : Addr → Prop} {cc : ByteArray} {maxL : Nat} {ret : Option FieldType}
    (hy : plainFor y = true) (hw : ws = Cond.code y cc maxL ret :: ws')
    (body : ∀ p e s m args below meth c s₁, BodyLoose p l y (headSpec ws rm) cc maxL ret e s m args below meth c s₁ → c.maxLocals = maxL → (c.exceptionTable.toList = []) → Pc args s →
      W p l e (headSpec ws rm).room s m args below meth c s.heap [] 0 0 (vx_MQ below Qc XC args s mc ms free) (entryFrame m args maxL)) : vx_Met l y ws rm Pc Qc XC mc ms free := by
  refine MetFree.of_bodySF (code := cc) (maxLocals := maxL) (ret := ret) hy ?_ ?_
  · intro args s m h hn
    obtain ⟨meth, c, h1, h2, h3, h4, h5, h6, -, -⟩ := Cond.code_spec hn (atoms_spec (ws := ws) h _ (by rw [hw]; exact List.mem_cons_self))
    exact ⟨meth, c, h1, h2, h3, h4, h5, h6⟩
  · intro p e s m args below meth c s₁ B hml hP _
    have hh0 : s₁.heap = s.heap := by rw [B.state]; rfl
    have ht : c.exceptionTable.toList = [] := by
      obtain ⟨meth9, c9, h1, h2, -, -, -, -, h7, -⟩ := Cond.code_spec B.named (atoms_spec (ws := ws) B.pre _ (by rw [hw]; exact List.mem_cons_self))
      cases Option.some.inj (h1.symm.trans B.method)
      cases Option.some.inj (h2.symm.trans (Stand.of_body B).code)
      rw [Array.isEmpty_iff.mp h7]
    obtain ⟨t, a1, o, b1, b2, b3⟩ := body p e s m args below meth c s₁ B hml ht hP s₁ hh0 (Stand.of_body B)
    exact ⟨t, o, a1, b1, b2, b3⟩
/-! the locals at the entry -/
theorem pt_flat_len (f : pt_V → Value) (hf : ∀ v, (f v).category = pt_cat v) : ∀ as : List pt_V, (lg_sl (as.map f)).length = (pt_flat as).length
  | [] => rfl
  | v :: as => by
    have ih := pt_flat_len f hf as
    have hc := hf v
    simp only [lg_sl, List.map_cons, List.flatMap_cons, List.length_append] at ih ⊢
    rcases v with v | v | v | v <;> simp only [pt_cat] at hc <;> simp only [hc, pt_flat, List.length_cons, ih, if_true, List.length_nil] <;> first | omega | (simp; omega)
theorem pt_pad_lv (f : pt_V → Value) : ∀ (n i : Nat) (l : pt_L) (q : Nat × Value), q ∈ pt_lv f i (pt_pad n l) → q ∈ pt_lv f i l
  | 0, _, _, _, h => by simp [pt_pad, pt_lv] at h
  | n + 1, i, [], q, h => by
    simp only [pt_pad, pt_lv] at h
    have := pt_pad_lv f n (i + 1) [] q h
    simp [pt_lv] at this
  | n + 1, i, none :: l, q, h => by
    simp only [pt_pad, pt_lv] at h ⊢
    exact pt_pad_lv f n (i + 1) l q h
  | n + 1, i, some v :: l, q, h => by
    simp only [pt_pad, pt_lv, List.mem_cons] at h ⊢
    rcases h with h | h
    · exact Or.inl h
    · exact Or.inr (pt_pad_lv f n (i + 1) l q h)
theorem pt_flat_lv (f : pt_V → Value) (hf : ∀ v, (f v).category = pt_cat v) : ∀ (as : List pt_V) (i : Nat), pt_lv f i (pt_flat as) = lv_args i (as.map f)
  | [], _ => rfl
  | v :: as, i => by
    have hc := hf v
    rcases v with v | v | v | v <;> simp only [pt_cat] at hc <;> simp [pt_flat, pt_lv, lv_args, hc, pt_flat_lv f hf as]
theorem pt_pad_len : ∀ (n : Nat) (l : pt_L), (pt_pad n l).length = n
  | 0, _ => rfl
  | n + 1, [] => by simp only [pt_pad, List.length_cons, pt_pad_len n []]
  | n + 1, a :: l => by simp only [pt_pad, List.length_cons, pt_pad_len n l]
theorem pt_pad_mem : ∀ (n : Nat) (l : pt_L) (v : pt_V), some v ∈ pt_pad n l → some v ∈ l
  | 0, _, _, h => by simp [pt_pad] at h
  | n + 1, [], v, h => by
    simp only [pt_pad, List.mem_cons] at h
    rcases h with h | h
    · cases h
    · exact pt_pad_mem n [] v h
  | n + 1, a :: l, v, h => by
    simp only [pt_pad, List.mem_cons] at h
    rcases h with h | h
    · rw [h]; exact List.mem_cons_self
    · exact List.mem_cons_of_mem _ (pt_pad_mem n l v h)
theorem pt_flat_mem : ∀ (as : List pt_V) (v : pt_V), some v ∈ pt_flat as → v ∈ as
  | [], _, h => by simp [pt_flat] at h
  | a :: as, v, h => by
    rcases a with a | a | a | a <;> simp only [pt_flat, List.mem_cons, Option.some.injEq, reduceCtorEq, false_or] at h
    all_goals
      rcases h with h | h
      · rw [h]; exact List.mem_cons_self
      · exact List.mem_cons_of_mem _ (pt_flat_mem as v h)

/-- the entry's frame and world -/
theorem pt_entry {l : Launch} {p : Program} {e : Env} {s : State} {m : MethodId} {below : List Frame} {meth : Method} {c : Code} {D : va_G} {cy : Nat → ClassId} {ad : pt_R → Nat} {dl : List pt_R} {μ μ' : pt_M} {x b y : Nat} {as : List pt_V} {s₁ : State} {Q : State → Prop} {mc ms : Nat}
    (hl0 : l.stackTraces = false) (hy : y < 179) (hfl : (pt_flat as).length ≤ pt_maxL y) (hok : pt_okS μ as)
    (B : BodyLoose p l (pt_nm y) (headSpec (pt_ws9 y) (pt_rm y μ μ')) (pt_by y) (pt_maxL y) (pt_rt y) e s m (as.map (pt_cv ad x b)).toArray below meth c s₁) (hml : c.maxLocals = pt_maxL y) (hBg : pt_Bg D cy ad dl μ s.heap.size s) :
    pt_Cx p l (pt_rm y μ μ') s m (as.map (pt_cv ad x b)).toArray meth c D cy (pt_A1 cy ad μ dl s.heap.size) y ∧ ∃ ls : Array Slot, entryFrame m (as.map (pt_cv ad x b)).toArray (pt_maxL y) = F0 m 0 ls [] ∧ pt_Tw D cy (pt_A1 cy ad μ dl s.heap.size) s y b x ad dl μ s.heap [] ls (pt_ent (pt_maxL y) as) [] := by
  obtain ⟨hsz, hI, hK, hSt⟩ := hBg
  obtain ⟨hpf, hcls, -⟩ := pt_mth (k := y) (by omega)
  have hts := atoms_spec (ws := pt_ws9 y) B.pre
  refine ⟨⟨B.exec, B.bytes, B.returns, hml, by rw [← hcls]; exact findClass_of_methodNamed B.named, fun w hw => hts w (List.mem_cons_of_mem _ hw), B.notSynchronized, fun h => (name_of_methodNamed B.named B.method).1.trans h, Nat.le_refl _, Nat.le_refl _, hl0, hK, fun q hq => Or.inr hq, hSt⟩, ?_⟩
  have hlen := pt_flat_len (pt_cv ad x b) (pt_cv_cat ad x b) as
  have hl := lv_entry (as.map (pt_cv ad x b)) (n := pt_maxL y) (by rw [hlen]; exact hfl)
  refine ⟨_, lg_entry_eq _ _ _, ⟨hl.1, hl.2.1, fun q hq => hl.2.2 q ?_⟩, pt_pad_len _ _, fun v hv => hok v (pt_flat_mem as v (pt_pad_mem _ _ v hv)), fun v hv => (by cases hv), hI, va_S.rf⟩
  have := pt_pad_lv (pt_cv ad x b) _ _ _ q hq
  rw [pt_flat_lv _ (pt_cv_cat ad x b)] at this
  exact this
theorem pt_Qn_mk {D : va_G} {cy : Nat → ClassId} {ad ad' : pt_R → Nat} {dl dl' : List pt_R} {μ μ' : pt_M} {x b : Nat} {v : Option pt_V} {a : Array Value} {s t : State} {H : Heap} {locs : List Loc} (hv : ∀ w, v = some (.inr (.inr (.inr w))) → False) (hag : pt_ag μ ad ad') (hI : pt_In D cy (pt_A1 cy ad μ dl s.heap.size) ad' dl' μ' H) (hS : va_S (pt_A1 cy ad μ dl s.heap.size) s.heap H locs) (ht : t.heap = H) : pt_Qn D cy ad dl μ s.heap.size μ' v a s (.returned (v.map (pt_cv ad' x b))) t := by
  have hB : pt_Bf D cy ad dl μ s.heap.size μ' (ad', dl') t := ⟨hag, by rw [ht]; exact hI⟩
  have hF := hS.F ht
  rcases v with _ | v | v | v | v
  · exact ⟨⟨(ad', dl'), rfl, trivial, hB⟩, hF⟩
  · exact ⟨⟨v, (ad', dl'), rfl, rfl, hB⟩, hF⟩
  · exact ⟨⟨v, (ad', dl'), rfl, rfl, hB⟩, hF⟩
  · exact ⟨⟨v, (ad', dl'), rfl, rfl, hB⟩, hF⟩
  · exact (hv v rfl).elim
theorem pt_step_ret_ok {k : Nat} {ext : Option (Nat × (Nat → Int32))} {e9 : pt_E} {L : pt_L} {st : List pt_V} {μ : pt_M} {w : Option pt_R ⊕ Bool} : pt_step k ext e9 L st μ ≠ some (.inr (.inr (.inl (some (.inr (.inr (.inr w))))))) := by
  intro hs
  obtain ⟨i, n9, t9, X, Y, Z, c9⟩ := e9
  cases i <;> simp only [pt_step, pt_ldR, pt_ldI, pt_ldJ, pt_ldD, pt_stR, pt_stI, pt_stJ, pt_stD, pt_i2, pt_j2, pt_d2, pt_if0, pt_if2, pt_getf, pt_putf, pt_ald, pt_ast, pt_inv, pt_end, cond] at hs
  all_goals (repeat' split at hs)
  all_goals cases hs
theorem pt_Mn_of {ext : Option (Nat × (Nat → Int32))} {l : Launch} {n : Nat} (hP : pt_PX l n) (hl0 : l.stackTraces = false) {D : va_G} {cy : Nat → ClassId} {y : Nat} {as : List pt_V} {μ μ' : pt_M} {v : Option pt_V} (hy : y < 179) (hfl : (pt_flat as).length ≤ pt_maxL y) (hok : pt_okS μ as) (h : pt_ex n y ext 0 (pt_ent (pt_maxL y) as) [] μ = some (.inl v, μ')) : pt_Mn l ext D cy y as μ v μ' := by
  intro ad dl sz x b
  obtain ⟨hpf, hcls, -⟩ := pt_mth (k := y) (by omega)
  have hle := pt_ex_grow _ _ _ _ _ _ _ _ h
  have hsz := pt_sz_le hle
  have hsn := pt_sn_le hle
  have core : ∀ (p : Program) (e : Env) (s : State) (m : MethodId) (args : Array Value) (below : List Frame) (meth : Method) (c : Code) (s₁ : State), BodyLoose p l (pt_nm y) (headSpec (pt_ws9 y) (pt_rm y μ μ')) (pt_by y) (pt_maxL y) (pt_rt y) e s m args below meth c s₁ → c.maxLocals = pt_maxL y → c.exceptionTable.toList = tableOf (pt_hh y) → pt_Pc ext D cy ad dl μ sz x b as args s →
      W p l e (headSpec (pt_ws9 y) (pt_rm y μ μ')).room s m args below meth c s.heap [] 0 0 (MQ below (pt_Qn D cy ad dl μ sz μ' v) args s (pt_sz μ' - pt_sz μ) (pt_sn μ' - pt_sn μ) (pt_A1 cy ad μ dl sz)) (entryFrame m args (pt_maxL y)) := by
    intro p e s m args below meth c s₁ B hml htab hv
    obtain ⟨rfl, hBg, hXt⟩ := hv
    obtain rfl : sz = s.heap.size := hBg.1.symm
    obtain ⟨C, ls, he, T⟩ := pt_entry (e := e) (Q := fun _ => True) (mc := 0) (ms := 0) hl0 hy hfl hok B hml hBg
    rw [he]
    refine hP p e (pt_rm y μ μ') s m _ below meth c _ D cy (pt_A1 cy ad μ dl s.heap.size) y b x ext 0 _ [] μ (.inl v, μ') ad dl s.heap [] 0 0 ls C (fun _ => htab) hXt h T ?_ ?_ ?_
    · show 0 + pt_sz μ' ≤ (pt_sz μ' - pt_sz μ) + pt_sz μ; omega
    · show 0 + pt_sn μ' ≤ (pt_sn μ' - pt_sn μ) + pt_sn μ; omega
    · intro ad2 dl2 x2 H2 locs2 cells2 slots2 ls2 pc2 L2 st2 e2 μ2 a1 a2 a3 a4 a5 a6 a7
      rcases a7 with ⟨w, hw, hs2⟩ | ⟨E, hw, hs2⟩
      · simp only [Prod.mk.injEq, Sum.inl.injEq] at hw
        obtain ⟨rfl, rfl⟩ := hw
        obtain rfl : cells2 = pt_sz μ' - pt_sz μ := by omega
        obtain rfl : slots2 = pt_sn μ' - pt_sn μ := by omega
        exact pt_W_ret C a6 hs2 a5 (fun t ht hW => pt_Qn_mk (fun w hw => by subst hw; exact pt_step_ret_ok hs2) a1 a5.2.2.2.2.1 a5.2.2.2.2.2 ht) (fun q hq => a5.2.2.2.2.2.2.2 q hq)
      · simp at hw
  by_cases hh : pt_hh y = []
  · exact pt_ofW hpf (by rw [pt_ws9, pt_wY_no hh]) (fun p e s m args below meth c s₁ B hml ht hv => core p e s m args below meth c s₁ B hml (by rw [ht, hh]; rfl) hv)
  · exact pt_ofWH2 hpf (by rw [pt_ws9, pt_wY_hh hh]) core
theorem pt_Mt_of {ext : Option (Nat × (Nat → Int32))} {l : Launch} {n : Nat} (hP : pt_PX l n) (hl0 : l.stackTraces = false) {D : va_G} {cy : Nat → ClassId} {y : Nat} {as : List pt_V} {μ μ' : pt_M} {E : Nat} (hy : y < 179) (hh : pt_hh y = []) (hfl : (pt_flat as).length ≤ pt_maxL y) (hok : pt_okS μ as) (h : pt_ex n y ext 0 (pt_ent (pt_maxL y) as) [] μ = some (.inr E, μ')) : pt_Mt l ext D cy y as μ E μ' := by
  intro ad dl sz x b
  obtain ⟨hpf, hcls, -⟩ := pt_mth (k := y) (by omega)
  have hle := pt_ex_grow _ _ _ _ _ _ _ _ h
  have hsz := pt_sz_le hle
  have hsn := pt_sn_le hle
  refine pt_ofWX hpf (by rw [pt_ws9, pt_wY_no hh]) ?_
  intro p e s m args below meth c s₁ B hml htab hv
  obtain ⟨rfl, hBg, hXt⟩ := hv
  obtain rfl : sz = s.heap.size := hBg.1.symm
  obtain ⟨C, ls, he, T⟩ := pt_entry (e := e) (Q := fun _ => True) (mc := 0) (ms := 0) hl0 hy hfl hok B hml hBg
  rw [he]
  have htab2 : c.exceptionTable.toList = tableOf (pt_hh y) := by rw [htab, hh]; rfl
  refine hP p e (pt_rm y μ μ') s m _ below meth c _ D cy (pt_A1 cy ad μ dl s.heap.size) y b x ext 0 _ [] μ (.inr E, μ') ad dl s.heap [] 0 0 ls C (fun _ => htab2) hXt h T ?_ ?_ ?_
  · show 0 + pt_sz μ' ≤ (pt_sz μ' - pt_sz μ) + pt_sz μ; omega
  · show 0 + pt_sn μ' ≤ (pt_sn μ' - pt_sn μ) + pt_sn μ; omega
  · intro ad2 dl2 x2 H2 locs2 cells2 slots2 ls2 pc2 L2 st2 e2 μ2 a1 a2 a3 a4 a5 a6 a7
    rcases a7 with ⟨w, hw, hs2⟩ | ⟨E2, hw, hs2⟩
    · simp at hw
    · simp only [Prod.mk.injEq, Sum.inr.injEq] at hw
      obtain ⟨rfl, rfl⟩ := hw
      have z1 := pt_sz_thr μ2
      have z2 := pt_sn_thr μ2
      refine pt_W_thr C htab2 a6 hs2 a5 (by show cells2 + 1 ≤ pt_sz (pt_thr μ2) - pt_sz μ; omega) (by show slots2 + 6 ≤ pt_sn (pt_thr μ2) - pt_sn μ; omega) (by omega) (by omega) (fun t hal hsz3 hk3 => ?_) (fun q hq => a5.2.2.2.2.2.2.2 q hq)
      obtain ⟨i1, i2, i3, i4, i5⟩ := a5.2.2.2.2.1
      have hS2 := a5.2.2.2.2.2
      refine ⟨(ad2, dl2), trivial, ⟨rfl, a1, ?_⟩, ?_⟩
      · refine ⟨fun c9 n9 j9 q9 hq9 => pt_vd_le (pt_le_thr μ2) (i1 c9 n9 j9 q9 hq9), i2, fun q9 => ?_, i4.kept (fun k9 q9 hq9 => hk3 _ (i4 k9 q9 hq9).lt), i5⟩
        rw [i3]
        constructor
        · exact pt_vd_le (pt_le_thr μ2)
        · intro z
          refine ⟨z.1, ?_⟩
          have := z.2
          rw [pt_cn_thr, if_neg (by have := z.1; omega)] at this
          exact this
      · exact ⟨Nat.le_trans hS2.1 hsz3, fun q hq1 hq2 => by rw [hk3 q (Nat.lt_of_lt_of_le hq1 hS2.1)]; exact hS2.2.1 q hq1 hq2⟩
