/-! Runs only add cells. -/
theorem pt_step_le {k : Nat} {ext : Option (Nat × (Nat → Int32))} {e : pt_E} {L L' : pt_L} {st st' : List pt_V} {μ μ' : pt_M} {pc' : Nat} (hs : pt_step k ext e L st μ = some (.inl (pc', L', st', μ'))) : pt_le μ μ' := by
  obtain ⟨i, n9, t9, X, Y, Z, c9⟩ := e
  cases i <;> simp only [pt_step, pt_ldR, pt_ldI, pt_ldJ, pt_ldD, pt_stR, pt_stI, pt_stJ, pt_stD, pt_i2, pt_j2, pt_d2, pt_if0, pt_if2, pt_getf, pt_putf, pt_ald, pt_ast, pt_inv, pt_end, cond] at hs
  all_goals (repeat' split at hs)
  all_goals first | (cases hs; exact fun _ => Nat.le_refl _) | (cases hs; exact pt_le_nw _ _) | cases hs
theorem pt_ex_grow : ∀ (n : Nat) (k : Nat) (ext : Option (Nat × (Nat → Int32))) (pc : Nat) (L : pt_L) (st : List pt_V) (μ : pt_M) (o : pt_O), pt_ex n k ext pc L st μ = some o → pt_le μ o.2 := by
  intro n
  induction n with
  | zero => intro k ext pc L st μ o h; simp [pt_ex] at h
  | succ n ih =>
    intro k ext pc L st μ o h
    rw [pt_ex] at h
    cases hf : pt_fetch k pc with
    | none => rw [hf] at h; simp at h
    | some e =>
      rw [hf] at h
      simp only [] at h
      cases hs : pt_step k ext e L st μ with
      | none => rw [hs] at h; simp at h
      | some c =>
        rw [hs] at h
        rcases c with ⟨pc', L', st', μ'⟩ | ⟨y, as, pc', r⟩ | v' | E'
        · exact pt_le_tr (pt_step_le hs) (ih _ _ _ _ _ _ _ h)
        · simp only [] at h
          cases hc : pt_ex n y ext 0 (pt_ent (pt_maxL y) as) [] μ with
          | none => rw [hc] at h; simp at h
          | some q =>
            rw [hc] at h
            have h1 := ih _ _ _ _ _ _ _ hc
            rcases q with ⟨v | E, μ'⟩
            · exact pt_le_tr h1 (ih _ _ _ _ _ _ _ h)
            · simp only [] at h
              cases hm : (pt_mayT y && pt_noX L) with
              | false => rw [hm] at h; simp at h
              | true =>
                rw [hm] at h
                simp only [cond_true] at h
                cases hh : pt_catch (pt_hand k) pc E with
                | none => rw [hh] at h; simp at h
                | some hp =>
                  rw [hh] at h
                  exact pt_le_tr h1 (ih _ _ _ _ _ _ _ h)
        · cases h; exact pt_le_rf _
        · cases h; exact pt_le_thr _
theorem pt_ag_tr {μ μ' : pt_M} {a b c : pt_R → Nat} (hle : pt_le μ μ') (h1 : pt_ag μ a b) (h2 : pt_ag μ' b c) : pt_ag μ a c := fun q hq => (h2 q (pt_vd_le hle hq)).trans (h1 q hq)
/-! What the launch gives, carried on. -/
theorem pt_Nw_warm {w : Cond} (hw : w ∈ pt_ng) {s U : State} (hW : s.WarmedH U.vm) (h : va_Nw w s) : va_Nw w U := by
  rcases List.mem_append.mp hw with h1 | h1
  · obtain ⟨q, -, rfl⟩ := List.mem_map.mp h1
    exact va_Nw.warmM hW h
  · simp only [List.mem_cons, List.not_mem_nil, or_false] at h1
    rcases h1 with rfl | rfl | rfl | rfl | rfl | rfl
    · exact va_Nw.warmC hW h
    · exact va_Nw.warmC hW h
    · exact va_Nw.warmC hW h
    · exact va_Nw.warmD hW h
    · exact va_Nw.warmD hW h
    · exact va_Nw.warmD hW h
theorem pt_ng_on : ∀ w ∈ pt_ng, w.onTables = true := by decide +kernel
theorem pt_St_move {A A1 : Nat → Prop} {s U : State} {H : Heap} {locs : List Loc} (h : pt_St A s) (hS : va_S A s.heap H locs) (hA : ∀ q, A1 q → A q) (hU : U.heap = H) (hW : s.WarmedH U.vm) : pt_St A1 U := by
  obtain ⟨h1, h2, h3, h4, h5, h6, h7, h8⟩ := h
  refine ⟨fun q hq => ?_, ?_, ?_, fun w hw => pt_Nw_warm hw hW (h4 w hw), va_AO.moved hW.alike h5, va_AO.moved hW.alike h6, va_AO.moved hW.alike h7, fun q hq => va_Nc.moved hW.alike (h8 q hq)⟩
  · obtain ⟨a, ha⟩ := h1 q hq
    exact ⟨a, vk_R.warm hW ha⟩
  · rw [hU]
    exact vx_Zq.moved hW.alike ((h2.kept hS.2.1).narrow hA)
  · rw [hU]
    exact vx_Zq.moved hW.alike ((h3.kept hS.2.1).narrow hA)
theorem pt_St_call {A : Nat → Prop} {U : State} {g : JFrame} {mk : MethodId} {a : Array Value} (h : pt_St A U) : pt_St A (U.calling g mk a) := by
  obtain ⟨h1, h2, h3, h4, h5, h6, h7, h8⟩ := h
  refine ⟨fun q hq => ?_, vx_Zq.moved (u := U) (U := U.calling g mk a) (Vm.Alike.refl U.vm) h2, vx_Zq.moved (u := U) (U := U.calling g mk a) (Vm.Alike.refl U.vm) h3, fun w hw => va_Nw.same (pt_ng_on w hw) (u := U) rfl (h4 w hw), va_AO.moved (u := U) (U := U.calling g mk a) (Vm.Alike.refl U.vm) h5, va_AO.moved (u := U) (U := U.calling g mk a) (Vm.Alike.refl U.vm) h6, va_AO.moved (u := U) (U := U.calling g mk a) (Vm.Alike.refl U.vm) h7, fun q hq => va_Nc.moved (u := U) (U := U.calling g mk a) (Vm.Alike.refl U.vm) (h8 q hq)⟩
  obtain ⟨a9, ha⟩ := h1 q hq
  exact ⟨a9, vk_R.same (u := U) rfl ha⟩
/-- a body with handlers, that returns (follows vx_ofWH of the names' page) -/
theorem pt_ofWH {l : Launch} {y : MethodName} {ws ws' : List Cond} {rm : Room} {Pc : Array Value → State → Prop} {Qc : Array Value → State → Outcome → State → Prop} {mc ms : Nat} {free : Addr → Prop} {cc : ByteArray} {maxL : Nat} {ret : Option FieldType} {hh : List (Nat × Nat × Nat × Nat)}
    (hy : plainName y.cls = true) (hw : ws = Cond.codeWith y cc maxL ret hh :: ws')
    (body : ∀ p e s m args below meth c s₁, BodyLoose p l y (headSpec ws rm) cc maxL ret e s m args below meth c s₁ → c.maxLocals = maxL → Pc args s →
      W p l e (headSpec ws rm).room s m args below meth c s.heap [] 0 0 (MQ below Qc args s mc ms free) (entryFrame m args maxL)) : Met l y ws rm Pc Qc mc ms free := by
  refine MetFree.of_bodyS (code := cc) (maxLocals := maxL) (ret := ret) hy ?_ ?_
  · intro args s m h hn
    obtain ⟨m9, meth, c, hn9, h1, h2, h3, h4, -, h5, h6, -⟩ := Cond.codeWith_spec (atoms_spec (ws := ws) h _ (by rw [hw]; exact List.mem_cons_self))
    cases hn.symm.trans hn9
    exact ⟨meth, c, h1, h2, h3, h4, h5, h6⟩
  · intro p e s m args below meth c s₁ B hml hP _
    have hh0 : s₁.heap = s.heap := by rw [B.state]; rfl
    obtain ⟨t, a1, o, b1, b2, b3⟩ := body p e s m args below meth c s₁ B hml hP s₁ hh0 (Stand.of_body B)
    exact ⟨t, o, a1, b1, b2, b3⟩
