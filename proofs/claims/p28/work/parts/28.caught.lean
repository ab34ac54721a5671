/-! Every run of the abstract machine is a run of the machine. -/
def pt_hdl : List (Nat × Nat × Nat) := [(12, 32, 1), (12, 30, 3), (12, 34, 2)]
set_option maxRecDepth 100000 in
theorem pt_hdl_w : pt_hdl.all (fun q => decide (Cond.classLink (pt_cname q.1) q.2.1 (pt_xn q.2.2) ∈ lw_tbl)) = true := by decide +kernel
set_option maxRecDepth 100000 in
theorem pt_hand_all : (List.range 180).all (fun k => (pt_hand k).all (fun q => decide ((pt_own k, q.2.2.2.1, q.2.2.2.2) ∈ pt_hdl) && decide (q.2.2.2.1 ≠ 0))) = true := by decide +kernel
theorem pt_hand_ok {k : Nat} {q : Nat × Nat × Nat × Nat × Nat} (h : q ∈ pt_hand k) : q.2.2.2.1 ≠ 0 ∧ (q.2.2.2.2 = 1 ∨ q.2.2.2.2 = 2 ∨ q.2.2.2.2 = 3) ∧ Cond.classLink (pt_cname (pt_own k)) q.2.2.2.1 (pt_xn q.2.2.2.2) ∈ pt_W := by
  rcases Nat.lt_or_ge k 180 with h1 | h1
  · have := List.all_eq_true.mp (List.all_eq_true.mp pt_hand_all k (List.mem_range.mpr h1)) q h
    simp only [Bool.and_eq_true, decide_eq_true_eq] at this
    have hw := List.all_eq_true.mp pt_hdl_w _ this.1
    refine ⟨this.2, ?_, List.mem_filter.mpr ⟨by simpa using hw, rfl⟩⟩
    have h9 := this.1
    simp only [pt_hdl, List.mem_cons, Prod.mk.injEq, List.not_mem_nil, or_false] at h9
    rcases h9 with ⟨-, -, h9⟩ | ⟨-, -, h9⟩ | ⟨-, -, h9⟩
    · exact Or.inl h9
    · exact Or.inr (Or.inr h9)
    · exact Or.inr (Or.inl h9)
  · exfalso
    have h2 : Nat.ble 180 k = true := Nat.ble_eq_true_of_le h1
    rw [show pt_hand k = [] by unfold pt_hand; rw [h2]; rfl] at h
    cases h
theorem pt_xn_nc {A : Nat → Prop} {s : State} (hSt : pt_St A s) {E F : Nat} (hE : E = 1 ∨ E = 2 ∨ E = 3) (hF : F = 1 ∨ F = 2 ∨ F = 3) (h : E ≠ F) : va_Nc (pt_xn E) (pt_xn F) s := by
  refine hSt.2.2.2.2.2.2.2 (E, F) ?_
  rcases hE with rfl | rfl | rfl <;> rcases hF with rfl | rfl | rfl <;> first | exact absurd rfl h | decide
/-- where the handler is found -/
theorem pt_catch_spec : ∀ (l : List (Nat × Nat × Nat × Nat × Nat)) (pc E h : Nat), pt_catch l pc E = some h → ∃ pre q suf, l = pre ++ q :: suf ∧ q.2.2.1 = h ∧ q.2.2.2.2 = E ∧ (q.1 ≤ pc ∧ pc < q.2.1) ∧ ∀ z ∈ pre, ¬ (z.1 ≤ pc ∧ pc < z.2.1) ∨ z.2.2.2.2 ≠ E
  | [], _, _, _, h => by simp [pt_catch] at h
  | (a, b, h0, ct, F) :: l, pc, E, h, hh => by
    simp only [pt_catch] at hh
    cases hc : (Nat.ble a pc && (Nat.blt pc b && Nat.beq F E)) with
    | true =>
      rw [hc] at hh
      simp only [cond_true, Option.some.injEq] at hh
      simp only [Bool.and_eq_true, Nat.ble_eq, Nat.blt_eq, Nat.beq_eq] at hc
      exact ⟨[], (a, b, h0, ct, F), l, rfl, hh, hc.2.2, ⟨hc.1, hc.2.1⟩, fun z hz => by cases hz⟩
    | false =>
      rw [hc] at hh
      simp only [cond_false] at hh
      obtain ⟨pre, q, suf, h1, h2, h3, h4, h5⟩ := pt_catch_spec l pc E h hh
      refine ⟨(a, b, h0, ct, F) :: pre, q, suf, by rw [h1]; rfl, h2, h3, h4, fun z hz => ?_⟩
      rcases List.mem_cons.mp hz with rfl | hz
      · by_cases hq : a ≤ pc ∧ pc < b
        · refine Or.inr (fun w => ?_)
          have : (Nat.ble a pc && (Nat.blt pc b && Nat.beq F E)) = true := by
            simp only [Bool.and_eq_true, Nat.ble_eq, Nat.blt_eq, Nat.beq_eq]
            exact ⟨hq.1, hq.2, w⟩
          rw [this] at hc
          cases hc
        · exact Or.inl hq
      · exact h5 z hz
theorem pt_noX_spec : ∀ (L : pt_L), pt_noX L = true → ∀ v, some v ∈ L → ∀ bb, v ≠ .inr (.inr (.inr (.inr bb))) ∨ bb = true
  | [], _, _, hv, _ => by cases hv
  | a :: l, h, v, hv, bb => by
    rcases bb with _ | _
    · refine Or.inl (fun z => ?_)
      subst z
      rcases List.mem_cons.mp hv with h1 | h1
      · subst h1
        simp [pt_noX] at h
      · have h2 : pt_noX l = true := by
          unfold pt_noX at h
          split at h
          · next h9 => cases h9
          · cases h
          · next h9 => cases h9; exact h
        rcases pt_noX_spec l h2 _ h1 false with z | z
        · exact z rfl
        · cases z
    · exact Or.inr rfl
theorem pt_tl_E : ∀ q ∈ pt_tl, q.2.2.2 = 1 ∨ q.2.2.2 = 2 ∨ q.2.2.2 = 3 := by decide
section
variable {p : Program} {l : Launch} {e : Env} {R : Room} {s : State} {m : MethodId} {args : Array Value} {below : List Frame} {meth : Method} {c : Code} {Q : State → Prop} {D : va_G} {cy : Nat → ClassId} {A : Nat → Prop} {k b x : Nat} {ad : pt_R → Nat} {dl : List pt_R} {μ μ' : pt_M} {H : Heap} {locs : List Loc} {cells slots : Nat} {ls : Array Slot} {L L' : pt_L} {st st' : List pt_V} {pc pc' n t : Nat}
theorem pt_A1_sub (hA : ∀ q, s.heap.size ≤ q → A q) (hD : va_D A (pt_ws cy ad μ dl)) (hS : va_S A s.heap H locs) : ∀ q, pt_A1 cy ad μ dl H.size q → A q := by
  intro q hq
  rcases hq with ⟨i, e9, h⟩ | h
  · exact hD.2 i (q, e9) h
  · exact hA q (Nat.le_trans hS.1 h)
theorem pt_In_up {A2 : Nat → Prop} (h : pt_In D cy A2 ad dl μ H) (hs : ∀ q, A2 q → A q) : pt_In D cy A ad dl μ H := ⟨h.1, h.2.1, h.2.2.1, h.2.2.2.1, h.2.2.2.2.weaken (fun _ _ _ z => hs _ z)⟩
theorem pt_In_self (h : pt_In D cy A ad dl μ H) (sz : Nat) : pt_In D cy (pt_A1 cy ad μ dl sz) ad dl μ H := ⟨h.1, h.2.1, h.2.2.1, h.2.2.2.1, h.2.2.2.2.self⟩
theorem pt_Bg_of (C : pt_Cx p l R s m args meth c D cy A k) (hI : pt_In D cy A ad dl μ H) (hS : va_S A s.heap H locs) {U : State} (hU : U.heap = H) (hW : s.WarmedH U.vm) : pt_Bg D cy ad dl μ H.size U := by
  obtain ⟨hx, hb, hr, hml, hown, hts, hlk, -, hfr9, hlo9, hl0, hK, hA, hSt⟩ := id C
  exact ⟨by rw [hU], by rw [hU]; exact pt_In_self hI _, va_K.moved hW.alike hK, pt_St_move hSt hS (pt_A1_sub hA hI.2.2.2.2 hS) hU hW⟩
/-- a call that throws, caught here -/
theorem pt_caught {y E h9 mc ms : Nat} {as r : List pt_V} {μ1 : pt_M} (C : pt_Cx p l R s m args meth c D cy A k) (htab : c.exceptionTable.toList = tableOf (pt_hh k)) (T : pt_Tw D cy A s k b x ad dl μ H locs ls L st) (hle : pt_le μ μ1) (hE : E = 1 ∨ E = 2 ∨ E = 3) (hcat : pt_catch (pt_hand k) pc E = some h9)
    (hrun : vx_Run p l e R s m args below meth c H locs cells slots mc ms (F0 m pc ls (st.map (pt_cv ad x b))) (r.map (pt_cv ad x b)) (fun _ _ _ => False) (pt_Xt9 D cy ad dl μ H.size μ1 E) (pt_A1 cy ad μ dl H.size))
    (kk : ∀ (ad' : pt_R → Nat) (dl' : List pt_R) (x' : Nat) (H' : Heap) (locs' : List Loc), pt_ag μ ad ad' → pt_Tw D cy A s k b x' ad' dl' μ1 H' locs' ls L [vX false] → W p l e R s m args below meth c H' locs' (cells + mc) (slots + ms) Q (F0 m h9 ls ([vX false].map (pt_cv ad' x' b)))) (hnoX : ∀ v, some v ∈ L → ∀ bb, v ≠ .inr (.inr (.inr (.inr bb))) ∨ bb = true) : W p l e R s m args below meth c H locs cells slots Q (F0 m pc ls (st.map (pt_cv ad x b))) := by
  obtain ⟨hx, hb, hr, hml, hown, hts, hlk, -, hfr9, hlo9, hl0, hK, hA, hSt⟩ := id C
  have hI := T.2.2.2.2.1
  have hS := T.2.2.2.2.2
  have hsub := pt_A1_sub hA hI.2.2.2.2 hS
  intro S hSH X
  rcases hrun S hSH X with ⟨v, st₀, t, T', L9, h0, X', hL, e1, e2, hfalse, -⟩ | ⟨q, st₀, t, T', L9, E', ce, h0, X', hL, e1, e2, ⟨⟨ad2, dl2⟩, -, ⟨rfl, hag, hI1⟩, hF⟩, hce, hcv, hcl, hst⟩
  · exact hfalse.elim
  · obtain ⟨k1, k2, k3⟩ := vx_keep h0 e1 hS (fun q _ hq => hsub q hq) (fun q hq => hsub q hq) hL hF
    obtain ⟨pre, q9, suf, g1, g2, g3, g4, g5⟩ := pt_catch_spec _ _ _ _ hcat
    have hin : ∀ z ∈ pt_hand k, z.2.2.2.1 ≠ 0 ∧ (z.2.2.2.2 = 1 ∨ z.2.2.2.2 = 2 ∨ z.2.2.2.2 = 3) ∧ Cond.classLink (pt_cname (pt_own k)) z.2.2.2.1 (pt_xn z.2.2.2.2) ∈ pt_W := fun z hz => pt_hand_ok hz
    have hq9 := hin q9 (by rw [g1]; simp)
    let f : Nat × Nat × Nat × Nat × Nat → ExceptionTableEntry := fun q => ⟨q.1, q.2.1, q.2.2.1, q.2.2.2.1⟩
    have htab2 : c.exceptionTable.toList = pre.map f ++ f q9 :: suf.map f := by
      rw [htab, pt_hh, tableOf, List.map_map, g1, List.map_append, List.map_cons]
      rfl
    have hI1A : pt_In D cy A ad2 dl2 μ1 T'.heap := by rw [e1]; exact pt_In_up hI1 hsub
    have hT2 : pt_Tw D cy A s k b q ad2 dl2 μ1 T'.heap (locs ++ L9) ls L [vX false] := by
      refine ⟨?_, T.2.1, pt_okL_le hle T.2.2.1, fun v hv => ?_, hI1A, k3⟩
      · have e3 : pt_lv (pt_cv ad2 q b) 0 L = pt_lv (pt_cv ad x b) 0 L := by
          rw [← pt_lv_ag hag L 0 T.2.2.1]
          have gen : ∀ (L : pt_L) (i : Nat), (∀ v, some v ∈ L → ∀ bb, v ≠ .inr (.inr (.inr (.inr bb))) ∨ bb = true) → pt_lv (pt_cv ad2 q b) i L = pt_lv (pt_cv ad2 x b) i L := by
            intro L
            induction L with
            | nil => intro i _; rfl
            | cons a L ih =>
              intro i hn
              cases a with
              | none => exact ih (i + 1) (fun v hv => hn v (List.mem_cons_of_mem _ hv))
              | some v =>
                simp only [pt_lv]
                rw [ih (i + 1) (fun v hv => hn v (List.mem_cons_of_mem _ hv))]
                congr 2
                rcases v with v | v | v | v | v
                · rfl
                · rfl
                · rfl
                · cases v <;> rfl
                · cases v with
                  | true => rfl
                  | false =>
                    rcases hn _ List.mem_cons_self false with z | z
                    · exact absurd rfl z
                    · cases z
          exact gen L 0 hnoX
        rw [e3]
        exact T.1
      · simp only [List.mem_singleton] at hv
        subst hv
        trivial
    have hw := kk ad2 dl2 q T'.heap (locs ++ L9) hag hT2
    have hcl2 := vx_catch (p := p) (l := l) (e := e) (R := R) (s := s) (m := m) (args := args) (below := below) (meth := meth) (c := c) (H := T'.heap) (locs := locs ++ L9) (cells := cells + mc) (slots := slots + ms) (Q := Q) (pc := pc) (ls := ls) (rest := r.map (pt_cv ad x b)) (own := pt_cname (pt_own k)) (name := pt_xn E) (E := pt_xn E) (ce := ce) (q := q) hown (pre.map f) (f q9) (suf.map f) htab2 (fun z hz => by
      obtain ⟨z9, hz9, rfl⟩ := List.mem_map.mp hz
      have hz8 := hin z9 (by rw [g1]; exact List.mem_append_left _ hz9)
      rcases g5 z9 hz9 with g | g
      · refine Or.inl ?_
        show (decide (z9.1 ≤ pc) && decide (pc < z9.2.1)) = false
        simp only [Bool.and_eq_false_iff, decide_eq_false_iff_not]
        by_cases g6 : z9.1 ≤ pc
        · exact Or.inr (fun g7 => g ⟨g6, g7⟩)
        · exact Or.inl g6
      · exact Or.inr ⟨hz8.1, pt_xn z9.2.2.2.2, hts _ hz8.2.2, pt_xn_nc hSt hE hz8.2.1 (fun z => g z.symm)⟩)
      (by show (decide (q9.1 ≤ pc) && decide (pc < q9.2.1)) = true; simp only [Bool.and_eq_true, decide_eq_true_eq]; exact g4) hq9.1 (by rw [← g3]; exact hts _ hq9.2.2)
      (va_Nw.use (pt_ng_on _ (by rcases hE with rfl | rfl | rfl <;> simp [pt_ng])) (hSt.2.2.2.1 _ (by rcases hE with rfl | rfl | rfl <;> simp [pt_ng]))) (by rw [e1]; exact hce) hcv hcl (by
        show W p l e R s m args below meth c T'.heap (locs ++ L9) (cells + mc) (slots + ms) Q (F0 m q9.2.2.1 ls [.ref q])
        rw [g2]
        exact hw)
    obtain ⟨t2, a1, b1⟩ := hcl2 T' rfl X'
    exact ⟨t2, hst.trans a1, b1⟩
theorem pt_step_thr_E {k : Nat} {pc : Nat} {ext : Option (Nat × (Nat → Int32))} {e9 : pt_E} {L : pt_L} {st : List pt_V} {μ : pt_M} {E : Nat} (hf : pt_fetch k pc = some e9) (hs : pt_step k ext e9 L st μ = some (.inr (.inr (.inr E)))) : E = 1 ∨ E = 2 ∨ E = 3 := by
  have hck := pt_ck_ok k pc e9 hf
  obtain ⟨i, n9, t9, X, Y, Z, c9⟩ := e9
  cases i
  case new j =>
    simp only [pt_ck, Bool.and_eq_true, decide_eq_true_eq, Nat.beq_eq, Nat.blt_eq] at hck
    simp only [pt_step] at hs
    obtain ⟨⟨h1, -⟩, h2, h3⟩ := hck
    cases h9 : Nat.ble 100 X with
    | false => rw [h9] at hs; cases hs
    | true =>
      rw [h9] at hs h3
      simp only [cond_true, Bool.and_eq_true, decide_eq_true_eq, Nat.ble_eq] at hs h3
      split at hs
      · cases hs
        exact pt_tl_E _ h3.1.1.1.1.2
      · cases hs
  all_goals (simp only [pt_step, pt_ldR, pt_ldI, pt_ldJ, pt_ldD, pt_stR, pt_stI, pt_stJ, pt_stD, pt_i2, pt_j2, pt_d2, pt_if0, pt_if2, pt_getf, pt_putf, pt_ald, pt_ast, pt_inv, pt_end, cond] at hs)
  all_goals (repeat' split at hs)
  all_goals cases hs
/-- a run that throws, throws one of the three -/
theorem pt_ex_thr_E : ∀ (n : Nat) (k : Nat) (ext : Option (Nat × (Nat → Int32))) (pc : Nat) (L : pt_L) (st : List pt_V) (μ μ' : pt_M) (E : Nat), pt_ex n k ext pc L st μ = some (.inr E, μ') → E = 1 ∨ E = 2 ∨ E = 3 := by
  intro n
  induction n with
  | zero => intro k ext pc L st μ μ' E h; simp [pt_ex] at h
  | succ n ih =>
    intro k ext pc L st μ μ' E h
    rw [pt_ex] at h
    cases hf : pt_fetch k pc with
    | none => rw [hf] at h; simp at h
    | some e =>
      rw [hf] at h
      simp only [] at h
      cases hs : pt_step k ext e L st μ with
      | none => rw [hs] at h; simp at h
      | some c =>
        rw [hs] at h
        rcases c with ⟨pc', L', st', μ2⟩ | ⟨y, as, pc', r⟩ | v' | E'
        · exact ih _ _ _ _ _ _ _ _ h
        · simp only [] at h
          cases hc : pt_ex n y ext 0 (pt_ent (pt_maxL y) as) [] μ with
          | none => rw [hc] at h; simp at h
          | some q =>
            rw [hc] at h
            rcases q with ⟨v | E2, μ2⟩
            · exact ih _ _ _ _ _ _ _ _ h
            · simp only [] at h
              cases hm : (pt_mayT y && pt_noX L) with
              | false => rw [hm] at h; simp at h
              | true =>
                rw [hm] at h
                simp only [cond_true] at h
                cases hh : pt_catch (pt_hand k) pc E2 with
                | none => rw [hh] at h; simp at h
                | some hp =>
                  rw [hh] at h
                  exact ih _ _ _ _ _ _ _ _ h
        · simp at h
        · simp only [Option.some.injEq, Prod.mk.injEq, Sum.inr.injEq] at h
          rw [← h.1]
          exact pt_step_thr_E hf hs
end
