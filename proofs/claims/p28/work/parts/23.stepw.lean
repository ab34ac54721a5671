/-! One step of the abstract machine is steps of the machine. -/
theorem pt_hd {cc : ByteArray} {pc n d : Nat} {i : Instr} (h : decode cc pc = .ok (i, n - pc)) (hn : n = pc + d) : decode cc pc = .ok (i, d) := by
  rw [h, hn, Nat.add_sub_cancel_left]
theorem pt_inv_no {k n X Y Z : Nat} {L : pt_L} {st : List pt_V} {μ : pt_M} {q : Nat × pt_L × List pt_V × pt_M} (h4 : X ≠ 4) (h6 : X ≠ 6) : pt_inv k n L st μ X Y Z ≠ some (.inl q) := by
  intro hs
  unfold pt_inv at hs
  split at hs
  · exact h4 rfl
  · exact h6 rfl
  · cases hs
  · split at hs
    · next as r _ =>
      cases h9 : (pt_rcv X Y as && pt_fit k Y as r) <;> rw [h9] at hs <;> cases hs
    · cases hs
section
variable {p : Program} {l : Launch} {e : Env} {R : Room} {s : State} {m : MethodId} {args : Array Value} {below : List Frame} {meth : Method} {c : Code} {Q : State → Prop} {D : va_G} {cy : Nat → ClassId} {A : Nat → Prop} {k b x : Nat} {ad : pt_R → Nat} {dl : List pt_R} {μ μ' : pt_M} {H : Heap} {locs : List Loc} {cells slots : Nat} {ls : Array Slot} {L L' : pt_L} {st st' : List pt_V} {pc pc' n t : Nat}
set_option maxHeartbeats 4000000 in
theorem pt_step_W {e9 : pt_E} {ext : Option (Nat × (Nat → Int32))} (C : pt_Cx p l R s m args meth c D cy A k) (hf : pt_fetch k pc = some e9) (hs : pt_step k ext e9 L st μ = some (.inl (pc', L', st', μ'))) (hXt : pt_Xt ext A s b) (hc : cells + pt_sz μ' ≤ R.cells + pt_sz μ) (hn : slots + pt_sn μ' ≤ R.slots + pt_sn μ) (T : pt_Tw D cy A s k b x ad dl μ H locs ls L st) (K : pt_K p l e R s m args below meth c Q D cy A k b x cells slots μ ad pc' L' st' μ') : W p l e R s m args below meth c H locs cells slots Q (F0 m pc ls (st.map (pt_cv ad x b))) := by
  have hck := pt_ck_ok k pc e9 hf
  obtain ⟨hx, hb, hr, hml, hown, hts, -, -, -, -, -, hK, hA, hSt⟩ := id C
  obtain ⟨i, n9, t9, X, Y, Z, c9⟩ := e9
  have h0 := T.2.2.2.1
  cases i
  case aload j =>
    simp only [pt_ck, Bool.and_eq_true, decide_eq_true_eq, Nat.beq_eq, Nat.blt_eq, Nat.ble_eq] at hck
    simp only [pt_step] at hs
    obtain ⟨⟨h1, -⟩, h2, rfl⟩ := hck
    have hd := pt_hd h1 (d := 2) h2
    subst h2
    exact pt_W_ldR (fun v hv r kk => lv_aload hx hb hd hv kk) hs T K
  case aload_n j =>
    simp only [pt_ck, Bool.and_eq_true, decide_eq_true_eq, Nat.beq_eq, Nat.blt_eq, Nat.ble_eq] at hck
    simp only [pt_step] at hs
    obtain ⟨⟨h1, -⟩, h2, rfl⟩ := hck
    have hd := pt_hd h1 (d := 1) h2
    subst h2
    exact pt_W_ldR (fun v hv r kk => lv_aload_n hx hb hd rfl hv kk) hs T K
  case iload j =>
    simp only [pt_ck, Bool.and_eq_true, decide_eq_true_eq, Nat.beq_eq, Nat.blt_eq, Nat.ble_eq] at hck
    simp only [pt_step] at hs
    obtain ⟨⟨h1, -⟩, h2, rfl⟩ := hck
    have hd := pt_hd h1 (d := 2) h2
    subst h2
    exact pt_W_ldI (fun v hv r kk => lv_iload hx hb hd hv kk) hs T K
  case iload_n j =>
    simp only [pt_ck, Bool.and_eq_true, decide_eq_true_eq, Nat.beq_eq, Nat.blt_eq, Nat.ble_eq] at hck
    simp only [pt_step] at hs
    obtain ⟨⟨h1, -⟩, h2, rfl⟩ := hck
    have hd := pt_hd h1 (d := 1) h2
    subst h2
    exact pt_W_ldI (fun v hv r kk => lv_iload_n hx hb hd rfl hv kk) hs T K
  case lload j =>
    simp only [pt_ck, Bool.and_eq_true, decide_eq_true_eq, Nat.beq_eq, Nat.blt_eq, Nat.ble_eq] at hck
    simp only [pt_step] at hs
    obtain ⟨⟨h1, -⟩, h2, rfl⟩ := hck
    have hd := pt_hd h1 (d := 2) h2
    subst h2
    exact pt_W_ldJ (fun v hv r kk => lv_lload hx hb hd hv kk) hs T K
  case lload_n j =>
    simp only [pt_ck, Bool.and_eq_true, decide_eq_true_eq, Nat.beq_eq, Nat.blt_eq, Nat.ble_eq] at hck
    simp only [pt_step] at hs
    obtain ⟨⟨h1, -⟩, h2, rfl⟩ := hck
    have hd := pt_hd h1 (d := 1) h2
    subst h2
    exact pt_W_ldJ (fun v hv r kk => lv_lload_n hx hb hd rfl hv kk) hs T K
  case dload j =>
    simp only [pt_ck, Bool.and_eq_true, decide_eq_true_eq, Nat.beq_eq, Nat.blt_eq, Nat.ble_eq] at hck
    simp only [pt_step] at hs
    obtain ⟨⟨h1, -⟩, h2, rfl⟩ := hck
    have hd := pt_hd h1 (d := 2) h2
    subst h2
    exact pt_W_ldD (fun v hv r kk => lv_dload hx hb hd hv kk) hs T K
  case dload_n j =>
    simp only [pt_ck, Bool.and_eq_true, decide_eq_true_eq, Nat.beq_eq, Nat.blt_eq, Nat.ble_eq] at hck
    simp only [pt_step] at hs
    obtain ⟨⟨h1, -⟩, h2, rfl⟩ := hck
    have hd := pt_hd h1 (d := 1) h2
    subst h2
    exact pt_W_ldD (fun v hv r kk => lv_dload_n hx hb hd rfl hv kk) hs T K
  case astore j =>
    simp only [pt_ck, Bool.and_eq_true, decide_eq_true_eq, Nat.beq_eq, Nat.blt_eq, Nat.ble_eq] at hck
    simp only [pt_step] at hs
    obtain ⟨⟨h1, -⟩, ⟨h2, rfl⟩, h3⟩ := hck
    have hd := pt_hd h1 (d := 2) h2
    subst h2
    exact pt_W_stR (fun v r kk => lv_astore hx hb hd T.1 h3 rfl kk) hs T K
  case astore_n j =>
    simp only [pt_ck, Bool.and_eq_true, decide_eq_true_eq, Nat.beq_eq, Nat.blt_eq, Nat.ble_eq] at hck
    simp only [pt_step] at hs
    obtain ⟨⟨h1, -⟩, ⟨h2, rfl⟩, h3⟩ := hck
    have hd := pt_hd h1 (d := 1) h2
    subst h2
    exact pt_W_stR (fun v r kk => lv_astore_n hx hb hd rfl T.1 h3 rfl kk) hs T K
  case istore j =>
    simp only [pt_ck, Bool.and_eq_true, decide_eq_true_eq, Nat.beq_eq, Nat.blt_eq, Nat.ble_eq] at hck
    simp only [pt_step] at hs
    obtain ⟨⟨h1, -⟩, ⟨h2, rfl⟩, h3⟩ := hck
    have hd := pt_hd h1 (d := 2) h2
    subst h2
    exact pt_W_stI (fun v r kk => lv_istore hx hb hd T.1 h3 rfl kk) hs T K
  case istore_n j =>
    simp only [pt_ck, Bool.and_eq_true, decide_eq_true_eq, Nat.beq_eq, Nat.blt_eq, Nat.ble_eq] at hck
    simp only [pt_step] at hs
    obtain ⟨⟨h1, -⟩, ⟨h2, rfl⟩, h3⟩ := hck
    have hd := pt_hd h1 (d := 1) h2
    subst h2
    exact pt_W_stI (fun v r kk => lv_istore_n hx hb hd rfl T.1 h3 rfl kk) hs T K
  case lstore j =>
    simp only [pt_ck, Bool.and_eq_true, decide_eq_true_eq, Nat.beq_eq, Nat.blt_eq, Nat.ble_eq] at hck
    simp only [pt_step] at hs
    obtain ⟨⟨h1, -⟩, ⟨h2, rfl⟩, h3⟩ := hck
    have hd := pt_hd h1 (d := 2) h2
    subst h2
    exact pt_W_stJ h3 (fun v r kk => lv_lstore hx hb hd T.1 h3 rfl kk) hs T K
  case lstore_n j =>
    simp only [pt_ck, Bool.and_eq_true, decide_eq_true_eq, Nat.beq_eq, Nat.blt_eq, Nat.ble_eq] at hck
    simp only [pt_step] at hs
    obtain ⟨⟨h1, -⟩, ⟨h2, rfl⟩, h3⟩ := hck
    have hd := pt_hd h1 (d := 1) h2
    subst h2
    exact pt_W_stJ h3 (fun v r kk => lv_lstore_n hx hb hd rfl T.1 h3 rfl kk) hs T K
  case dstore j =>
    simp only [pt_ck, Bool.and_eq_true, decide_eq_true_eq, Nat.beq_eq, Nat.blt_eq, Nat.ble_eq] at hck
    simp only [pt_step] at hs
    obtain ⟨⟨h1, -⟩, ⟨h2, rfl⟩, h3⟩ := hck
    have hd := pt_hd h1 (d := 2) h2
    subst h2
    exact pt_W_stD h3 (fun v r kk => lv_dstore hx hb hd T.1 h3 rfl kk) hs T K
  case dstore_n j =>
    simp only [pt_ck, Bool.and_eq_true, decide_eq_true_eq, Nat.beq_eq, Nat.blt_eq, Nat.ble_eq] at hck
    simp only [pt_step] at hs
    obtain ⟨⟨h1, -⟩, ⟨h2, rfl⟩, h3⟩ := hck
    have hd := pt_hd h1 (d := 1) h2
    subst h2
    exact pt_W_stD h3 (fun v r kk => lv_dstore_n hx hb hd rfl T.1 h3 rfl kk) hs T K
  case iconst v =>
    simp only [pt_ck, Bool.and_eq_true, decide_eq_true_eq, Nat.beq_eq, Nat.blt_eq, Nat.ble_eq] at hck
    simp only [pt_step] at hs
    obtain ⟨⟨h1, -⟩, h2, rfl⟩ := hck
    have hd := pt_hd h1 (d := 1) h2
    subst h2
    cases hs
    exact lv_iconst hx hb hd rfl (K.go T (pt_okS_c trivial h0))
  case bipush v =>
    simp only [pt_ck, Bool.and_eq_true, decide_eq_true_eq, Nat.beq_eq, Nat.blt_eq, Nat.ble_eq] at hck
    simp only [pt_step] at hs
    obtain ⟨⟨h1, -⟩, h2, rfl⟩ := hck
    have hd := pt_hd h1 (d := 2) h2
    subst h2
    cases hs
    exact lv_bipush hx hb hd rfl (K.go T (pt_okS_c trivial h0))
  case sipush v =>
    simp only [pt_ck, Bool.and_eq_true, decide_eq_true_eq, Nat.beq_eq, Nat.blt_eq, Nat.ble_eq] at hck
    simp only [pt_step] at hs
    obtain ⟨⟨h1, -⟩, h2, rfl⟩ := hck
    have hd := pt_hd h1 (d := 3) h2
    subst h2
    cases hs
    exact lv_sipush hx hb hd rfl (K.go T (pt_okS_c trivial h0))
  case lconst v =>
    simp only [pt_ck, Bool.and_eq_true, decide_eq_true_eq, Nat.beq_eq, Nat.blt_eq, Nat.ble_eq] at hck
    simp only [pt_step] at hs
    obtain ⟨⟨h1, -⟩, h2, rfl⟩ := hck
    have hd := pt_hd h1 (d := 1) h2
    subst h2
    cases hs
    exact lv_lconst hx hb hd rfl (K.go T (pt_okS_c trivial h0))
  case dconst v =>
    simp only [pt_ck, Bool.and_eq_true, decide_eq_true_eq, Nat.beq_eq, Nat.blt_eq, Nat.ble_eq] at hck
    simp only [pt_step] at hs
    simp only [Bool.or_eq_true, Bool.and_eq_true, decide_eq_true_eq] at hck
    obtain ⟨⟨h1, -⟩, h2, h3⟩ := hck
    have hd := pt_hd h1 (d := 1) h2
    subst h2
    cases hs
    rcases h3 with ⟨rfl, rfl⟩ | ⟨rfl, rfl⟩
    · exact lv_dconst0 hx hb hd (K.go T (pt_okS_c trivial h0))
    · exact lv_dconst1 hx hb hd (K.go T (pt_okS_c trivial h0))
  case ldc j =>
    rcases c9 with v | v
    · simp only [pt_ck, Bool.and_eq_true, decide_eq_true_eq, Nat.beq_eq, Nat.blt_eq] at hck
      simp only [pt_step] at hs
      obtain ⟨⟨h1, -⟩, h2, h3⟩ := hck
      have hd := pt_hd h1 (d := 2) h2
      subst h2
      cases hs
      have hw : Cond.constant (pt_cname (pt_own k)) j v ∈ pt_W := pt_cl_spec (c := .inl v) (by simpa using h3)
      exact lv_ldc hx hb hown (hts _ hw) hd (K.go T (pt_okS_c trivial h0))
    · simp only [pt_step] at hs
      cases hs
  case ldc_w j =>
    rcases c9 with v | v
    · simp only [pt_ck, Bool.and_eq_true, decide_eq_true_eq, Nat.beq_eq, Nat.blt_eq] at hck
      simp only [pt_step] at hs
      obtain ⟨⟨h1, -⟩, h2, h3⟩ := hck
      have hd := pt_hd h1 (d := 3) h2
      subst h2
      cases hs
      have hw : Cond.constant (pt_cname (pt_own k)) j v ∈ pt_W := pt_cl_spec (c := .inl v) (by simpa using h3)
      exact lv_ldcw hx hb hown (hts _ hw) hd (K.go T (pt_okS_c trivial h0))
    · simp only [pt_step] at hs
      cases hs
  case ldc2_w j =>
    rcases c9 with v | v | v | v | v
    · simp [pt_ck] at hck
    · simp only [pt_ck, Bool.and_eq_true, decide_eq_true_eq, Nat.beq_eq, Nat.blt_eq] at hck
      simp only [pt_step] at hs
      obtain ⟨⟨h1, -⟩, h2, h3, -⟩ := hck
      have hd := pt_hd h1 (d := 3) h2
      subst h2
      cases hs
      have hw : Cond.constantLong (pt_cname (pt_own k)) j v ∈ pt_W := pt_cl_spec (c := .inr (.inl v)) (by simpa using h3)
      exact lv_ldc2 hx hb hown (hts _ hw) hd (K.go T (pt_okS_c trivial h0))
    · simp only [pt_ck, Bool.and_eq_true, decide_eq_true_eq, Nat.beq_eq, Nat.blt_eq] at hck
      simp only [pt_step] at hs
      obtain ⟨⟨h1, -⟩, h2, h3, -⟩ := hck
      have hd := pt_hd h1 (d := 3) h2
      subst h2
      cases hs
      have hw : Cond.constantDouble (pt_cname (pt_own k)) j v ∈ pt_W := pt_cl_spec (c := .inr (.inr (.inl v))) (by simpa using h3)
      exact lv_ldc2d hx hb hown (hts _ hw) hd (K.go T (pt_okS_c trivial h0))
    · simp [pt_ck] at hck
    · simp [pt_ck] at hck
  case iinc j d =>
    simp only [pt_ck, Bool.and_eq_true, decide_eq_true_eq, Nat.beq_eq, Nat.blt_eq, Nat.ble_eq] at hck
    simp only [pt_step] at hs
    obtain ⟨⟨h1, -⟩, ⟨⟨h2, rfl⟩, h3⟩, rfl⟩ := hck
    have hd := pt_hd h1 (d := 3) h2
    subst h2
    split at hs
    · next v d9 h9 h8 =>
      cases h8
      cases hs
      obtain ⟨q9, hq9⟩ := List.getElem?_of_mem (pt_lv_get (f := pt_cv ad x b) L 0 X _ h9)
      rw [Nat.zero_add] at hq9
      exact lv_iinc hx hb hd T.1 hq9 rfl h3 rfl (fun ls' h7 => K.lo T (pt_lset1 (v := .inl (v + Int32.ofInt d)) (pt_cv_cat ad x b) h7) (by rw [pt_ls1_len]; exact T.2.1) (pt_okL_ls1 T.2.2.1 trivial) h0)
    · cases hs
  case iadd =>
    simp only [pt_ck, Bool.and_eq_true, decide_eq_true_eq, Nat.beq_eq, Nat.blt_eq, Nat.ble_eq] at hck
    simp only [pt_step] at hs
    obtain ⟨⟨h1, -⟩, h2⟩ := hck
    have hd := pt_hd h1 (d := 1) h2
    subst h2
    exact pt_W_i2 (fun u v r kk => lv_iadd hx hb hd kk) hs T K
  case isub =>
    simp only [pt_ck, Bool.and_eq_true, decide_eq_true_eq, Nat.beq_eq, Nat.blt_eq, Nat.ble_eq] at hck
    simp only [pt_step] at hs
    obtain ⟨⟨h1, -⟩, h2⟩ := hck
    have hd := pt_hd h1 (d := 1) h2
    subst h2
    exact pt_W_i2 (fun u v r kk => lv_isub hx hb hd kk) hs T K
  case imul =>
    simp only [pt_ck, Bool.and_eq_true, decide_eq_true_eq, Nat.beq_eq, Nat.blt_eq, Nat.ble_eq] at hck
    simp only [pt_step] at hs
    obtain ⟨⟨h1, -⟩, h2⟩ := hck
    have hd := pt_hd h1 (d := 1) h2
    subst h2
    exact pt_W_i2 (fun u v r kk => lv_imul hx hb hd kk) hs T K
  case iand =>
    simp only [pt_ck, Bool.and_eq_true, decide_eq_true_eq, Nat.beq_eq, Nat.blt_eq, Nat.ble_eq] at hck
    simp only [pt_step] at hs
    obtain ⟨⟨h1, -⟩, h2⟩ := hck
    have hd := pt_hd h1 (d := 1) h2
    subst h2
    exact pt_W_i2 (fun u v r kk => lv_iand hx hb hd kk) hs T K
  case ior =>
    simp only [pt_ck, Bool.and_eq_true, decide_eq_true_eq, Nat.beq_eq, Nat.blt_eq, Nat.ble_eq] at hck
    simp only [pt_step] at hs
    obtain ⟨⟨h1, -⟩, h2⟩ := hck
    have hd := pt_hd h1 (d := 1) h2
    subst h2
    exact pt_W_i2 (fun u v r kk => lv_ior hx hb hd kk) hs T K
  case ixor =>
    simp only [pt_ck, Bool.and_eq_true, decide_eq_true_eq, Nat.beq_eq, Nat.blt_eq, Nat.ble_eq] at hck
    simp only [pt_step] at hs
    obtain ⟨⟨h1, -⟩, h2⟩ := hck
    have hd := pt_hd h1 (d := 1) h2
    subst h2
    exact pt_W_i2 (fun u v r kk => lv_ixor hx hb hd kk) hs T K
  case ishl =>
    simp only [pt_ck, Bool.and_eq_true, decide_eq_true_eq, Nat.beq_eq, Nat.blt_eq, Nat.ble_eq] at hck
    simp only [pt_step] at hs
    obtain ⟨⟨h1, -⟩, h2⟩ := hck
    have hd := pt_hd h1 (d := 1) h2
    subst h2
    exact pt_W_i2 (fun u v r kk => lv_ishl hx hb hd kk) hs T K
  case ishr =>
    simp only [pt_ck, Bool.and_eq_true, decide_eq_true_eq, Nat.beq_eq, Nat.blt_eq, Nat.ble_eq] at hck
    simp only [pt_step] at hs
    obtain ⟨⟨h1, -⟩, h2⟩ := hck
    have hd := pt_hd h1 (d := 1) h2
    subst h2
    exact pt_W_i2 (fun u v r kk => lv_ishr hx hb hd kk) hs T K
  case iushr =>
    simp only [pt_ck, Bool.and_eq_true, decide_eq_true_eq, Nat.beq_eq, Nat.blt_eq, Nat.ble_eq] at hck
    simp only [pt_step] at hs
    obtain ⟨⟨h1, -⟩, h2⟩ := hck
    have hd := pt_hd h1 (d := 1) h2
    subst h2
    exact pt_W_i2 (fun u v r kk => lv_iushr hx hb hd rfl kk) hs T K
  case ladd =>
    simp only [pt_ck, Bool.and_eq_true, decide_eq_true_eq, Nat.beq_eq, Nat.blt_eq, Nat.ble_eq] at hck
    simp only [pt_step] at hs
    obtain ⟨⟨h1, -⟩, h2⟩ := hck
    have hd := pt_hd h1 (d := 1) h2
    subst h2
    exact pt_W_j2 (fun u v r kk => lv_ladd hx hb hd kk) hs T K
  case lsub =>
    simp only [pt_ck, Bool.and_eq_true, decide_eq_true_eq, Nat.beq_eq, Nat.blt_eq, Nat.ble_eq] at hck
    simp only [pt_step] at hs
    obtain ⟨⟨h1, -⟩, h2⟩ := hck
    have hd := pt_hd h1 (d := 1) h2
    subst h2
    exact pt_W_j2 (fun u v r kk => lv_lsub hx hb hd kk) hs T K
  case lmul =>
    simp only [pt_ck, Bool.and_eq_true, decide_eq_true_eq, Nat.beq_eq, Nat.blt_eq, Nat.ble_eq] at hck
    simp only [pt_step] at hs
    obtain ⟨⟨h1, -⟩, h2⟩ := hck
    have hd := pt_hd h1 (d := 1) h2
    subst h2
    exact pt_W_j2 (fun u v r kk => lv_lmul hx hb hd kk) hs T K
  case dmul =>
    simp only [pt_ck, Bool.and_eq_true, decide_eq_true_eq, Nat.beq_eq, Nat.blt_eq, Nat.ble_eq] at hck
    simp only [pt_step] at hs
    obtain ⟨⟨h1, -⟩, h2⟩ := hck
    have hd := pt_hd h1 (d := 1) h2
    subst h2
    exact pt_W_d2 (fun u v r hne kk => lv_dmul hx hb hd hne kk) hs T K
  case dsub =>
    simp only [pt_ck, Bool.and_eq_true, decide_eq_true_eq, Nat.beq_eq, Nat.blt_eq, Nat.ble_eq] at hck
    simp only [pt_step] at hs
    obtain ⟨⟨h1, -⟩, h2⟩ := hck
    have hd := pt_hd h1 (d := 1) h2
    subst h2
    exact pt_W_d2 (fun u v r hne kk => lv_dsub hx hb hd hne kk) hs T K
  case ddiv =>
    simp only [pt_ck, Bool.and_eq_true, decide_eq_true_eq, Nat.beq_eq, Nat.blt_eq, Nat.ble_eq] at hck
    simp only [pt_step] at hs
    obtain ⟨⟨h1, -⟩, h2⟩ := hck
    have hd := pt_hd h1 (d := 1) h2
    subst h2
    exact pt_W_d2 (fun u v r hne kk => lv_ddiv hx hb hd hne kk) hs T K
  case idiv =>
    simp only [pt_ck, Bool.and_eq_true, decide_eq_true_eq, Nat.beq_eq, Nat.blt_eq, Nat.ble_eq] at hck
    simp only [pt_step] at hs
    obtain ⟨⟨h1, -⟩, h2⟩ := hck
    have hd := pt_hd h1 (d := 1) h2
    subst h2
    split at hs
    · split at hs
      · cases hs
      · next hne =>
        cases hs
        exact lv_idiv hx hb hd hne (K.go T (pt_okS_c trivial (pt_okS_t (pt_okS_t h0))))
    · cases hs
  case irem =>
    simp only [pt_ck, Bool.and_eq_true, decide_eq_true_eq, Nat.beq_eq, Nat.blt_eq, Nat.ble_eq] at hck
    simp only [pt_step] at hs
    obtain ⟨⟨h1, -⟩, h2⟩ := hck
    have hd := pt_hd h1 (d := 1) h2
    subst h2
    split at hs
    · split at hs
      · cases hs
      · next hne =>
        cases hs
        exact lv_irem hx hb hd hne (K.go T (pt_okS_c trivial (pt_okS_t (pt_okS_t h0))))
    · cases hs
  case lshl =>
    simp only [pt_ck, Bool.and_eq_true, decide_eq_true_eq, Nat.beq_eq, Nat.blt_eq, Nat.ble_eq] at hck
    simp only [pt_step] at hs
    obtain ⟨⟨h1, -⟩, h2⟩ := hck
    have hd := pt_hd h1 (d := 1) h2
    subst h2
    split at hs
    · cases hs
      exact lv_lshl hx hb hd rfl (K.go T (pt_okS_c trivial (pt_okS_t (pt_okS_t h0))))
    · cases hs
  case i2l =>
    simp only [pt_ck, Bool.and_eq_true, decide_eq_true_eq, Nat.beq_eq, Nat.blt_eq, Nat.ble_eq] at hck
    simp only [pt_step] at hs
    obtain ⟨⟨h1, -⟩, h2⟩ := hck
    have hd := pt_hd h1 (d := 1) h2
    subst h2
    split at hs
    · cases hs
      exact lv_i2l hx hb hd rfl (K.go T (pt_okS_c trivial (pt_okS_t h0)))
    · cases hs
  case i2d =>
    simp only [pt_ck, Bool.and_eq_true, decide_eq_true_eq, Nat.beq_eq, Nat.blt_eq, Nat.ble_eq] at hck
    simp only [pt_step] at hs
    obtain ⟨⟨h1, -⟩, h2⟩ := hck
    have hd := pt_hd h1 (d := 1) h2
    subst h2
    split at hs
    · cases hs
      exact lv_i2d hx hb hd (K.go T (pt_okS_c trivial (pt_okS_t h0)))
    · cases hs
  case d2l =>
    simp only [pt_ck, Bool.and_eq_true, decide_eq_true_eq, Nat.beq_eq, Nat.blt_eq, Nat.ble_eq] at hck
    simp only [pt_step] at hs
    obtain ⟨⟨h1, -⟩, h2⟩ := hck
    have hd := pt_hd h1 (d := 1) h2
    subst h2
    split at hs
    · cases hs
      exact lv_d2l hx hb hd (K.go T (pt_okS_c trivial (pt_okS_t h0)))
    · cases hs
  case lcmp =>
    simp only [pt_ck, Bool.and_eq_true, decide_eq_true_eq, Nat.beq_eq, Nat.blt_eq, Nat.ble_eq] at hck
    simp only [pt_step] at hs
    obtain ⟨⟨h1, -⟩, h2⟩ := hck
    have hd := pt_hd h1 (d := 1) h2
    subst h2
    split at hs
    · cases hs
      exact W.lcmp hx hb hd (K.go T (pt_okS_c trivial (pt_okS_t (pt_okS_t h0))))
    · cases hs
  case dcmp q =>
    simp only [pt_ck, Bool.and_eq_true, decide_eq_true_eq, Nat.beq_eq, Nat.blt_eq, Nat.ble_eq] at hck
    simp only [pt_step] at hs
    obtain ⟨⟨h1, -⟩, h2⟩ := hck
    have hd := pt_hd h1 (d := 1) h2
    subst h2
    split at hs
    · cases hs
      exact lv_dcmp hx hb hd (K.go T (pt_okS_c trivial (pt_okS_t (pt_okS_t h0))))
    · cases hs
  case dup =>
    simp only [pt_ck, Bool.and_eq_true, decide_eq_true_eq, Nat.beq_eq, Nat.blt_eq, Nat.ble_eq] at hck
    simp only [pt_step] at hs
    obtain ⟨⟨h1, -⟩, h2⟩ := hck
    have hd := pt_hd h1 (d := 1) h2
    subst h2
    split at hs
    · cases hs
      exact lv_dup hx hb hd rfl (K.go T (pt_okS_c trivial h0))
    · cases hs
      exact lv_dup hx hb hd (pt_cv_cat ad x b _) (K.go T (pt_okS_c (pt_okS_h h0) h0))
    · cases hs
  case dup2 =>
    simp only [pt_ck, Bool.and_eq_true, decide_eq_true_eq, Nat.beq_eq, Nat.blt_eq, Nat.ble_eq] at hck
    simp only [pt_step] at hs
    obtain ⟨⟨h1, -⟩, h2⟩ := hck
    have hd := pt_hd h1 (d := 1) h2
    subst h2
    split at hs
    · cases hs
      exact lv_dup2_2 hx hb hd rfl (K.go T (pt_okS_c trivial h0))
    · cases hs
      exact lv_dup2_11 hx hb hd rfl (pt_cv_cat ad x b _) (K.go T (pt_okS_c trivial (pt_okS_c (pt_okS_h (pt_okS_t h0)) h0)))
    · cases hs
  case pop =>
    simp only [pt_ck, Bool.and_eq_true, decide_eq_true_eq, Nat.beq_eq, Nat.blt_eq, Nat.ble_eq] at hck
    simp only [pt_step] at hs
    obtain ⟨⟨h1, -⟩, h2⟩ := hck
    have hd := pt_hd h1 (d := 1) h2
    subst h2
    split at hs
    · cases hs
      exact lv_pop hx hb hd rfl (K.go T (pt_okS_t h0))
    · cases hs
      exact lv_pop hx hb hd (pt_cv_cat ad x b _) (K.go T (pt_okS_t h0))
    · cases hs
  case goto j =>
    simp only [pt_ck, Bool.and_eq_true, decide_eq_true_eq, Nat.beq_eq, Nat.blt_eq, Nat.ble_eq] at hck
    simp only [pt_step] at hs
    obtain ⟨⟨h1, -⟩, h2, h3⟩ := hck
    have hd := pt_hd h1 (d := 3) h2
    subst h2
    cases hs
    exact lv_goto hx hb hd h3 (K.go T h0)
  case ifCond q j =>
    simp only [pt_ck, Bool.and_eq_true, decide_eq_true_eq, Nat.beq_eq, Nat.blt_eq, Nat.ble_eq] at hck
    simp only [pt_step] at hs
    obtain ⟨⟨h1, -⟩, h2, h3⟩ := hck
    have hd := pt_hd h1 (d := 3) h2
    subst h2
    exact pt_W_if0 hx hb hd h3 hs T K
  case if_icmp q j =>
    simp only [pt_ck, Bool.and_eq_true, decide_eq_true_eq, Nat.beq_eq, Nat.blt_eq, Nat.ble_eq] at hck
    simp only [pt_step] at hs
    obtain ⟨⟨h1, -⟩, h2, h3⟩ := hck
    have hd := pt_hd h1 (d := 3) h2
    subst h2
    exact pt_W_if2 hx hb hd h3 hs T K
  case tableswitch d lo hi offs =>
    simp only [pt_ck, Bool.and_eq_true, decide_eq_true_eq, Nat.beq_eq, Nat.blt_eq, Nat.ble_eq] at hck
    simp only [pt_step] at hs
    obtain ⟨⟨h1, -⟩, ⟨h3, rfl⟩, h4⟩ := hck
    split at hs
    · next v r =>
      split at hs
      · next h5 =>
        cases hs
        exact lv_tableOut hx hb h1 h5 h3 (K.go T (pt_okS_t h0))
      · next h5 =>
        split at hs
        · next o9 h6 =>
          cases hs
          have h7 : 0 ≤ (Z : Int) + o9 := by
            have := List.all_eq_true.mp h4 o9 (Array.mem_toList_iff.mpr (Array.mem_of_getElem? h6))
            simpa using this
          exact lv_tableIn hx hb h1 (fun z => h5 (Or.inl z)) (fun z => h5 (Or.inr z)) h6 (Int.toNat_of_nonneg h7).symm (K.go T (pt_okS_t h0))
        · cases hs
    · cases hs
  case getfield j =>
    simp only [pt_ck, Bool.and_eq_true, decide_eq_true_eq, Nat.beq_eq, Nat.blt_eq, Nat.ble_eq] at hck
    simp only [pt_step] at hs
    obtain ⟨⟨h1, -⟩, h2, h3⟩ := hck
    have hd := pt_hd h1 (d := 3) h2
    subst h2
    exact pt_W_getf C hd h3 hs T K
  case putfield j =>
    simp only [pt_ck, Bool.and_eq_true, decide_eq_true_eq, Nat.beq_eq, Nat.blt_eq, Nat.ble_eq] at hck
    simp only [pt_step] at hs
    simp only [Bool.or_eq_true, Bool.and_eq_true, Bool.not_eq_true', decide_eq_true_eq, Nat.beq_eq] at hck
    obtain ⟨⟨h1, -⟩, ⟨h2, h3⟩, h4⟩ := hck
    have hd := pt_hd h1 (d := 3) h2
    subst h2
    exact pt_W_putf C hd h3 (fun z => by
      rcases h4 with h4 | h4
      · rw [h4] at z; cases z
      · exact h4) hs T K
  case iaload =>
    simp only [pt_ck, Bool.and_eq_true, decide_eq_true_eq, Nat.beq_eq, Nat.blt_eq, Nat.ble_eq] at hck
    simp only [pt_step] at hs
    obtain ⟨⟨h1, -⟩, h2⟩ := hck
    have hd := pt_hd h1 (d := 1) h2
    subst h2
    exact pt_W_ald (et := 0) C hXt hd hs T K
  case baload =>
    simp only [pt_ck, Bool.and_eq_true, decide_eq_true_eq, Nat.beq_eq, Nat.blt_eq, Nat.ble_eq] at hck
    simp only [pt_step] at hs
    obtain ⟨⟨h1, -⟩, h2⟩ := hck
    have hd := pt_hd h1 (d := 1) h2
    subst h2
    exact pt_W_ald (et := 1) C hXt hd hs T K
  case laload =>
    simp only [pt_ck, Bool.and_eq_true, decide_eq_true_eq, Nat.beq_eq, Nat.blt_eq, Nat.ble_eq] at hck
    simp only [pt_step] at hs
    obtain ⟨⟨h1, -⟩, h2⟩ := hck
    have hd := pt_hd h1 (d := 1) h2
    subst h2
    exact pt_W_ald (et := 2) C hXt hd hs T K
  case aaload =>
    simp only [pt_ck, Bool.and_eq_true, decide_eq_true_eq, Nat.beq_eq, Nat.blt_eq, Nat.ble_eq] at hck
    simp only [pt_step] at hs
    obtain ⟨⟨h1, -⟩, h2⟩ := hck
    have hd := pt_hd h1 (d := 1) h2
    subst h2
    exact pt_W_ald (et := 3) C hXt hd hs T K
  case iastore =>
    simp only [pt_ck, Bool.and_eq_true, decide_eq_true_eq, Nat.beq_eq, Nat.blt_eq, Nat.ble_eq] at hck
    simp only [pt_step] at hs
    obtain ⟨⟨h1, -⟩, h2⟩ := hck
    have hd := pt_hd h1 (d := 1) h2
    subst h2
    exact pt_W_ast (et := 0) C hd hs T K
  case bastore =>
    simp only [pt_ck, Bool.and_eq_true, decide_eq_true_eq, Nat.beq_eq, Nat.blt_eq, Nat.ble_eq] at hck
    simp only [pt_step] at hs
    obtain ⟨⟨h1, -⟩, h2⟩ := hck
    have hd := pt_hd h1 (d := 1) h2
    subst h2
    exact pt_W_ast (et := 1) C hd hs T K
  case lastore =>
    simp only [pt_ck, Bool.and_eq_true, decide_eq_true_eq, Nat.beq_eq, Nat.blt_eq, Nat.ble_eq] at hck
    simp only [pt_step] at hs
    obtain ⟨⟨h1, -⟩, h2⟩ := hck
    have hd := pt_hd h1 (d := 1) h2
    subst h2
    exact pt_W_ast (et := 2) C hd hs T K
  case aastore =>
    simp only [pt_ck, Bool.and_eq_true, decide_eq_true_eq, Nat.beq_eq, Nat.blt_eq, Nat.ble_eq] at hck
    simp only [pt_step] at hs
    obtain ⟨⟨h1, -⟩, h2⟩ := hck
    have hd := pt_hd h1 (d := 1) h2
    subst h2
    exact pt_W_ast (et := 3) C hd hs T K
  case arraylength =>
    simp only [pt_ck, Bool.and_eq_true, decide_eq_true_eq, Nat.beq_eq, Nat.blt_eq, Nat.ble_eq] at hck
    simp only [pt_step] at hs
    obtain ⟨⟨h1, -⟩, h2⟩ := hck
    have hd := pt_hd h1 (d := 1) h2
    subst h2
    split at hs
    · cases hs
      exact va_slen hx hb hXt.1 hXt.2.1 hXt.2.2 T.2.2.2.2.2 hd (K.go T (pt_okS_c trivial (pt_okS_t h0)))
    · cases hs
  case new j =>
    simp only [pt_ck, Bool.and_eq_true, decide_eq_true_eq, Nat.beq_eq, Nat.blt_eq, Nat.ble_eq] at hck
    simp only [pt_step] at hs
    obtain ⟨⟨h1, -⟩, h2, h3⟩ := hck
    have hd := pt_hd h1 (d := 3) h2
    subst h2
    cases h9 : Nat.ble 100 X with
    | true =>
      rw [h9] at hs
      simp only [cond_true] at hs
      split at hs <;> cases hs
    | false =>
      rw [h9] at hs h3
      simp only [cond_false, decide_eq_true_eq] at hs h3
      cases hs
      exact pt_W_new C hd h3 hc hn T K
  case newarray ty =>
    simp only [pt_ck, Bool.and_eq_true, decide_eq_true_eq, Nat.beq_eq, Nat.blt_eq, Nat.ble_eq] at hck
    simp only [pt_step] at hs
    obtain ⟨⟨h1, -⟩, ⟨⟨⟨h2, h3⟩, h4⟩, h5⟩, h6⟩ := hck
    have hd := pt_hd h1 (d := 2) h2
    subst h2
    split at hs
    · split at hs
      · next h7 =>
        cases hs
        exact pt_W_newa C hd h3 h4 h5 h6 h7.1 h7.2 hc hn T K
      · cases hs
    · cases hs
  case anewarray j =>
    simp only [pt_ck, Bool.and_eq_true, decide_eq_true_eq, Nat.beq_eq, Nat.blt_eq, Nat.ble_eq] at hck
    simp only [pt_step] at hs
    obtain ⟨⟨h1, -⟩, ⟨⟨⟨h2, h3⟩, h4⟩, h5⟩, h6⟩ := hck
    have hd := pt_hd h1 (d := 3) h2
    subst h2
    split at hs
    · split at hs
      · next h7 =>
        cases hs
        exact pt_W_newq C hd h3 h4 h5 h6 h7.1 h7.2 hc hn T K
      · cases hs
    · cases hs
  case invokestatic j =>
    simp only [pt_ck, Bool.and_eq_true, decide_eq_true_eq, Nat.beq_eq, Nat.blt_eq, Nat.ble_eq] at hck
    simp only [pt_step] at hs
    simp only [Bool.or_eq_true, Nat.beq_eq] at hck
    obtain ⟨⟨h1, -⟩, ⟨h2, h3⟩, h4⟩ := hck
    have hd := pt_hd h1 (d := 3) h2
    subst h2
    rcases h4 with (rfl | rfl) | rfl
    · exact absurd hs (pt_inv_no (by decide) (by decide))
    · exact absurd hs (pt_inv_no (by decide) (by decide))
    · exact pt_W_inv C (Or.inr ⟨rfl, hd⟩) h3 hs T K
  case invokevirtual j =>
    simp only [pt_ck, Bool.and_eq_true, decide_eq_true_eq, Nat.beq_eq, Nat.blt_eq, Nat.ble_eq] at hck
    simp only [pt_step] at hs
    obtain ⟨⟨h1, -⟩, ⟨h2, h3⟩, rfl⟩ := hck
    exact absurd hs (pt_inv_no (by decide) (by decide))
  case invokespecial j =>
    simp only [pt_ck, Bool.and_eq_true, decide_eq_true_eq, Nat.beq_eq, Nat.blt_eq, Nat.ble_eq] at hck
    simp only [pt_step] at hs
    simp only [Bool.or_eq_true, Bool.and_eq_true, decide_eq_true_eq, Nat.beq_eq] at hck
    obtain ⟨⟨h1, -⟩, h2, h3⟩ := hck
    have hd := pt_hd h1 (d := 3) h2
    subst h2
    rcases h3 with rfl | ⟨h3, (rfl | rfl) | ⟨rfl, h4⟩⟩
    · exact absurd hs (pt_inv_no (by decide) (by decide))
    · exact absurd hs (pt_inv_no (by decide) (by decide))
    · exact pt_W_inv C (Or.inl ⟨rfl, hd⟩) h3 hs T K
    · exact absurd hs (pt_inv_no (by decide) (by decide))
  case ireturn =>
    simp only [pt_step] at hs
    split at hs
    · split at hs
      · cases hs
      · split at hs <;> cases hs
      · cases hs
    · cases hs
  case lreturn =>
    simp only [pt_step] at hs
    split at hs
    · cases h9 : Nat.beq (pt_ret k) 3 <;> rw [h9] at hs <;> cases hs
    · cases hs
  case dreturn =>
    simp only [pt_step] at hs
    split at hs
    · cases h9 : Nat.beq (pt_ret k) 4 <;> rw [h9] at hs <;> cases hs
    · cases hs
  case return_ =>
    simp only [pt_step] at hs
    split at hs
    · cases h9 : Nat.beq (pt_ret k) 0 <;> rw [h9] at hs <;> cases hs
    · cases hs
  all_goals (simp only [pt_step] at hs; cases hs)
end
