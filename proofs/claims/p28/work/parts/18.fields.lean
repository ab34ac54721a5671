/-! Fields and classes, by their numbers. -/
theorem pt_lt10 {P : Nat → Prop} (h0 : P 0) (h1 : P 1) (h2 : P 2) (h3 : P 3) (h4 : P 4) (h5 : P 5) (h6 : P 6) (h7 : P 7) (h8 : P 8) (h9 : P 9) : ∀ c, c < 10 → P c := by
  intro c hc
  match c, hc with
  | 0, _ => exact h0
  | 1, _ => exact h1
  | 2, _ => exact h2
  | 3, _ => exact h3
  | 4, _ => exact h4
  | 5, _ => exact h5
  | 6, _ => exact h6
  | 7, _ => exact h7
  | 8, _ => exact h8
  | 9, _ => exact h9
theorem pt_cl_at : ∀ c, c < 10 → vwCl[c]? = some (pt_cname c, pt_T c, pt_len c) := pt_lt10 rfl rfl rfl rfl rfl rfl rfl rfl rfl rfl
def pt_fty : Nat → Nat → FieldType
  | 0 => tyX0
  | 1 => tyX1
  | 2 => tyX2
  | 3 => tyX3
  | 4 => tyX4
  | 5 => tyX5
  | 6 => tyX6
  | 7 => tyX7
  | 8 => tyX8
  | _ => tyX0
theorem pt_fty_ok : ∀ c, c < 10 → ∀ k, k < pt_len c → parseFieldDescriptor (pt_T c k).2.2.1 = some (pt_fty c k) := pt_lt10 tyX0_ok tyX1_ok tyX2_ok tyX3_ok tyX4_ok tyX5_ok tyX6_ok tyX7_ok tyX8_ok tyX0_ok
theorem pt_nmX : ∀ c, c < 10 → ∀ a, a < pt_len c → ∀ b, b < pt_len c → a ≠ b → (pt_T c a).2.1 ≠ (pt_T c b).2.1 := pt_lt10 nmX0 nmX1 nmX2 nmX3 nmX4 nmX5 nmX6 nmX7 nmX8 nmX0
theorem pt_T_own : ∀ c, c < 10 → ∀ k, k < pt_len c → (pt_T c k).1 = pt_cname c := by decide +kernel
/-- the coarse type against the type itself -/
def pt_ftk (t : FieldType) : Nat := match t with
  | .int => 0
  | .boolean => 1
  | .long => 2
  | .object _ => 3
  | .array _ => 3
  | _ => 8
theorem pt_ft_fty : ∀ c, c < 10 → ∀ k, k < pt_len c → pt_ft c k = pt_ftk (pt_fty c k) := by decide +kernel
set_option maxRecDepth 100000 in
theorem pt_uws_all : (List.range 10).all (fun c => (u_ws (pt_cname c) (pt_T c) (pt_len c)).all (fun w => decide (w ∈ lw_tbl) && goodWord w)) = true := by decide +kernel
theorem pt_uws {c : Nat} (hc : c < 10) : ∀ w ∈ u_ws (pt_cname c) (pt_T c) (pt_len c), w ∈ pt_W := by
  intro w hw
  have := List.all_eq_true.mp (List.all_eq_true.mp pt_uws_all c (List.mem_range.mpr hc)) w hw
  simp only [Bool.and_eq_true, decide_eq_true_eq] at this
  exact List.mem_filter.mpr this
theorem pt_fl_spec {w i x y : Nat} (h : (w, i, x, y) ∈ pt_fl) : (Cond.fieldLink (pt_cname w) i (pt_cname x) (pt_T x y).2.1 (pt_T x y).2.2.1) ∈ pt_W ∧ x < 10 ∧ y < pt_len x := by
  obtain ⟨p, hp⟩ := pt_zip_mem _ _ pt_fl_z _ h
  simp only [Bool.and_eq_true, Nat.blt_eq] at hp
  exact ⟨pt_at_W hp.1, hp.2.1, hp.2.2⟩
theorem pt_ml_spec {q : Nat × Nat × Nat × Nat × Nat} (h : q ∈ pt_ml) : ∀ w ∈ pt_wM q, w ∈ pt_W := by
  obtain ⟨p, hp⟩ := pt_zip_mem _ _ pt_ml_z _ h
  exact pt_ats_W _ _ hp
theorem pt_kl_spec {q : Nat × Nat × Nat} (h : q ∈ pt_kl) : (∀ w ∈ pt_wK q, w ∈ pt_W) ∧ q.2.2 < 10 := by
  obtain ⟨p, hp⟩ := pt_zip_mem _ _ pt_kl_z _ h
  simp only [Bool.and_eq_true, Nat.blt_eq] at hp
  exact ⟨pt_ats_W _ _ hp.1, hp.2⟩
theorem pt_cl_spec {w i : Nat} {c : pt_V} (h : pt_cl.any (fun q => Nat.beq q.1 w && Nat.beq q.2.1 i && decide (q.2.2 = c)) = true) : pt_wC (w, i, c) ∈ pt_W := by
  obtain ⟨q, hq, h2⟩ := List.any_eq_true.mp h
  simp only [Bool.and_eq_true, Nat.beq_eq, decide_eq_true_eq] at h2
  obtain ⟨⟨h3, h4⟩, h5⟩ := h2
  obtain ⟨a, b, d⟩ := q
  dsimp only at h3 h4 h5
  subst h3; subst h4; subst h5
  obtain ⟨p, hp⟩ := pt_zip_mem _ _ pt_cl_z _ hq
  exact pt_at_W hp
theorem pt_fits_ref {t : FieldType} (h : pt_ftk t = 3) (a : Nat) : narrow t (.ref a) = .ref a ∧ fits t (.ref a) = true := by
  cases t <;> first | exact ⟨rfl, rfl⟩ | (simp [pt_ftk] at h)
theorem pt_fits_bool {v : Int32} (h : v = 0 ∨ v = 1) : narrow .boolean (.int v) = .int v ∧ fits .boolean (.int v) = true := by
  rcases h with rfl | rfl <;> exact ⟨by decide, by decide⟩
theorem pt_ftk_inv {t : FieldType} : (pt_ftk t = 0 → t = .int) ∧ (pt_ftk t = 1 → t = .boolean) ∧ (pt_ftk t = 2 → t = .long) := by
  cases t <;> simp [pt_ftk]
/-- exceptions that aren't caught as one another -/
def pt_ncl : List (Nat × Nat) := [(1, 2), (1, 3), (2, 1), (2, 3), (3, 1), (3, 2)]
/-- what the launch gives, beside the words -/
def pt_St (A : Nat → Prop) (s : State) : Prop :=
  (∀ q ∈ pt_sl, ∃ a, vk_R (pt_cname q.1) q.2.1 q.2.2 a s) ∧ vx_Zq Bundle.tN "UNASSIGNED_STACK" Bundle.steD A s s.heap ∧ vx_Zq Bundle.tN "SUPPRESSED_SENTINEL" Bundle.listD A s s.heap ∧ (∀ w ∈ pt_ng, va_Nw w s) ∧ va_AO (pt_cname 2) s ∧ va_AO (pt_cname 4) s ∧ va_AO (pt_cname 5) s ∧ (∀ q ∈ pt_ncl, va_Nc (pt_xn q.1) (pt_xn q.2) s)
/-- a method's frame -/
def pt_Cx (p : Program) (l : Launch) (R : Room) (s : State) (m : MethodId) (args : Array Value) (meth : Method) (c : Code) (D : va_G) (cy : Nat → ClassId) (A : Nat → Prop) (k : Nat) : Prop :=
  p.tables.exec = Jvm.exec ∧ c.code = pt_by k ∧ meth.sig.returnType = pt_rt k ∧ c.maxLocals = pt_maxL k ∧ s.vm.findClass (pt_cname (pt_own k)) = some m.cls ∧ (∀ w ∈ pt_W, w.before args s = true) ∧ meth.locks = false ∧ ((pt_nm k).name = "<init>" → meth.name = "<init>") ∧ pt_fr k ≤ R.frames ∧ pt_lo k ≤ R.locals ∧ l.stackTraces = false ∧ va_K D vwCl (pt_tys cy) s ∧ (∀ q, s.heap.size ≤ q → A q) ∧ pt_St A s
def pt_Xt (ext : Option (Nat × (Nat → Int32))) (A : Nat → Prop) (s : State) (b : Nat) : Prop := match ext with
  | none => True
  | some (N, f) => va_X b N f s s.heap ∧ b < s.heap.size ∧ ¬ A b
def pt_Tw (D : va_G) (cy : Nat → ClassId) (A : Nat → Prop) (s : State) (k b x : Nat) (ad : pt_R → Nat) (dl : List pt_R) (μ : pt_M) (H : Heap) (locs : List Loc) (ls : Array Slot) (L : pt_L) (st : List pt_V) : Prop :=
  lv_has ls (pt_maxL k) (pt_lv (pt_cv ad x b) 0 L) ∧ L.length = pt_maxL k ∧ pt_okL μ L ∧ pt_okS μ st ∧ pt_In D cy A ad dl μ H ∧ va_S A s.heap H locs
theorem pt_lget {ls : Array Slot} {nL : Nat} {f : pt_V → Value} {L : pt_L} {j : Nat} {v : pt_V} (h : lv_has ls nL (pt_lv f 0 L)) (hj : pt_lg L j = some v) : ls[j]? = some (.val (f v)) := by
  have := h.2.2 _ (pt_lv_get (f := f) L 0 j v hj)
  rw [show (0 + j, f v).1 = j by show 0 + j = j; omega] at this
  exact this
theorem pt_lset1 {ls' : Array Slot} {nL : Nat} {f : pt_V → Value} (hf : ∀ v, (f v).category = pt_cat v) {L : pt_L} {j : Nat} {v : pt_V} (h : lv_has ls' nL ((j, f v) :: (pt_lv f 0 L).filter (fun q => !(q.1 == j) && !(q.1 + 1 == j && q.2.category == 2)))) : lv_has ls' nL (pt_lv f 0 (pt_ls1 L j v)) := by
  refine ⟨h.1, h.2.1, fun q hq => h.2.2 q ?_⟩
  rcases pt_lv_set1 hf L 0 j v q hq with h1 | ⟨h1, h2, h3⟩
  · rw [h1, Nat.zero_add]
    exact List.mem_cons_self
  · refine List.mem_cons_of_mem _ (List.mem_filter.mpr ⟨h1, ?_⟩)
    rw [Nat.zero_add] at h2 h3
    simp only [Bool.and_eq_true, Bool.not_eq_true', beq_eq_false_iff_ne, ne_eq, Bool.and_eq_false_iff]
    refine ⟨h2, ?_⟩
    by_cases z : q.1 + 1 = j
    · exact Or.inr (fun w => h3 ⟨z, w⟩)
    · exact Or.inl z
theorem pt_lset2 {ls' : Array Slot} {nL : Nat} {f : pt_V → Value} (hf : ∀ v, (f v).category = pt_cat v) {L : pt_L} {j : Nat} {v : pt_V} (hl : j + 1 < L.length) (h : lv_has ls' nL ((j, f v) :: (pt_lv f 0 L).filter (fun q => !(q.1 == j) && (!(q.1 == j + 1) && !(q.1 + 1 == j && q.2.category == 2))))) : lv_has ls' nL (pt_lv f 0 (pt_ls2 L j v)) := by
  refine ⟨h.1, h.2.1, fun q hq => h.2.2 q ?_⟩
  rcases pt_lv_set2 hf L 0 j v q hl hq with h1 | ⟨h1, h2, h4, h3⟩
  · rw [h1, Nat.zero_add]
    exact List.mem_cons_self
  · refine List.mem_cons_of_mem _ (List.mem_filter.mpr ⟨h1, ?_⟩)
    rw [Nat.zero_add] at h2 h3 h4
    simp only [Bool.and_eq_true, Bool.not_eq_true', beq_eq_false_iff_ne, ne_eq, Bool.and_eq_false_iff]
    refine ⟨h2, h4, ?_⟩
    by_cases z : q.1 + 1 = j
    · exact Or.inr (fun w => h3 ⟨z, w⟩)
    · exact Or.inl z
theorem pt_okL_ls1 {μ : pt_M} {L : pt_L} {j : Nat} {v : pt_V} (h : pt_okL μ L) (hv : pt_okV μ v) : pt_okL μ (pt_ls1 L j v) := by
  intro w hw
  rcases pt_ls1_mem L j v w hw with rfl | h1
  · exact hv
  · exact h w h1
theorem pt_okL_ls2 {μ : pt_M} {L : pt_L} {j : Nat} {v : pt_V} (h : pt_okL μ L) (hv : pt_okV μ v) : pt_okL μ (pt_ls2 L j v) := by
  intro w hw
  rcases pt_ls2_mem L j v w hw with rfl | h1
  · exact hv
  · exact h w h1
theorem pt_okS_t {μ : pt_M} {v : pt_V} {st : List pt_V} (h : pt_okS μ (v :: st)) : pt_okS μ st := fun w hw => h w (List.mem_cons_of_mem _ hw)
theorem pt_okS_h {μ : pt_M} {v : pt_V} {st : List pt_V} (h : pt_okS μ (v :: st)) : pt_okV μ v := h v List.mem_cons_self
theorem pt_okS_c {μ : pt_M} {v : pt_V} {st : List pt_V} (hv : pt_okV μ v) (h : pt_okS μ st) : pt_okS μ (v :: st) := fun w hw => by
  rcases List.mem_cons.mp hw with rfl | hw
  · exact hv
  · exact h w hw
theorem pt_cats_map (ad : pt_R → Nat) (x b : Nat) : ∀ st : List pt_V, ((st.map (pt_cv ad x b)).map fun v => v.category).sum = pt_cats st
  | [] => rfl
  | v :: st => by
    simp only [List.map_cons, List.sum_cons, pt_cats, pt_cv_cat]
    have := pt_cats_map ad x b st
    simp only [List.map_map] at this ⊢
    rw [this]
