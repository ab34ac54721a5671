/-! How the abstract machine's memory lies in the heap. -/
abbrev vwCl : List vw_C := [(RX0, TX0, 1), (RX1, TX1, 3), (RX2, TX2, 10), (RX3, TX3, 2), (RX4, TX4, 3), (RX5, TX5, 9), (RX6, TX6, 5), (RX7, TX7, 3), (RX8, TX8, 7), (RX0, TX0, 1)]
def pt_vd (μ : pt_M) (q : pt_R) : Prop := q.1 < 24 ∧ q.2 < pt_cn μ q.1
def pt_okV (μ : pt_M) : pt_V → Prop
  | .inr (.inr (.inr (.inl (some q)))) => pt_vd μ q
  | _ => True
def pt_okS (μ : pt_M) (st : List pt_V) : Prop := ∀ v ∈ st, pt_okV μ v
def pt_okL (μ : pt_M) (L : pt_L) : Prop := ∀ v, some v ∈ L → pt_okV μ v
def pt_okM (μ : pt_M) : Prop := ∀ (c n j : Nat) (q : pt_R), pt_rR μ c n j = some q → pt_vd μ q
def pt_cv (ad : pt_R → Nat) (x b : Nat) : pt_V → Value
  | .inl v => .int v
  | .inr (.inl v) => .long v
  | .inr (.inr (.inl v)) => .double v
  | .inr (.inr (.inr (.inl none))) => .null
  | .inr (.inr (.inr (.inl (some q)))) => .ref (ad q)
  | .inr (.inr (.inr (.inr false))) => .ref x
  | .inr (.inr (.inr (.inr true))) => .ref b
def pt_lv (f : pt_V → Value) : Nat → pt_L → List (Nat × Value)
  | _, [] => []
  | i, some v :: l => (i, f v) :: pt_lv f (i + 1) l
  | i, none :: l => pt_lv f (i + 1) l
def pt_fv (ad : pt_R → Nat) (μ : pt_M) (c n j : Nat) : Value := match pt_ft c j with
  | 2 => .long (pt_rJ μ c n j)
  | 3 => va_rf ((pt_rR μ c n j).map ad)
  | _ => .int (pt_rI μ c n j)
/-- which of the classes of arrays a kind of arrays has -/
def pt_ti : Nat → Nat
  | 18 => 1
  | 19 => 3
  | 20 => 3
  | 21 => 4
  | 22 => 5
  | _ => 0
def pt_tys (cy : Nat → ClassId) : List (ClassId × FieldType) := [(cy 0, .int), (cy 1, .boolean), (cy 2, .int), (cy 3, .object RX2), (cy 4, .object RX4), (cy 5, .object RX5)]
def pt_row (ad : pt_R → Nat) (μ : pt_M) (c n : Nat) : (Nat → Int32) ⊕ (Nat → Int64) ⊕ (Nat → UInt32) ⊕ (Nat → UInt64) ⊕ (Nat → Option Nat) := match pt_ety c with
  | 2 => .inr (.inl (fun j => pt_rJ μ c n j))
  | 3 => .inr (.inr (.inr (.inr (fun j => (pt_rR μ c n j).map ad))))
  | _ => .inl (fun j => pt_rI μ c n j)
def pt_cell (cy : Nat → ClassId) (ad : pt_R → Nat) (μ : pt_M) (q : pt_R) : va_E := if q.1 < 10 then .inr (q.1, (List.range (pt_len q.1)).map (fun j => pt_fv ad μ q.1 q.2 j)) else .inl (cy (pt_ti q.1), pt_len q.1, pt_row ad μ q.1 q.2)
def pt_ws (cy : Nat → ClassId) (ad : pt_R → Nat) (μ : pt_M) (dl : List pt_R) : va_W := dl.map (fun q => (ad q, pt_cell cy ad μ q))
/-- the heap holds the memory: dl: the cells in some order -/
def pt_In (D : va_G) (cy : Nat → ClassId) (A : Nat → Prop) (ad : pt_R → Nat) (dl : List pt_R) (μ : pt_M) (H : Heap) : Prop :=
  pt_okM μ ∧ dl.Nodup ∧ (∀ q, q ∈ dl ↔ pt_vd μ q) ∧ va_P D vwCl (pt_ws cy ad μ dl) H ∧ va_D A (pt_ws cy ad μ dl)
/-- cells and their slots -/
def pt_sm (f : Nat → Nat) : Nat → Nat
  | 0 => 0
  | n + 1 => pt_sm f n + f n
def pt_sz (μ : pt_M) : Nat := pt_sm (fun c => pt_cn μ c) 25
def pt_sn (μ : pt_M) : Nat := pt_sm (fun c => pt_cn μ c * pt_len c) 25
/-- nothing that was there has gone -/
def pt_le (μ μ' : pt_M) : Prop := ∀ c, pt_cn μ c ≤ pt_cn μ' c
theorem pt_le_rf (μ : pt_M) : pt_le μ μ := fun _ => Nat.le_refl _
theorem pt_le_tr {a b c : pt_M} (h1 : pt_le a b) (h2 : pt_le b c) : pt_le a c := fun q => Nat.le_trans (h1 q) (h2 q)
theorem pt_sm_le {f g : Nat → Nat} (h : ∀ c, f c ≤ g c) : ∀ n, pt_sm f n ≤ pt_sm g n
  | 0 => Nat.le_refl _
  | n + 1 => by
    have := pt_sm_le h n
    have := h n
    simp only [pt_sm]
    omega
theorem pt_sz_le {μ μ' : pt_M} (h : pt_le μ μ') : pt_sz μ ≤ pt_sz μ' := pt_sm_le h 25
theorem pt_sn_le {μ μ' : pt_M} (h : pt_le μ μ') : pt_sn μ ≤ pt_sn μ' := pt_sm_le (fun c => Nat.mul_le_mul_right _ (h c)) 25
theorem pt_vd_le {μ μ' : pt_M} (h : pt_le μ μ') {q : pt_R} (hq : pt_vd μ q) : pt_vd μ' q := ⟨hq.1, Nat.lt_of_lt_of_le hq.2 (h _)⟩
theorem pt_okV_le {μ μ' : pt_M} (h : pt_le μ μ') {v : pt_V} (hv : pt_okV μ v) : pt_okV μ' v := by
  rcases v with v | v | v | v | v
  · trivial
  · trivial
  · trivial
  · cases v with
    | none => trivial
    | some q => exact pt_vd_le h hv
  · trivial
theorem pt_okS_le {μ μ' : pt_M} (h : pt_le μ μ') {st : List pt_V} (hv : pt_okS μ st) : pt_okS μ' st := fun v hm => pt_okV_le h (hv v hm)
theorem pt_okL_le {μ μ' : pt_M} (h : pt_le μ μ') {L : pt_L} (hv : pt_okL μ L) : pt_okL μ' L := fun v hm => pt_okV_le h (hv v hm)
/-- the same addresses, for what is there -/
def pt_ag (μ : pt_M) (ad ad' : pt_R → Nat) : Prop := ∀ q, pt_vd μ q → ad' q = ad q
theorem pt_cv_ag {μ : pt_M} {ad ad' : pt_R → Nat} {x b : Nat} (h : pt_ag μ ad ad') {v : pt_V} (hv : pt_okV μ v) : pt_cv ad' x b v = pt_cv ad x b v := by
  rcases v with v | v | v | v | v
  · rfl
  · rfl
  · rfl
  · cases v with
    | none => rfl
    | some q => show Value.ref (ad' q) = Value.ref (ad q); rw [h q hv]
  · cases v <;> rfl
theorem pt_map_ag {μ : pt_M} {ad ad' : pt_R → Nat} {x b : Nat} (h : pt_ag μ ad ad') {st : List pt_V} (hv : pt_okS μ st) : st.map (pt_cv ad' x b) = st.map (pt_cv ad x b) :=
  List.map_congr_left (fun v hm => pt_cv_ag h (hv v hm))
theorem pt_lv_ag {μ : pt_M} {ad ad' : pt_R → Nat} {x b : Nat} (h : pt_ag μ ad ad') : ∀ (L : pt_L) (i : Nat), pt_okL μ L → pt_lv (pt_cv ad' x b) i L = pt_lv (pt_cv ad x b) i L
  | [], _, _ => rfl
  | none :: L, i, hv => pt_lv_ag h L (i + 1) (fun v hm => hv v (List.mem_cons_of_mem _ hm))
  | some v :: L, i, hv => by
    simp only [pt_lv]
    rw [pt_cv_ag h (hv v List.mem_cons_self), pt_lv_ag h L (i + 1) (fun v hm => hv v (List.mem_cons_of_mem _ hm))]
theorem pt_lv_get {f : pt_V → Value} : ∀ (L : pt_L) (i j : Nat) (v : pt_V), pt_lg L j = some v → (i + j, f v) ∈ pt_lv f i L
  | [], _, _, _, h => by simp [pt_lg] at h
  | a :: L, i, 0, v, h => by
    simp only [pt_lg] at h
    subst h
    exact List.mem_cons_self
  | none :: L, i, j + 1, v, h => by
    simp only [pt_lg] at h
    have := pt_lv_get (f := f) L (i + 1) j v h
    rw [show i + (j + 1) = i + 1 + j by omega]
    exact this
  | some w :: L, i, j + 1, v, h => by
    simp only [pt_lg] at h
    have := pt_lv_get (f := f) L (i + 1) j v h
    rw [show i + (j + 1) = i + 1 + j by omega]
    exact List.mem_cons_of_mem _ this
theorem pt_lg_mem : ∀ (L : pt_L) (j : Nat) (v : pt_V), pt_lg L j = some v → some v ∈ L
  | [], _, _, h => by simp [pt_lg] at h
  | a :: L, 0, v, h => by simp only [pt_lg] at h; subst h; exact List.mem_cons_self
  | a :: L, j + 1, v, h => by simp only [pt_lg] at h; exact List.mem_cons_of_mem _ (pt_lg_mem L j v h)
theorem pt_lv_ge {f : pt_V → Value} : ∀ (L : pt_L) (i : Nat) (q : Nat × Value), q ∈ pt_lv f i L → i ≤ q.1
  | [], _, _, h => by simp [pt_lv] at h
  | none :: L, i, q, h => by have := pt_lv_ge L (i + 1) q h; omega
  | some w :: L, i, q, h => by
    simp only [pt_lv, List.mem_cons] at h
    rcases h with rfl | h
    · exact Nat.le_refl _
    · have := pt_lv_ge L (i + 1) q h
      omega
theorem pt_clr_spec {a : Option pt_V} {v : pt_V} (h : pt_clr a = some v) : a = some v ∧ pt_cat v = 1 := by
  unfold pt_clr at h
  split at h
  · cases h; exact ⟨rfl, rfl⟩
  · cases h; exact ⟨rfl, rfl⟩
  · cases h
theorem pt_cv_cat (ad : pt_R → Nat) (x b : Nat) (v : pt_V) : (pt_cv ad x b v).category = pt_cat v := by
  rcases v with v | v | v | v | v
  · rfl
  · rfl
  · rfl
  · cases v <;> rfl
  · cases v <;> rfl
/-- what the locals hold behind a store, of what they held -/
theorem pt_lv_set1 {f : pt_V → Value} (hf : ∀ v, (f v).category = pt_cat v) : ∀ (L : pt_L) (i j : Nat) (v : pt_V) (q : Nat × Value), q ∈ pt_lv f i (pt_ls1 L j v) → q = (i + j, f v) ∨ (q ∈ pt_lv f i L ∧ q.1 ≠ i + j ∧ ¬ (q.1 + 1 = i + j ∧ q.2.category = 2))
  | [], _, _, _, _, h => by simp [pt_ls1, pt_lv] at h
  | a :: L, i, 0, v, q, h => by
    simp only [pt_ls1, pt_lv, List.mem_cons] at h
    rcases h with rfl | h
    · exact Or.inl rfl
    · have h1 := pt_lv_ge _ _ _ h
      refine Or.inr ⟨?_, by omega, fun z => by omega⟩
      cases a with
      | none => exact h
      | some w => exact List.mem_cons_of_mem _ h
  | a :: L, i, 1, v, q, h => by
    have tail : ∀ q ∈ pt_lv f (i + 1) (pt_ls1 L 0 v), q = (i + 1, f v) ∨ (q ∈ pt_lv f i (a :: L) ∧ q.1 ≠ i + 1 ∧ ¬ (q.1 + 1 = i + 1 ∧ q.2.category = 2)) := by
      intro q h
      rcases pt_lv_set1 hf L (i + 1) 0 v q h with h | ⟨h1, h2, h3⟩
      · exact Or.inl h
      · have hg := pt_lv_ge _ _ _ h1
        refine Or.inr ⟨?_, h2, fun z => by omega⟩
        cases a with
        | none => exact h1
        | some w => exact List.mem_cons_of_mem _ h1
    simp only [pt_ls1] at h
    cases hc : pt_clr a with
    | none =>
      rw [hc] at h
      exact tail q h
    | some w =>
      rw [hc] at h
      obtain ⟨rfl, hw⟩ := pt_clr_spec hc
      simp only [pt_lv, List.mem_cons] at h
      rcases h with rfl | h
      · refine Or.inr ⟨List.mem_cons_self, by show i ≠ i + 1; omega, fun z => ?_⟩
        have : (f w).category = 2 := z.2
        rw [hf, hw] at this
        omega
      · exact tail q h
  | none :: L, i, j + 2, v, q, h => by
    rcases pt_lv_set1 hf L (i + 1) (j + 1) v q h with h | ⟨h1, h2, h3⟩
    · exact Or.inl (by rw [h, show i + 1 + (j + 1) = i + (j + 2) by omega])
    · exact Or.inr ⟨h1, by omega, fun z => h3 ⟨by omega, z.2⟩⟩
  | some w :: L, i, j + 2, v, q, h => by
    simp only [pt_ls1, pt_lv, List.mem_cons] at h
    rcases h with rfl | h
    · exact Or.inr ⟨List.mem_cons_self, by show i ≠ i + (j + 2); omega, fun z => by have : i + 1 = i + (j + 2) := z.1; omega⟩
    · rcases pt_lv_set1 hf L (i + 1) (j + 1) v q h with h | ⟨h1, h2, h3⟩
      · exact Or.inl (by rw [h, show i + 1 + (j + 1) = i + (j + 2) by omega])
      · exact Or.inr ⟨List.mem_cons_of_mem _ h1, by omega, fun z => h3 ⟨by omega, z.2⟩⟩
theorem pt_lv_set2 {f : pt_V → Value} (hf : ∀ v, (f v).category = pt_cat v) : ∀ (L : pt_L) (i j : Nat) (v : pt_V) (q : Nat × Value), j + 1 < L.length → q ∈ pt_lv f i (pt_ls2 L j v) → q = (i + j, f v) ∨ (q ∈ pt_lv f i L ∧ q.1 ≠ i + j ∧ q.1 ≠ i + j + 1 ∧ ¬ (q.1 + 1 = i + j ∧ q.2.category = 2))
  | [], _, _, _, _, _, h => by simp [pt_ls2, pt_lv] at h
  | [_], _, _, _, _, hl, _ => by simp at hl
  | a :: a' :: L, i, 0, v, q, _, h => by
    simp only [pt_ls2, pt_lv, List.mem_cons] at h
    rcases h with rfl | h
    · exact Or.inl rfl
    · have h1 := pt_lv_ge _ _ _ h
      refine Or.inr ⟨?_, by omega, by omega, fun z => by omega⟩
      cases a <;> cases a' <;> simp [pt_lv, h]
  | a :: a' :: L, i, 1, v, q, hl, h => by
    have tail : ∀ q ∈ pt_lv f (i + 1) (pt_ls2 (a' :: L) 0 v), q = (i + 1, f v) ∨ (q ∈ pt_lv f i (a :: a' :: L) ∧ q.1 ≠ i + 1 ∧ q.1 ≠ i + 1 + 1 ∧ ¬ (q.1 + 1 = i + 1 ∧ q.2.category = 2)) := by
      intro q h
      rcases pt_lv_set2 hf (a' :: L) (i + 1) 0 v q (by simp only [List.length_cons] at hl ⊢; omega) h with h | ⟨h1, h2, h4, h3⟩
      · exact Or.inl h
      · have hg := pt_lv_ge _ _ _ h1
        refine Or.inr ⟨?_, h2, by omega, fun z => by omega⟩
        cases a with
        | none => exact h1
        | some w => exact List.mem_cons_of_mem _ h1
    simp only [pt_ls2] at h
    cases hc : pt_clr a with
    | none =>
      rw [hc] at h
      exact tail q h
    | some w =>
      rw [hc] at h
      obtain ⟨rfl, hw⟩ := pt_clr_spec hc
      simp only [pt_lv, List.mem_cons] at h
      rcases h with rfl | h
      · refine Or.inr ⟨List.mem_cons_self, by show i ≠ i + 1; omega, by show i ≠ i + 1 + 1; omega, fun z => ?_⟩
        have : (f w).category = 2 := z.2
        rw [hf, hw] at this
        omega
      · exact tail q h
  | none :: a' :: L, i, j + 2, v, q, hl, h => by
    rcases pt_lv_set2 hf (a' :: L) (i + 1) (j + 1) v q (by simp only [List.length_cons] at hl ⊢; omega) h with h | ⟨h1, h2, h4, h3⟩
    · exact Or.inl (by rw [h, show i + 1 + (j + 1) = i + (j + 2) by omega])
    · exact Or.inr ⟨h1, by omega, by omega, fun z => h3 ⟨by omega, z.2⟩⟩
  | some w :: a' :: L, i, j + 2, v, q, hl, h => by
    simp only [pt_ls2, pt_lv, List.mem_cons] at h
    rcases h with rfl | h
    · exact Or.inr ⟨List.mem_cons_self, by show i ≠ i + (j + 2); omega, by show i ≠ i + (j + 2) + 1; omega, fun z => by have : i + 1 = i + (j + 2) := z.1; omega⟩
    · rcases pt_lv_set2 hf (a' :: L) (i + 1) (j + 1) v q (by simp only [List.length_cons] at hl ⊢; omega) h with h | ⟨h1, h2, h4, h3⟩
      · exact Or.inl (by rw [h, show i + 1 + (j + 1) = i + (j + 2) by omega])
      · exact Or.inr ⟨List.mem_cons_of_mem _ h1, by omega, by omega, fun z => h3 ⟨by omega, z.2⟩⟩
theorem pt_ls1_len : ∀ (L : pt_L) (j : Nat) (v : pt_V), (pt_ls1 L j v).length = L.length
  | [], _, _ => rfl
  | _ :: _, 0, _ => rfl
  | a :: L, 1, v => by simp only [pt_ls1, List.length_cons, pt_ls1_len L 0 v]
  | a :: L, j + 2, v => by simp only [pt_ls1, List.length_cons, pt_ls1_len L (j + 1) v]
theorem pt_ls2_len : ∀ (L : pt_L) (j : Nat) (v : pt_V), j + 1 < L.length → (pt_ls2 L j v).length = L.length
  | [], _, _, h => by simp at h
  | [_], _, _, h => by simp at h
  | _ :: _ :: _, 0, _, _ => rfl
  | a :: a' :: L, 1, v, h => by
    have := pt_ls2_len (a' :: L) 0 v (by simp only [List.length_cons] at h ⊢; omega)
    simp only [pt_ls2, List.length_cons] at this ⊢
    omega
  | a :: a' :: L, j + 2, v, h => by
    have := pt_ls2_len (a' :: L) (j + 1) v (by simp only [List.length_cons] at h ⊢; omega)
    simp only [pt_ls2, List.length_cons] at this ⊢
    omega
theorem pt_ls1_mem : ∀ (L : pt_L) (j : Nat) (v w : pt_V), some w ∈ pt_ls1 L j v → w = v ∨ some w ∈ L
  | [], _, _, _, h => by simp [pt_ls1] at h
  | a :: L, 0, v, w, h => by
    simp only [pt_ls1, List.mem_cons, Option.some.injEq] at h
    rcases h with h | h
    · exact Or.inl h
    · exact Or.inr (List.mem_cons_of_mem _ h)
  | a :: L, 1, v, w, h => by
    simp only [pt_ls1, List.mem_cons] at h
    rcases h with h | h
    · exact Or.inr (by rw [(pt_clr_spec h.symm).1]; exact List.mem_cons_self)
    · rcases pt_ls1_mem L 0 v w h with h | h
      · exact Or.inl h
      · exact Or.inr (List.mem_cons_of_mem _ h)
  | a :: L, j + 2, v, w, h => by
    simp only [pt_ls1, List.mem_cons] at h
    rcases h with h | h
    · exact Or.inr (by rw [h]; exact List.mem_cons_self)
    · rcases pt_ls1_mem L (j + 1) v w h with h | h
      · exact Or.inl h
      · exact Or.inr (List.mem_cons_of_mem _ h)
theorem pt_ls2_mem : ∀ (L : pt_L) (j : Nat) (v w : pt_V), some w ∈ pt_ls2 L j v → w = v ∨ some w ∈ L
  | [], _, _, _, h => by simp [pt_ls2] at h
  | [_], _, _, _, h => by simp [pt_ls2] at h
  | a :: a' :: L, 0, v, w, h => by
    simp only [pt_ls2, List.mem_cons, Option.some.injEq] at h
    rcases h with h | h | h
    · exact Or.inl h
    · cases h
    · exact Or.inr (List.mem_cons_of_mem _ (List.mem_cons_of_mem _ h))
  | a :: a' :: L, 1, v, w, h => by
    simp only [pt_ls2, List.mem_cons] at h
    rcases h with h | h
    · exact Or.inr (by rw [(pt_clr_spec h.symm).1]; exact List.mem_cons_self)
    · rcases pt_ls2_mem (a' :: L) 0 v w h with h | h
      · exact Or.inl h
      · exact Or.inr (List.mem_cons_of_mem _ h)
  | a :: a' :: L, j + 2, v, w, h => by
    simp only [pt_ls2, List.mem_cons] at h
    rcases h with h | h
    · exact Or.inr (by rw [h]; exact List.mem_cons_self)
    · rcases pt_ls2_mem (a' :: L) (j + 1) v w h with h | h
      · exact Or.inl h
      · exact Or.inr (List.mem_cons_of_mem _ h)
