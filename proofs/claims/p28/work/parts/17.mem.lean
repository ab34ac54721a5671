/-! Reading, writing and making cells. -/
theorem pt_map_set {α β : Type} (f g : α → β) : ∀ (l : List α) (i : Nat) (a : α), l.Nodup → l[i]? = some a → (∀ b ∈ l, b ≠ a → g b = f b) → (l.map f).set i (g a) = l.map g
  | [], _, _, _, h, _ => by simp at h
  | b :: l, 0, a, hn, h, hs => by
    simp only [List.getElem?_cons_zero, Option.some.injEq] at h
    subst h
    simp only [List.map_cons, List.set_cons_zero, List.cons.injEq, true_and]
    refine List.map_congr_left (fun c hc => (hs c (List.mem_cons_of_mem _ hc) (fun z => ?_)).symm)
    subst z
    exact (List.nodup_cons.mp hn).1 hc
  | b :: l, i + 1, a, hn, h, hs => by
    simp only [List.getElem?_cons_succ] at h
    have hba : b ≠ a := fun z => by
      subst z
      exact (List.nodup_cons.mp hn).1 (List.mem_of_getElem? h)
    simp only [List.map_cons, List.set_cons_succ]
    rw [pt_map_set f g l i a (List.nodup_cons.mp hn).2 h (fun c hc => hs c (List.mem_cons_of_mem _ hc)), hs b List.mem_cons_self hba]
section
variable {cy : Nat → ClassId} {ad : pt_R → Nat} {μ μ' : pt_M} {dl : List pt_R} {D : va_G} {A : Nat → Prop} {H : Heap}
theorem pt_ws_get {q : pt_R} (hI : ∀ q, q ∈ dl ↔ pt_vd μ q) (hq : pt_vd μ q) : ∃ q0 : Nat, dl[q0]? = some q ∧ (pt_ws cy ad μ dl)[q0]? = some (ad q, pt_cell cy ad μ q) := by
  obtain ⟨i, hi⟩ := List.getElem?_of_mem ((hI q).mpr hq)
  exact ⟨i, hi, by simp only [pt_ws, List.getElem?_map, hi, Option.map_some]⟩
theorem pt_ws_set {q : pt_R} {q0 : Nat} (hn : dl.Nodup) (h0 : dl[q0]? = some q) (hs : ∀ q', q' ≠ q → pt_cell cy ad μ' q' = pt_cell cy ad μ q') : (pt_ws cy ad μ dl).set q0 (ad q, pt_cell cy ad μ' q) = pt_ws cy ad μ' dl :=
  pt_map_set (fun q => (ad q, pt_cell cy ad μ q)) (fun q => (ad q, pt_cell cy ad μ' q)) dl q0 q hn h0 (fun b _ hb => by rw [hs b hb])
theorem pt_cell_congr {ad' : pt_R → Nat} {q : pt_R} (h1 : ∀ j, pt_rI μ' q.1 q.2 j = pt_rI μ q.1 q.2 j) (h2 : ∀ j, pt_rJ μ' q.1 q.2 j = pt_rJ μ q.1 q.2 j) (h3 : ∀ j, (pt_rR μ' q.1 q.2 j).map ad' = (pt_rR μ q.1 q.2 j).map ad) : pt_cell cy ad' μ' q = pt_cell cy ad μ q := by
  have e1 : ∀ j, pt_fv ad' μ' q.1 q.2 j = pt_fv ad μ q.1 q.2 j := fun j => by simp only [pt_fv, h1, h2, h3]
  have e2 : pt_row ad' μ' q.1 q.2 = pt_row ad μ q.1 q.2 := by simp only [pt_row, h1, h2, h3]
  simp only [pt_cell, e1, e2]
theorem pt_cell_obj {c n : Nat} (h : c < 10) : pt_cell cy ad μ (c, n) = .inr (c, (List.range (pt_len c)).map (fun j => pt_fv ad μ c n j)) := by
  simp only [pt_cell, if_pos h]
theorem pt_cell_arr {c n : Nat} (h : ¬ c < 10) : pt_cell cy ad μ (c, n) = .inl (cy (pt_ti c), pt_len c, pt_row ad μ c n) := by
  simp only [pt_cell, if_neg h]
theorem pt_fs_get {c n j : Nat} (h : j < pt_len c) : ((List.range (pt_len c)).map (fun j => pt_fv ad μ c n j))[j]? = some (pt_fv ad μ c n j) := by
  rw [List.getElem?_map, List.getElem?_range h]
  rfl
theorem pt_fs_set {c n j : Nat} {v : Value} (h : j < pt_len c) (hv : pt_fv ad μ' c n j = v) (hs : ∀ j', j' ≠ j → pt_fv ad μ' c n j' = pt_fv ad μ c n j') : ((List.range (pt_len c)).map (fun j => pt_fv ad μ c n j)).set j v = (List.range (pt_len c)).map (fun j => pt_fv ad μ' c n j) := by
  subst hv
  exact pt_map_set _ (fun j => pt_fv ad μ' c n j) _ j j List.nodup_range (List.getElem?_range h) (fun b _ hb => hs b hb)
end
/-! writes, read back -/
theorem pt_rI_wI (μ : pt_M) (c n j c' n' j' : Nat) (v : Int32) : pt_rI (pt_wI μ c n j v) c' n' j' = if c' = c ∧ n' = n ∧ j' = j then v else pt_rI μ c' n' j' := rfl
theorem pt_rJ_wI (μ : pt_M) (c n j c' n' j' : Nat) (v : Int32) : pt_rJ (pt_wI μ c n j v) c' n' j' = pt_rJ μ c' n' j' := rfl
theorem pt_rR_wI (μ : pt_M) (c n j c' n' j' : Nat) (v : Int32) : pt_rR (pt_wI μ c n j v) c' n' j' = pt_rR μ c' n' j' := rfl
theorem pt_rI_wJ (μ : pt_M) (c n j c' n' j' : Nat) (v : Int64) : pt_rI (pt_wJ μ c n j v) c' n' j' = pt_rI μ c' n' j' := rfl
theorem pt_rJ_wJ (μ : pt_M) (c n j c' n' j' : Nat) (v : Int64) : pt_rJ (pt_wJ μ c n j v) c' n' j' = if c' = c ∧ n' = n ∧ j' = j then v else pt_rJ μ c' n' j' := rfl
theorem pt_rR_wJ (μ : pt_M) (c n j c' n' j' : Nat) (v : Int64) : pt_rR (pt_wJ μ c n j v) c' n' j' = pt_rR μ c' n' j' := rfl
theorem pt_rI_wR (μ : pt_M) (c n j c' n' j' : Nat) (v : Option pt_R) : pt_rI (pt_wR μ c n j v) c' n' j' = pt_rI μ c' n' j' := rfl
theorem pt_rJ_wR (μ : pt_M) (c n j c' n' j' : Nat) (v : Option pt_R) : pt_rJ (pt_wR μ c n j v) c' n' j' = pt_rJ μ c' n' j' := rfl
theorem pt_rR_wR (μ : pt_M) (c n j c' n' j' : Nat) (v : Option pt_R) : pt_rR (pt_wR μ c n j v) c' n' j' = if c' = c ∧ n' = n ∧ j' = j then v else pt_rR μ c' n' j' := rfl
theorem pt_rI_wRow (μ : pt_M) (c n c' n' j' : Nat) (g : Nat → Int32) : pt_rI (pt_wRow μ c n g) c' n' j' = if c' = c ∧ n' = n then g j' else pt_rI μ c' n' j' := rfl
theorem pt_rJ_wRow (μ : pt_M) (c n c' n' j' : Nat) (g : Nat → Int32) : pt_rJ (pt_wRow μ c n g) c' n' j' = pt_rJ μ c' n' j' := rfl
theorem pt_rR_wRow (μ : pt_M) (c n c' n' j' : Nat) (g : Nat → Int32) : pt_rR (pt_wRow μ c n g) c' n' j' = pt_rR μ c' n' j' := rfl
theorem pt_rI_nw (μ : pt_M) (c c' n' j' : Nat) : pt_rI (pt_nw μ c) c' n' j' = if c' = c ∧ n' = pt_cn μ c then 0 else pt_rI μ c' n' j' := rfl
theorem pt_rJ_nw (μ : pt_M) (c c' n' j' : Nat) : pt_rJ (pt_nw μ c) c' n' j' = if c' = c ∧ n' = pt_cn μ c then 0 else pt_rJ μ c' n' j' := rfl
theorem pt_rR_nw (μ : pt_M) (c c' n' j' : Nat) : pt_rR (pt_nw μ c) c' n' j' = if c' = c ∧ n' = pt_cn μ c then none else pt_rR μ c' n' j' := rfl
theorem pt_cn_nw (μ : pt_M) (c c' : Nat) : pt_cn (pt_nw μ c) c' = if c' = c then pt_cn μ c + 1 else pt_cn μ c' := rfl
theorem pt_cn_thr (μ : pt_M) (c' : Nat) : pt_cn (pt_thr μ) c' = if c' = 24 then pt_cn μ 24 + 1 else pt_cn μ c' := rfl
theorem pt_le_nw (μ : pt_M) (c : Nat) : pt_le μ (pt_nw μ c) := fun c' => by
  rw [pt_cn_nw]
  split
  · next h => subst h; omega
  · exact Nat.le_refl _
theorem pt_le_thr (μ : pt_M) : pt_le μ (pt_thr μ) := fun c' => by
  rw [pt_cn_thr]
  split
  · next h => subst h; omega
  · exact Nat.le_refl _
theorem pt_sm_nw {f g : Nat → Nat} {c d : Nat} (h1 : g c = f c + d) (h2 : ∀ c', c' ≠ c → g c' = f c') : ∀ n, pt_sm g n = pt_sm f n + (if c < n then d else 0)
  | 0 => rfl
  | n + 1 => by
    simp only [pt_sm]
    rw [pt_sm_nw h1 h2 n]
    by_cases hc : n = c
    · subst hc
      rw [h1, if_neg (Nat.lt_irrefl _), if_pos (Nat.lt_succ_self _)]
      omega
    · rw [h2 n hc]
      by_cases hl : c < n
      · rw [if_pos hl, if_pos (by omega)]
        omega
      · rw [if_neg hl, if_neg (by omega)]
        omega
theorem pt_sz_nw (μ : pt_M) {c : Nat} (h : c < 25) : pt_sz (pt_nw μ c) = pt_sz μ + 1 := by
  have := pt_sm_nw (f := fun c => pt_cn μ c) (g := fun c' => pt_cn (pt_nw μ c) c') (c := c) (d := 1) (by simp [pt_cn_nw]) (fun c' hc => by simp [pt_cn_nw, hc]) 25
  rw [if_pos h] at this
  exact this
theorem pt_sn_nw (μ : pt_M) {c : Nat} (h : c < 25) : pt_sn (pt_nw μ c) = pt_sn μ + pt_len c := by
  have := pt_sm_nw (f := fun c => pt_cn μ c * pt_len c) (g := fun c' => pt_cn (pt_nw μ c) c' * pt_len c') (c := c) (d := pt_len c) (by simp [pt_cn_nw, Nat.add_mul]) (fun c' hc => by simp [pt_cn_nw, hc]) 25
  rw [if_pos h] at this
  exact this
theorem pt_sz_thr (μ : pt_M) : pt_sz (pt_thr μ) = pt_sz μ + 1 := by
  have := pt_sm_nw (f := fun c => pt_cn μ c) (g := fun c' => pt_cn (pt_thr μ) c') (c := 24) (d := 1) (by simp [pt_cn_thr]) (fun c' hc => by simp [pt_cn_thr, hc]) 25
  exact this
theorem pt_sn_thr (μ : pt_M) : pt_sn (pt_thr μ) = pt_sn μ + 6 := by
  have := pt_sm_nw (f := fun c => pt_cn μ c * pt_len c) (g := fun c' => pt_cn (pt_thr μ) c' * pt_len c') (c := 24) (d := 6) (by simp [pt_cn_thr, Nat.add_mul, pt_len]) (fun c' hc => by simp [pt_cn_thr, hc]) 25
  exact this
/-! what a write leaves -/
theorem pt_okM_wR {μ : pt_M} (h : pt_okM μ) {c n j : Nat} {q : pt_R} (hq : pt_vd μ q) : pt_okM (pt_wR μ c n j (some q)) := by
  intro c' n' j' q' h'
  rw [pt_rR_wR] at h'
  split at h'
  · cases h'
    exact hq
  · exact h c' n' j' q' h'
theorem pt_okM_nw {μ : pt_M} (h : pt_okM μ) (c : Nat) : pt_okM (pt_nw μ c) := by
  intro c' n' j' q' h'
  rw [pt_rR_nw] at h'
  split at h'
  · cases h'
  · exact pt_vd_le (pt_le_nw μ c) (h c' n' j' q' h')
section
variable {cy : Nat → ClassId} {ad : pt_R → Nat} {μ : pt_M} {c n j : Nat} {q : pt_R}
theorem pt_ne_cn {q : pt_R} {c n : Nat} (h : q ≠ (c, n)) : ¬ (q.1 = c ∧ q.2 = n) := fun z => h (by obtain ⟨a, b⟩ := q; obtain ⟨rfl, rfl⟩ := z; rfl)
theorem pt_cell_wI (v : Int32) (h : q ≠ (c, n)) : pt_cell cy ad (pt_wI μ c n j v) q = pt_cell cy ad μ q :=
  pt_cell_congr (fun j' => by rw [pt_rI_wI, if_neg (fun z => pt_ne_cn h ⟨z.1, z.2.1⟩)]) (fun _ => rfl) (fun _ => rfl)
theorem pt_cell_wJ (v : Int64) (h : q ≠ (c, n)) : pt_cell cy ad (pt_wJ μ c n j v) q = pt_cell cy ad μ q :=
  pt_cell_congr (fun _ => rfl) (fun j' => by rw [pt_rJ_wJ, if_neg (fun z => pt_ne_cn h ⟨z.1, z.2.1⟩)]) (fun _ => rfl)
theorem pt_cell_wR (v : Option pt_R) (h : q ≠ (c, n)) : pt_cell cy ad (pt_wR μ c n j v) q = pt_cell cy ad μ q :=
  pt_cell_congr (fun _ => rfl) (fun _ => rfl) (fun j' => by rw [pt_rR_wR, if_neg (fun z => pt_ne_cn h ⟨z.1, z.2.1⟩)])
theorem pt_cell_wRow (g : Nat → Int32) (h : q ≠ (c, n)) : pt_cell cy ad (pt_wRow μ c n g) q = pt_cell cy ad μ q :=
  pt_cell_congr (fun j' => by rw [pt_rI_wRow, if_neg (pt_ne_cn h)]) (fun _ => rfl) (fun _ => rfl)
end
/-- a new cell -/
def pt_adU (ad : pt_R → Nat) (q : pt_R) (a : Nat) : pt_R → Nat := fun r => if r = q then a else ad r
theorem pt_adU_ag {μ : pt_M} {ad : pt_R → Nat} {c a : Nat} : pt_ag μ ad (pt_adU ad (c, pt_cn μ c) a) := fun q hq => by
  unfold pt_adU
  rw [if_neg]
  intro z
  subst z
  exact absurd hq.2 (Nat.lt_irrefl _)
theorem pt_new_cells {cy : Nat → ClassId} {ad : pt_R → Nat} {μ : pt_M} {dl : List pt_R} {c a : Nat} (hM : pt_okM μ) (hI : ∀ q, q ∈ dl ↔ pt_vd μ q) : pt_ws cy (pt_adU ad (c, pt_cn μ c) a) (pt_nw μ c) (dl ++ [(c, pt_cn μ c)]) = pt_ws cy ad μ dl ++ [(a, pt_cell cy (pt_adU ad (c, pt_cn μ c) a) (pt_nw μ c) (c, pt_cn μ c))] := by
  simp only [pt_ws, List.map_append, List.map_cons, List.map_nil]
  congr 1
  · refine List.map_congr_left (fun q hq => ?_)
    have hv := (hI q).mp hq
    have hne : q ≠ (c, pt_cn μ c) := fun z => by
      subst z
      exact absurd hv.2 (Nat.lt_irrefl _)
    rw [pt_adU_ag q hv]
    congr 1
    refine pt_cell_congr (fun j => ?_) (fun j => ?_) (fun j => ?_)
    · rw [pt_rI_nw, if_neg (pt_ne_cn hne)]
    · rw [pt_rJ_nw, if_neg (pt_ne_cn hne)]
    · rw [pt_rR_nw, if_neg (pt_ne_cn hne)]
      cases hr : pt_rR μ q.1 q.2 j with
      | none => rfl
      | some r => simp only [Option.map_some, pt_adU_ag r (hM _ _ _ _ hr)]
  · simp [pt_adU]
theorem pt_new_dl {μ : pt_M} {dl : List pt_R} {c : Nat} (hn : dl.Nodup) (hI : ∀ q, q ∈ dl ↔ pt_vd μ q) (hc : c < 24) : (dl ++ [(c, pt_cn μ c)]).Nodup ∧ ∀ q, q ∈ dl ++ [(c, pt_cn μ c)] ↔ pt_vd (pt_nw μ c) q := by
  constructor
  · refine List.nodup_append.mpr ⟨hn, by simp, fun q hq r hr => ?_⟩
    simp only [List.mem_singleton] at hr
    subst hr
    intro z
    subst z
    exact absurd ((hI _).mp hq).2 (Nat.lt_irrefl _)
  · intro q
    obtain ⟨q1, q2⟩ := q
    simp only [List.mem_append, List.mem_singleton, hI, pt_vd, pt_cn_nw, Prod.mk.injEq]
    constructor
    · rintro (⟨h1, h2⟩ | ⟨rfl, rfl⟩)
      · refine ⟨h1, ?_⟩
        split
        · next h => subst h; omega
        · exact h2
      · exact ⟨hc, by rw [if_pos rfl]; omega⟩
    · rintro ⟨h1, h2⟩
      split at h2
      · next h =>
        subst h
        by_cases hz : q2 = pt_cn μ q1
        · exact Or.inr ⟨rfl, hz⟩
        · exact Or.inl ⟨h1, by omega⟩
      · exact Or.inl ⟨h1, h2⟩
