/-! The words of the links are among the tables' words, and good. -/
def pt_W : List Cond := lw_tbl.filter goodWord
def pt_at (w : Cond) (i : Nat) : Bool := (match lw_tbl[i]? with
  | some v => decide (v = w)
  | none => false) && goodWord w
theorem pt_at_W {w : Cond} {i : Nat} (h : pt_at w i = true) : w ∈ pt_W := by
  simp only [pt_at, Bool.and_eq_true] at h
  obtain ⟨h1, h2⟩ := h
  cases hv : lw_tbl[i]? with
  | none => rw [hv] at h1; simp at h1
  | some v =>
    rw [hv] at h1
    simp only [decide_eq_true_eq] at h1
    subst h1
    exact List.mem_filter.mpr ⟨List.mem_of_getElem? hv, h2⟩
def pt_ats : List Cond → List Nat → Bool
  | [], [] => true
  | w :: ws, i :: is => pt_at w i && pt_ats ws is
  | _, _ => false
theorem pt_ats_W : ∀ (ws : List Cond) (is : List Nat), pt_ats ws is = true → ∀ w ∈ ws, w ∈ pt_W
  | [], _, _, w, h => by simp at h
  | w0 :: ws, [], h, _, _ => by simp [pt_ats] at h
  | w0 :: ws, i :: is, h, w, hw => by
    simp only [pt_ats, Bool.and_eq_true] at h
    rcases List.mem_cons.mp hw with rfl | hw
    · exact pt_at_W h.1
    · exact pt_ats_W ws is h.2 w hw
def pt_zip {α β : Type} (f : α → β → Bool) : List α → List β → Bool
  | [], [] => true
  | a :: l, b :: m => f a b && pt_zip f l m
  | _, _ => false
theorem pt_zip_mem {α β : Type} {f : α → β → Bool} : ∀ (l : List α) (m : List β), pt_zip f l m = true → ∀ a ∈ l, ∃ b, f a b = true
  | [], _, _, a, h => by simp at h
  | a0 :: l, [], h, _, _ => by simp [pt_zip] at h
  | a0 :: l, b :: m, h, a, ha => by
    simp only [pt_zip, Bool.and_eq_true] at h
    rcases List.mem_cons.mp ha with rfl | ha
    · exact ⟨b, h.1⟩
    · exact pt_zip_mem l m h.2 a ha
set_option maxRecDepth 100000 in
theorem pt_fl_z : pt_zip (fun q i => pt_at (pt_wF q) i && (Nat.blt q.2.2.1 10 && Nat.blt q.2.2.2 (pt_len q.2.2.1))) pt_fl pt_flp = true := by decide +kernel
set_option maxRecDepth 100000 in
theorem pt_ml_z : pt_zip (fun q is => pt_ats (pt_wM q) is) pt_ml pt_mlp = true := by decide +kernel
set_option maxRecDepth 100000 in
theorem pt_kl_z : pt_zip (fun q is => pt_ats (pt_wK q) is && Nat.blt q.2.2 10) pt_kl pt_klp = true := by decide +kernel
set_option maxRecDepth 100000 in
theorem pt_cl_z : pt_zip (fun q i => pt_at (pt_wC q) i) pt_cl pt_clp = true := by decide +kernel
