/-! Whole runs, in the memory of one object and of both. -/
def eO (v : Bool) (o : Option pt_V ⊕ Nat) : Option pt_V ⊕ Nat := match o with
  | .inl w => .inl (w.map (eV v))
  | .inr E => .inr E
theorem eS_vl (v : Bool) (w : Option pt_V) (r : List pt_V) : pt_vl (w.map (eV v)) (eS v r) = eS v (pt_vl w r) := by cases w <;> rfl
theorem tr_run {v : Bool} : ∀ (n k pc : Nat) (L : pt_L) (st : List pt_V) (μ M : pt_M) (o : pt_O), pt_ex n k none pc L st μ = some o → (∀ x, ¬ x = 24 → o.2.2.2.2 x = μ.2.2.2 x) → Vw v μ M → ∃ M', pt_ex n k none pc (eL v L) (eS v st) M = some (eO v o.1, M') ∧ Vw v o.2 M' ∧ Fw v M M' ∧ (∀ x, ¬ x = 24 → M'.2.2.2 x = M.2.2.2 x) ∧ M'.2.2.2 24 + μ.2.2.2 24 = M.2.2.2 24 + o.2.2.2.2 24 := by
  intro n
  induction n with
  | zero => intro k pc L st μ M o h; simp [pt_ex] at h
  | succ n ih =>
    intro k pc L st μ M o h hcn hV
    have sq : ∀ {a b : pt_M}, pt_le μ a → pt_le a b → (∀ x, ¬ x = 24 → b.2.2.2 x = μ.2.2.2 x) → (∀ x, ¬ x = 24 → a.2.2.2 x = μ.2.2.2 x) ∧ ∀ x, ¬ x = 24 → b.2.2.2 x = a.2.2.2 x := fun h1 h2 h3 => by
      refine ⟨fun x hx => Nat.le_antisymm ?_ (h1 x), fun x hx => Nat.le_antisymm ?_ (h2 x)⟩
      · have := h2 x
        have := h3 x hx
        show pt_cn _ x ≤ pt_cn μ x
        have e : pt_cn _ x = pt_cn μ x := h3 x hx
        rw [← e]; exact h2 x
      · have e : pt_cn _ x = pt_cn μ x := h3 x hx
        show pt_cn _ x ≤ pt_cn _ x
        rw [e]; exact h1 x
    rw [pt_ex] at h ⊢
    cases hf : pt_fetch k pc with
    | none => rw [hf] at h; simp at h
    | some e =>
      rw [hf] at h
      simp only [] at h ⊢
      cases hs : pt_step k none e L st μ with
      | none => rw [hs] at h; simp at h
      | some c =>
        rw [hs] at h
        rcases c with ⟨pc', L', st', μ'⟩ | ⟨y, as, pc', r⟩ | v' | E'
        · simp only [] at h
          obtain ⟨q1, q2⟩ := sq (pt_step_le hs) (pt_ex_grow _ _ _ _ _ _ _ _ h) hcn
          obtain ⟨M1, g1, g2, g3, g4, g5⟩ := tr_step hV hf hs q1
          rw [g1]
          obtain ⟨M2, k1, k2, k3, k4, k5⟩ := ih _ _ _ _ _ M1 _ h q2 g2
          refine ⟨M2, k1, k2, g3.tr k3, fun x hx => by rw [k4 x hx, g4], ?_⟩
          have e24 : μ'.2.2.2 24 = μ.2.2.2 24 := congrFun g5 24
          rw [g4] at k5
          rw [e24] at k5
          exact k5
        · simp only [] at h
          obtain ⟨M1, g1, -⟩ := tr_step hV hf hs (fun _ _ => rfl)
          rw [g1]
          simp only [eC]
          cases hc : pt_ex n y none 0 (pt_ent (pt_maxL y) as) [] μ with
          | none => rw [hc] at h; simp at h
          | some q =>
            rw [hc] at h
            rcases q with ⟨w | E, μ'⟩
            · simp only [] at h
              obtain ⟨q1, q2⟩ := sq (pt_ex_grow _ _ _ _ _ _ _ _ hc) (pt_ex_grow _ _ _ _ _ _ _ _ h) hcn
              obtain ⟨M2, k1, k2, k3, k4, k5⟩ := ih _ _ _ _ _ M _ hc q1 hV
              rw [eL_ent]
              rw [show eS v ([] : List pt_V) = [] from rfl] at k1
              rw [k1]
              simp only [eO]
              obtain ⟨M3, j1, j2, j3, j4, j5⟩ := ih _ _ _ _ _ M2 _ h q2 k2
              rw [← eS_vl] at j1
              refine ⟨M3, j1, j2, k3.tr j3, fun x hx => by rw [j4 x hx, k4 x hx], ?_⟩
              simp only [] at k5 j5
              omega
            · simp only [] at h
              cases hm : (pt_mayT y && pt_noX L) with
              | false => rw [hm] at h; simp at h
              | true =>
                rw [hm] at h
                simp only [cond_true] at h
                cases hh : pt_catch (pt_hand k) pc E with
                | none => rw [hh] at h; simp at h
                | some hp =>
                  rw [hh] at h
                  simp only [] at h
                  obtain ⟨q1, q2⟩ := sq (pt_ex_grow _ _ _ _ _ _ _ _ hc) (pt_ex_grow _ _ _ _ _ _ _ _ h) hcn
                  obtain ⟨M2, k1, k2, k3, k4, k5⟩ := ih _ _ _ _ _ M _ hc q1 hV
                  rw [eL_ent]
                  rw [show eS v ([] : List pt_V) = [] from rfl] at k1
                  rw [k1]
                  simp only [eO]
                  rw [eL_noX, hm]
                  simp only [cond_true]
                  rw [hh]
                  obtain ⟨M3, j1, j2, j3, j4, j5⟩ := ih _ _ _ _ _ M2 _ h q2 k2
                  refine ⟨M3, j1, j2, k3.tr j3, fun x hx => by rw [j4 x hx, k4 x hx], ?_⟩
                  simp only [] at k5 j5
                  omega
        · obtain ⟨M1, g1, -⟩ := tr_step hV hf hs (fun _ _ => rfl)
          rw [g1]
          cases h
          exact ⟨M, rfl, hV, Fw.rfl', fun _ _ => rfl, rfl⟩
        · obtain ⟨M1, g1, -⟩ := tr_step hV hf hs (fun _ _ => rfl)
          rw [g1]
          cases h
          refine ⟨pt_thr M, rfl, hV, Fw.rfl', fun x hx => ?_, ?_⟩
          · show (if x = 24 then M.2.2.2 24 + 1 else M.2.2.2 x) = _
            rw [if_neg hx]
          · show (if 24 = 24 then M.2.2.2 24 + 1 else M.2.2.2 24) + μ.2.2.2 24 = M.2.2.2 24 + (if 24 = 24 then μ.2.2.2 24 + 1 else μ.2.2.2 24)
            rw [if_pos rfl, if_pos rfl]
            omega
