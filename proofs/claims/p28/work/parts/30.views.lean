/-! A run in the memory of one object is a run in the memory of both: the cells renamed. -/
/-- how many cells of the kind one object has -/
def kN (c : Nat) : Nat := match c with
  | 0 => 1 | 1 => 1 | 2 => 9 | 3 => 1 | 4 => 18 | 5 => 90 | 6 => 1 | 7 => 1 | 8 => 1
  | 10 => 9 | 11 => 1 | 12 => 1 | 13 => 1 | 18 => 1 | 19 => 1 | 20 => 1 | 21 => 9 | 22 => 9 | _ => 0
/-- the number in the memory of both; v: which object -/
def em (v : Bool) (c n : Nat) : Nat := if n < kN c then (if v = true then n + kN c else n) else 2 * kN c + 1 + 2 * (n - kN c) + (if v = true then 1 else 0)
theorem em_inj {v : Bool} {c n n' : Nat} (h : em v c n = em v c n') : n = n' := by
  unfold em at h
  cases v <;> simp only [if_true, if_false, Bool.false_eq_true] at h <;> (repeat' split at h) <;> omega
theorem em_ne {c n n' : Nat} : ¬ em true c n = em false c n' := by
  intro h
  unfold em at h
  simp only [if_true, if_false, Bool.false_eq_true] at h
  (repeat' split at h) <;> omega
theorem em_of (v : Bool) {c n : Nat} (h : n < kN c) : em v c n = n + (if v = true then kN c else 0) := by
  unfold em
  rw [if_pos h]
  cases v <;> rfl
theorem em_0 {c n : Nat} (h : n < kN c) : em false c n = n := em_of false h
theorem em_23 (v : Bool) (n : Nat) : ¬ em v 23 n = 0 := by
  have k : kN 23 = 0 := rfl
  unfold em
  rw [k, if_neg (Nat.not_lt_zero n)]
  omega
def eR (v : Bool) (q : pt_R) : pt_R := (q.1, em v q.1 q.2)
def eV (v : Bool) : pt_V → pt_V
  | .inl x => .inl x
  | .inr (.inl x) => .inr (.inl x)
  | .inr (.inr (.inl x)) => .inr (.inr (.inl x))
  | .inr (.inr (.inr (.inl none))) => .inr (.inr (.inr (.inl none)))
  | .inr (.inr (.inr (.inl (some q)))) => .inr (.inr (.inr (.inl (some (eR v q)))))
  | .inr (.inr (.inr (.inr b))) => .inr (.inr (.inr (.inr b)))
abbrev eS (v : Bool) (st : List pt_V) : List pt_V := st.map (eV v)
abbrev eL (v : Bool) (L : pt_L) : pt_L := L.map (Option.map (eV v))
section
variable {v : Bool}
theorem eV_cat (a : pt_V) : pt_cat (eV v a) = pt_cat a := by
  rcases a with a | a | a | a | a
  · rfl
  · rfl
  · rfl
  · cases a <;> rfl
  · rfl
theorem eL_lg : ∀ (L : pt_L) (x : Nat), pt_lg (eL v L) x = (pt_lg L x).map (eV v)
  | [], _ => rfl
  | a :: L, 0 => by cases a <;> rfl
  | a :: L, n + 1 => eL_lg L n
theorem eL_clr (a : Option pt_V) : pt_clr (a.map (eV v)) = (pt_clr a).map (eV v) := by
  rcases a with _ | a | a | a | a | a
  · rfl
  · rfl
  · rfl
  · rfl
  · cases a <;> rfl
  · rfl
theorem eL_ls1 : ∀ (L : pt_L) (x : Nat) (w : pt_V), pt_ls1 (eL v L) x (eV v w) = eL v (pt_ls1 L x w)
  | [], _, _ => rfl
  | a :: L, 0, w => rfl
  | a :: L, 1, w => by
    show pt_clr (a.map (eV v)) :: pt_ls1 (eL v L) 0 (eV v w) = _
    rw [eL_clr, eL_ls1 L 0 w]
    rfl
  | a :: L, n + 2, w => by
    show a.map (eV v) :: pt_ls1 (eL v L) (n + 1) (eV v w) = _
    rw [eL_ls1 L (n + 1) w]
    rfl
theorem eL_ls2 : ∀ (L : pt_L) (x : Nat) (w : pt_V), pt_ls2 (eL v L) x (eV v w) = eL v (pt_ls2 L x w)
  | [], _, _ => rfl
  | [_], _, _ => rfl
  | a :: b :: L, 0, w => rfl
  | a :: b :: L, 1, w => by
    show pt_clr (a.map (eV v)) :: pt_ls2 (eL v (b :: L)) 0 (eV v w) = _
    rw [eL_clr, eL_ls2 (b :: L) 0 w]
    rfl
  | a :: b :: L, n + 2, w => by
    show a.map (eV v) :: pt_ls2 (eL v (b :: L)) (n + 1) (eV v w) = _
    rw [eL_ls2 (b :: L) (n + 1) w]
    rfl
theorem eL_flat : ∀ as : List pt_V, pt_flat (eS v as) = eL v (pt_flat as)
  | [] => rfl
  | a :: as => by
    rcases a with a | a | a | a | a
    · show some (.inl a) :: pt_flat (eS v as) = _
      rw [eL_flat as]; rfl
    · show some (.inr (.inl a)) :: none :: pt_flat (eS v as) = _
      rw [eL_flat as]; rfl
    · show some (.inr (.inr (.inl a))) :: none :: pt_flat (eS v as) = _
      rw [eL_flat as]; rfl
    · cases a with
      | none =>
        show some (.inr (.inr (.inr (.inl none)))) :: pt_flat (eS v as) = _
        rw [eL_flat as]; rfl
      | some q =>
        show some (.inr (.inr (.inr (.inl (some (eR v q)))))) :: pt_flat (eS v as) = _
        rw [eL_flat as]; rfl
    · show some (.inr (.inr (.inr (.inr a)))) :: pt_flat (eS v as) = _
      rw [eL_flat as]; rfl
theorem eL_pad : ∀ (n : Nat) (l : pt_L), pt_pad n (eL v l) = eL v (pt_pad n l)
  | 0, _ => rfl
  | n + 1, [] => by
    show none :: pt_pad n (eL v []) = _
    rw [eL_pad n []]; rfl
  | n + 1, a :: l => by
    show a.map (eV v) :: pt_pad n (eL v l) = _
    rw [eL_pad n l]; rfl
theorem eL_ent (n : Nat) (as : List pt_V) : pt_ent n (eS v as) = eL v (pt_ent n as) := by
  unfold pt_ent
  rw [eL_flat, eL_pad]
theorem eS_cats : ∀ as : List pt_V, pt_cats (eS v as) = pt_cats as
  | [] => rfl
  | a :: as => by
    show pt_cat (eV v a) + pt_cats (eS v as) = pt_cat a + pt_cats as
    rw [eV_cat, eS_cats as]
theorem eS_flen (as : List pt_V) : (pt_flat (eS v as)).length = (pt_flat as).length := by rw [eL_flat, List.length_map]
theorem eS_pop : ∀ (n : Nat) (acc st as r : List pt_V), pt_pop n acc st = some (as, r) → pt_pop n (eS v acc) (eS v st) = some (eS v as, eS v r)
  | 0, acc, st, as, r, h => by
    simp only [pt_pop, Option.some.injEq, Prod.mk.injEq] at h ⊢
    obtain ⟨rfl, rfl⟩ := h
    exact ⟨rfl, rfl⟩
  | n + 1, acc, [], as, r, h => by simp [pt_pop] at h
  | n + 1, acc, a :: st, as, r, h => by
    simp only [pt_pop] at h
    exact eS_pop n (a :: acc) st as r h
theorem eS_rcv {x y : Nat} {as : List pt_V} (h : pt_rcv x y as = true) : pt_rcv x y (eS v as) = true := by
  unfold pt_rcv at h ⊢
  split at h
  · exact h
  · exact h
  · next h0 h5 =>
    rcases as with _ | ⟨a, as⟩
    · simp at h
    · rcases a with a | a | a | a | a
      · simp at h
      · simp at h
      · simp at h
      · cases a with
        | none => simp at h
        | some q => exact h
      · simp at h
theorem eL_noX : ∀ L : pt_L, pt_noX (eL v L) = pt_noX L
  | [] => rfl
  | a :: L => by
    rcases a with _ | a | a | a | a | a
    · exact eL_noX L
    · exact eL_noX L
    · exact eL_noX L
    · exact eL_noX L
    · cases a with
      | none => exact eL_noX L
      | some q => exact eL_noX L
    · cases a with
      | false => rfl
      | true => exact eL_noX L
end
/-- the one object's memory, seen in that of both -/
def Vw (v : Bool) (μ M : pt_M) : Prop := (∀ c n j, M.1 c (em v c n) j = μ.1 c n j) ∧ (∀ c n j, M.2.1 c (em v c n) j = μ.2.1 c n j) ∧ (∀ c n j, M.2.2.1 c (em v c n) j = (μ.2.2.1 c n j).map (eR v))
/-- what the object has not got stays -/
def Fw (v : Bool) (M M' : pt_M) : Prop := ∀ c N, (∀ n, ¬ N = em v c n) → ∀ j, M'.1 c N j = M.1 c N j ∧ M'.2.1 c N j = M.2.1 c N j ∧ M'.2.2.1 c N j = M.2.2.1 c N j
theorem Fw.rfl' {v : Bool} {M : pt_M} : Fw v M M := fun _ _ _ _ => ⟨rfl, rfl, rfl⟩
theorem Fw.tr {v : Bool} {A B C : pt_M} (h1 : Fw v A B) (h2 : Fw v B C) : Fw v A C := fun c N hN j => by
  obtain ⟨a1, a2, a3⟩ := h1 c N hN j
  obtain ⟨b1, b2, b3⟩ := h2 c N hN j
  exact ⟨b1.trans a1, b2.trans a2, b3.trans a3⟩
section
variable {v : Bool} {μ M : pt_M} {c n j : Nat}
theorem Vw.wI (h : Vw v μ M) (x : Int32) : Vw v (pt_wI μ c n j x) (pt_wI M c (em v c n) j x) ∧ Fw v M (pt_wI M c (em v c n) j x) := by
  refine ⟨⟨fun c' n' j' => ?_, h.2.1, h.2.2⟩, fun c' N hN j' => ⟨?_, rfl, rfl⟩⟩
  · show pt_up3 M.1 c (em v c n) j x c' (em v c' n') j' = pt_up3 μ.1 c n j x c' n' j'
    unfold pt_up3
    by_cases e : c' = c ∧ n' = n ∧ j' = j
    · obtain ⟨rfl, rfl, rfl⟩ := e
      rw [if_pos ⟨rfl, rfl, rfl⟩, if_pos ⟨rfl, rfl, rfl⟩]
    · rw [if_neg e, if_neg (fun z => e ⟨z.1, em_inj (v := v) (c := c) (by rw [← z.2.1, z.1]), z.2.2⟩)]
      exact h.1 c' n' j'
  · show pt_up3 M.1 c (em v c n) j x c' N j' = M.1 c' N j'
    unfold pt_up3
    rw [if_neg (fun z => hN n (by rw [z.2.1, z.1]))]
theorem Vw.wJ (h : Vw v μ M) (x : Int64) : Vw v (pt_wJ μ c n j x) (pt_wJ M c (em v c n) j x) ∧ Fw v M (pt_wJ M c (em v c n) j x) := by
  refine ⟨⟨h.1, fun c' n' j' => ?_, h.2.2⟩, fun c' N hN j' => ⟨rfl, ?_, rfl⟩⟩
  · show pt_up3 M.2.1 c (em v c n) j x c' (em v c' n') j' = pt_up3 μ.2.1 c n j x c' n' j'
    unfold pt_up3
    by_cases e : c' = c ∧ n' = n ∧ j' = j
    · obtain ⟨rfl, rfl, rfl⟩ := e
      rw [if_pos ⟨rfl, rfl, rfl⟩, if_pos ⟨rfl, rfl, rfl⟩]
    · rw [if_neg e, if_neg (fun z => e ⟨z.1, em_inj (v := v) (c := c) (by rw [← z.2.1, z.1]), z.2.2⟩)]
      exact h.2.1 c' n' j'
  · show pt_up3 M.2.1 c (em v c n) j x c' N j' = M.2.1 c' N j'
    unfold pt_up3
    rw [if_neg (fun z => hN n (by rw [z.2.1, z.1]))]
theorem Vw.wR (h : Vw v μ M) (x : Option pt_R) : Vw v (pt_wR μ c n j x) (pt_wR M c (em v c n) j (x.map (eR v))) ∧ Fw v M (pt_wR M c (em v c n) j (x.map (eR v))) := by
  refine ⟨⟨h.1, h.2.1, fun c' n' j' => ?_⟩, fun c' N hN j' => ⟨rfl, rfl, ?_⟩⟩
  · show pt_up3 M.2.2.1 c (em v c n) j (x.map (eR v)) c' (em v c' n') j' = (pt_up3 μ.2.2.1 c n j x c' n' j').map (eR v)
    unfold pt_up3
    by_cases e : c' = c ∧ n' = n ∧ j' = j
    · obtain ⟨rfl, rfl, rfl⟩ := e
      rw [if_pos ⟨rfl, rfl, rfl⟩, if_pos ⟨rfl, rfl, rfl⟩]
    · rw [if_neg e, if_neg (fun z => e ⟨z.1, em_inj (v := v) (c := c) (by rw [← z.2.1, z.1]), z.2.2⟩)]
      exact h.2.2 c' n' j'
  · show pt_up3 M.2.2.1 c (em v c n) j (x.map (eR v)) c' N j' = M.2.2.1 c' N j'
    unfold pt_up3
    rw [if_neg (fun z => hN n (by rw [z.2.1, z.1]))]
theorem Vw.wRow (h : Vw v μ M) (g : Nat → Int32) : Vw v (pt_wRow μ c n g) (pt_wRow M c (em v c n) g) ∧ Fw v M (pt_wRow M c (em v c n) g) := by
  refine ⟨⟨fun c' n' j' => ?_, h.2.1, h.2.2⟩, fun c' N hN j' => ⟨?_, rfl, rfl⟩⟩
  · show pt_up2 M.1 c (em v c n) g c' (em v c' n') j' = pt_up2 μ.1 c n g c' n' j'
    unfold pt_up2
    by_cases e : c' = c ∧ n' = n
    · obtain ⟨rfl, rfl⟩ := e
      rw [if_pos ⟨rfl, rfl⟩, if_pos ⟨rfl, rfl⟩]
    · rw [if_neg e, if_neg (fun z => e ⟨z.1, em_inj (v := v) (c := c) (by rw [← z.2, z.1])⟩)]
      exact h.1 c' n' j'
  · show pt_up2 M.1 c (em v c n) g c' N j' = M.1 c' N j'
    unfold pt_up2
    rw [if_neg (fun z => hN n (by rw [z.2, z.1]))]
end
