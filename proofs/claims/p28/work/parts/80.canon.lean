/-! In time, told without an order; places and ranks. -/
/-- told by promises alone -/
def Can (c : Nat) (t d : Nat → Nat) (U : Nat → Bool) (n : Nat) : Prop := ∀ i, i < n → U i = true → c + sg (wt (fun q => U q && decide (d q ≤ d i)) t) n ≤ d i
theorem Feas_Can {c : Nat} {t d : Nat → Nat} {U : Nat → Bool} {n : Nat} (hm : ∀ i j, i ≤ j → j < n → d i ≤ d j) : Feas c t d U n ↔ Can c t d U n := by
  constructor
  · intro h i hi hu
    -- the last one with such a promise
    have key : ∀ k, k ≤ n → (∃ x, x < k ∧ (U x && decide (d x ≤ d i)) = true) → ∃ l, l < k ∧ U l = true ∧ d l ≤ d i ∧ sg (wt (fun q => U q && decide (d q ≤ d i)) t) k = sg (wt (fun q => U q && decide (d q ≤ d i)) t) (l + 1) := by
      intro k
      induction k with
      | zero => rintro _ ⟨x, hx, _⟩; omega
      | succ k ih =>
        rintro hk ⟨x, hx, hw⟩
        cases hn : (U k && decide (d k ≤ d i)) with
        | true =>
          rw [Bool.and_eq_true, decide_eq_true_eq] at hn
          exact ⟨k, by omega, hn.1, hn.2, rfl⟩
        | false =>
          have hxn : x ≠ k := fun z => by rw [z, hn] at hw; simp at hw
          obtain ⟨l, l1, l2, l3, l4⟩ := ih (by omega) ⟨x, by omega, hw⟩
          exact ⟨l, by omega, l2, l3, by rw [sg_s, wt_f hn, l4]; omega⟩
    obtain ⟨l, l1, l2, l3, l4⟩ := key n (Nat.le_refl n) ⟨i, hi, by rw [hu]; simp⟩
    rw [l4]
    have f := h l l1 l2
    have s := sg_sub (U := U) (V := fun q => U q && decide (d q ≤ d i)) (g := t) (n := l + 1) (fun q _ hv => by rw [Bool.and_eq_true] at hv; exact hv.1)
    omega
  · intro h i hi hu
    have f := h i hi hu
    have e : sg (wt U t) (i + 1) = sg (wt (fun q => U q && decide (d q ≤ d i)) t) (i + 1) := sg_congr (fun q hq => wt_cg (by
      have := hm q i (by omega) hi
      simp [this]))
    have s := sg_monoL (wt (fun q => U q && decide (d q ≤ d i)) t) (i := i + 1) (n := n) (by omega)
    omega
/-- one summand set apart -/
theorem sg_at {g : Nat → Nat} {a : Nat} (n : Nat) : a < n → sg g n = sg (fun q => if q = a then 0 else g q) n + g a := by
  induction n with
  | zero => intro h; omega
  | succ n ih =>
    intro h
    rw [sg_s, sg_s]
    by_cases e : a = n
    · subst e
      have hs : sg (fun q => if q = a then 0 else g q) a = sg g a := sg_congr (fun q hq => if_neg (by omega))
      rw [hs, if_pos rfl]
      omega
    · have := ih (by omega)
      rw [if_neg (by omega)]
      omega
theorem sg_zero {g : Nat → Nat} (n : Nat) : (∀ q, q < n → g q = 0) → sg g n = 0 := by
  induction n with
  | zero => intro _; rfl
  | succ n ih =>
    intro h
    rw [sg_s, ih (fun q hq => h q (by omega)), h n (by omega)]
/-- a sum over places is one over ranks -/
theorem sg_list {L : Nat → Nat} {m : Nat} (n : Nat) : ∀ g : Nat → Nat, (∀ j, j < n → L j < m) → (∀ j j', j < j' → j' < n → L j ≠ L j') → (∀ q, q < m → g q ≠ 0 → ∃ j, j < n ∧ L j = q) → sg g m = sg (fun j => g (L j)) n := by
  induction n with
  | zero =>
    intro g _ _ h3
    refine sg_zero m (fun q hq => ?_)
    by_cases c : g q = 0
    · exact c
    · obtain ⟨j, hj, _⟩ := h3 q hq c
      omega
  | succ n ih =>
    intro g h1 h2 h3
    rw [sg_at (a := L n) m (h1 n (by omega)), sg_s]
    have := ih (fun q => if q = L n then 0 else g q) (fun j hj => h1 j (by omega)) (fun j j' a b => h2 j j' a (by omega)) (fun q hq hn => by
      by_cases c : q = L n
      · rw [if_pos c] at hn; exact absurd rfl hn
      · rw [if_neg c] at hn
        obtain ⟨j, hj, e⟩ := h3 q hq hn
        refine ⟨j, ?_, e⟩
        by_cases cj : j = n
        · subst cj; exact absurd e.symm c
        · omega)
    rw [this]
    congr 1
    exact sg_congr (fun j hj => if_neg (h2 j n (by omega) (by omega)))
/-- L lists the places of W below m, each once -/
def Li (L : Nat → Nat) (n : Nat) (W : Nat → Bool) (m : Nat) : Prop := (∀ j, j < n → L j < m ∧ W (L j) = true) ∧ (∀ j j', j < j' → j' < n → L j ≠ L j') ∧ (∀ q, q < m → W q = true → ∃ j, j < n ∧ L j = q)
theorem Li.sum {L : Nat → Nat} {n m : Nat} {W V : Nat → Bool} {g : Nat → Nat} (h : Li L n W m) (hV : ∀ q, q < m → V q = true → W q = true) : sg (wt V g) m = sg (wt (fun j => V (L j)) (fun j => g (L j))) n := by
  have := sg_list (L := L) (m := m) n (wt V g) (fun j hj => (h.1 j hj).1) h.2.1 (fun q hq hn => by
    cases hv : V q with
    | true => exact h.2.2 q hq (hV q hq hv)
    | false => rw [wt_f hv] at hn; exact absurd rfl hn)
  exact this
theorem Li.can {L : Nat → Nat} {n m c : Nat} {W V : Nat → Bool} {t d : Nat → Nat} (h : Li L n W m) (hV : ∀ q, q < m → V q = true → W q = true) : Can c t d V m ↔ Can c (fun j => t (L j)) (fun j => d (L j)) (fun j => V (L j)) n := by
  have es : ∀ p, sg (wt (fun q => V q && decide (d q ≤ d p)) t) m = sg (wt (fun j => V (L j) && decide (d (L j) ≤ d p)) (fun j => t (L j))) n := fun p => h.sum (fun q hq hv => by rw [Bool.and_eq_true] at hv; exact hV q hq hv.1)
  constructor
  · intro hc i hi hu
    have := hc (L i) (h.1 i hi).1 hu
    rw [es] at this
    exact this
  · intro hc p hp hu
    obtain ⟨j, hj, e⟩ := h.2.2 p hp (hV p hp hu)
    subst e
    have := hc j hj hu
    rw [es]
    exact this
/-- the places of a set of ranks -/
def plc (L : Nat → Nat) (n : Nat) (U : Nat → Bool) : Nat → Bool := fun p => match lnk L n p with | some i => U i | none => false
theorem plc_L {L : Nat → Nat} {n m : Nat} {W U : Nat → Bool} (h : Li L n W m) {i : Nat} (hi : i < n) : plc L n U (L i) = U i := by
  unfold plc lnk
  cases hf : fi (fun r => decide (L r = L i)) n with
  | some r =>
    have h1 := fi_lt hf
    have e := of_decide_eq_true h1.2
    have : r = i := by
      rcases Nat.lt_trichotomy r i with z | z | z
      · exact absurd e (h.2.1 r i z hi)
      · exact z
      · exact absurd e.symm (h.2.1 i r z h1.1)
    rw [this]
  | none =>
    have := fi_none hf i hi
    simp at this
theorem plc_W {L : Nat → Nat} {n m : Nat} {W U : Nat → Bool} (h : Li L n W m) {p : Nat} (hp : plc L n U p = true) : p < m ∧ W p = true := by
  unfold plc lnk at hp
  cases hf : fi (fun r => decide (L r = p)) n with
  | some r =>
    have h1 := fi_lt hf
    have e := of_decide_eq_true h1.2
    rw [← e]
    exact h.1 r h1.1
  | none => rw [hf] at hp; simp at hp
/-- what holds of all sets of places told in time holds of all sets of ranks -/
theorem Li.best {L : Nat → Nat} {n m c M : Nat} {W : Nat → Bool} {t d : Nat → Nat} (h : Li L n W m) (hm : ∀ i j, i ≤ j → j < n → d (L i) ≤ d (L j)) (h1 : ∃ V, (∀ q, q < m → V q = true → W q = true) ∧ Can c t d V m ∧ cU V m = M) (h2 : ∀ V, (∀ q, V q = true → q < m ∧ W q = true) → Can c t d V m → cU V m ≤ M) : Best c (fun j => t (L j)) (fun j => d (L j)) n M := by
  constructor
  · obtain ⟨V, v1, v2, v3⟩ := h1
    refine ⟨fun j => V (L j), (Feas_Can hm).mpr ((h.can v1).mp v2), ?_⟩
    rw [← v3]
    exact (h.sum (g := fun _ => 1) v1).symm
  · intro U hU
    have hW : ∀ q, plc L n U q = true → q < m ∧ W q = true := fun q hq => plc_W h hq
    have e : ∀ j, j < n → (fun j => plc L n U (L j)) j = U j := fun j hj => plc_L h hj
    have hc : Can c t d (plc L n U) m := by
      refine (h.can (fun q _ hq => (hW q hq).2)).mpr ((Feas_Can hm).mp (hU.cg e))
    have := h2 (plc L n U) hW hc
    have s := h.sum (V := plc L n U) (g := fun _ => 1) (fun q _ hq => (hW q hq).2)
    have s2 : sg (wt (fun j => plc L n U (L j)) (fun _ => 1)) n = sg (wt U (fun _ => 1)) n := sg_congr (fun j hj => wt_cg (e j hj))
    unfold cU at this ⊢
    omega
/-- the earliest of those that are left set apart -/
theorem Can_step {c m e : Nat} {t d : Nat → Nat} {V : Nat → Bool} (he : e < m) (hV : V e = true) (hmin : ∀ q, q < m → V q = true → d e ≤ d q) : Can c t d V m ↔ (c + t e ≤ d e ∧ Can (c + t e) t d (sRem V e) m) := by
  have es : ∀ p, V p = true → p < m → sg (wt (fun q => V q && decide (d q ≤ d p)) t) m = sg (wt (fun q => sRem V e q && decide (d q ≤ d p)) t) m + t e := by
    intro p hp hpm
    have hh : (V e && decide (d e ≤ d p)) = true := by rw [hV]; simp [hmin p hpm hp]
    have r := sg_rem (U := fun q => V q && decide (d q ≤ d p)) (g := t) hh m he
    have e2 : sg (wt (sRem (fun q => V q && decide (d q ≤ d p)) e) t) m = sg (wt (fun q => sRem V e q && decide (d q ≤ d p)) t) m := sg_congr (fun q _ => wt_cg (by
      simp only [sRem]
      cases V q <;> cases decide (d q ≤ d p) <;> simp))
    omega
  constructor
  · intro h
    refine ⟨?_, fun p hp hu => ?_⟩
    · have := h e he hV
      rw [es e hV he] at this
      omega
    · have hv := (sRem_t.mp hu).1
      have := h p hp hv
      rw [es p hv hp] at this
      omega
  · rintro ⟨h1, h2⟩ p hp hu
    rw [es p hu hp]
    by_cases c1 : p = e
    · subst c1
      -- others with the same promise, or it alone
      by_cases ex : ∃ q, q < m ∧ sRem V p q = true ∧ d q ≤ d p
      · obtain ⟨q, q1, q2, q3⟩ := ex
        have hq := h2 q q1 q2
        have := hmin q q1 (sRem_t.mp q2).1
        have ed : d q = d p := by omega
        rw [ed] at hq
        omega
      · have z : sg (wt (fun q => sRem V p q && decide (d q ≤ d p)) t) m = 0 := sg_zero m (fun q hq => wt_f (by
          cases hr : sRem V p q with
          | false => rfl
          | true =>
            have : ¬ d q ≤ d p := fun y => ex ⟨q, hq, hr, y⟩
            simp [this]))
        omega
    · have := h2 p hp (sRem_t.mpr ⟨hu, c1⟩)
      omega
theorem Can_none {c m : Nat} {t d : Nat → Nat} {V : Nat → Bool} (h : ∀ q, q < m → V q = false) : Can c t d V m := fun i hi hu => by rw [h i hi] at hu; simp at hu
