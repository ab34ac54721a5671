/-! Washing one by one: sums, sets in time, dropping the longest. -/
def sg (g : Nat → Nat) (n : Nat) : Nat := fo (fun q a => a + g q) n 0
theorem sg_s (g : Nat → Nat) (n : Nat) : sg g (n + 1) = sg g n + g n := rfl
theorem sg_congr {f g : Nat → Nat} {n : Nat} (h : ∀ q, q < n → f q = g q) : sg f n = sg g n := fo_congr (fun q a hq => by simp only [h q hq])
theorem sg_le {f g : Nat → Nat} (n : Nat) : (∀ q, q < n → f q ≤ g q) → sg f n ≤ sg g n := by
  induction n with
  | zero => intro _; exact Nat.le_refl _
  | succ n ih =>
    intro h
    rw [sg_s, sg_s]
    have := ih (fun q hq => h q (by omega))
    have := h n (by omega)
    omega
theorem sg_mono (g : Nat → Nat) {i : Nat} (d : Nat) : sg g i ≤ sg g (i + d) := by
  induction d with
  | zero => exact Nat.le_refl _
  | succ d ih =>
    rw [show i + (d + 1) = i + d + 1 from rfl, sg_s]
    omega
theorem sg_monoL (g : Nat → Nat) {i n : Nat} (h : i ≤ n) : sg g i ≤ sg g n := by
  obtain ⟨d, rfl⟩ := Nat.le.dest h
  exact sg_mono g d
def wt (U : Nat → Bool) (g : Nat → Nat) : Nat → Nat := fun q => if U q = true then g q else 0
def cU (U : Nat → Bool) (n : Nat) : Nat := sg (wt U (fun _ => 1)) n
theorem wt_t {U : Nat → Bool} {g : Nat → Nat} {q : Nat} (h : U q = true) : wt U g q = g q := if_pos h
theorem wt_f {U : Nat → Bool} {g : Nat → Nat} {q : Nat} (h : U q = false) : wt U g q = 0 := if_neg (by rw [h]; simp)
theorem cnt_cU (U : Nat → Bool) (n : Nat) : cnt U n = cU U n := by
  induction n with
  | zero => rfl
  | succ n ih =>
    rw [cnt_succ, cU, sg_s, ← cU, ← ih]
    cases h : U n with
    | true => rw [wt_t h]; rfl
    | false => rw [wt_f h]; rfl
def sAdd (U : Nat → Bool) (a : Nat) : Nat → Bool := fun q => U q || decide (q = a)
def sRem (U : Nat → Bool) (a : Nat) : Nat → Bool := fun q => U q && decide (¬ q = a)
theorem sAdd_t {U : Nat → Bool} {a q : Nat} : sAdd U a q = true ↔ U q = true ∨ q = a := by simp [sAdd]
theorem sRem_t {U : Nat → Bool} {a q : Nat} : sRem U a q = true ↔ U q = true ∧ ¬ q = a := by simp [sRem]
theorem sAdd_ne {U : Nat → Bool} {a q : Nat} (h : q ≠ a) : sAdd U a q = U q := by simp [sAdd, h]
theorem sRem_ne {U : Nat → Bool} {a q : Nat} (h : q ≠ a) : sRem U a q = U q := by simp [sRem, h]
theorem sAdd_eq (U : Nat → Bool) (a : Nat) : sAdd U a a = true := by simp [sAdd]
theorem sRem_eq (U : Nat → Bool) (a : Nat) : sRem U a a = false := by simp [sRem]
theorem wt_cg {U V : Nat → Bool} {g : Nat → Nat} {q : Nat} (h : U q = V q) : wt U g q = wt V g q := by unfold wt; rw [h]
theorem sg_sub {U V : Nat → Bool} {g : Nat → Nat} {n : Nat} (h : ∀ q, q < n → V q = true → U q = true) : sg (wt V g) n ≤ sg (wt U g) n := by
  refine sg_le n (fun q hq => ?_)
  cases hv : V q with
  | true => rw [wt_t hv, wt_t (h q hq hv)]; exact Nat.le_refl _
  | false => rw [wt_f hv]; exact Nat.zero_le _
theorem sg_add {U : Nat → Bool} {g : Nat → Nat} {a : Nat} (ha : U a = false) (n : Nat) : a < n → sg (wt (sAdd U a) g) n = sg (wt U g) n + g a := by
  induction n with
  | zero => intro h; omega
  | succ n ih =>
    intro h
    rw [sg_s, sg_s]
    by_cases e : a = n
    · subst e
      have hs : sg (wt (sAdd U a) g) a = sg (wt U g) a := sg_congr (fun q hq => wt_cg (sAdd_ne (by omega)))
      rw [hs, wt_t (sAdd_eq U a), wt_f ha]
      omega
    · have := ih (by omega)
      rw [wt_cg (sAdd_ne (U := U) (a := a) (q := n) (by omega)), this]
      omega
theorem sg_rem {U : Nat → Bool} {g : Nat → Nat} {a : Nat} (ha : U a = true) (n : Nat) : a < n → sg (wt (sRem U a) g) n + g a = sg (wt U g) n := by
  induction n with
  | zero => intro h; omega
  | succ n ih =>
    intro h
    rw [sg_s, sg_s]
    by_cases e : a = n
    · subst e
      have hs : sg (wt (sRem U a) g) a = sg (wt U g) a := sg_congr (fun q hq => wt_cg (sRem_ne (by omega)))
      rw [hs, wt_f (sRem_eq U a), wt_t ha]
      omega
    · have := ih (by omega)
      rw [wt_cg (sRem_ne (U := U) (a := a) (q := n) (by omega))]
      omega
/-- in time, one by one in the order of the places below n -/
def Feas (c : Nat) (t d : Nat → Nat) (U : Nat → Bool) (n : Nat) : Prop := ∀ i, i < n → U i = true → c + sg (wt U t) (i + 1) ≤ d i
def Best (c : Nat) (t d : Nat → Nat) (n M : Nat) : Prop := (∃ U, Feas c t d U n ∧ cU U n = M) ∧ ∀ U, Feas c t d U n → cU U n ≤ M
theorem Best.un {c : Nat} {t d : Nat → Nat} {n M M' : Nat} (h : Best c t d n M) (h' : Best c t d n M') : M = M' := by
  obtain ⟨⟨U, a, b⟩, e⟩ := h
  obtain ⟨⟨U', a', b'⟩, e'⟩ := h'
  have := e U' a'
  have := e' U a
  omega
theorem Feas.dn {c : Nat} {t d : Nat → Nat} {U : Nat → Bool} {n k : Nat} (h : Feas c t d U n) (hk : k ≤ n) : Feas c t d U k := fun i hi hu => h i (by omega) hu
theorem Feas.cg {c : Nat} {t d : Nat → Nat} {U V : Nat → Bool} {n : Nat} (h : Feas c t d U n) (e : ∀ q, q < n → V q = U q) : Feas c t d V n := fun i hi hv => by
  have : sg (wt V t) (i + 1) = sg (wt U t) (i + 1) := sg_congr (fun q hq => wt_cg (e q (by omega)))
  rw [this]
  exact h i hi (by rw [← e i hi]; exact hv)
theorem Feas.last {c : Nat} {t d : Nat → Nat} {W : Nat → Bool} (n : Nat) : Feas c t d W n → (∃ x, x < n ∧ W x = true) → ∃ l, l < n ∧ W l = true ∧ sg (wt W t) n = sg (wt W t) (l + 1) := by
  induction n with
  | zero => rintro _ ⟨x, hx, _⟩; omega
  | succ n ih =>
    rintro h ⟨x, hx, hw⟩
    cases hn : W n with
    | true => exact ⟨n, by omega, hn, rfl⟩
    | false =>
      have hxn : x ≠ n := fun z => by rw [z, hn] at hw; simp at hw
      obtain ⟨l, l1, l2, l3⟩ := ih (h.dn (by omega)) ⟨x, by omega, hw⟩
      exact ⟨l, by omega, l2, by rw [sg_s, wt_f hn, l3]; omega⟩
/-- what holds when the first k have been looked at -/
def MH (c : Nat) (t d : Nat → Nat) (k : Nat) (W : Nat → Bool) : Prop := (∀ i, W i = true → i < k) ∧ Feas c t d W k ∧ ∀ U, Feas c t d U k → ∃ V, (∀ i, V i = true → W i = true) ∧ cU V k = cU U k ∧ sg (wt V t) k ≤ sg (wt U t) k
theorem MH.best {c : Nat} {t d : Nat → Nat} {n : Nat} {W : Nat → Bool} (h : MH c t d n W) : Best c t d n (cU W n) := by
  refine ⟨⟨W, h.2.1, rfl⟩, fun U hU => ?_⟩
  obtain ⟨V, v1, v2, -⟩ := h.2.2 U hU
  rw [← v2]
  exact sg_sub (fun q _ hv => v1 q hv)
theorem MH.zero {c : Nat} {t d : Nat → Nat} : MH c t d 0 (fun _ => false) := ⟨fun i h => by simp at h, fun i hi _ => by omega, fun U _ => ⟨fun _ => false, fun i h => by simp at h, rfl, Nat.le_refl _⟩⟩
section
variable {c : Nat} {t d : Nat → Nat} {k : Nat} {W : Nat → Bool}
theorem MH.keep (h : MH c t d k W) (he : c + sg (wt W t) k + t k ≤ d k) : MH c t d (k + 1) (sAdd W k) := by
  obtain ⟨hs, hf, hd⟩ := h
  have hWk : W k = false := by
    cases e : W k with
    | false => rfl
    | true => have := hs k e; omega
  have eA : ∀ q, q < k → sAdd W k q = W q := fun q hq => sAdd_ne (by omega)
  refine ⟨fun i hi => ?_, fun i hi hu => ?_, fun U hU => ?_⟩
  · rcases sAdd_t.mp hi with z | z
    · have := hs i z; omega
    · omega
  · by_cases e : i = k
    · subst e
      rw [sg_add hWk (i + 1) (by omega), sg_s, wt_f hWk]
      omega
    · have e2 : sg (wt (sAdd W k) t) (i + 1) = sg (wt W t) (i + 1) := sg_congr (fun q hq => wt_cg (eA q (by omega)))
      rw [e2]
      exact hf i (by omega) (by rw [← eA i (by omega)]; exact hu)
  · obtain ⟨V, v1, v2, v3⟩ := hd U (hU.dn (by omega))
    have hVk : V k = false := by
      cases e : V k with
      | false => rfl
      | true => have := v1 k e; rw [hWk] at this; simp at this
    cases hUk : U k with
    | false =>
      refine ⟨V, fun i hi => sAdd_t.mpr (Or.inl (v1 i hi)), ?_, ?_⟩
      · unfold cU at v2 ⊢
        rw [sg_s, sg_s, wt_f hVk, wt_f hUk, v2]
      · rw [sg_s, sg_s, wt_f hVk, wt_f hUk]; omega
    | true =>
      refine ⟨sAdd V k, fun i hi => sAdd_t.mpr ((sAdd_t.mp hi).imp (v1 i) id), ?_, ?_⟩
      · unfold cU at v2 ⊢
        rw [sg_add hVk (k + 1) (by omega), sg_s, sg_s, wt_f hVk, wt_t hUk, v2]
      · rw [sg_add hVk (k + 1) (by omega), sg_s, sg_s, wt_f hVk, wt_t hUk]; omega
theorem MH.drop (h : MH c t d k W) (hm : ∀ i, i ≤ k → d i ≤ d k) (he : ¬ c + sg (wt W t) k + t k ≤ d k) {x : Nat} (hx : sAdd W k x = true) (hl : ∀ y, sAdd W k y = true → t y ≤ t x) : MH c t d (k + 1) (sRem (sAdd W k) x) := by
  obtain ⟨hs, hf, hd⟩ := h
  have hWk : W k = false := by
    cases e : W k with
    | false => rfl
    | true => have := hs k e; omega
  have hxk : x < k + 1 := by
    rcases sAdd_t.mp hx with z | z
    · have := hs x z; omega
    · omega
  have htk : t k ≤ t x := hl k (sAdd_eq W k)
  refine ⟨fun i hi => ?_, ?_, fun U hU => ?_⟩
  · rcases sAdd_t.mp (sRem_t.mp hi).1 with z | z
    · have := hs i z; omega
    · omega
  · -- still in time
    by_cases e : x = k
    · subst e
      have ee : ∀ q, q < x → sRem (sAdd W x) x q = W q := fun q hq => by rw [sRem_ne (by omega), sAdd_ne (by omega)]
      intro i hi hu
      by_cases e2 : i = x
      · subst e2; rw [sRem_eq] at hu; simp at hu
      · have := hf.cg ee
        exact this i (by omega) hu
    · have hWx : W x = true := (sAdd_t.mp hx).resolve_right e
      have hlt : x < k := hs x hWx
      intro i hi hu
      by_cases e2 : i = k
      · subst e2
        have r := sg_rem (U := sAdd W i) (g := t) hx (i + 1) (by omega)
        have a := sg_add (U := W) (g := t) hWk (i + 1) (by omega)
        rw [sg_s (wt W t), wt_f hWk] at a
        obtain ⟨l, l1, l2, l3⟩ := hf.last i ⟨x, hlt, hWx⟩
        have f := hf l l1 l2
        have := hm l (by omega)
        omega
      · have hi' : i < k := by omega
        have hWi : W i = true := by
          have := (sRem_t.mp hu).1
          exact (sAdd_t.mp this).resolve_right e2
        have le : sg (wt (sRem (sAdd W k) x) t) (i + 1) ≤ sg (wt W t) (i + 1) := sg_sub (fun q hq hv => (sAdd_t.mp (sRem_t.mp hv).1).resolve_right (by omega))
        have := hf i hi' hWi
        omega
  · obtain ⟨V, v1, v2, v3⟩ := hd U (hU.dn (by omega))
    have hVk : V k = false := by
      cases e : V k with
      | false => rfl
      | true => have := v1 k e; rw [hWk] at this; simp at this
    unfold cU at v2 ⊢
    cases hUk : U k with
    | false =>
      rw [sg_s (wt U _), sg_s (wt U t), wt_f hUk, wt_f hUk]
      cases hVx : V x with
      | false =>
        refine ⟨V, fun i hi => sRem_t.mpr ⟨sAdd_t.mpr (Or.inl (v1 i hi)), fun z => by rw [z, hVx] at hi; simp at hi⟩, ?_, ?_⟩
        · rw [sg_s, wt_f hVk, v2]
        · rw [sg_s, wt_f hVk]; omega
      | true =>
        have hxk2 : x ≠ k := fun z => by rw [z, hVk] at hVx; simp at hVx
        have hAx : sAdd V k x = true := sAdd_t.mpr (Or.inl hVx)
        refine ⟨sRem (sAdd V k) x, fun i hi => ?_, ?_, ?_⟩
        · obtain ⟨a, b⟩ := sRem_t.mp hi
          exact sRem_t.mpr ⟨sAdd_t.mpr ((sAdd_t.mp a).imp (v1 i) id), b⟩
        · have r := sg_rem (U := sAdd V k) (g := fun _ => 1) hAx (k + 1) hxk
          have a := sg_add (U := V) (g := fun _ => 1) hVk (k + 1) (by omega)
          rw [sg_s (wt V _), wt_f hVk] at a
          omega
        · have r := sg_rem (U := sAdd V k) (g := t) hAx (k + 1) hxk
          have a := sg_add (U := V) (g := t) hVk (k + 1) (by omega)
          rw [sg_s (wt V _), wt_f hVk] at a
          omega
    | true =>
      rw [sg_s (wt U _), sg_s (wt U t), wt_t hUk, wt_t hUk]
      have a1 := sg_add (U := V) (g := fun _ => 1) hVk (k + 1) (by omega)
      have a2 := sg_add (U := V) (g := t) hVk (k + 1) (by omega)
      rw [sg_s (wt V _), wt_f hVk] at a1 a2
      have hsub : ∀ i, sAdd V k i = true → sAdd W k i = true := fun i hi => sAdd_t.mpr ((sAdd_t.mp hi).imp (v1 i) id)
      cases hVx : sAdd V k x with
      | false =>
        refine ⟨sAdd V k, fun i hi => sRem_t.mpr ⟨hsub i hi, fun z => by rw [z, hVx] at hi; simp at hi⟩, ?_, ?_⟩
        · omega
        · omega
      | true =>
        have r1 := sg_rem (U := sAdd V k) (g := fun _ => 1) hVx (k + 1) hxk
        have r2 := sg_rem (U := sAdd V k) (g := t) hVx (k + 1) hxk
        by_cases ex : ∃ y, W y = true ∧ V y = false
        · obtain ⟨y, y1, y2⟩ := ex
          have hyk : y < k := hs y y1
          have hyx : y ≠ x := fun z => by
            rw [z] at y2 hyk
            have := (sAdd_t.mp hVx).resolve_right (by omega)
            rw [y2] at this
            simp at this
          have hR : sRem (sAdd V k) x y = false := by
            rw [sRem_ne hyx, sAdd_ne (by omega)]
            exact y2
          have b1 := sg_add (U := sRem (sAdd V k) x) (g := fun _ => 1) hR (k + 1) (by omega)
          have b2 := sg_add (U := sRem (sAdd V k) x) (g := t) hR (k + 1) (by omega)
          have hty := hl y (sAdd_t.mpr (Or.inl y1))
          refine ⟨sAdd (sRem (sAdd V k) x) y, fun i hi => ?_, ?_, ?_⟩
          · rcases sAdd_t.mp hi with z | z
            · obtain ⟨p, q⟩ := sRem_t.mp z
              exact sRem_t.mpr ⟨hsub i p, q⟩
            · rw [z]
              exact sRem_t.mpr ⟨sAdd_t.mpr (Or.inl y1), hyx⟩
          · omega
          · omega
        · -- all of W would be in U, and k: too late
          exfalso
          have hWV : ∀ q, W q = V q := fun q => by
            cases hw : W q with
            | true =>
              cases hv : V q with
              | true => rfl
              | false => exact absurd ⟨q, hw, hv⟩ ex
            | false =>
              cases hv : V q with
              | true => have := v1 q hv; rw [hw] at this; simp at this
              | false => rfl
          have e : sg (wt W t) k = sg (wt V t) k := sg_congr (fun q _ => wt_cg (hWV q))
          have f := hU k (by omega) hUk
          rw [sg_s, wt_t hUk] at f
          omega
end
