/-! The memory once all is made: where each thing lies; and steps with side conditions. -/
def pt_MR (c n j : Nat) : Option pt_R := match c with
  | 0 => bif Nat.beq n 0 then (bif Nat.beq j 0 then some (13, 0) else none) else none
  | 1 => bif Nat.beq n 0 then (bif Nat.beq j 0 then some (20, 0) else none) else none
  | 2 => bif Nat.blt n 9 then (match j with
      | 0 => some (22, n)
      | 1 => some (21, n)
      | 2 => some (10, n)
      | _ => none) else none
  | 3 => bif Nat.beq n 0 then (bif Nat.beq j 0 then some (12, 0) else none) else none
  | 7 => bif Nat.beq n 0 then (match j with
      | 0 => some (11, 0)
      | 2 => some (6, 0)
      | _ => none) else none
  | 8 => bif Nat.beq n 0 then (match j with
      | 0 => some (2, 0)
      | 1 => some (19, 0)
      | 2 => some (18, 0)
      | 3 => some (1, 0)
      | 4 => some (7, 0)
      | 5 => some (3, 0)
      | 6 => some (0, 0)
      | _ => none) else none
  | 19 => bif Nat.beq n 0 then (bif Nat.blt j 2 then some (2, j + 7) else none) else none
  | 20 => bif Nat.beq n 0 then (bif Nat.blt j 6 then some (2, j + 1) else none) else none
  | 21 => bif Nat.blt n 9 && Nat.blt j 2 then some (4, j + 2 * n) else none
  | 22 => bif Nat.blt n 9 && Nat.blt j 10 then some (5, j + 10 * n) else none
  | _ => none
def pt_CN (ex : Nat) (c : Nat) : Nat := match c with
  | 0 => 1 | 1 => 1 | 2 => 9 | 3 => 1 | 4 => 18 | 5 => 90 | 6 => 1 | 7 => 1 | 8 => 1
  | 10 => 9 | 11 => 1 | 12 => 1 | 13 => 1 | 18 => 1 | 19 => 1 | 20 => 1 | 21 => 9 | 22 => 9 | 23 => 1
  | 24 => ex | _ => 0
/-- the memory: ints mi, longs ml, ex thrown exceptions -/
def pt_MEM (mi : Nat → Nat → Nat → Int32) (ml : Nat → Nat → Nat → Int64) (ex : Nat) : pt_M := (mi, ml, pt_MR, pt_CN ex)
theorem pt_thr_MEM (mi : Nat → Nat → Nat → Int32) (ml : Nat → Nat → Nat → Int64) (ex : Nat) : pt_thr (pt_MEM mi ml ex) = pt_MEM mi ml (ex + 1) := by
  unfold pt_thr pt_MEM
  congr 3
  funext c
  by_cases h : c = 24
  · subst h
    rw [if_pos rfl]
    rfl
  · rw [if_neg h]
    match c, h with
    | 24, h => exact absurd rfl h
    | 0, _ | 1, _ | 2, _ | 3, _ | 4, _ | 5, _ | 6, _ | 7, _ | 8, _ | 9, _ | 10, _ | 11, _ | 12, _ | 13, _ | 14, _ | 15, _ | 16, _ | 17, _ | 18, _ | 19, _ | 20, _ | 21, _ | 22, _ | 23, _ => rfl
    | d + 25, _ => rfl
theorem pt_MR_p {h j : Nat} (hh : h < 9) (hj : j < 10) : pt_MR 22 h j = some (5, j + 10 * h) := by
  show (bif Nat.blt h 9 && Nat.blt j 10 then some (5, j + 10 * h) else none) = _
  rw [(Nat.blt_eq).mpr hh, (Nat.blt_eq).mpr hj]
  rfl
theorem pt_MR_m {h j : Nat} (hh : h < 9) (hj : j < 2) : pt_MR 21 h j = some (4, j + 2 * h) := by
  show (bif Nat.blt h 9 && Nat.blt j 2 then some (4, j + 2 * h) else none) = _
  rw [(Nat.blt_eq).mpr hh, (Nat.blt_eq).mpr hj]
  rfl
theorem pt_MR_s {j : Nat} (hj : j < 6) : pt_MR 20 0 j = some (2, j + 1) := by
  show (bif Nat.blt j 6 then some (2, j + 1) else none) = _
  rw [(Nat.blt_eq).mpr hj]
  rfl
theorem pt_MR_l {j : Nat} (hj : j < 2) : pt_MR 19 0 j = some (2, j + 7) := by
  show (bif Nat.blt j 2 then some (2, j + 7) else none) = _
  rw [(Nat.blt_eq).mpr hj]
  rfl
theorem pt_MR_h {h : Nat} (hh : h < 9) : pt_MR 2 h 0 = some (22, h) ∧ pt_MR 2 h 1 = some (21, h) ∧ pt_MR 2 h 2 = some (10, h) := by
  refine ⟨?_, ?_, ?_⟩
  · show (bif Nat.blt h 9 then some (22, h) else none) = _
    rw [(Nat.blt_eq).mpr hh]; rfl
  · show (bif Nat.blt h 9 then some (21, h) else none) = _
    rw [(Nat.blt_eq).mpr hh]; rfl
  · show (bif Nat.blt h 9 then some (10, h) else none) = _
    rw [(Nat.blt_eq).mpr hh]; rfl
section
variable {n t : Nat} {L : pt_L} {r : List pt_V} {μ : pt_M} {c a y p : Nat} {i v : Int32} {ext : Option (Nat × (Nat → Int32))}
theorem pt_in_of (hi : i = nI p) (hp : p < pt_len c) : ¬ (i < 0 ∨ pt_len c ≤ p) ∧ i.toNatClampNeg = p := by
  have hl := pt_len_le c
  subst hi
  have h31 : p < 2 ^ 31 := by omega
  refine ⟨?_, nI_clamp h31⟩
  rintro (z | z)
  · exact nI_pos h31 z
  · omega
theorem pt_s_getR {q : pt_R} (hft : pt_ft c y = 3) (hq : pt_rR μ c a y = some q) : pt_getf n L (vR c a :: r) μ c y = some (.inl (n, L, .inr (.inr (.inr (.inl (some q)))) :: r, μ)) := by
  simp only [pt_getf, Nat.beq_refl, cond_true, hft, hq]
theorem pt_s_aldI (he : pt_ety c = 0) (hi : i = nI p) (hp : p < pt_len c) : pt_ald 0 ext n L (vI i :: vR c a :: r) μ = some (.inl (n, L, vI (pt_rI μ c a p) :: r, μ)) := by
  obtain ⟨h1, h2⟩ := pt_in_of hi hp
  simp only [pt_ald, h2, if_pos h1, he, Nat.beq_refl, cond_true]
theorem pt_s_aldZ (he : pt_ety c = 1) (hi : i = nI p) (hp : p < pt_len c) : pt_ald 1 ext n L (vI i :: vR c a :: r) μ = some (.inl (n, L, vI (pt_rI μ c a p) :: r, μ)) := by
  obtain ⟨h1, h2⟩ := pt_in_of hi hp
  simp only [pt_ald, h2, if_pos h1, he, Nat.beq_refl, cond_true]
theorem pt_s_aldJ (he : pt_ety c = 2) (hi : i = nI p) (hp : p < pt_len c) : pt_ald 2 ext n L (vI i :: vR c a :: r) μ = some (.inl (n, L, vJ (pt_rJ μ c a p) :: r, μ)) := by
  obtain ⟨h1, h2⟩ := pt_in_of hi hp
  simp only [pt_ald, h2, if_pos h1, he, Nat.beq_refl, cond_true]
theorem pt_s_aldR {q : pt_R} (he : pt_ety c = 3) (hi : i = nI p) (hp : p < pt_len c) (hq : pt_rR μ c a p = some q) : pt_ald 3 ext n L (vI i :: vR c a :: r) μ = some (.inl (n, L, .inr (.inr (.inr (.inl (some q)))) :: r, μ)) := by
  obtain ⟨h1, h2⟩ := pt_in_of hi hp
  simp only [pt_ald, h2, if_pos h1, he, Nat.beq_refl, cond_true, hq]
theorem pt_s_aldX {N : Nat} {f : Nat → Int32} (hN : N < 2 ^ 31) (hi : i = nI p) (hp : p < N) : pt_ald 0 (some (N, f)) n L (vI i :: vX true :: r) μ = some (.inl (n, L, vI (f p) :: r, μ)) := by
  subst hi
  have h31 : p < 2 ^ 31 := by omega
  have h1 : ¬ (nI p < 0 ∨ N ≤ p) := by
    rintro (z | z)
    · exact nI_pos h31 z
    · omega
  simp only [pt_ald, nI_clamp h31, if_pos h1]
theorem pt_s_astI (he : pt_ety c = 0) (hi : i = nI p) (hp : p < pt_len c) : pt_ast 0 n L (vI v :: vI i :: vR c a :: r) μ = some (.inl (n, L, r, pt_wI μ c a p v)) := by
  obtain ⟨h1, h2⟩ := pt_in_of hi hp
  simp only [pt_ast, h2, if_pos h1, he, Nat.beq_refl, cond_true]
theorem pt_s_astZ (he : pt_ety c = 1) (hi : i = nI p) (hp : p < pt_len c) (hv : v = 0 ∨ v = 1) : pt_ast 1 n L (vI v :: vI i :: vR c a :: r) μ = some (.inl (n, L, r, pt_wI μ c a p v)) := by
  obtain ⟨h1, h2⟩ := pt_in_of hi hp
  simp only [pt_ast, h2, if_pos h1, he, Nat.beq_refl, cond_true, if_pos hv]
theorem pt_s_astJ {w : Int64} (he : pt_ety c = 2) (hi : i = nI p) (hp : p < pt_len c) : pt_ast 2 n L (vJ w :: vI i :: vR c a :: r) μ = some (.inl (n, L, r, pt_wJ μ c a p w)) := by
  obtain ⟨h1, h2⟩ := pt_in_of hi hp
  simp only [pt_ast, h2, if_pos h1, he, Nat.beq_refl, cond_true]
theorem pt_s_putZ (hft : pt_ft c y = 1) (hv : v = 0 ∨ v = 1) : pt_putf n L (vI v :: vR c a :: r) μ c y = some (.inl (n, L, r, pt_wI μ c a y v)) := by
  simp only [pt_putf, Nat.beq_refl, cond_true, hft, if_pos hv]
theorem pt_s_d2 {f : UInt64 → UInt64 → UInt64} {x z : UInt64} (h : f x z &&& 0x7fffffffffffffff ≤ 0x7ff0000000000000) : pt_d2 f n L (vD z :: vD x :: r) μ = some (.inl (n, L, vD (f x z) :: r, μ)) := by
  simp only [pt_d2, if_pos h]
theorem pt_Ev_if {k pc : Nat} {L : pt_L} {st : List pt_V} {o : pt_O} {e : pt_E} {C : Prop} [Decidable C] (hf : pt_fetch k pc = some e) (hs : pt_step k ext e L st μ = if C then pt_go t L r μ else pt_go n L r μ) (ht : C → pt_Ev k ext t L r μ o) (hn : ¬ C → pt_Ev k ext n L r μ o) : pt_Ev k ext pc L st μ o := by
  by_cases h : C
  · exact pt_Ev_go hf (hs.trans (if_pos h)) (ht h)
  · exact pt_Ev_go hf (hs.trans (if_neg h)) (hn h)
end
/-- a Boolean as an int -/
def bI (b : Bool) : Int32 := if b then 1 else 0
theorem bI_01 (b : Bool) : bI b = 0 ∨ bI b = 1 := by cases b; exact Or.inl rfl; exact Or.inr rfl
theorem bI_eq0 (b : Bool) : bI b = 0 ↔ b = false := by cases b <;> simp [bI]
theorem pt_s_sw {d lo hi off : Int} {offs : Array Int} {n t z tgt : Nat} {L : pt_L} {r : List pt_V} {μ : pt_M} {v : Int32} (h1 : ¬ (v.toInt < lo ∨ hi < v.toInt)) (h0 : True) (h2 : offs[(v.toInt - lo).toNat]? = some off) (h3 : ((z : Int) + off).toNat = tgt) : (if v.toInt < lo ∨ hi < v.toInt then pt_go t L r μ else (match offs[(v.toInt - lo).toNat]? with
      | some o => pt_go (((z : Int) + o).toNat) L r μ
      | none => none)) = some (.inl (tgt, L, r, μ)) := by
  rw [if_neg h1, h2]
  simp only [h3]
/-! The memory of both objects: the second one's cells behind the first one's. -/
def pt_MR2 (c n j : Nat) : Option pt_R := match c with
  | 0 => bif Nat.blt n 2 then (bif Nat.beq j 0 then some (13, n) else none) else none
  | 1 => bif Nat.blt n 2 then (bif Nat.beq j 0 then some (20, n) else none) else none
  | 2 => bif Nat.blt n 18 then (match j with
      | 0 => some (22, n)
      | 1 => some (21, n)
      | 2 => some (10, n)
      | _ => none) else none
  | 3 => bif Nat.blt n 2 then (bif Nat.beq j 0 then some (12, n) else none) else none
  | 7 => bif Nat.blt n 2 then (match j with
      | 0 => some (11, n)
      | 2 => some (6, n)
      | _ => none) else none
  | 8 => bif Nat.blt n 2 then (match j with
      | 0 => some (2, 9 * n)
      | 1 => some (19, n)
      | 2 => some (18, n)
      | 3 => some (1, n)
      | 4 => some (7, n)
      | 5 => some (3, n)
      | 6 => some (0, n)
      | _ => none) else none
  | 19 => bif Nat.blt n 2 then (bif Nat.blt j 2 then some (2, j + 7 + 9 * n) else none) else none
  | 20 => bif Nat.blt n 2 then (bif Nat.blt j 6 then some (2, j + 1 + 9 * n) else none) else none
  | 21 => bif Nat.blt n 18 && Nat.blt j 2 then some (4, j + 2 * n) else none
  | 22 => bif Nat.blt n 18 && Nat.blt j 10 then some (5, j + 10 * n) else none
  | _ => none
def pt_CN2 (ex : Nat) (c : Nat) : Nat := match c with
  | 0 => 2 | 1 => 2 | 2 => 18 | 3 => 2 | 4 => 36 | 5 => 180 | 6 => 2 | 7 => 2 | 8 => 2
  | 10 => 18 | 11 => 2 | 12 => 2 | 13 => 2 | 18 => 2 | 19 => 2 | 20 => 2 | 21 => 18 | 22 => 18 | 23 => 1
  | 24 => ex | _ => 0
/-- the memory of both: ints mi, longs ml, ex thrown exceptions -/
def pt_MM (mi : Nat → Nat → Nat → Int32) (ml : Nat → Nat → Nat → Int64) (ex : Nat) : pt_M := (mi, ml, pt_MR2, pt_CN2 ex)
theorem pt_thr_MM (mi : Nat → Nat → Nat → Int32) (ml : Nat → Nat → Nat → Int64) (ex : Nat) : pt_thr (pt_MM mi ml ex) = pt_MM mi ml (ex + 1) := by
  unfold pt_thr pt_MM
  congr 3
  funext c
  by_cases h : c = 24
  · subst h
    rw [if_pos rfl]
    rfl
  · rw [if_neg h]
    match c, h with
    | 24, h => exact absurd rfl h
    | 0, _ | 1, _ | 2, _ | 3, _ | 4, _ | 5, _ | 6, _ | 7, _ | 8, _ | 9, _ | 10, _ | 11, _ | 12, _ | 13, _ | 14, _ | 15, _ | 16, _ | 17, _ | 18, _ | 19, _ | 20, _ | 21, _ | 22, _ | 23, _ => rfl
    | d + 25, _ => rfl
