/-! What the law asks of a row, pure. -/
section
variable {S : Nat → Int32} {A P : Int} {p k m j : Nat} {x : Int32}
theorem mOf_f (h : sHere S p = false) : mOf S p j = -1 := by unfold mOf; rw [if_neg (by rw [h]; decide)]
theorem mOf_t (h : sHere S p = true) (hj : j < 8) : mOf S p j = S (9 * p + j) := by unfold mOf; rw [if_pos h, if_neg (by omega), if_neg (by omega), if_neg (by omega)]
theorem mOf_8 (h : sHere S p = true) : mOf S p 8 = if sIn S p 0 = true then mRank S p else -1 := by unfold mOf; rw [if_pos h, if_pos rfl]
theorem mOf_9 (h : sHere S p = true) : mOf S p 9 = S (9 * p + 8) := by unfold mOf; rw [if_pos h, if_neg (by omega), if_pos rfl]
theorem mOf_10 (h : sHere S p = true) : mOf S p 10 = mFee S p := by unfold mOf; rw [if_pos h, if_neg (by omega), if_neg (by omega), if_pos rfl]
theorem sW_t : sW S p = true ↔ sHere S p = true ∧ S (9 * p + 6) = 0 := sIn_t
/-- the line of those that wait -/
theorem line_n (G : GO S) {L : Nat → Nat} {n : Nat} (h : LN (fun a b => sAhead S a b (S 105)) (sW S) 10 L n) : n = cnt (sW S) 10 :=
  (cnt_list (fun j hj => h.2.1 j hj) h.2.2.2 (fun j j' a b => LN_ne (sSTO (S 105) G) h a b)).symm
theorem f_rank (G : GO S) (hk : k < 10) (h : sW S k = true) : mRanked S (mRank S k) = some k ∧ ¬ mRank S k < 0 := by
  obtain ⟨L, n, hL⟩ := LN_ex (sSTO (S 105) G) 10 (Nat.le_refl 10)
  obtain ⟨i, hi, rfl⟩ := hL.2.2.2 k hk h
  rw [mRank_LN G hL hi, mRanked_LN G hL (by have := hL.1; omega), if_pos hi]
  exact ⟨rfl, nI_pos (by have := hL.1; omega)⟩
theorem f_none (G : GO S) : mRanked S (nI (cnt (sW S) 10)) = none := by
  obtain ⟨L, n, hL⟩ := LN_ex (sSTO (S 105) G) 10 (Nat.le_refl 10)
  rw [← line_n G hL, mRanked_LN G hL (by have := hL.1; omega), if_neg (Nat.lt_irrefl n)]
theorem f_shelf (g : GSh S) (hk : k < 10) (h : sAt S k 2 x = true) : sShelf S x = some k := by
  cases hs : sShelf S x with
  | none =>
    have := fi_none hs k hk
    rw [h] at this
    cases this
  | some q =>
    have hq := fi_lt hs
    rw [g q k hq.1 hk x hq.2 h]
theorem f_col (g : GCol S) (hk : k < 10) (h : sAt S k 1 x = true) : sColF S x = S (9 * k + 1) := by
  unfold sColF
  cases hf : sFirstIn S x with
  | none =>
    have := sFirst_none (n := 10) hf k hk
    rw [h] at this
    cases this
  | some q =>
    have hq := sFirst_lt _ _ hf
    exact g q k hq.1 hk x hq.2 h
theorem f_col0 (h : ∀ q, q < 10 → sAt S q 1 x = false) : sColF S x = -1 := by
  unfold sColF
  cases hf : sFirstIn S x with
  | none => rfl
  | some q =>
    have hq := sFirst_lt _ _ hf
    rw [h q hq.1] at hq
    exact absurd hq.2 (by decide)
theorem f_many (st : Int32) : sMany S st = nI (cnt (fun p => sIn S p st) 10) := cnt_I (fun p => sIn S p st) 10
theorem f_pin (x : Int32) : sPilesIn S x = nI (cnt (fun p => sAt S p 1 x) 10) := cnt_I (fun p => sAt S p 1 x) 10
theorem cnt_pos {Q : Nat → Bool} {n : Nat} (hp : p < n) (h : Q p = true) : 0 < cnt Q n := by
  rw [cnt_rm h hp]; omega
/-- where a pile stands -/
theorem NX.st (n : NX S A) (hp : p < 10) (h : sHere S p = true) : pSt S p := (n.1 p hp h).2.2
theorem st_split (n : NX S A) : ∀ i, i ≤ 10 → cnt (fun p => sHere S p) i = cnt (fun p => sIn S p 0) i + cnt (fun p => sIn S p 1) i + cnt (fun p => sIn S p 2) i := by
  intro i
  induction i with
  | zero => intro _; rfl
  | succ i ih =>
    intro hi
    have ih := ih (by omega)
    rw [cnt_succ, cnt_succ, cnt_succ, cnt_succ]
    cases hh : sHere S i with
    | false =>
      have z : ∀ st, sIn S i st = false := fun st => by unfold sIn; rw [hh, Bool.false_and]
      rw [z, z, z]
      simpa using ih
    | true =>
      have z : ∀ st, sIn S i st = decide (S (9 * i + 6) = st) := fun st => by unfold sIn; rw [hh, Bool.true_and]
      rw [z, z, z]
      rcases n.st (p := i) (by omega) hh with c | c | c
      · rw [c.1]; simp; omega
      · rw [c.1]; simp; omega
      · rw [c.1]; simp; omega
theorem in_split (n : NX S A) : ∀ i, i ≤ 10 → cnt (fun p => sIn S p 1) i = cnt (fun p => sAt S p 1 (nI 0)) i + cnt (fun p => sAt S p 1 (nI 1)) i := by
  intro i
  induction i with
  | zero => intro _; rfl
  | succ i ih =>
    intro hi
    have ih := ih (by omega)
    rw [cnt_succ, cnt_succ, cnt_succ]
    cases hh : sIn S i 1 with
    | false =>
      have z : ∀ wh, sAt S i 1 wh = false := fun wh => by
        cases h2 : sAt S i 1 wh with
        | false => rfl
        | true =>
          obtain ⟨a, b, -⟩ := sAt_t.mp h2
          rw [sIn_t.mpr ⟨a, b⟩] at hh
          cases hh
      rw [z, z]
      simpa using ih
    | true =>
      obtain ⟨a, b⟩ := sIn_t.mp hh
      have z : ∀ wh, sAt S i 1 wh = decide (S (9 * i + 7) = wh) := fun wh => by unfold sAt; rw [a, b]; simp
      rw [z, z]
      rcases n.st (p := i) (by omega) a with c | ⟨-, ⟨m, hm, c⟩, -⟩ | c
      · exact absurd (c.1.symm.trans b) (by decide)
      · rw [c]
        match m, hm with
        | 0, _ => rw [show decide (nI 0 = nI 0) = true from by simp, show decide (nI 0 = nI 1) = false from by decide]; simp; omega
        | 1, _ => rw [show decide (nI 1 = nI 1) = true from by simp, show decide (nI 1 = nI 0) = false from by decide]; simp; omega
      · exact absurd (c.1.symm.trans b) (by decide)
theorem f_house (g : Good S A P) (n : NX S A) : S 98 - S 99 = nI (cHere S) := by
  have c := n.2.2.1
  unfold NCt at c
  have d := g.2.1.2.2.2
  have l := Int32.toInt_lt (S 98)
  have h10 : cHere S ≤ 10 := cnt_le _ 10
  apply Int32.toInt_inj.mp
  rw [sb32 (by omega) (by omega), nI_toInt (by omega)]
  omega
theorem f_late (g : Good S A P) (n : NX S A) (hA : A ≤ 100000) : ¬ S 99 + nI (cnt (fun p => sIn S p 2) 10) < S 100 := by
  have c := n.2.2.1
  have s3 := n.2.2.2
  unfold NCt at c
  unfold NSh cShelf at s3
  have d := g.2.1.2.2.2
  have u := g.2.2.2.1
  have h10 : cnt (fun p => sIn S p 2) 10 ≤ 10 := cnt_le _ 10
  rw [Int32.lt_iff_toInt_lt, ad32 (by rw [nI_toInt (by omega)]; omega) (by rw [nI_toInt (by omega)]; omega), nI_toInt (by omega)]
  omega
/-! the share of late ones -/
theorem d_pos (u : GPut S P) (h : ¬ S 100 ≤ 0) : ¬ Op.cmpValue (FP.dcmp (shW S) 0) .l ≤ 0 := by
  have h0 : 0 < (S 100).toInt := by
    rw [Int32.le_iff_toInt_le] at h
    have z : (0 : Int32).toInt = 0 := by decide
    omega
  have u2 := u.2.1
  have h3 : ¬ S 103 = 0 := fun z => by
    rw [z] at u2
    have z : (0 : Int32).toInt = 0 := by decide
    omega
  have b := share_b h0 u2
  have e : shW S = FP.ddiv (FP.i2d (S 100)) (FP.i2d (S 103)) := by unfold shW; rw [if_neg h3]
  rw [e, cmp_zero (by omega) (by omega)]
  decide
theorem d_zero (u : GPut S P) (h : S 100 ≤ 0) : Op.cmpValue (FP.dcmp (shW S) 0) .l ≤ 0 := by
  have u1 := u.1
  have h0 : S 100 = 0 := by
    rw [Int32.le_iff_toInt_le] at h
    have z : (0 : Int32).toInt = 0 := by decide
    apply Int32.toInt_inj.mp
    omega
  have e : shW S = 0 := by
    unfold shW
    by_cases c : S 103 = 0
    · rw [if_pos c]
    · rw [if_neg c, h0]
      have u2 := u.2.1
      have h3 : ¬ (S 103).toInt = 0 := fun z => c (Int32.toInt_inj.mp (by rw [z]; decide))
      exact share_0 (by omega)
  rw [e]
  have := (show ShOk 0 from Or.inl rfl).self
  rw [this]
  decide
theorem d_one (u : GPut S P) : ¬ (0 : Int32) < Op.cmpValue (FP.dcmp (shW S) 4607182418800017408) .g := by
  have h := shW_ok u
  have hl : (shW S).toNat ≤ 1023 * 2 ^ 52 := by
    rcases h with h | h
    · rw [h]; decide
    · exact h.2
  rw [dcmp_n h.lt (by rw [one64]; decide), one64]
  rcases Nat.lt_or_ge (shW S).toNat (1023 * 2 ^ 52) with c | c
  · rw [show compare ((shW S).toNat : Int) ((1023 * 2 ^ 52 : Nat) : Int) = .lt from by rw [Int.compare_eq_lt]; omega]
    decide
  · rw [show compare ((shW S).toNat : Int) ((1023 * 2 ^ 52 : Nat) : Int) = .eq from by rw [Int.compare_eq_eq]; omega]
    decide
end
