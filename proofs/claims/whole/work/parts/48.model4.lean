/-! There is a line; the model's waiting and ifLoaded, one property of a pile. -/
theorem ins_pos (q : Nat → Bool) : ∀ n, ∃ k, k ≤ n ∧ (∀ i, k ≤ i → i < n → q i = true) ∧ (∀ i, i < k → q (k - 1) = false)
  | 0 => ⟨0, Nat.le_refl 0, fun i _ h => absurd h (Nat.not_lt_zero i), fun i h => absurd h (Nat.not_lt_zero i)⟩
  | n + 1 => by
    cases hq : q n with
    | true =>
      obtain ⟨k, h1, h2, h3⟩ := ins_pos q n
      refine ⟨k, by omega, fun i hi hn => ?_, h3⟩
      by_cases e : i = n
      · rw [e]; exact hq
      · exact h2 i hi (by omega)
    | false => exact ⟨n + 1, Nat.le_refl _, fun i h1 h2 => absurd h2 (by omega), fun i _ => hq⟩
theorem LN_ex {lt : Nat → Nat → Bool} {W : Nat → Bool} (so : STO lt W) : ∀ p, p ≤ 10 → ∃ L n, LN lt W p L n
  | 0, _ => ⟨fun _ => 0, 0, Nat.le_refl _, fun i hi => absurd hi (Nat.not_lt_zero i), fun i j _ hj => absurd hj (Nat.not_lt_zero j), fun q hq => absurd hq (Nat.not_lt_zero q)⟩
  | p + 1, hp => by
    obtain ⟨L, n, h⟩ := LN_ex so p (by omega)
    cases hW : W p with
    | false => exact ⟨L, n, LN_skip h hW⟩
    | true =>
      obtain ⟨k, h1, h2, h3⟩ := ins_pos (fun i => lt p (L i)) n
      exact ⟨ins L k p, n + 1, LN_ins so (by omega) h hW h1 h2 h3⟩
theorem ms_fr {K : List Nat} {a b : Nat → Nat → Nat → Int32} (f : Fr K a b) (h : 14 ∉ K) : ms b = ms a := by
  funext k
  unfold ms rw6
  split
  · exact f _ _ _ h
  · rfl
section
variable {mi : Nat → Nat → Nat → Int32} {ml : Nat → Nat → Nat → Int64} {ex p : Nat}
/-- the model's note of what was thrown -/
abbrev th (mi : Nat → Nat → Nat → Int32) (x : Int32) : Nat → Nat → Nat → Int32 := pt_up3 mi 9 0 0 x
theorem ms_th (x : Int32) : ms (th mi x) = ms mi := ms_fr (K := [9]) (Fr.rfl'.up (by decide)) (by decide)
theorem m89t : pt_Ca 89 [vR 9 0, vI 0] (pt_MEM mi ml ex) (.inl (some (vI 1)), pt_MEM (th mi 0) ml ex) := r89_0 (fun _ => r89_9) (fun c => absurd rfl c)
theorem m89f {x : Int32} (h : ¬ x = 0) : pt_Ca 89 [vR 9 0, vI x] (pt_MEM mi ml ex) (.inl (some (vI 0)), pt_MEM (th mi x) ml ex) := r89_0 (fun c => absurd c h) (fun _ => r89_13)
theorem m142n {x : Int32} (hx : x < 0) : pt_Ca 142 [vR 9 0, vI x] (pt_MEM mi ml ex) (.inl (some (vI 0)), pt_MEM (th mi 1) ml ex) := by
  refine r142_0 (fun c => ?_) (fun _ => r142_5 (m89f (by decide)) (r142_13 (fun _ => r142_24) (fun c => absurd rfl c)))
  rw [Int32.le_iff_toInt_le] at c
  rw [Int32.lt_iff_toInt_lt] at hx
  omega
theorem m142 {x : Int32} (hx : ¬ x < 0) : pt_Ca 142 [vR 9 0, vI x] (pt_MEM mi ml ex) (.inl (some (vI (oI (mRanked (ms mi) x)))), pt_MEM (th mi 0) ml ex) := by
  refine r142_0 (fun _ => r142_9 m89t (r142_13 (fun c => absurd c (by decide)) (fun _ => r142_16 ?_ r142_21))) (fun c => ?_)
  · have := m99 (mi := th mi 0) (ml := ml) (ex := ex) (x := x)
    rw [ms_th] at this
    exact this
  · rw [Int32.le_iff_toInt_le] at c
    rw [Int32.lt_iff_toInt_lt] at hx
    omega
theorem m143x {x : Int32} (hx : sIn3 x 0 1 = false) : pt_Ca 143 [vR 9 0, vI x] (pt_MEM mi ml ex) (.inl (some (vI 0)), pt_MEM (th mi 1) ml ex) := by
  refine r143_0 m92 (r143_5 (fun _ => r143_12 (m89f (by decide)) (r143_16 (fun _ => r143_27) (fun c => absurd rfl c))) (fun c => ?_))
  rw [hx] at c
  exact absurd rfl c
theorem m143 {w : Int32} (hp : p < 2) (g : GO (ms mi)) (hc : ∀ p, p < 10 → sW (ms mi) p = true → ¬ ms mi (9 * p + 1) = -1) (hw : sWL (ms mi) (ms mi (90 + 3 * p + 0)) w) : pt_Ca 143 [vR 9 0, vI (nI p)] (pt_MEM mi ml ex) (.inl (some (vI w)), pt_MEM (th mi 0) ml ex) := by
  obtain ⟨L, n, h⟩ := LN_ex (sSTO (ms mi 105) g) 10 (Nat.le_refl 10)
  have e : mWL (ms mi) L n (ms mi (90 + 3 * p + 0)) = w := by
    rw [hw L n h, wl_same g h hc]
    rfl
  have hin : ∀ p, p < 2 → sIn3 (nI p) 0 1 = true := by decide +kernel
  have call := m105 (mi := th mi 0) (ml := ml) (ex := ex) (L := L) (n := n) hp (by rw [ms_th]; exact g) (by rw [ms_th]; exact h)
  rw [ms_th, e] at call
  refine r143_0 m92 (r143_5 (fun c => ?_) (fun _ => r143_8 m89t (r143_16 (fun c => absurd c (by decide)) (fun _ => r143_19 call r143_24))))
  rw [hin p hp] at c
  exact absurd c (by decide)
/-- one property of a pile -/
def mOf (S : Nat → Int32) (p j : Nat) : Int32 :=
  if sHere S p = true then (if j = 8 then (if sIn S p 0 = true then mRank S p else -1) else if j = 9 then S (9 * p + 8) else if j = 10 then mFee S p else S (9 * p + j)) else -1
theorem m133 {j : Nat} (hp : p < 10) (hj : j < 11) : pt_Ca 133 [vR 9 0, vI (nI p), vI (nI j)] (pt_MEM mi ml ex) (.inl (some (vI (mOf (ms mi) p j))), pt_MEM mi ml ex) := by
  refine r133_0 (m93 hp) (r133_5 (fun c => ?_) (fun c => ?_))
  · rw [bI_eq0] at c
    rw [mOf, if_neg (by rw [c]; decide)]
    exact r133_8
  · rw [bI_eq0, Bool.not_eq_false] at c
    rw [mOf, if_pos c]
    have hjs : j < 8 ∨ j = 8 ∨ j = 9 ∨ j = 10 := by omega
    rcases hjs with q | q | q | q
    · rw [if_neg (by omega), if_neg (by omega), if_neg (by omega), ← ms_e mi (k := 9 * p + j) (by omega)]
      refine r133_10 (Or.inl ?_) (r133_72 (m90 hp (by omega) rfl) (r133_81 rfl (by omega)))
      rw [nI_toInt (by omega)]; omega
    · subst q
      rw [if_pos rfl]
      refine r133_10_sw8 (r133_36 (m94 hp) (r133_41 (fun d => ?_) (fun d => ?_))) (by decide)
      · rw [bI_eq0] at d
        rw [if_neg (by rw [d]; decide)]
        exact r133_52
      · rw [bI_eq0, Bool.not_eq_false] at d
        rw [if_pos d]
        exact r133_44 (m98 hp) r133_49
    · subst q
      rw [if_neg (by decide), if_pos rfl, ← ms_e mi (k := 9 * p + 8) (by omega)]
      exact r133_10_sw9 (r133_54 (m90 (j := 8) hp (by decide) (by decide)) (r133_64 rfl (by omega))) (by decide)
    · subst q
      rw [if_neg (by decide), if_neg (by decide), if_pos rfl]
      exact r133_10_sw10 (r133_66 (m112 hp) r133_71) (by decide)
end
