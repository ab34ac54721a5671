/-! There is a line; the model's waiting and ifLoaded, one property of a pile. -/
theorem ins_pos (q : Nat → Bool) : ∀ n, ∃ k, k ≤ n ∧ (∀ i, k ≤ i → i < n → q i = true) ∧ (∀ i, i < k → q (k - 1) = false)
  | 0 => ⟨0, Nat.le_refl 0, fun i _ h => absurd h (Nat.not_lt_zero i), fun i h => absurd h (Nat.not_lt_zero i)⟩
  | n + 1 => by
    cases hq : q n with
    | true =>
      obtain ⟨k, h1, h2, h3⟩ := ins_pos q n
      refine ⟨k, by omega, fun i hi hn => ?_, h3⟩
      by_cases e : i = n
      · rw [e]; exact hq
      · exact h2 i hi (by omega)
    | false => exact ⟨n + 1, Nat.le_refl _, fun i h1 h2 => absurd h2 (by omega), fun i _ => hq⟩
theorem LN_ex {lt : Nat → Nat → Bool} {W : Nat → Bool} (so : STO lt W) : ∀ p, p ≤ 10 → ∃ L n, LN lt W p L n
  | 0, _ => ⟨fun _ => 0, 0, Nat.le_refl _, fun i hi => absurd hi (Nat.not_lt_zero i), fun i j _ hj => absurd hj (Nat.not_lt_zero j), fun q hq => absurd hq (Nat.not_lt_zero q)⟩
  | p + 1, hp => by
    obtain ⟨L, n, h⟩ := LN_ex so p (by omega)
    cases hW : W p with
    | false => exact ⟨L, n, LN_skip h hW⟩
    | true =>
      obtain ⟨k, h1, h2, h3⟩ := ins_pos (fun i => lt p (L i)) n
      exact ⟨ins L k p, n + 1, LN_ins so (by omega) h hW h1 h2 h3⟩
section
variable {mi : Nat → Nat → Nat → Int32} {ml : Nat → Nat → Nat → Int64} {ex p : Nat}
/-- one property of a pile -/
def mOf (S : Nat → Int32) (p j : Nat) : Int32 :=
  if sHere S p = true then (if j = 8 then (if sIn S p 0 = true then mRank S p else -1) else if j = 9 then S (9 * p + 8) else if j = 10 then mFee S p else S (9 * p + j)) else -1
end
