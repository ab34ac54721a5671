/-! The digest in the model. -/
theorem fo_add {α : Type} (f : Nat → α → α) (n : Nat) (a : α) : ∀ k, fo f (n + k) a = fo (fun i => f (n + i)) k (fo f n a)
  | 0 => rfl
  | k + 1 => by
    show f (n + k) (fo f (n + k) a) = f (n + k) (fo (fun i => f (n + i)) k (fo f n a))
    rw [fo_add f n a k]
theorem fo_flat {α : Type} (g : Nat → Nat → α → α) (a : α) : ∀ m, fo (fun k a => g (k / 11) (k % 11) a) (11 * m) a = fo (fun p a => fo (fun j a => g p j a) 11 a) m a
  | 0 => rfl
  | m + 1 => by
    rw [show 11 * (m + 1) = 11 * m + 11 from rfl, fo_add, fo_flat g a m]
    exact fo_congr (fun j b hj => by
      have h1 : (11 * m + j) / 11 = m := by omega
      have h2 : (11 * m + j) % 11 = j := by omega
      rw [h1, h2])
section
variable {mi : Nat → Nat → Nat → Int32} {ml : Nat → Nat → Nat → Int64} {ex : Nat} {S : Nat → Int32} {s : Nat} {H : Nat → Nat → Int32} {K : Nat → Bool} {T : Nat → Nat → Int32} {n : Nat} {X : Nat → Int32} {A P : Int}
theorem Good.ends (g : Good S A P) : cEnd S = mEnd S := by
  have r : ∀ m, m < 2 → S (90 + 3 * m + 1) = -1 ∨ (0 ≤ (S (90 + 3 * m + 1)).toInt ∧ (S (90 + 3 * m + 1)).toInt < 2 ^ 20) := fun m hm => (g.1.2.2.2.2.1 m hm).imp (fun z => z.1) id
  have c := g.2.1.2.1
  exact end_same ⟨c.1, by omega⟩ (r 0 (by decide)) (r 1 (by decide))
end
