/-! Pure: what changing calls do to the row; a pile admitted on both sides. -/
theorem up1_comm (S : Nat → Int32) {k k' : Nat} (v v' : Int32) (h : k ≠ k') : up1 (up1 S k v) k' v' = up1 (up1 S k' v') k v := by
  funext x
  by_cases h1 : x = k
  · have h2 : ¬ x = k' := fun z => h (h1.symm.trans z)
    rw [up1_ne _ _ h2, h1, up1_eq, up1_eq]
  · rw [up1_ne _ v h1]
    by_cases h2 : x = k'
    · rw [h2, up1_eq, up1_eq]
    · rw [up1_ne _ _ h2, up1_ne _ _ h2, up1_ne _ _ h1]
theorem up1_self (S : Nat → Int32) (k : Nat) : up1 S k (S k) = S := by
  funext x
  by_cases h1 : x = k
  · rw [h1, up1_eq]
  · rw [up1_ne _ _ h1]
theorem up1_up1 (S : Nat → Int32) (k : Nat) (v v' : Int32) : up1 (up1 S k v) k v' = up1 S k v' := by
  funext x
  by_cases h1 : x = k
  · rw [h1, up1_eq, up1_eq]
  · rw [up1_ne _ _ h1, up1_ne _ _ h1, up1_ne _ _ h1]
/-- a pile's nine cells at once -/
def pw (S : Nat → Int32) (p : Nat) (f : Nat → Int32) : Nat → Int32 := fun k => if 9 * p ≤ k ∧ k < 9 * p + 9 then f (k - 9 * p) else S k
theorem pw_own {S : Nat → Int32} {p j : Nat} {f : Nat → Int32} (hj : j < 9) : pw S p f (9 * p + j) = f j := by
  unfold pw
  rw [if_pos ⟨by omega, by omega⟩, Nat.add_sub_cancel_left]
theorem pw_ne {S : Nat → Int32} {p q j : Nat} {f : Nat → Int32} (hq : q ≠ p) (hj : j < 9) : pw S p f (9 * q + j) = S (9 * q + j) := by
  unfold pw
  exact if_neg (by omega)
theorem pw_hi {S : Nat → Int32} {p k : Nat} {f : Nat → Int32} (hp : p < 10) (hk : 90 ≤ k) : pw S p f k = S k := by
  unfold pw
  exact if_neg (by omega)
def ff (a0 a1 a2 a3 a4 a5 a6 a7 a8 : Int32) : Nat → Int32
  | 0 => a0
  | 1 => a1
  | 2 => a2
  | 3 => a3
  | 4 => a4
  | 5 => a5
  | 6 => a6
  | 7 => a7
  | _ => a8
theorem pw_chain (S : Nat → Int32) (p : Nat) (a0 a1 a2 a3 a4 a5 a6 a7 a8 : Int32) : up1 (up1 (up1 (up1 (up1 (up1 (up1 (up1 (up1 S (9 * p + 0) a0) (9 * p + 1) a1) (9 * p + 2) a2) (9 * p + 3) a3) (9 * p + 4) a4) (9 * p + 5) a5) (9 * p + 6) a6) (9 * p + 7) a7) (9 * p + 8) a8 = pw S p (ff a0 a1 a2 a3 a4 a5 a6 a7 a8) := by
  funext k
  by_cases h : 9 * p ≤ k ∧ k < 9 * p + 9
  · obtain ⟨j, hj, rfl⟩ : ∃ j, j < 9 ∧ k = 9 * p + j := ⟨k - 9 * p, by omega, by omega⟩
    rw [pw_own hj]
    have : j = 0 ∨ j = 1 ∨ j = 2 ∨ j = 3 ∨ j = 4 ∨ j = 5 ∨ j = 6 ∨ j = 7 ∨ j = 8 := by omega
    rcases this with q | q | q | q | q | q | q | q | q <;> subst q <;> simp [up1, ff]
  · have hk : ∀ j, j < 9 → k ≠ 9 * p + j := fun j hj z => h ⟨by omega, by omega⟩
    unfold pw
    rw [if_neg h, up1_ne _ _ (hk 8 (by omega)), up1_ne _ _ (hk 7 (by omega)), up1_ne _ _ (hk 6 (by omega)), up1_ne _ _ (hk 5 (by omega)), up1_ne _ _ (hk 4 (by omega)), up1_ne _ _ (hk 3 (by omega)), up1_ne _ _ (hk 2 (by omega)), up1_ne _ _ (hk 1 (by omega)), up1_ne _ _ (hk 0 (by omega))]
def sAdm (S : Nat → Int32) (p : Nat) (x1 x2 x3 x4 x5 : Int32) : Nat → Int32 := up1 (up1 (pw S p (ff (S 97) x1 x2 x3 (S 96 + x4) x5 0 (-1) (-1))) 97 (S 97 + 1)) 98 (S 98 + 1)
def sRef (S : Nat → Int32) : Nat → Int32 := up1 S 102 (S 102 + 1)
def sTakes (S : Nat → Int32) (x1 x2 x3 x4 x5 : Int32) : Int32 × (Nat → Int32) := match sFree S with
  | none => (-1, sRef S)
  | some p => (S 97, sAdm S p x1 x2 x3 x4 x5)
theorem sTakes_none {S : Nat → Int32} {x1 x2 x3 x4 x5 : Int32} (h : sFree S = none) : sTakes S x1 x2 x3 x4 x5 = (-1, sRef S) := by unfold sTakes; rw [h]
theorem sTakes_some {S : Nat → Int32} {p : Nat} {x1 x2 x3 x4 x5 : Int32} (h : sFree S = some p) : sTakes S x1 x2 x3 x4 x5 = (S 97, sAdm S p x1 x2 x3 x4 x5) := by unfold sTakes; rw [h]
theorem cs_97 (mi : Nat → Nat → Nat → Int32) (h : Nat) : cs mi h 97 = 100 + mi 2 h 4 := rfl
theorem cs_98 (mi : Nat → Nat → Nat → Int32) (h : Nat) : cs mi h 98 = mi 2 h 4 := rfl
theorem cs_99 (mi : Nat → Nat → Nat → Int32) (h : Nat) : cs mi h 99 = mi 2 h 5 := rfl
theorem cs_100 (mi : Nat → Nat → Nat → Int32) (h : Nat) : cs mi h 100 = mi 2 h 7 := rfl
theorem cs_101 (mi : Nat → Nat → Nat → Int32) (h : Nat) : cs mi h 101 = mi 2 h 8 := rfl
theorem cs_102 (mi : Nat → Nat → Nat → Int32) (h : Nat) : cs mi h 102 = mi 2 h 9 := rfl
theorem cs_103 (mi : Nat → Nat → Nat → Int32) (h : Nat) : cs mi h 103 = mi 2 h 6 := rfl
section
variable {mi : Nat → Nat → Nat → Int32} {ml : Nat → Nat → Nat → Int64} {ex h p : Nat}
theorem c9 {x1 x2 x3 x4 x5 : Int32} (hh : h < 9) (h5 : x5 = 0 ∨ x5 = 1) : ∃ w mi', pt_Ca 9 [vR 2 h, vI x1, vI x2, vI x3, vI x4, vI x5] (pt_MEM mi ml ex) (.inl (some (vI w)), pt_MEM mi' ml ex) ∧ w = (sTakes (cs mi h) x1 x2 x3 x4 x5).1 ∧ HX mi mi' h (sTakes (cs mi h) x1 x2 x3 x4 x5).2 := by
  have call := c10 (mi := mi) (ml := ml) (ex := ex) hh
  cases hf : sFree (cs mi h) with
  | none =>
    rw [hf] at call
    rw [sTakes_none hf]
    exact ⟨_, _, r9_0 call (r9_4 (fun _ => r9_12) (fun c => absurd rfl c)), rfl, HX.refl.wh (k := 102) (by decide)⟩
  | some p =>
    rw [hf] at call
    rw [sTakes_some hf]
    have hp : p < 10 := (fi_lt hf).1
    have hne : ¬ oI (some p) = -1 := fun z => by
      have := (oI_eq (r := some p) (fun q hq => by simp only [Option.some.injEq] at hq; omega)).mp z
      simp at this
    refine ⟨_, _, r9_0 call (r9_4 (fun c => absurd c hne) (fun _ => r9_24 (pt_MR_h hh).1 rfl hp (pt_MR_p hh hp) h5)), ?_, ?_⟩
    · simp [pt_up3, cs_97]
    · have e2 : ∀ (f : Nat → Nat → Nat → Int32) (q j n' j' : Nat) (v : Int32), pt_up3 f 5 q j v 2 n' j' = f 2 n' j' := fun f q j n' j' v => up3_c _ _ (by decide)
      simp only [e2]
      have hrow : sAdm (cs mi h) p x1 x2 x3 x4 x5 = up1 (up1 (up1 (up1 (up1 (up1 (up1 (up1 (up1 (up1 (up1 (cs mi h) (9 * p + 0) (100 + mi 2 h 4)) (9 * p + 1) x1) (9 * p + 2) x2) (9 * p + 3) x3) (9 * p + 4) (mi 2 h 3 + x4)) (9 * p + 5) x5) (9 * p + 6) 0) (9 * p + 7) (-1)) (9 * p + 8) (-1)) 98 (mi 2 h 4 + 1)) 97 (100 + (mi 2 h 4 + 1)) := by
        rw [pw_chain, up1_comm _ _ _ (by decide)]
        unfold sAdm
        rw [cs_97, cs_98, cs_96, Int32.add_assoc]
      rw [hrow]
      exact (((((((((HX.refl.wp hp (by decide)).wp hp (by decide)).wp hp (by decide)).wp hp (by decide)).wp hp (by decide)).wp hp (by decide)).wp hp (by decide)).wp hp (by decide)).wp hp (by decide)).wt
end
