/-! A house copied. -/
section
variable {mi : Nat → Nat → Nat → Int32} {ml : Nat → Nat → Nat → Int64} {ex a b : Nat}
theorem c8 (ha : a < 9) (hb : b < 9) (hab : a ≠ b) (h5 : ∀ p, p < 10 → cs mi b (9 * p + 5) = 0 ∨ cs mi b (9 * p + 5) = 1) : ∃ mi', pt_Ca 8 [vR 2 a, vR 2 b] (pt_MEM mi ml ex) (.inl none, pt_MEM mi' ml ex) ∧ HX mi mi' a (cs mi b) := by
  have loop1 : ∀ d p, p + d = 10 → ∀ m1, (∀ q, q < p → ∀ j, j < 9 → m1 5 (q + 10 * a) j = mi 5 (q + 10 * b) j) → (∀ c n j, ¬ (c = 5 ∧ ∃ q, q < 10 ∧ n = q + 10 * a) → m1 c n j = mi c n j) → ∀ o : (Nat → Nat → Nat → Int32) → Prop, (∀ m2, (∀ q, q < 10 → ∀ j, j < 9 → m2 5 (q + 10 * a) j = mi 5 (q + 10 * b) j) → (∀ c n j, ¬ (c = 5 ∧ ∃ q, q < 10 ∧ n = q + 10 * a) → m2 c n j = mi c n j) → ∃ mi', pt_Ev 8 none 29 [some (vR 2 a), some (vR 2 b), some (vI (nI 10))] [] (pt_MEM m2 ml ex) (.inl none, pt_MEM mi' ml ex) ∧ o mi') → ∃ mi', pt_Ev 8 none 2 [some (vR 2 a), some (vR 2 b), some (vI (nI p))] [] (pt_MEM m1 ml ex) (.inl none, pt_MEM mi' ml ex) ∧ o mi' := by
    intro d
    induction d with
    | zero =>
      intro p hp m1 g1 g2 o k
      have hp' : p = 10 := hp
      subst hp'
      obtain ⟨mi', h1, h2⟩ := k m1 g1 g2
      exact ⟨mi', r8_2 (fun _ => h1) (fun c => absurd n10_le' c), h2⟩
    | succ d ih =>
      intro p hpd m1 g1 g2 o k
      have hp : p < 10 := by omega
      have hb5 : m1 5 (p + 10 * b) 5 = mi 5 (p + 10 * b) 5 := g2 _ _ _ (fun z => by obtain ⟨_, q, hq, e⟩ := z; omega)
      obtain ⟨m2, q1, q2, q3⟩ := c37 (mi := m1) (ml := ml) (ex := ex) (a := p + 10 * a) (b := p + 10 * b) (by omega) (by rw [hb5, cs_p mi b hp (by decide)]; exact h5 p hp)
      obtain ⟨mi', w1, w2⟩ := ih (p + 1) (by omega) m2 (fun q hq j hj => by
          by_cases e : q = p
          · rw [e, q2 j hj]
            exact g2 _ _ _ (fun z => by obtain ⟨_, q', hq', e'⟩ := z; omega)
          · rw [q3 _ _ _ (fun z => by omega)]
            exact g1 q (by omega) j hj) (fun c n j hc => by
          rw [q3 _ _ _ (fun z => hc ⟨z.1, p, hp, z.2⟩)]
          exact g2 _ _ _ hc) o k
      rw [nI_succ] at w1
      exact ⟨mi', r8_2 (fun c => absurd c (n10_le hp)) (fun _ => r8_8 (pt_MR_h ha).1 rfl hp (pt_MR_p ha hp) (pt_MR_h hb).1 rfl hp (pt_MR_p hb hp) q1 (r8_23 w1)), w2⟩
  have loop2 : ∀ d p, p + d = 2 → ∀ m1, (∀ q, q < 10 → ∀ j, j < 9 → m1 5 (q + 10 * a) j = mi 5 (q + 10 * b) j) → (∀ q, q < p → ∀ j, j < 3 → m1 4 (q + 2 * a) j = mi 4 (q + 2 * b) j) → (∀ c n j, ¬ (c = 5 ∧ ∃ q, q < 10 ∧ n = q + 10 * a) → ¬ (c = 4 ∧ ∃ q, q < 2 ∧ n = q + 2 * a) → m1 c n j = mi c n j) → ∃ mi', pt_Ev 8 none 31 [some (vR 2 a), some (vR 2 b), some (vI (nI p))] [] (pt_MEM m1 ml ex) (.inl none, pt_MEM mi' ml ex) ∧ HX mi mi' a (cs mi b) := by
    intro d
    induction d with
    | zero =>
      intro p hp m1 g1 g2 g3
      have hp' : p = 2 := hp
      subst hp'
      have hba : b ≠ a := fun z => hab z.symm
      have r5 : ∀ n j, (∀ q, q < 10 → n ≠ q + 10 * a) → m1 5 n j = mi 5 n j := fun n j hn => g3 5 n j (fun z => by obtain ⟨_, q, hq, e⟩ := z; exact hn q hq e) (fun z => absurd z.1 (by decide))
      have r4 : ∀ n j, (∀ q, q < 2 → n ≠ q + 2 * a) → m1 4 n j = mi 4 n j := fun n j hn => g3 4 n j (fun z => absurd z.1 (by decide)) (fun z => by obtain ⟨_, q, hq, e⟩ := z; exact hn q hq e)
      have r0 : ∀ c n j, c ≠ 4 → c ≠ 5 → m1 c n j = mi c n j := fun c n j h4 h5 => g3 c n j (fun z => h5 z.1) (fun z => h4 z.1)
      refine ⟨_, r8_31 (fun _ => r8_57 (pt_MR_h hb).2.2 (pt_MR_h ha).2.2) (fun c => absurd n2_le' c), ?_, ?_, ?_⟩
      · have u : ∀ (f : Nat → Nat → Nat → Int32) (j j' : Nat) (v : Int32), pt_up3 f 2 a j v 2 b j' = f 2 b j' := fun f j j' v => up3_n f v hba
        have u2 : ∀ (f : Nat → Int32) (j' : Nat), pt_up2 m1 10 a f 2 b j' = m1 2 b j' := fun f j' => if_neg (fun z => absurd z.1 (by decide))
        simp only [u, u2]
        refine cs_is (fun k hk => ?_) ?_ ?_ ?_ ?_ ?_ ?_ ?_ ?_ ?_ ?_ (fun k hk => (cs_big _ _ hk).symm)
        · by_cases h1 : k < 90
          · unfold cs
            rw [if_pos h1, if_pos h1]
            simp only [pt_up3, pt_up2]
            have := g1 (k / 9) (by omega) (k % 9) (by omega)
            simpa using this
          · unfold cs
            rw [if_neg h1, if_neg h1, if_pos hk, if_pos hk]
            simp only [pt_up3, pt_up2]
            have := g2 ((k - 90) / 3) (by omega) ((k - 90) % 3) (by omega)
            simpa using this
        all_goals simp [pt_up3, pt_up2, va_cpy, cs, r0]
      · intro h' hh
        have u : ∀ (f : Nat → Nat → Nat → Int32) (c j j' : Nat) (v : Int32), pt_up3 f 2 a j v c h' j' = f c h' j' := fun f c j j' v => up3_n f v hh
        have u2 : ∀ (f : Nat → Int32) (c j' : Nat), pt_up2 m1 10 a f c h' j' = m1 c h' j' := fun f c j' => if_neg (fun z => hh z.2)
        refine cs_is (fun k hk => ?_) ?_ ?_ ?_ ?_ ?_ ?_ ?_ ?_ ?_ ?_ (fun k hk => (cs_big _ _ hk).symm)
        · by_cases h1 : k < 90
          · unfold cs
            rw [if_pos h1, if_pos h1]
            have := r5 (k / 9 + 10 * h') (k % 9) (fun q hq => by omega)
            simpa [pt_up3, pt_up2] using this
          · unfold cs
            rw [if_neg h1, if_neg h1, if_pos hk, if_pos hk]
            have := r4 ((k - 90) / 3 + 2 * h') ((k - 90) % 3) (fun q hq => by omega)
            simpa [pt_up3, pt_up2] using this
        all_goals simp only [u, u2]; simp [cs, r0]
      · intro c n j hc
        have u : ∀ (f : Nat → Nat → Nat → Int32) (j' : Nat) (v : Int32), pt_up3 f 2 a j' v c n j = f c n j := fun f j' v => up3_c f v (fun (z : c = 2) => hc (by rw [z]; decide))
        simp only [u]
        rw [show ∀ f, pt_up2 m1 10 a f c n j = m1 c n j from fun f => if_neg (fun z => hc (by rw [z.1]; decide))]
        exact r0 c n j (fun z => hc (by rw [z]; decide)) (fun z => hc (by rw [z]; decide))
    | succ d ih =>
      intro p hpd m1 g1 g2 g3
      have hp : p < 2 := by omega
      obtain ⟨m2, q1, q2, q3⟩ := c30 (mi := m1) (ml := ml) (ex := ex) (a := p + 2 * a) (b := p + 2 * b) (by omega)
      obtain ⟨mi', w1, w2⟩ := ih (p + 1) (by omega) m2 (fun q hq j hj => by rw [q3 _ _ _ (fun z => absurd z.1 (by decide))]; exact g1 q hq j hj) (fun q hq j hj => by
          by_cases e : q = p
          · rw [e, q2 j hj]
            exact g3 _ _ _ (fun z => absurd z.1 (by decide)) (fun z => by obtain ⟨_, q', hq', e'⟩ := z; omega)
          · rw [q3 _ _ _ (fun z => by omega)]
            exact g2 q (by omega) j hj) (fun c n j hc hc4 => by
          rw [q3 _ _ _ (fun z => hc4 ⟨z.1, p, hp, z.2⟩)]
          exact g3 _ _ _ hc hc4)
      rw [nI_succ] at w1
      exact ⟨mi', r8_31 (fun c => absurd c (n2_le hp)) (fun _ => r8_36 (pt_MR_h ha).2.1 rfl hp (pt_MR_m ha hp) (pt_MR_h hb).2.1 rfl hp (pt_MR_m hb hp) q1 (r8_51 w1)), w2⟩
  obtain ⟨mi', h1, h2⟩ := loop1 10 0 rfl mi (fun q hq => absurd hq (Nat.not_lt_zero q)) (fun _ _ _ _ => rfl) (fun mi' => HX mi mi' a (cs mi b)) (fun m2 g1 g2 => by
    obtain ⟨mi', h1, h2⟩ := loop2 2 0 rfl m2 g1 (fun q hq => absurd hq (Nat.not_lt_zero q)) (fun c n j hc _ => g2 c n j hc)
    exact ⟨mi', r8_29 h1, h2⟩)
  exact ⟨mi', r8_0 h1, h2⟩
end
