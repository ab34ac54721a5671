/-! The scanner, pure and in the class. A state: 0 part, 1 colour, 2 weight, 3 time, 4 number. -/
def aEnd (a : Nat → Int32) : Bool := decide (a 0 = 4) || (decide (a 0 = 3) && decide (¬ a 4 ≤ 0))
def aDig (a : Nat → Int32) (c most : Int32) : Option (Nat → Int32) := if c < 48 ∨ ¬ c ≤ 57 then none else if 10 * a 4 + (c - 48) < 1 ∨ ¬ 10 * a 4 + (c - 48) ≤ most then none else some (up1 a 4 (10 * a 4 + (c - 48)))
def aNext (a : Nat → Int32) (c : Int32) : Option (Nat → Int32) := if c = 59 ∧ aEnd a = true then some (up1 (up1 a 0 0) 4 0) else none
def aBeg (a : Nat → Int32) : Nat → Int32 := up1 (up1 a 0 0) 4 0
def aOr (x y : Option (Nat → Int32)) : Option (Nat → Int32) := match x with | some b => some b | none => y
/-- a character accepted -/
def accP (a : Nat → Int32) (c : Int32) : Option (Nat → Int32) :=
  if a 0 = 0 then (if c < 97 ∨ ¬ c ≤ 100 then none else some (up1 (up1 a 1 (c - 97)) 0 1))
  else if a 0 = 1 then aOr (aDig a c 20) (if c = 47 ∧ ¬ a 4 = 0 then some (up1 (up1 (up1 a 2 (a 4)) 4 0) 0 2) else none)
  else if a 0 = 2 then aOr (aDig a c 60) (if c = 64 ∧ ¬ a 4 = 0 then some (up1 (up1 (up1 a 3 (a 4)) 4 0) 0 3) else none)
  else if a 0 = 3 then aOr (aDig a c 999) (if c = 33 ∧ ¬ a 4 = 0 then some (up1 a 0 4) else aNext a c)
  else aNext a c
def aPart (a : Nat → Int32) : Prop := a 0 = 0 ∨ a 0 = 1 ∨ a 0 = 2 ∨ a 0 = 3 ∨ a 0 = 4
theorem up3_row (mi : Nat → Nat → Nat → Int32) (c n j : Nat) (v : Int32) : pt_up3 mi c n j v c n = up1 (mi c n) j v := by
  funext k
  by_cases e : k = j
  · rw [e, up3_eq, up1_eq]
  · rw [up3_j _ _ e, up1_ne _ _ e]
section
variable {mi : Nat → Nat → Nat → Int32} {ml : Nat → Nat → Nat → Int64} {ex : Nat}
/-- a scanner's method that accepts or not -/
def Sca (k : Nat) (as : List pt_V) (mi : Nat → Nat → Nat → Int32) (ml : Nat → Nat → Nat → Int64) (ex : Nat) (r : Option (Nat → Int32)) : Prop :=
  ∃ mi', pt_Ca k as (pt_MEM mi ml ex) (.inl (some (vI (bI r.isSome))), pt_MEM mi' ml ex) ∧ Fr [6] mi mi' ∧ mi' 6 0 = r.getD (mi 6 0)
theorem Sca_n {k : Nat} {as : List pt_V} (h : pt_Ca k as (pt_MEM mi ml ex) (.inl (some (vI 0)), pt_MEM mi ml ex)) : Sca k as mi ml ex none := ⟨mi, h, Fr.rfl', rfl⟩
theorem c39 : ∃ mi', pt_Ca 39 [vR 6 0] (pt_MEM mi ml ex) (.inl none, pt_MEM mi' ml ex) ∧ Fr [6] mi mi' ∧ mi' 6 0 = aBeg (mi 6 0) := by
  refine ⟨_, r39_0, (Fr.rfl'.up (by decide)).up (by decide), ?_⟩
  rw [up3_row, up3_row]
  rfl
theorem c40 : pt_Ca 40 [vR 6 0] (pt_MEM mi ml ex) (.inl (some (vI (bI (aEnd (mi 6 0))))), pt_MEM mi ml ex) := by
  refine r40_0 (fun c => ?_) (fun c => r40_8 (fun d => r40_16 (fun e => ?_) (fun e => ?_)) (fun d => ?_))
  · rw [show aEnd (mi 6 0) = true from by simp [aEnd, c]]; exact r40_23
  · rw [show aEnd (mi 6 0) = false from by simp [aEnd, c, e]]; exact r40_27
  · rw [show aEnd (mi 6 0) = true from by simp [aEnd, d, e]]; exact r40_23
  · rw [show aEnd (mi 6 0) = false from by simp [aEnd, c, d]]; exact r40_27
theorem c48 {c : Int32} : Sca 48 [vR 6 0, vI c] mi ml ex (aNext (mi 6 0) c) := by
  unfold aNext
  by_cases h : c = 59
  · cases hE : aEnd (mi 6 0) with
    | true =>
      rw [if_pos ⟨h, rfl⟩]
      obtain ⟨m1, q1, q2, q3⟩ := c39 (mi := mi) (ml := ml) (ex := ex)
      exact ⟨m1, r48_0 (fun _ => r48_6 c40 (r48_10 (fun z => absurd z (bI_tn hE)) (fun _ => r48_15 q1 r48_19))) (fun z => absurd h z), q2, q3⟩
    | false =>
      rw [if_neg (fun z => by simp at z)]
      exact Sca_n (r48_0 (fun _ => r48_6 c40 (r48_10 (fun _ => r48_13) (fun z => absurd (bI_fn hE) z))) (fun z => absurd h z))
  · rw [if_neg (fun z => h z.1)]
    exact Sca_n (r48_0 (fun z => absurd z h) (fun _ => r48_13))
theorem c43 {c : Int32} : Sca 43 [vR 6 0, vI c] mi ml ex (if c < 97 ∨ ¬ c ≤ 100 then none else some (up1 (up1 (mi 6 0) 1 (c - 97)) 0 1)) := by
  by_cases h : c < 97 ∨ ¬ c ≤ 100
  · rw [if_pos h]
    exact Sca_n (r43_0 (fun _ => r43_12) (fun a => r43_6 (fun b => absurd h (fun z => z.elim a (fun y => y b))) (fun _ => r43_12)))
  · rw [if_neg h]
    refine ⟨_, r43_0 (fun a => absurd (Or.inl a) h) (fun _ => r43_6 (fun _ => r43_14) (fun b => absurd (Or.inr b) h)), (Fr.rfl'.up (by decide)).up (by decide), ?_⟩
    rw [up3_row, up3_row]
    rfl
theorem c44 {c most : Int32} : Sca 44 [vR 6 0, vI c, vI most] mi ml ex (aDig (mi 6 0) c most) := by
  unfold aDig
  by_cases h : c < 48 ∨ ¬ c ≤ 57
  · rw [if_pos h]
    exact Sca_n (r44_0 (fun _ => r44_12) (fun a => r44_6 (fun b => absurd h (fun z => z.elim a (fun y => y b))) (fun _ => r44_12)))
  · rw [if_neg h]
    by_cases h2 : 10 * (mi 6 0 4) + (c - 48) < 1 ∨ ¬ 10 * (mi 6 0 4) + (c - 48) ≤ most
    · rw [if_pos h2]
      exact Sca_n (r44_0 (fun a => absurd (Or.inl a) h) (fun _ => r44_6 (fun _ => r44_14 (fun _ => r44_37) (fun a => r44_32 (fun b => absurd h2 (fun z => z.elim a (fun y => y b))) (fun _ => r44_37))) (fun b => absurd (Or.inr b) h)))
    · rw [if_neg h2]
      refine ⟨_, r44_0 (fun a => absurd (Or.inl a) h) (fun _ => r44_6 (fun _ => r44_14 (fun a => absurd (Or.inl a) h2) (fun _ => r44_32 (fun _ => r44_39) (fun b => absurd (Or.inr b) h2))) (fun b => absurd (Or.inr b) h)), Fr.rfl'.up (by decide), ?_⟩
      rw [up3_row]
      rfl
theorem c45 {c : Int32} : Sca 45 [vR 6 0, vI c] mi ml ex (if c = 47 ∧ ¬ mi 6 0 4 = 0 then some (up1 (up1 (up1 (mi 6 0) 2 (mi 6 0 4)) 4 0) 0 2) else none) := by
  by_cases h : c = 47
  · by_cases h2 : mi 6 0 4 = 0
    · rw [if_neg (fun z => z.2 h2)]
      exact Sca_n (r45_0 (fun _ => r45_6 (fun _ => r45_13) (fun z => absurd h2 z)) (fun z => absurd h z))
    · rw [if_pos ⟨h, h2⟩]
      refine ⟨_, r45_0 (fun _ => r45_6 (fun z => absurd z h2) (fun _ => r45_15)) (fun z => absurd h z), ((Fr.rfl'.up (by decide)).up (by decide)).up (by decide), ?_⟩
      rw [up3_row, up3_row, up3_row]
      rfl
  · rw [if_neg (fun z => h z.1)]
    exact Sca_n (r45_0 (fun z => absurd z h) (fun _ => r45_13))
theorem c46 {c : Int32} : Sca 46 [vR 6 0, vI c] mi ml ex (if c = 64 ∧ ¬ mi 6 0 4 = 0 then some (up1 (up1 (up1 (mi 6 0) 3 (mi 6 0 4)) 4 0) 0 3) else none) := by
  by_cases h : c = 64
  · by_cases h2 : mi 6 0 4 = 0
    · rw [if_neg (fun z => z.2 h2)]
      exact Sca_n (r46_0 (fun _ => r46_6 (fun _ => r46_13) (fun z => absurd h2 z)) (fun z => absurd h z))
    · rw [if_pos ⟨h, h2⟩]
      refine ⟨_, r46_0 (fun _ => r46_6 (fun z => absurd z h2) (fun _ => r46_15)) (fun z => absurd h z), ((Fr.rfl'.up (by decide)).up (by decide)).up (by decide), ?_⟩
      rw [up3_row, up3_row, up3_row]
      rfl
  · rw [if_neg (fun z => h z.1)]
    exact Sca_n (r46_0 (fun z => absurd z h) (fun _ => r46_13))
theorem c47 {c : Int32} : Sca 47 [vR 6 0, vI c] mi ml ex (if c = 33 ∧ ¬ mi 6 0 4 = 0 then some (up1 (mi 6 0) 0 4) else aNext (mi 6 0) c) := by
  obtain ⟨m1, q1, q2, q3⟩ := c48 (mi := mi) (ml := ml) (ex := ex) (c := c)
  by_cases h : c = 33
  · by_cases h2 : mi 6 0 4 = 0
    · rw [if_neg (fun z => z.2 h2)]
      exact ⟨m1, r47_0 (fun _ => r47_6 (fun _ => r47_13 q1 (r47_18 (bI_01 _))) (fun z => absurd h2 z)) (fun z => absurd h z), q2, q3⟩
    · rw [if_pos ⟨h, h2⟩]
      refine ⟨_, r47_0 (fun _ => r47_6 (fun z => absurd z h2) (fun _ => r47_19)) (fun z => absurd h z), Fr.rfl'.up (by decide), ?_⟩
      rw [up3_row]
      rfl
  · rw [if_neg (fun z => h z.1)]
    exact ⟨m1, r47_0 (fun z => absurd z h) (fun _ => r47_13 q1 (r47_18 (bI_01 _))), q2, q3⟩
/-- two tries, one after the other -/
theorem Sca_or {a b : Option (Nat → Int32)} {y z : Nat} {as bs : List pt_V} (h1 : Sca y as mi ml ex a) (h2 : ∀ m, m 6 0 = mi 6 0 → Fr [6] mi m → Sca z bs m ml ex b) : ∃ m1, pt_Ca y as (pt_MEM mi ml ex) (.inl (some (vI (bI a.isSome))), pt_MEM m1 ml ex) ∧ Fr [6] mi m1 ∧ ((a.isSome = true ∧ m1 6 0 = (aOr a b).getD (mi 6 0) ∧ (aOr a b).isSome = true) ∨ (a.isSome = false ∧ ∃ m2, pt_Ca z bs (pt_MEM m1 ml ex) (.inl (some (vI (bI (aOr a b).isSome))), pt_MEM m2 ml ex) ∧ Fr [6] mi m2 ∧ m2 6 0 = (aOr a b).getD (mi 6 0))) := by
  obtain ⟨m1, q1, q2, q3⟩ := h1
  refine ⟨m1, q1, q2, ?_⟩
  cases a with
  | some b' => exact Or.inl ⟨rfl, q3, rfl⟩
  | none =>
    obtain ⟨m2, w1, w2, w3⟩ := h2 m1 q3 q2
    exact Or.inr ⟨rfl, m2, w1, q2.tr w2, w3.trans (by rw [show m1 6 0 = mi 6 0 from q3]; rfl)⟩
theorem c42 {c : Int32} (hp : aPart (mi 6 0)) : Sca 42 [vR 6 0, vI c] mi ml ex (accP (mi 6 0) c) := by
  unfold accP
  by_cases p0 : mi 6 0 0 = 0
  · rw [if_pos p0]
    obtain ⟨m1, q1, q2, q3⟩ := c43 (mi := mi) (ml := ml) (ex := ex) (c := c)
    exact ⟨m1, r42_0_sw0 (r42_36 q1 (r42_41 (bI_01 _))) p0, q2, q3⟩
  · rw [if_neg p0]
    by_cases p1 : mi 6 0 0 = 1
    · rw [if_pos p1]
      obtain ⟨m1, q1, q2, q3⟩ := Sca_or (mi := mi) (ml := ml) (ex := ex) c44 (fun m hm _ => by have := c45 (mi := m) (ml := ml) (ex := ex) (c := c); rw [hm] at this; exact this)
      rcases q3 with ⟨e1, e2, e3⟩ | ⟨e1, m2, w1, w2, w3⟩
      · exact ⟨m1, r42_0_sw1 (r42_42 q1 (r42_49 (fun z => absurd z (bI_tn e1)) (fun _ => by rw [e3]; exact r42_60))) p1, q2, e2⟩
      · refine ⟨m2, r42_0_sw1 (r42_42 q1 (r42_49 (fun _ => r42_52 w1 (r42_57 (fun z => ?_) (fun z => ?_))) (fun z => absurd (bI_fn e1) z))) p1, w2, w3⟩
        · rw [bI_f z]; exact r42_64
        · rw [bI_t z]; exact r42_60
    · rw [if_neg p1]
      by_cases p2 : mi 6 0 0 = 2
      · rw [if_pos p2]
        obtain ⟨m1, q1, q2, q3⟩ := Sca_or (mi := mi) (ml := ml) (ex := ex) c44 (fun m hm _ => by have := c46 (mi := m) (ml := ml) (ex := ex) (c := c); rw [hm] at this; exact this)
        rcases q3 with ⟨e1, e2, e3⟩ | ⟨e1, m2, w1, w2, w3⟩
        · exact ⟨m1, r42_0_sw2 (r42_66 q1 (r42_73 (fun z => absurd z (bI_tn e1)) (fun _ => by rw [e3]; exact r42_84))) p2, q2, e2⟩
        · refine ⟨m2, r42_0_sw2 (r42_66 q1 (r42_73 (fun _ => r42_76 w1 (r42_81 (fun z => ?_) (fun z => ?_))) (fun z => absurd (bI_fn e1) z))) p2, w2, w3⟩
          · rw [bI_f z]; exact r42_88
          · rw [bI_t z]; exact r42_84
      · rw [if_neg p2]
        by_cases p3 : mi 6 0 0 = 3
        · rw [if_pos p3]
          obtain ⟨m1, q1, q2, q3⟩ := Sca_or (mi := mi) (ml := ml) (ex := ex) c44 (fun m hm _ => by have := c47 (mi := m) (ml := ml) (ex := ex) (c := c); rw [hm] at this; exact this)
          rcases q3 with ⟨e1, e2, e3⟩ | ⟨e1, m2, w1, w2, w3⟩
          · exact ⟨m1, r42_0_sw3 (r42_90 q1 (r42_98 (fun z => absurd z (bI_tn e1)) (fun _ => by rw [e3]; exact r42_109))) p3, q2, e2⟩
          · refine ⟨m2, r42_0_sw3 (r42_90 q1 (r42_98 (fun _ => r42_101 w1 (r42_106 (fun z => ?_) (fun z => ?_))) (fun z => absurd (bI_fn e1) z))) p3, w2, w3⟩
            · rw [bI_f z]; exact r42_113
            · rw [bI_t z]; exact r42_109
        · rw [if_neg p3]
          have p4 : mi 6 0 0 = 4 := by
            rcases hp with z | z | z | z | z
            · exact absurd z p0
            · exact absurd z p1
            · exact absurd z p2
            · exact absurd z p3
            · exact z
          obtain ⟨m1, q1, q2, q3⟩ := c48 (mi := mi) (ml := ml) (ex := ex) (c := c)
          exact ⟨m1, r42_0 (Or.inr (by rw [p4]; decide)) (r42_115 q1 (r42_120 (bI_01 _))), q2, q3⟩
end
