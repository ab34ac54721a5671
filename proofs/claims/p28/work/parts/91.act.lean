/-! The law's act: taking in, and all. -/
def lowF (x k : Int32) : Int32 := (x &&& 2147483647) - (x &&& 2147483647) / k * k
def tkF (S : Nat → Int32) (y is : Int32) : Rs := if is = 0 then
    tkA S (lowF y 5) (lowF (y >>> (2 &&& 31)) 23 + 0) ((1 : Int32) + lowF (y >>> (4 &&& 31)) 63) ((1 : Int32) + lowF (y >>> (6 &&& 31)) 1010) (if (y >>> (8 &&& 31)) &&& 3 = 0 then 1 else 0)
  else tkA S (lowF y 3) (lowF (y >>> (2 &&& 31)) 20 + 1) ((1 : Int32) + lowF (y >>> (4 &&& 31)) 60) ((1 : Int32) + lowF (y >>> (6 &&& 31)) 100) (if (y >>> (8 &&& 31)) &&& 3 = 0 then 1 else 0)
def plF (S : Nat → Int32) (sh : Int32) : Int32 := if sh ≤ 7 then oI (sShelf S sh) else -1
def tiF (S : Nat → Int32) (y pile : Int32) : Int32 := if pile < 0 then (100 : Int32) + lowF (y >>> (3 &&& 31)) 20 else if ((y >>> (6 &&& 31)) &&& 3) ≤ 0 then (100 : Int32) + lowF (y >>> (3 &&& 31)) 20 else mOf S pile.toNatClampNeg 0
def hoF (S : Nat → Int32) (y sh : Int32) : Rs := chH S (tiF S y (plF S sh)) sh
noncomputable def actF (S : Nat → Int32) (x : Int32) : Rs :=
  let is : Int32 := if lowF (x >>> (22 &&& 31)) 7 ≤ 0 then 0 else 1
  let y := x >>> (5 &&& 31)
  let w := lowF x 32
  if 12 ≤ w then (if 16 ≤ w then (if 21 ≤ w then (if 23 ≤ w then (if w = 23 then (if is = 0 then chM S (lowF y 3) ((0 : Int32) + lowF (y >>> (2 &&& 31)) 55) else chM S (lowF y 2) ((10 : Int32) + lowF (y >>> (2 &&& 31)) 55))
      else if w = 24 then (if is = 0 then chS S (lowF y 3) (lowF (y >>> (2 &&& 31)) 12) else chS S (lowF y 2) (lowF (y >>> (2 &&& 31)) 10))
      else (if is = 0 then chP S (lowF y 260) else chP S (lowF y 45)))
    else (if is = 0 then chR S (lowF y 12) else chR S (lowF y 10)))
    else (if is = 0 then chL S (lowF y 3) else chL S (lowF y 2)))
    else (if is = 0 then hoF S y (lowF y 9) else hoF S y (lowF y 4)))
  else tkF S y is
theorem and_pos (x : Int32) : 0 ≤ (x &&& 2147483647).toInt := by
  have hb : bt (x &&& 2147483647) 31 = false := by
    rw [b_and, show bt 2147483647 31 = false from by decide +kernel, Bool.and_false]
  have : (x &&& 2147483647).toBitVec.msb = false := hb
  rw [← Int32.toInt_toBitVec]
  exact BitVec.toInt_nonneg_of_msb_false this
theorem low_range {x k : Int32} (hk : 0 < k.toInt) : 0 ≤ (lowF x k).toInt ∧ (lowF x k).toInt < k.toInt := by
  have hp := and_pos x
  unfold lowF
  generalize x &&& 2147483647 = a at *
  have ha := Int32.toInt_lt a
  have d : (a / k).toInt = a.toInt.tdiv k.toInt := Int32.toInt_div_of_ne_right a k (fun z => by rw [z] at hk; exact absurd hk (by decide))
  have t : a.toInt.tdiv k.toInt = a.toInt / k.toInt := Int.tdiv_eq_ediv_of_nonneg hp
  have m1 := Int.mul_ediv_add_emod a.toInt k.toInt
  have m2 := Int.emod_nonneg a.toInt (b := k.toInt) (by omega)
  have m3 := Int.emod_lt_of_pos a.toInt hk
  have m4 : k.toInt * (a.toInt / k.toInt) = a.toInt / k.toInt * k.toInt := Int.mul_comm _ _
  have q0 : 0 ≤ a.toInt / k.toInt := Int.ediv_nonneg hp (by omega)
  have q1 : 0 ≤ a.toInt / k.toInt * k.toInt := Int.mul_nonneg q0 (by omega)
  have e : (a / k * k).toInt = a.toInt / k.toInt * k.toInt := by
    rw [Int32.toInt_mul, d, t]
    exact Int.bmod_eq_of_le (by omega) (by omega)
  have s : (a - a / k * k).toInt = a.toInt - a.toInt / k.toInt * k.toInt := by
    rw [sb32 (by rw [e]; omega) (by rw [e]; omega), e]
  rw [s]
  omega
section
variable {v : Bool} {mi : Nat → Nat → Nat → Int32} {ml : Nat → Nat → Nat → Int64} {ex : Nat} {S S' : Nat → Int32} {s : Nat} {H : Nat → Nat → Int32} {A P : Int} {x y is w : Int32}
theorem l171 {k : Int32} (hk : ¬ k = 0) : pt_Ca 171 [vI x, vI k] (pt_MM mi ml ex) (.inl (some (vI (lowF x k))), pt_MM mi ml ex) := r171_0 hk
theorem ak (O : Ob v mi S s H) (g : Good S A P) {x1 x2 x3 x4 x5 : Int32} (h5 : x5 = 0 ∨ x5 = 1) {as : List pt_V} (he : as = [vR 8 0, vI x1, vI x2, vI x3, vI x4, vI x5]) :
    (okT x1 x2 x3 x4 = true ∧ ∃ mi2, pt_Ca 54 (eS v as) (pt_MM mi ml ex) (.inl (some (vI (sTakes S x1 x2 x3 x4 x5).1)), pt_MM mi2 ml ex) ∧ Pst v mi (pt_up3 mi2 23 0 0 (sTakes S x1 x2 x3 x4 x5).1) S s H (tkA S x1 x2 x3 x4 x5)) ∨ (okT x1 x2 x3 x4 = false ∧ pt_Ca 54 (eS v as) (pt_MM mi ml ex) (.inr 1, pt_MM mi ml (ex + 1)) ∧ tkA S x1 x2 x3 x4 x5 = (2, 0, S)) := by
  subst he
  unfold tkA
  cases e : okT x1 x2 x3 x4 with
  | true =>
    refine Or.inl ⟨rfl, ?_⟩
    rw [if_pos rfl]
    obtain ⟨K, T, n, X, R⟩ := id O
    obtain ⟨mi1, c, R1, -⟩ := c54 (ml := pull v ml) (ex := ex) R g e h5
    exact ok_of ⟨K, T, n, X, mi1, c, R1⟩
  | false =>
    exact Or.inr ⟨rfl, no_of (c54t e), if_neg (by decide)⟩
theorem rush01 {c : Prop} [Decidable c] : (if c then (1 : Int32) else 0) = 0 ∨ (if c then (1 : Int32) else 0) = 1 := by
  by_cases h : c
  · rw [if_pos h]; exact Or.inr rfl
  · rw [if_neg h]; exact Or.inl rfl
theorem h173 (O : Ob v mi S s H) (g : Good S A P) : Aend v 173 [vR 8 (ob v), vI y, vI is, vR 23 0] mi ml ex S s H (tkF S y is) := by
  have tail : ∀ x1 x2 x3 x4 : Int32, ∃ mi' ex', pt_Ev 173 none 82 [some (vR 8 (ob v)), some (vI y), some (vI is), some (vR 23 0), none] [vI x4, vI 1, vI x3, vI x2, vI x1, vR 8 (ob v), vI 0, vR 23 0] (pt_MM mi ml ex) (.inl (some (vI (tkA S x1 x2 x3 (1 + x4) (if (y >>> (8 &&& 31)) &&& 3 = 0 then 1 else 0)).1)), pt_MM mi' ml ex') ∧ ex' ≤ ex + 1 ∧ Pst v mi mi' S s H (tkA S x1 x2 x3 (1 + x4) (if (y >>> (8 &&& 31)) &&& 3 = 0 then 1 else 0)) := by
    intro x1 x2 x3 x4
    rcases ak (ml := ml) (ex := ex) O g (x1 := x1) (x2 := x2) (x3 := x3) (x4 := 1 + x4) (x5 := if (y >>> (8 &&& 31)) &&& 3 = 0 then 1 else 0) rush01 rfl with ⟨e, mi2, c, ps⟩ | ⟨e, c, er⟩
    · have e0 : (tkA S x1 x2 x3 (1 + x4) (if (y >>> (8 &&& 31)) &&& 3 = 0 then 1 else 0)).1 = 0 := by unfold tkA; rw [if_pos e]
      rw [e0]
      refine ⟨_, ex, ?_, by omega, ps⟩
      by_cases h : (y >>> (8 &&& 31)) &&& 3 = 0
      · rw [if_pos h] at c ⊢
        exact r173_82 (fun _ => r173_92 c (r173_100 nI_0.symm (by decide))) (fun z => absurd h z)
      · rw [if_neg h] at c ⊢
        exact r173_82 (fun z => absurd z h) (fun _ => r173_96 c (r173_100 nI_0.symm (by decide)))
    · rw [er]
      refine ⟨mi, ex + 1, ?_, Nat.le_refl _, Pst.no O d2⟩
      by_cases h : (y >>> (8 &&& 31)) &&& 3 = 0
      · rw [if_pos h] at c
        exact r173_82 (fun _ => r173_92_x1 c r173_104) (fun z => absurd h z)
      · rw [if_neg h] at c
        exact r173_82 (fun z => absurd z h) (fun _ => r173_96_x1 c r173_104)
  unfold tkF
  by_cases h : is = 0
  · rw [if_pos h]
    obtain ⟨mi', ex', c, h1, h2⟩ := tail (lowF y 5) (lowF (y >>> (2 &&& 31)) 23 + 0) ((1 : Int32) + lowF (y >>> (4 &&& 31)) 63) (lowF (y >>> (6 &&& 31)) 1010)
    exact ⟨mi', ex', r173_0 (fun _ => r173_12 (l171 (by decide)) (r173_16 (fun _ => r173_28 (l171 (by decide)) (r173_33 (fun _ => r173_41 (fun _ => r173_56 (l171 (by decide)) (r173_61 (fun _ => r173_76 (l171 (by decide)) c) (fun z => absurd h z))) (fun z => absurd h z)) (fun z => absurd h z))) (fun z => absurd h z))) (fun z => absurd h z), h1, h2⟩
  · rw [if_neg h]
    obtain ⟨mi', ex', c, h1, h2⟩ := tail (lowF y 3) (lowF (y >>> (2 &&& 31)) 20 + 1) ((1 : Int32) + lowF (y >>> (4 &&& 31)) 60) (lowF (y >>> (6 &&& 31)) 100)
    exact ⟨mi', ex', r173_0 (fun z => absurd z h) (fun _ => r173_8 (l171 (by decide)) (r173_16 (fun z => absurd z h) (fun _ => r173_23 (l171 (by decide)) (r173_33 (fun z => absurd z h) (fun _ => r173_37 (fun z => absurd z h) (fun _ => r173_51 (l171 (by decide)) (r173_61 (fun z => absurd z h) (fun _ => r173_71 (l171 (by decide)) c)))))))), h1, h2⟩
theorem Pst.pre {mi1 mi' : Nat → Nat → Nat → Int32} {r : Rs} (h : Pst v mi1 mi' S s H r) (f : Fr SK mi mi1) : Pst v mi mi' S s H r := ⟨fun S2 s2 H2 q => h.1 S2 s2 H2 (q.fr f), h.2⟩
end
