/-! The law: its loop. -/
section
variable {v : Bool} {mi : Nat → Nat → Nat → Int32} {ml : Nat → Nat → Nat → Int64} {ex : Nat} {S : Nat → Int32} {s : Nat} {H : Nat → Nat → Int32} {A P : Int}
theorem lk10 (O : Ob v mi S s H) : Lk 73 [vR 8 (ob v), vI (nI 10)] (vI (nI s)) mi ml ex := by
  obtain ⟨K, T, n, X, R⟩ := O
  obtain ⟨o, hi⟩ := R.2.1
  have c := c73h (mi := pull v mi) (ml := pull v ml) (ex := ex)
  rw [hi.2.2.1] at c
  exact lk ⟨_, c, Fr.rfl'⟩
theorem Ob.le (O : Ob v mi S s H) : s ≤ 6 := by
  obtain ⟨K, T, n, X, R⟩ := O
  obtain ⟨o, hi⟩ := R.2.1
  exact hi.2.2.2.1
/-- undone -/
theorem u68 {S' : Nat → Int32} (O : Ob v mi S' (sv s) (svH S s H)) (g : Good S A P) : ∃ mi', pt_Ca 68 [vR 8 (ob v)] (pt_MM mi ml ex) (.inl (some (vI (nI (sv s - 1)))), pt_MM mi' ml ex) ∧ Ob v mi' S (sv s - 1) (svH S s H) ∧ ∀ S2 s2 H2, Ob (!v) mi S2 s2 H2 → Ob (!v) mi' S2 s2 H2 := by
  have hs : sv s = (sv s - 1) + 1 := by unfold sv; split <;> omega
  have hH : svH S s H (sv s - 1) = S := by
    unfold sv svH
    by_cases c : s < 6
    · rw [if_pos c, if_pos c]
      simp
    · rw [if_neg c, if_neg c]
      simp
  rw [hs] at O
  obtain ⟨K, T, n, X, R⟩ := O
  obtain ⟨mi1, c, R1, -⟩ := c68 (ml := pull v ml) (ex := ex) R (by rw [hH]; exact g)
  rw [hH] at R1
  obtain ⟨mi2, c2, h2, h4⟩ := xf c
  refine ⟨mi2, c2, ⟨K, T, n, X, by rw [h2]; exact R1⟩, fun S2 s2 H2 h => h.eq h4.other⟩
end
section
variable {N : Nat} {f : Nat → Int32}
/-- from here the law answers 1 -/
def LW (N : Nat) (f : Nat → Int32) (B pc : Nat) (L : pt_L) (st : List pt_V) (mi : Nat → Nat → Nat → Int32) (ml : Nat → Nat → Nat → Int64) (ex : Nat) : Prop := ∃ mi' ex', pt_Ev 179 (some (N, f)) pc L st (pt_MM mi ml ex) (.inl (some (vI 1)), pt_MM mi' ml ex') ∧ ex' ≤ B
variable {v : Bool} {B pc pc2 z : Nat} {L L2 : pt_L} {st st2 as : List pt_V} {u : pt_V} {mi : Nat → Nat → Nat → Int32} {ml : Nat → Nat → Nat → Int64} {ex : Nat} {S : Nat → Int32} {s s2 : Nat} {H H2 : Nat → Nat → Int32} {A P : Int}
theorem LW.of (h : LW N f B pc2 L2 st2 mi ml ex) (r : ∀ {o}, pt_Ev 179 (some (N, f)) pc2 L2 st2 (pt_MM mi ml ex) o → pt_Ev 179 (some (N, f)) pc L st (pt_MM mi ml ex) o) : LW N f B pc L st mi ml ex := by
  obtain ⟨mi', ex', c, b⟩ := h
  exact ⟨mi', ex', r c, b⟩
theorem LW.lk (c : Lk z as u mi ml ex) (k : ∀ mi1, Fr SK mi mi1 → LW N f B pc2 L2 st2 mi1 ml ex) (r : ∀ {mi1 o}, pt_Ca z as (pt_MM mi ml ex) (.inl (some u), pt_MM mi1 ml ex) → pt_Ev 179 (some (N, f)) pc2 L2 st2 (pt_MM mi1 ml ex) o → pt_Ev 179 (some (N, f)) pc L st (pt_MM mi ml ex) o) : LW N f B pc L st mi ml ex := by
  obtain ⟨mi1, c1, f1⟩ := c
  obtain ⟨mi2, ex2, c2, b⟩ := k mi1 f1
  exact ⟨mi2, ex2, r c1 c2, b⟩
theorem LW.act {r : Rs} (c : Aend v z as mi ml ex S s H r) (k : ∀ mi1 ex1, ex1 ≤ ex + 1 → Pst v mi mi1 S s H r → LW N f B pc2 L2 st2 mi1 ml ex1) (q : ∀ {mi1 ex1 o}, pt_Ca z as (pt_MM mi ml ex) (.inl (some (vI r.1)), pt_MM mi1 ml ex1) → pt_Ev 179 (some (N, f)) pc2 L2 st2 (pt_MM mi1 ml ex1) o → pt_Ev 179 (some (N, f)) pc L st (pt_MM mi ml ex) o) : LW N f B pc L st mi ml ex := by
  obtain ⟨mi1, ex1, c1, b1, p⟩ := c
  obtain ⟨mi2, ex2, c2, b⟩ := k mi1 ex1 b1 p
  exact ⟨mi2, ex2, q c1 c2, b⟩
theorem h170 (hN : N < 2 ^ 31) {e : Nat} (he : e < 56) (M : pt_M) : ∃ w, ∀ mi ml ex, M = pt_MM mi ml ex → pt_Ev 170 (some (N, f)) 0 (pt_ent (pt_maxL 170) [vX true, vI (nI e)]) [] (pt_MM mi ml ex) (.inl (some (vI w)), pt_MM mi ml ex) := by
  by_cases c : Int32.ofNat N ≤ nI e
  · exact ⟨_, fun mi ml ex _ => r170_0 hN (fun _ => r170_12 hN) (fun z => absurd c z)⟩
  · refine ⟨f e, fun mi ml ex _ => r170_0 hN (fun z => absurd z c) (fun _ => r170_6 hN (p1 := e) rfl ?_)⟩
    apply Classical.byContradiction
    intro h
    exact c (nI_le (by omega) (by omega))
abbrev Z10 (e : Nat) (u5 u6 u7 u8 u9 : Option pt_V) : pt_L := [some (vX true), some (vR 8 (ob false)), some (vR 8 (ob true)), some (vR 23 0), some (vI (nI e)), u5, u6, u7, u8, u9]
/-- both hold the row -/
def Both (mi : Nat → Nat → Nat → Int32) (S : Nat → Int32) : Prop := (∃ s H, Ob false mi S s H) ∧ ∃ s H, Ob true mi S s H
theorem Both.fr {mi' : Nat → Nat → Nat → Int32} (h : Both mi S) (q : Fr SK mi mi') : Both mi' S := by
  obtain ⟨⟨s, H, a⟩, s2, H2, b⟩ := h
  exact ⟨⟨s, H, a.fr q⟩, s2, H2, b.fr q⟩
theorem Both.a (h : Both mi S) : Cs false mi S := by
  obtain ⟨⟨s, H, a⟩, -⟩ := h
  exact a.cs
theorem Both.b (h : Both mi S) : Cs true mi S := by
  obtain ⟨-, s, H, a⟩ := h
  exact a.cs
/-- the loop's head -/
def K23 (N : Nat) (f : Nat → Int32) (B e : Nat) (S : Nat → Int32) (ml : Nat → Nat → Nat → Int64) (ex : Nat) : Prop := ∀ mi (u5 u6 u7 u8 u9 : Option pt_V), Both mi S → LW N f B 23 (Z10 e u5 u6 u7 u8 u9) [] mi ml ex
theorem mch (x : Int32) : ∃ m : Nat, m < 2 ∧ (x >>> (6 &&& 31)) &&& 1 = nI m := by
  have h : (x >>> (6 &&& 31)) &&& 1 = 0 ∨ (x >>> (6 &&& 31)) &&& 1 = 1 := by
    generalize x >>> (6 &&& 31) = y
    by_cases c : bt y 0 = true
    · refine Or.inr (b_ext (fun i hi => ?_))
      rw [b_and, bt_one i hi]
      by_cases e : i = 0
      · subst e; rw [c]; rfl
      · simp [e]
    · refine Or.inl (b_ext (fun i hi => ?_))
      rw [b_and, bt_one i hi, b_0]
      by_cases e : i = 0
      · subst e; simp at c; rw [c]; rfl
      · simp [e]
  rcases h with h | h
  · exact ⟨0, by decide, h⟩
  · exact ⟨1, by decide, h⟩
theorem l206 (hN : N < 2 ^ 31) (g : Good S A P) (n : NV S A) (hA : A ≤ 100000) {e : Nat} (he : e < 56) (K : K23 N f B (e + 1) S ml ex) {x x6 x7 x8 : Int32} {u9 : Option pt_V} (h : Both mi S) : LW N f B 206 (Z10 e (some (vI x)) (some (vI x6)) (some (vI x7)) (some (vI x8)) u9) [] mi ml ex := by
  have l244 : ∀ mi, Both mi S → LW N f B 244 (Z10 e (some (vI x)) (some (vI x6)) (some (vI x7)) (some (vI x8)) u9) [] mi ml ex := fun mi h => LW.of (K mi _ _ _ _ _ h) (fun q => r179_244 hN (by rw [← nI_succ]; exact q))
  by_cases c : nI e - nI e / 3 * 3 = 2
  · refine LW.of (pc2 := 214) (L2 := Z10 e (some (vI x)) (some (vI x6)) (some (vI x7)) (some (vI x8)) u9) (st2 := []) ?_ (fun q => r179_206 hN (fun _ => q) (fun z => absurd c z))
    refine LW.lk (h176 (v := false) (ml := ml) (ex := ex) g n.1 hA h.a) (fun mi1 f1 => ?_) (fun h q => r179_214 hN h q)
    have h := h.fr f1
    refine LW.of (pc2 := 221) (L2 := Z10 e (some (vI x)) (some (vI x6)) (some (vI x7)) (some (vI x8)) u9) (st2 := []) ?_ (fun q => r179_218 hN (fun z => absurd z (by decide)) (fun _ => q))
    refine LW.lk (h177 (v := false) (ml := ml) (ex := ex) g n hA h.a) (fun mi1 f1 => ?_) (fun h q => r179_221 hN h q)
    have h := h.fr f1
    refine LW.of (pc2 := 228) (L2 := Z10 e (some (vI x)) (some (vI x6)) (some (vI x7)) (some (vI x8)) u9) (st2 := []) ?_ (fun q => r179_225 hN (fun z => absurd z (by decide)) (fun _ => q))
    obtain ⟨m, hm, em⟩ := mch x
    refine LW.lk (h178 (v := false) (ml := ml) (ex := ex) g n.1 hA hm h.a) (fun mi1 f1 => ?_) (fun h q => r179_228 hN (by rw [em]; exact h) q)
    exact LW.of (l244 mi1 (h.fr f1)) (fun q => r179_239 hN (fun z => absurd z (by decide)) (fun _ => q))
  · exact LW.of (l244 mi h) (fun q => r179_206 hN (fun z => absurd z c) (fun _ => q))
theorem l196 (hN : N < 2 ^ 31) (g : Good S A P) (n : NV S A) (hA : A ≤ 100000) {e : Nat} (he : e < 56) (K : K23 N f B (e + 1) S ml ex) {x x6 x7 x8 : Int32} {u9 : Option pt_V} (h : Both mi S) : LW N f B 196 (Z10 e (some (vI x)) (some (vI x6)) (some (vI x7)) (some (vI x8)) u9) [] mi ml ex := by
  refine LW.lk (h175 (a := false) (b := true) (ml := ml) (ex := ex) h.a h.b g hA) (fun mi1 f1 => ?_) (fun h q => r179_196 hN h q)
  exact LW.of (l206 hN g n hA he K (h.fr f1)) (fun q => r179_201 hN (fun z => absurd z (by decide)) (fun _ => q))
end
