/-! The law: one round, and all. -/
section
variable {N : Nat} {f : Nat → Int32} {B : Nat} {mi : Nat → Nat → Nat → Int32} {ml : Nat → Nat → Nat → Int64} {ex : Nat} {S : Nat → Int32} {s s2 : Nat} {H H2 : Nat → Nat → Int32} {A P : Int}
theorem l171b (hN : N < 2 ^ 31) {e : Nat} (he : e < 56) {x x6 x7 x8 : Int32} {u9 : Option pt_V} {r : Rs} (hr : r = actF S x) (g : Good S A P) (n : NV S A) (hA : A ≤ 90000) (hP : P ≤ 300000000) (K : ∀ S' ex', ex' ≤ ex + 1 → Good S' (A + 1) (P + 5000) → NV S' (A + 1) → K23 N f B (e + 1) S' ml ex')
    (h7 : x7 = r.1) (h8 : r.1 = 0 → x8 = r.2.1) (Oa : (r.1 = 0 ∧ ∃ s H, Ob false mi r.2.2 s H) ∨ (¬ r.1 = 0 ∧ ∃ s H, Ob false mi S s H)) (Ob2 : Ob true mi S s2 H2) : LW N f B 171 (Z10 e (some (vI x)) (some (vI x6)) (some (vI x7)) (some (vI x8)) u9) [] mi ml ex := by
  have gn := gn_act (x := x) g n hA hP
  rw [← hr] at gn
  have c := h174 (x := x) (ml := ml) (ex := ex) Ob2 g (by omega)
  rw [← hr] at c
  refine LW.act c (fun mi1 ex1 hex p => ?_) (fun h q => r179_171 hN h q)
  have ot : ∀ S2 s2 H2, Ob false mi S2 s2 H2 → Ob false mi1 S2 s2 H2 := p.1
  have e7 : r.1 = x7 := h7.symm
  rcases p.2 with ⟨z, t, O1⟩ | ⟨z, O1⟩
  · obtain ⟨g', n'⟩ := gn z
    obtain ⟨-, sa, Ha, Oa⟩ := Oa.resolve_right (fun y => y.1 z)
    have both : Both mi1 r.2.2 := ⟨⟨sa, Ha, ot _ _ _ Oa⟩, _, _, O1⟩
    have q := l196 (x := x) (x6 := x6) (x7 := x7) (x8 := x8) (u9 := u9) hN g' n' (by omega) he (K r.2.2 ex1 (by omega) g' n') both
    have z7 : x7 = 0 := by rw [h7]; exact z
    have t8 : mi1 23 0 0 = x8 := by rw [t, h8 z]
    exact LW.of q (fun q => r179_178 hN (fun _ => r179_183 hN (fun _ => r179_188 hN (fun _ => q) (fun y => absurd t8 y)) (fun y => absurd z7 y)) (fun y => absurd e7 y))
  · obtain ⟨-, sa, Ha, Oa⟩ := Oa.resolve_left (fun y => z y.1)
    have g' : Good S (A + 1) (P + 5000) := g.mono (by omega) (by omega)
    have n' : NV S (A + 1) := n.mono (by omega)
    have both : Both mi1 S := ⟨⟨sa, Ha, ot _ _ _ Oa⟩, _, _, O1⟩
    have q := l196 (x := x) (x6 := x6) (x7 := x7) (x8 := x8) (u9 := u9) hN g' n' (by omega) he (K S ex1 (by omega) g' n') both
    have z7 : ¬ x7 = 0 := by rw [h7]; exact z
    exact LW.of q (fun q => r179_178 hN (fun _ => r179_183 hN (fun y => absurd y z7) (fun _ => q)) (fun y => absurd e7 y))
theorem nI_6 {s : Nat} (h : s ≤ 6) : nI s = 6 ↔ s = 6 := ⟨fun z => nI_inj (by omega) (by decide) z, fun z => by rw [z]; rfl⟩
theorem l62 (hN : N < 2 ^ 31) {e : Nat} (he : e < 56) {x : Int32} {u6 u7 u8 u9 : Option pt_V} (g : Good S A P) (n : NV S A) (hA : A ≤ 90000) (hP : P ≤ 300000000) (K : ∀ S' ex', ex' ≤ ex + 3 → Good S' (A + 1) (P + 5000) → NV S' (A + 1) → K23 N f B (e + 1) S' ml ex')
    (O1 : Ob false mi S s H) (O2 : Ob true mi S s2 H2) : LW N f B 62 (Z10 e (some (vI x)) u6 u7 u8 u9) [vI (nI s)] mi ml ex := by
  have hs := O1.le
  obtain ⟨r, hr⟩ : ∃ r, r = actF S x := ⟨_, rfl⟩
  have gn := gn_act (x := x) g n hA hP
  rw [← hr] at gn
  have c := h174 (x := x) (ml := ml) (ex := ex) O1 g (by omega)
  rw [← hr] at c
  refine LW.act c (fun mi1 ex1 hex p => ?_) (fun h q => r179_62 hN h q)
  have O2 : Ob true mi1 S s2 H2 := p.1 _ _ _ O2
  rcases p.2 with ⟨z, t, Oa⟩ | ⟨z, Oa⟩
  · obtain ⟨g', n'⟩ := gn z
    -- behind the undoing
    have nx : ∀ mi ex1 u9 s3 H3, ex1 ≤ ex + 2 → Ob false mi r.2.2 s3 H3 → Ob true mi S s2 H2 → LW N f B 171 (Z10 e (some (vI x)) (some (vI (nI s))) (some (vI r.1)) (some (vI (mi1 23 0 0))) u9) [] mi ml ex1 := fun mi ex1 u9 s3 H3 hex a b =>
      l171b hN he hr g n hA hP (fun S' ex' h => K S' ex' (by omega)) rfl (fun _ => t) (Or.inl ⟨z, s3, H3, a⟩) b
    by_cases b9 : ((x >>> (9 &&& 31)) &&& 1) = 0
    · refine LW.of (pc2 := 119) (L2 := Z10 e (some (vI x)) (some (vI (nI s))) (some (vI r.1)) (some (vI (mi1 23 0 0))) u9) (st2 := []) ?_ (fun q => r179_71 hN (fun _ => r179_104 hN (fun _ => r179_109 hN (fun _ => q) (fun y => absurd b9 y)) (fun y => absurd z y)) (fun y => absurd z y))
      obtain ⟨mi2, cu, Ou, ot⟩ := u68 (ml := ml) (ex := ex1) Oa g
      have O2 : Ob true mi2 S s2 H2 := ot _ _ _ O2
      have l143 : ∀ x9, LW N f B 143 (Z10 e (some (vI x)) (some (vI (nI s))) (some (vI r.1)) (some (vI (mi1 23 0 0))) (some (vI x9))) [] mi2 ml ex1 := by
        intro x9
        refine LW.lk (h175 (a := false) (b := true) (ml := ml) (ex := ex1) Ou.cs O2.cs g (by omega)) (fun mi3 f3 => ?_) (fun h q => r179_143 hN h q)
        refine LW.of (pc2 := 151) (L2 := Z10 e (some (vI x)) (some (vI (nI s))) (some (vI r.1)) (some (vI (mi1 23 0 0))) (some (vI x9))) (st2 := []) ?_ (fun q => r179_148 hN (fun y => absurd y (by decide)) (fun _ => q))
        have c2 := h174 (x := x) (ml := ml) (ex := ex1) (Ou.fr f3) g (by omega)
        rw [← hr] at c2
        refine LW.act c2 (fun mi4 ex4 hex4 p4 => ?_) (fun h q => r179_151 hN h q)
        rcases p4.2 with ⟨z4, t4, Oa4⟩ | ⟨z4, -⟩
        · have q := nx mi4 ex4 (some (vI x9)) _ _ (by omega) Oa4 (p4.1 _ _ _ (O2.fr f3))
          have e : mi4 23 0 0 = mi1 23 0 0 := by rw [t4, t]
          exact LW.of q (fun q => r179_158 hN (fun _ => r179_161 hN (fun _ => q) (fun y => absurd e y)) (fun y => absurd z y))
        · exact absurd z z4
      have hcu : ∀ {o}, pt_Ev 179 (some (N, f)) 123 (Z10 e (some (vI x)) (some (vI (nI s))) (some (vI r.1)) (some (vI (mi1 23 0 0))) u9) [vI (nI (sv s - 1))] (pt_MM mi2 ml ex1) o → pt_Ev 179 (some (N, f)) 119 (Z10 e (some (vI x)) (some (vI (nI s))) (some (vI r.1)) (some (vI (mi1 23 0 0))) u9) [] (pt_MM mi1 ml ex1) o := fun q => r179_119 hN cu q
      obtain ⟨mi', ex', q, hb⟩ := l143 (nI (sv s - 1))
      refine ⟨mi', ex', hcu ?_, hb⟩
      by_cases c6 : s = 6
      · subst c6
        exact r179_123 hN (fun _ => r179_134 hN (fun _ => q) (fun y => absurd rfl y)) (fun y => absurd rfl y)
      · have e : sv s - 1 = s := by unfold sv; rw [if_pos (by omega)]; omega
        exact r179_123 hN (fun y => absurd ((nI_6 hs).mp y) c6) (fun _ => r179_138 hN (fun _ => q) (fun y => absurd (by rw [e]) y))
    · have q := nx mi1 ex1 u9 _ _ (by omega) Oa O2
      exact LW.of q (fun q => r179_71 hN (fun _ => r179_104 hN (fun _ => r179_109 hN (fun y => absurd y b9) (fun _ => q)) (fun y => absurd z y)) (fun y => absurd z y))
  · refine LW.of (pc2 := 83) (L2 := Z10 e (some (vI x)) (some (vI (nI s))) (some (vI r.1)) (some (vI (mi1 23 0 0))) u9) (st2 := []) ?_ (fun q => r179_71 hN (fun y => absurd y z) (fun _ => q))
    refine LW.lk (h175 (a := false) (b := true) (ml := ml) (ex := ex1) Oa.cs O2.cs g (by omega)) (fun mi3 f3 => ?_) (fun h q => r179_83 hN h q)
    have Oa := Oa.fr f3
    have O2 := O2.fr f3
    refine LW.of (pc2 := 91) (L2 := Z10 e (some (vI x)) (some (vI (nI s))) (some (vI r.1)) (some (vI (mi1 23 0 0))) u9) (st2 := []) ?_ (fun q => r179_88 hN (fun y => absurd y (by decide)) (fun _ => q))
    refine LW.lk (lk10 Oa) (fun mi4 f4 => ?_) (fun h q => r179_91 hN h q)
    have q := l171b (ex := ex1) (x6 := nI s) (x7 := r.1) (x8 := mi1 23 0 0) (u9 := u9) hN he hr g n hA hP (fun S' ex' h => K S' ex' (by omega)) rfl (fun y => absurd y z) (Or.inr ⟨z, _, _, Oa.fr f4⟩) (O2.fr f4)
    exact LW.of q (fun q => r179_97 hN (fun _ => r179_104 hN (fun y => absurd y z) (fun _ => q)) (fun y => absurd rfl y))
theorem l23 (hN : N < 2 ^ 31) {e : Nat} (he : e < 56) (g : Good S A P) (n : NV S A) (hA : A ≤ 90000) (hP : P ≤ 300000000) (K : ∀ S' ex', ex' ≤ ex + 3 → Good S' (A + 1) (P + 5000) → NV S' (A + 1) → K23 N f B (e + 1) S' ml ex') : K23 N f B e S ml ex := by
  intro mi u5 u6 u7 u8 u9 h
  obtain ⟨⟨s, H, O1⟩, s2, H2, O2⟩ := h
  obtain ⟨w, hw⟩ := h170 (f := f) hN he (pt_MM mi ml ex)
  have cell := hw mi ml ex rfl
  have f56 : ¬ (56 : Int32) ≤ nI e := n_lt (n := 56) he (by decide)
  by_cases c3 : (3 : Int32) ≤ nI e
  · refine LW.of (pc2 := 54) (L2 := Z10 e u5 u6 u7 u8 u9) (st2 := [vI w]) ?_ (fun q => r179_23 hN (fun y => absurd y f56) (fun _ => r179_30 hN (fun _ => r179_48 hN cell q) (fun y => absurd c3 y)))
    refine LW.lk (lk10 O1) (fun mi1 f1 => ?_) (fun h q => r179_54 hN h q)
    exact l62 hN he g n hA hP K (O1.fr f1) (O2.fr f1)
  · refine LW.of (pc2 := 42) (L2 := Z10 e u5 u6 u7 u8 u9) (st2 := [vI w]) ?_ (fun q => r179_23 hN (fun y => absurd y f56) (fun _ => r179_30 hN (fun y => absurd y c3) (fun _ => r179_36 hN cell q)))
    refine LW.lk (lk10 O1) (fun mi1 f1 => ?_) (fun h q => r179_42 hN h q)
    exact l62 hN he g n hA hP K (O1.fr f1) (O2.fr f1)
theorem law_all (hN : N < 2 ^ 31) : ∀ (d e : Nat) (S : Nat → Int32) (ex : Nat), e + d = 56 → ex + 3 * d ≤ B → Good S (e : Int) (5000 * (e : Int)) → NV S (e : Int) → K23 N f B e S ml ex := by
  intro d
  induction d with
  | zero =>
    intro e S ex he hb g n mi u5 u6 u7 u8 u9 h
    obtain rfl : e = 56 := by omega
    refine LW.of (pc2 := 250) (L2 := Z10 56 u5 u6 u7 u8 u9) (st2 := []) ?_ (fun q => r179_23 hN (fun _ => q) (fun y => absurd (by decide) y))
    refine LW.lk (h176 (v := false) (ml := ml) (ex := ex) g n.1 (by omega) h.a) (fun mi1 f1 => ?_) (fun h q => r179_250 hN h q)
    exact ⟨mi1, ex, r179_254 hN (Or.inr rfl), by omega⟩
  | succ d ih =>
    intro e S ex he hb g n
    refine l23 hN (by omega) g n (by omega) (by omega) (fun S' ex' hex g' n' => ih (e + 1) S' ex' (by omega) (by omega) ?_ ?_)
    · have e1 : ((e + 1 : Nat) : Int) = (e : Int) + 1 := by omega
      have e2 : (5000 : Int) * ((e + 1 : Nat) : Int) = 5000 * (e : Int) + 5000 := by omega
      rw [e2, e1]; exact g'
    · have e1 : ((e + 1 : Nat) : Int) = (e : Int) + 1 := by omega
      rw [e1]; exact n'
end
