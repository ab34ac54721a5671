/-! The law's looks: both objects are alike. -/
/-- from here the method y ends with w, nothing changed but what is scribbled upon -/
def LE (y pc : Nat) (L : pt_L) (st : List pt_V) (w : pt_V) (mi : Nat → Nat → Nat → Int32) (ml : Nat → Nat → Nat → Int64) (ex : Nat) : Prop := ∃ mi', pt_Ev y none pc L st (pt_MM mi ml ex) (.inl (some w), pt_MM mi' ml ex) ∧ Fr SK mi mi'
section
variable {y pc pc2 z : Nat} {L L2 : pt_L} {st st2 as : List pt_V} {w u : pt_V} {mi : Nat → Nat → Nat → Int32} {ml : Nat → Nat → Nat → Int64} {ex : Nat}
theorem LE.of (h : LE y pc2 L2 st2 w mi ml ex) (r : ∀ {o}, pt_Ev y none pc2 L2 st2 (pt_MM mi ml ex) o → pt_Ev y none pc L st (pt_MM mi ml ex) o) : LE y pc L st w mi ml ex := by
  obtain ⟨mi', c, f⟩ := h
  exact ⟨mi', r c, f⟩
theorem LE.call (c : Lk z as u mi ml ex) (k : ∀ mi1, Fr SK mi mi1 → LE y pc2 L2 st2 w mi1 ml ex) (r : ∀ {mi1 o}, pt_Ca z as (pt_MM mi ml ex) (.inl (some u), pt_MM mi1 ml ex) → pt_Ev y none pc2 L2 st2 (pt_MM mi1 ml ex) o → pt_Ev y none pc L st (pt_MM mi ml ex) o) : LE y pc L st w mi ml ex := by
  obtain ⟨mi1, c1, f1⟩ := c
  obtain ⟨mi2, c2, f2⟩ := k mi1 f1
  exact ⟨mi2, r c1 c2, f1.tr f2⟩
theorem LE.ret (h : pt_Ev y none pc L st (pt_MM mi ml ex) (.inl (some w), pt_MM mi ml ex)) : LE y pc L st w mi ml ex := ⟨mi, h, Fr.rfl'⟩
theorem LE.lk (h : LE y 0 (pt_ent (pt_maxL y) as) [] w mi ml ex) : Lk y as w mi ml ex := h
end
theorem k_11 : ∀ k, k < 110 → nI k / 11 = nI (k / 11) ∧ nI k - nI k / 11 * 11 = nI (k % 11) := by decide +kernel
theorem k_6 : ∀ k, k < 12 → nI k / 6 = nI (k / 6) ∧ nI k - nI k / 6 * 6 = nI (k % 6) := by decide +kernel
theorem n_lt {k n : Nat} (h : k < n) (hn : n < 2 ^ 31) : ¬ nI n ≤ nI k := nI_ge h hn
theorem sh_cmp {x : UInt64} (h : ShOk x) : Op.cmpValue (FP.dcmp x x) .l = 0 := by rw [h.self]; rfl
section
variable {a b : Bool} {mi : Nat → Nat → Nat → Int32} {ml : Nat → Nat → Nat → Int64} {ex : Nat} {S : Nat → Int32} {A P : Int}
theorem h175 (ha : Cs a mi S) (hb : Cs b mi S) (g : Good S A P) (hA : A ≤ 100000) : Lk 175 [vR 8 (ob a), vR 8 (ob b)] (vI 1) mi ml ex := by
  have G := g.GO hA
  have l3 : ∀ d k mi, k + d = 12 → Cs a mi S → Cs b mi S → LE 175 134 [some (vR 8 (ob a)), some (vR 8 (ob b)), some (vI 1), some (vI (nI k))] [] (vI 1) mi ml ex := by
    intro d
    induction d with
    | zero =>
      intro k mi hk _ _
      obtain rfl : k = 12 := by omega
      exact LE.ret (r175_134 (fun _ => r175_183 (Or.inr rfl)) (fun c => absurd (by decide) c))
    | succ d ih =>
      intro k mi hk ha hb
      obtain ⟨e1, e2⟩ := k_6 k (by omega)
      refine LE.of (pc2 := 144) (L2 := [some (vR 8 (ob a)), some (vR 8 (ob b)), some (vI 1), some (vI (nI k))]) (st2 := []) ?_ (fun q => r175_134 (fun c => absurd c (n_lt (n := 12) (by omega) (by decide))) (fun _ => r175_140 (fun z => absurd z (by decide)) (fun _ => q)))
      refine LE.call (lk71 ha (p := k / 6) (j := k % 6) (by omega) (by omega)) (fun mi1 f1 => ?_) (fun h q => r175_144 (by rw [e2, e1]; exact h) q)
      refine LE.call (lk71 (hb.fr f1) (p := k / 6) (j := k % 6) (by omega) (by omega)) (fun mi2 f2 => ?_) (fun h q => r175_156 (by rw [e2, e1]; exact h) q)
      refine LE.of (ih (k + 1) mi2 (by omega) ((ha.fr f1).fr f2) ((hb.fr f1).fr f2)) (fun q => r175_168 (fun _ => r175_171 (by rw [← nI_succ]; exact q)) (fun z => absurd rfl z))
  have l2 : ∀ d k mi, k + d = 110 → Cs a mi S → Cs b mi S → LE 175 83 [some (vR 8 (ob a)), some (vR 8 (ob b)), some (vI 1), some (vI (nI k))] [] (vI 1) mi ml ex := by
    intro d
    induction d with
    | zero =>
      intro k mi hk ha hb
      obtain rfl : k = 110 := by omega
      exact LE.of (l3 12 0 mi rfl ha hb) (fun q => r175_83 (fun _ => r175_132 q) (fun c => absurd (by decide) c))
    | succ d ih =>
      intro k mi hk ha hb
      obtain ⟨e1, e2⟩ := k_11 k (by omega)
      refine LE.of (pc2 := 93) (L2 := [some (vR 8 (ob a)), some (vR 8 (ob b)), some (vI 1), some (vI (nI k))]) (st2 := []) ?_ (fun q => r175_83 (fun c => absurd c (n_lt (n := 110) (by omega) (by decide))) (fun _ => r175_89 (fun z => absurd z (by decide)) (fun _ => q)))
      refine LE.call (lk69 ha G (p := k / 11) (j := k % 11) (by omega) (by omega)) (fun mi1 f1 => ?_) (fun h q => r175_93 (by rw [e2, e1]; exact h) q)
      refine LE.call (lk69 (hb.fr f1) G (p := k / 11) (j := k % 11) (by omega) (by omega)) (fun mi2 f2 => ?_) (fun h q => r175_105 (by rw [e2, e1]; exact h) q)
      refine LE.of (ih (k + 1) mi2 (by omega) ((ha.fr f1).fr f2) ((hb.fr f1).fr f2)) (fun q => r175_117 (fun _ => r175_120 (by rw [← nI_succ]; exact q)) (fun z => absurd rfl z))
  have l1 : ∀ d k mi, k + d = 10 → Cs a mi S → Cs b mi S → LE 175 46 [some (vR 8 (ob a)), some (vR 8 (ob b)), some (vI 1), some (vI (nI k))] [] (vI 1) mi ml ex := by
    intro d
    induction d with
    | zero =>
      intro k mi hk ha hb
      obtain rfl : k = 10 := by omega
      exact LE.of (l2 110 0 mi rfl ha hb) (fun q => r175_46 (fun _ => r175_81 q) (fun c => absurd n10_le' c))
    | succ d ih =>
      intro k mi hk ha hb
      refine LE.of (pc2 := 56) (L2 := [some (vR 8 (ob a)), some (vR 8 (ob b)), some (vI 1), some (vI (nI k))]) (st2 := []) ?_ (fun q => r175_46 (fun c => absurd c (n10_le (by omega))) (fun _ => r175_52 (fun z => absurd z (by decide)) (fun _ => q)))
      refine LE.call (lk73 ha (j := k) (by omega)) (fun mi1 f1 => ?_) (fun h q => r175_56 h q)
      refine LE.call (lk73 (hb.fr f1) (j := k) (by omega)) (fun mi2 f2 => ?_) (fun h q => r175_61 h q)
      refine LE.of (ih (k + 1) mi2 (by omega) ((ha.fr f1).fr f2) ((hb.fr f1).fr f2)) (fun q => r175_66 (fun _ => r175_69 (by rw [← nI_succ]; exact q)) (fun z => absurd rfl z))
  refine LE.lk ?_
  refine LE.call (lk79 ha g.2.2) (fun mi1 f1 => ?_) (fun h q => r175_0 h q)
  have ha := ha.fr f1
  have hb := hb.fr f1
  refine LE.call (lk79 hb g.2.2) (fun mi2 f2 => ?_) (fun h q => r175_4 h q)
  have ha := ha.fr f2
  have hb := hb.fr f2
  refine LE.of (pc2 := 12) (L2 := [some (vR 8 (ob a)), some (vR 8 (ob b)), none, none]) (st2 := []) ?_ (fun q => r175_8 (fun _ => q) (fun z => absurd (sh_cmp (shW_ok g.2.2)) z))
  refine LE.call (lk74 ha (p := 0) (by decide)) (fun mi3 f3 => ?_) (fun h q => r175_12 h q)
  have ha := ha.fr f3
  have hb := hb.fr f3
  refine LE.call (lk74 hb (p := 0) (by decide)) (fun mi4 f4 => ?_) (fun h q => r175_17 h q)
  have ha := ha.fr f4
  have hb := hb.fr f4
  refine LE.of (pc2 := 25) (L2 := [some (vR 8 (ob a)), some (vR 8 (ob b)), none, none]) (st2 := []) ?_ (fun q => r175_22 (fun _ => q) (fun z => absurd rfl z))
  refine LE.call (lk74 ha (p := 1) (by decide)) (fun mi5 f5 => ?_) (fun h q => r175_25 h q)
  have ha := ha.fr f5
  have hb := hb.fr f5
  refine LE.call (lk74 hb (p := 1) (by decide)) (fun mi6 f6 => ?_) (fun h q => r175_30 h q)
  have ha := ha.fr f6
  have hb := hb.fr f6
  exact LE.of (l1 10 0 mi6 rfl ha hb) (fun q => r175_35 (fun _ => r175_38 q) (fun z => absurd rfl z))
end
