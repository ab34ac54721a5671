/-! The law's look areMachinesSo. -/
theorem nI_z {n : Nat} (h : n < 2 ^ 31) : nI n = 0 ↔ n = 0 := ⟨fun z => nI_inj h (by decide) (z.trans nI_0.symm), fun z => by rw [z]; rfl⟩
theorem im0 : (0 : Int32).toInt = 0 := by decide
section
variable {v : Bool} {ml : Nat → Nat → Nat → Int64} {ex : Nat} {S : Nat → Int32} {A P : Int} {m : Nat} {r : Int32}
theorem gw_I (n : NX S A) {p : Nat} (hp : p < 10) (hh : sHere S p = true) : S (9 * p + 2) = nI (gw S p) ∧ 1 ≤ gw S p ∧ gw S p ≤ 20 := by
  have h := ((n.1 p hp) hh).1
  unfold gw
  exact ⟨nI_tN (by omega), by omega, by omega⟩
/-- the weight in a machine, up to the place i -/
abbrev wUp (S : Nat → Int32) (m i : Nat) : Nat := sg (wt (fun p => sAt S p 1 (nI m)) (gw S)) i
theorem wIn_I (n : NX S A) (m : Nat) : ∀ i, i ≤ 10 → fo (fun p a => if sAt S p 1 (nI m) then a + S (9 * p + 2) else a) i 0 = nI (wUp S m i) := by
  intro i
  induction i with
  | zero => intro _; exact nI_0.symm
  | succ i ih =>
    intro hi
    have e := ih (by omega)
    show (if sAt S i 1 (nI m) = true then fo (fun p a => if sAt S p 1 (nI m) then a + S (9 * p + 2) else a) i 0 + S (9 * i + 2) else fo (fun p a => if sAt S p 1 (nI m) then a + S (9 * p + 2) else a) i 0) = nI (sg _ (i + 1))
    rw [e, sg_s]
    cases h : sAt S i 1 (nI m) with
    | true =>
      rw [if_pos rfl, wt_t h, (gw_I n (by omega) (sAt_t.mp h).1).1, nI_p]
    | false =>
      rw [if_neg (by decide), wt_f h, Nat.add_zero]
theorem wIn_W (n : NX S A) (m : Nat) : sWeightIn S (nI m) = nI (wIn S m) := wIn_I n m 10 (Nat.le_refl _)
theorem wIn_pos (n : NX S A) {p : Nat} (hp : p < 10) (h : sAt S p 1 (nI m) = true) : 0 < wIn S m := by
  unfold wIn
  rw [sg_at 10 hp, wt_t h]
  have := (gw_I n hp (sAt_t.mp h).1).2.1
  omega
/-- all shelves taken -/
theorem full8 (g : Good S A P) (n : NX S A) (h : sFreeShelf S = none) : cnt (fun p => sIn S p 2) 10 = 8 := by
  have all : ∀ j, j < 8 → ∃ p, sShelf S (nI j) = some p := fun j hj => by
    have := fi_none h j hj
    cases hs : sShelf S (nI j) with
    | none => rw [hs] at this; cases this
    | some p => exact ⟨p, rfl⟩
  have gs : ∀ j, j < 8 → ∃ p, sShelf S (nI j) = some p ∧ ((sShelf S (nI j)).getD 0) = p ∧ p < 10 ∧ sAt S p 2 (nI j) = true := fun j hj => by
    obtain ⟨p, hp⟩ := all j hj
    have := fi_lt hp
    exact ⟨p, hp, by rw [hp]; rfl, this.1, this.2⟩
  refine cnt_list (L := fun j => (sShelf S (nI j)).getD 0) (i := 8) (fun j hj => ?_) (fun q hq hQ => ?_) (fun j j' hjj hj' e => ?_)
  · obtain ⟨p, -, e, h1, h2⟩ := gs j hj
    simp only [e]
    obtain ⟨a, b, -⟩ := sAt_t.mp h2
    exact ⟨h1, sIn_t.mpr ⟨a, b⟩⟩
  · obtain ⟨a, b⟩ := sIn_t.mp hQ
    rcases n.st hq a with c | c | ⟨-, ⟨x, hx, c⟩, -⟩
    · exact absurd (c.1.symm.trans b) (by decide)
    · exact absurd (c.1.symm.trans b) (by decide)
    · refine ⟨x, hx, ?_⟩
      have := f_shelf g.1.2.2.1 hq (sAt_t.mpr ⟨a, b, c⟩)
      simp only [this]
      rfl
  · obtain ⟨p, -, e1, -, h1⟩ := gs j (by omega)
    obtain ⟨p', -, e2, -, h2⟩ := gs j' hj'
    simp only [e1, e2] at e
    subst e
    have z := (sAt_t.mp h1).2.2.symm.trans (sAt_t.mp h2).2.2
    have := nI_inj (by omega) (by omega) z
    omega
/-- what is left of a machine's time -/
def zL (S : Nat → Int32) (m : Nat) : Int32 := if S (90 + 3 * m + 1) = -1 then -1 else if S (90 + 3 * m + 1) ≤ S 96 then 0 else S (90 + 3 * m + 1) - S 96
abbrev N8 (v : Bool) (x1 r : Int32) (m : Nat) (u4 u5 u6 u7 : Option pt_V) : pt_L := [some (vR 8 (ob v)), some (vI x1), some (vI r), some (vI (nI m)), u4, u5, u6, u7]
/-- behind the look at one machine -/
def K6 (v : Bool) (S : Nat → Int32) (r : Int32) (m : Nat) (ml : Nat → Nat → Nat → Int64) (ex : Nat) : Prop := ∀ mi (u4 u5 u6 u7 : Option pt_V), Cs v mi S → LE 177 6 (N8 v 1 r m u4 u5 u6 u7) [] (vI 1) mi ml ex
theorem m112 (g : Good S A P) (n : NV S A) (hm : m < 2) (K : K6 v S (mEnd1 (S (90 + 3 * m + 1)) (S 96) r) (m + 1) ml ex) {u7 : Int32} {mi : Nat → Nat → Nat → Int32} (hv : Cs v mi S) :
    LE 177 112 (N8 v 1 r m (some (vI (nI (wIn S m)))) (some (vI (S (90 + 3 * m + 1)))) (some (vI (zL S m))) (some (vI u7))) [] (vI 1) mi ml ex := by
  obtain ⟨n1, n2, n3, n4, n5⟩ := n.1.2.1 m hm
  have ge := g.1.2.2.2.2.1 m hm
  have gb := g.1.2.2.2.2.2 m hm trivial
  have ed := n.2 m hm
  have h96 := g.2.1.2.1
  have hw : wIn S m ≤ 60 := by omega
  refine LE.of (pc2 := 116) (L2 := N8 v 1 r m (some (vI (nI (wIn S m)))) (some (vI (S (90 + 3 * m + 1)))) (some (vI (zL S m))) (some (vI u7))) (st2 := []) ?_ (fun q => r177_112 (fun z => absurd z (by decide)) (fun _ => q))
  refine LE.call (lk71 hv (p := m) (j := 1) hm (by decide)) (fun mi1 f1 => ?_) (fun h q => r177_116 h q)
  have hv := hv.fr f1
  show LE 177 124 _ [vI (sWeightIn S (nI m)), vI (nI (wIn S m))] _ _ _ _
  rw [wIn_W n.1]
  refine LE.of (pc2 := 127) (L2 := N8 v 1 r m (some (vI (nI (wIn S m)))) (some (vI (S (90 + 3 * m + 1)))) (some (vI (zL S m))) (some (vI u7))) (st2 := []) ?_ (fun q => r177_124 (fun _ => q) (fun z => absurd rfl z))
  refine LE.call (lk71 hv (p := m) (j := 0) hm (by decide)) (fun mi2 f2 => ?_) (fun h q => r177_127 h q)
  have hv := hv.fr f2
  show LE 177 135 _ [vI (S (90 + 3 * m + 0)), vI (nI (wIn S m))] _ _ _ _
  refine LE.of (pc2 := 138) (L2 := N8 v 1 r m (some (vI (nI (wIn S m)))) (some (vI (S (90 + 3 * m + 1)))) (some (vI (zL S m))) (some (vI u7))) (st2 := []) ?_ (fun q => r177_135 (fun z => absurd z (by rw [Int32.lt_iff_toInt_lt, nI_toInt (by omega)]; omega)) (fun _ => q))
  by_cases he : S (90 + 3 * m + 1) = -1
  · -- idle
    have no : ∀ p, p < 10 → sAt S p 1 (nI m) = false := by
      rcases ge with z | z
      · exact z.2
      · rw [he, im1] at z; omega
    have w0 : wIn S m = 0 := win_0 no
    have zl : zL S m = -1 := if_pos he
    rw [zl]
    refine LE.of (pc2 := 168) (L2 := N8 v 1 r m (some (vI (nI (wIn S m)))) (some (vI (S (90 + 3 * m + 1)))) (some (vI (-1))) (some (vI u7))) (st2 := []) ?_ (fun q => r177_138 (fun _ => r177_144 (fun _ => r177_154 (fun _ => r177_162 (fun _ => q) (fun z => absurd he z)) (fun z => absurd rfl z)) (fun z => absurd ((nI_z (by omega)).mpr w0) z)) (fun z => absurd he z))
    refine LE.call (lk71 hv (p := m) (j := 2) hm (by decide)) (fun mi3 f3 => ?_) (fun h q => r177_168 h q)
    have hv := hv.fr f3
    show LE 177 174 _ [vI (sColF S (nI m))] _ _ _ _
    rw [f_col0 no]
    refine LE.of (pc2 := 178) (L2 := N8 v 1 r m (some (vI (nI (wIn S m)))) (some (vI (S (90 + 3 * m + 1)))) (some (vI (-1))) (some (vI u7))) (st2 := []) ?_ (fun q => r177_174 (fun _ => q) (fun z => absurd rfl z))
    refine LE.call (lk71 hv (p := m) (j := 3) hm (by decide)) (fun mi4 f4 => ?_) (fun h q => r177_178 h q)
    have hv := hv.fr f4
    show LE 177 184 _ [vI (sPilesIn S (nI m))] _ _ _ _
    rw [f_pin, cnt_zero no]
    refine LE.of (K mi4 _ _ _ _ hv) (fun q => r177_184 (fun _ => r177_187 (fun z => absurd z (by decide)) (fun _ => r177_223 (fun _ => r177_250 (by rw [← nI_succ]; rw [show mEnd1 (S (90 + 3 * m + 1)) (S 96) r = r from if_pos he] at q; exact q)) (fun z => absurd (by decide) z))) (fun z => absurd nI_0 z))
  · -- it runs
    have hr : 0 ≤ (S (90 + 3 * m + 1)).toInt ∧ (S (90 + 3 * m + 1)).toInt < 2 ^ 20 := ge.resolve_left (fun z => he z.1)
    obtain ⟨p, hp, hat⟩ := gb.resolve_left he
    have wp := wIn_pos n.1 hp hat
    have w0 : ¬ nI (wIn S m) = 0 := fun z => by have := (nI_z (by omega)).mp z; omega
    have ld := n3.resolve_left he
    refine LE.of (pc2 := 190) (L2 := N8 v 1 r m (some (vI (nI (wIn S m)))) (some (vI (S (90 + 3 * m + 1)))) (some (vI (zL S m))) (some (vI u7))) (st2 := []) ?_ (fun q => r177_138 (fun z => absurd z he) (fun _ => r177_148 (fun z => absurd z w0) (fun _ => r177_158 (fun _ => r177_162 (fun z => absurd z he) (fun _ => q)) (fun z => absurd rfl z))))
    refine LE.call (lk71 hv (p := m) (j := 3) hm (by decide)) (fun mi3 f3 => ?_) (fun h q => r177_190 h q)
    have hv := hv.fr f3
    show LE 177 196 _ [vI (sPilesIn S (nI m))] _ _ _ _
    rw [f_pin]
    have cp : 0 < cnt (fun p => sAt S p 1 (nI m)) 10 := cnt_pos hp hat
    have c10 : cnt (fun p => sAt S p 1 (nI m)) 10 ≤ 10 := cnt_le _ 10
    refine LE.of (pc2 := 199) (L2 := N8 v 1 r m (some (vI (nI (wIn S m)))) (some (vI (S (90 + 3 * m + 1)))) (some (vI (zL S m))) (some (vI u7))) (st2 := []) ?_ (fun q => r177_196 (fun z => absurd z (by rw [Int32.le_iff_toInt_le, nI_toInt (by omega), im0]; omega)) (fun _ => q))
    refine LE.call (lk71 hv (p := m) (j := 5) hm (by decide)) (fun mi4 f4 => ?_) (fun h q => r177_199 h q)
    have hv := hv.fr f4
    show LE 177 205 _ [vI (S (90 + 3 * m + 2))] _ _ _ _
    refine LE.of (pc2 := 208) (L2 := N8 v 1 r m (some (vI (nI (wIn S m)))) (some (vI (S (90 + 3 * m + 1)))) (some (vI (zL S m))) (some (vI u7))) (st2 := []) ?_ (fun q => r177_205 (fun z => absurd z (by rw [Int32.le_iff_toInt_le, im0]; omega)) (fun _ => q))
    -- the last: the ends
    have zn : ¬ zL S m < 0 ∧ zL S m = mLeft (S (90 + 3 * m + 1) - S 96) := by
      have sb : (S (90 + 3 * m + 1) - S 96).toInt = (S (90 + 3 * m + 1)).toInt - (S 96).toInt := sb32 (by omega) (by omega)
      unfold zL mLeft
      rw [if_neg he]
      by_cases c : S (90 + 3 * m + 1) ≤ S 96
      · rw [if_pos c]
        refine ⟨by decide, ?_⟩
        rw [Int32.le_iff_toInt_le] at c
        by_cases d : (0 : Int32) ≤ S (90 + 3 * m + 1) - S 96
        · rw [if_pos d]
          rw [Int32.le_iff_toInt_le, im0] at d
          apply Int32.toInt_inj.mp
          rw [im0]; omega
        · rw [if_neg d]
      · rw [if_neg c]
        rw [Int32.le_iff_toInt_le] at c
        have d : (0 : Int32) ≤ S (90 + 3 * m + 1) - S 96 := by rw [Int32.le_iff_toInt_le, im0]; omega
        exact ⟨le_nlt.mp d, (if_pos d).symm⟩
    have l223 : ∀ mi u4, Cs v mi S → LE 177 223 (N8 v 1 r m (some (vI u4)) (some (vI (S (90 + 3 * m + 1)))) (some (vI (zL S m))) (some (vI u7))) [] (vI 1) mi ml ex := by
      intro mi u4 hv
      have k := K mi (some (vI u4)) (some (vI (S (90 + 3 * m + 1)))) (some (vI (zL S m))) (some (vI u7)) hv
      have e0 : mEnd1 (S (90 + 3 * m + 1)) (S 96) r = if r = -1 then zL S m else if r ≤ zL S m then r else zL S m := by
        rw [zn.2]
        unfold mEnd1
        rw [if_neg he]
      rw [e0] at k
      by_cases c1 : r = -1
      · rw [if_pos c1] at k
        exact LE.of k (fun q => r177_223 (fun z => absurd z zn.1) (fun _ => r177_234 (fun _ => r177_245 (by rw [← nI_succ]; exact q)) (fun z => absurd c1 z)))
      · rw [if_neg c1] at k
        by_cases c2 : r ≤ zL S m
        · rw [if_pos c2] at k
          exact LE.of k (fun q => r177_223 (fun z => absurd z zn.1) (fun _ => r177_234 (fun z => absurd z c1) (fun _ => r177_239 (fun _ => r177_250 (by rw [← nI_succ]; exact q)) (fun z => absurd c2 z))))
        · rw [if_neg c2] at k
          exact LE.of k (fun q => r177_223 (fun z => absurd z zn.1) (fun _ => r177_234 (fun z => absurd z c1) (fun _ => r177_239 (fun z => absurd z c2) (fun _ => r177_245 (by rw [← nI_succ]; exact q)))))
    by_cases c : zL S m = 0
    · refine LE.of (pc2 := 213) (L2 := N8 v 1 r m (some (vI (nI (wIn S m)))) (some (vI (S (90 + 3 * m + 1)))) (some (vI (zL S m))) (some (vI u7))) (st2 := []) ?_ (fun q => r177_208 (fun _ => q) (fun z => absurd c z))
      refine LE.call (lk73 hv (j := 4) (by decide)) (fun mi5 f5 => ?_) (fun h q => r177_213 h q)
      have hv := hv.fr f5
      show LE 177 218 _ [vI (sMany S 2)] _ _ _ _
      have fr : sFreeShelf S = none := by
        rcases ed with z | z | z
        · exact absurd z he
        · exfalso
          rw [zn.2] at c
          have sb : (S (90 + 3 * m + 1) - S 96).toInt = (S (90 + 3 * m + 1)).toInt - (S 96).toInt := sb32 (by omega) (by omega)
          unfold mLeft at c
          rw [if_pos (by rw [Int32.le_iff_toInt_le, im0]; omega)] at c
          rw [c, im0] at sb
          omega
        · exact z
      rw [f_many, full8 g n.1 fr]
      exact LE.of (l223 mi5 _ hv) (fun q => r177_218 (fun _ => q) (fun z => absurd (by decide) z))
    · exact LE.of (l223 mi4 _ hv) (fun q => r177_208 (fun z => absurd z c) (fun _ => q))
/-- the loop over the places -/
theorem m59 (g : Good S A P) (n : NV S A) (hA : A ≤ 100000) (hm : m < 2) (K : K6 v S (mEnd1 (S (90 + 3 * m + 1)) (S 96) r) (m + 1) ml ex) :
    ∀ d i mi, i + d = 10 → Cs v mi S → LE 177 59 (N8 v 1 r m (some (vI (nI (wUp S m i)))) (some (vI (S (90 + 3 * m + 1)))) (some (vI (zL S m))) (some (vI (nI i)))) [] (vI 1) mi ml ex := by
  have G := g.GO hA
  intro d
  induction d with
  | zero =>
    intro i mi hi hv
    obtain rfl : i = 10 := by omega
    exact LE.of (m112 g n hm K hv) (fun q => r177_59 (fun _ => q) (fun z => absurd n10_le' z))
  | succ d ih =>
    intro i mi hi hv
    have hi10 : i < 10 := by omega
    have no : sAt S i 1 (nI m) = false → ∀ mi, Cs v mi S → LE 177 102 (N8 v 1 r m (some (vI (nI (wUp S m i)))) (some (vI (S (90 + 3 * m + 1)))) (some (vI (zL S m))) (some (vI (nI i)))) [vI (nI (wUp S m i))] (vI 1) mi ml ex := fun h mi hv => by
      have q := ih (i + 1) mi (by omega) hv
      rw [show wUp S m (i + 1) = wUp S m i from by unfold wUp; rw [sg_s, wt_f h, Nat.add_zero]] at q
      exact LE.of q (fun q => r177_102 (by rw [a0, ← nI_succ]; exact q))
    refine LE.of (pc2 := 66) (L2 := N8 v 1 r m (some (vI (nI (wUp S m i)))) (some (vI (S (90 + 3 * m + 1)))) (some (vI (zL S m))) (some (vI (nI i)))) (st2 := []) ?_ (fun q => r177_59 (fun z => absurd z (n10_le hi10)) (fun _ => q))
    refine LE.call (lk69 hv G (p := i) (j := 6) hi10 (by decide)) (fun mi1 f1 => ?_) (fun h q => r177_66 h q)
    have hv := hv.fr f1
    by_cases c1 : mOf S i 6 = 1
    · have hh : sHere S i = true := by
        cases hh : sHere S i with
        | true => rfl
        | false => rw [mOf_f hh] at c1; exact absurd c1 (by decide)
      refine LE.of (pc2 := 80) (L2 := N8 v 1 r m (some (vI (nI (wUp S m i)))) (some (vI (S (90 + 3 * m + 1)))) (some (vI (zL S m))) (some (vI (nI i)))) (st2 := [vI (nI (wUp S m i))]) ?_ (fun q => r177_76 (fun _ => q) (fun z => absurd c1 z))
      rw [mOf_t hh (by decide)] at c1
      refine LE.call (lk69 hv G (p := i) (j := 7) hi10 (by decide)) (fun mi2 f2 => ?_) (fun h q => r177_80 h q)
      have hv := hv.fr f2
      rw [mOf_t hh (by decide)]
      by_cases c2 : S (9 * i + 7) = nI m
      · refine LE.of (pc2 := 92) (L2 := N8 v 1 r m (some (vI (nI (wUp S m i)))) (some (vI (S (90 + 3 * m + 1)))) (some (vI (zL S m))) (some (vI (nI i)))) (st2 := [vI (nI (wUp S m i))]) ?_ (fun q => r177_88 (fun _ => q) (fun z => absurd c2 z))
        refine LE.call (lk69 hv G (p := i) (j := 2) hi10 (by decide)) (fun mi3 f3 => ?_) (fun h q => r177_92 h q)
        have hv := hv.fr f3
        rw [mOf_t hh (by decide)]
        have h : sAt S i 1 (nI m) = true := sAt_t.mpr ⟨hh, c1, c2⟩
        have q := ih (i + 1) mi3 (by omega) hv
        rw [show wUp S m (i + 1) = wUp S m i + gw S i from by unfold wUp; rw [sg_s, wt_t h]] at q
        exact LE.of q (fun q => r177_99 (by rw [(gw_I n.1 hi10 hh).1, nI_p, ← nI_succ]; exact q))
      · refine LE.of (no ?_ mi2 hv) (fun q => r177_88 (fun z => absurd z c2) (fun _ => q))
        unfold sAt
        rw [show decide (S (9 * i + 7) = nI m) = false from by simp [c2], Bool.and_false, Bool.and_false]
    · refine LE.of (no ?_ mi1 hv) (fun q => r177_76 (fun z => absurd z c1) (fun _ => q))
      unfold sAt
      cases hh : sHere S i with
      | false => rfl
      | true =>
        rw [mOf_t hh (by decide)] at c1
        rw [show decide (S (9 * i + 6) = 1) = false from by simp [c1], Bool.false_and, Bool.and_false]
theorem m6 (g : Good S A P) (n : NV S A) (hA : A ≤ 100000) (hm : m < 2) (K : K6 v S (mEnd1 (S (90 + 3 * m + 1)) (S 96) r) (m + 1) ml ex) : K6 v S r m ml ex := by
  intro mi u4 u5 u6 u7 hv
  have l59 := fun mi hv => m59 (r := r) g n hA hm K 10 0 mi rfl hv
  have h96 := g.2.1.2.1
  refine LE.of (pc2 := 11) (L2 := N8 v 1 r m u4 u5 u6 u7) (st2 := []) ?_ (fun q => r177_6 (fun z => absurd z (n_lt (n := 2) hm (by decide))) (fun _ => q))
  refine LE.call (lk71 hv (p := m) (j := 4) hm (by decide)) (fun mi1 f1 => ?_) (fun h q => r177_11 h q)
  have hv := hv.fr f1
  show LE 177 20 _ [vI (S (90 + 3 * m + 1))] _ _ _ _
  by_cases he : S (90 + 3 * m + 1) = -1
  · have q := l59 mi1 hv
    rw [show zL S m = -1 from if_pos he] at q
    exact LE.of q (fun q => r177_20 (fun _ => r177_28 q) (fun z => absurd he z))
  · refine LE.of (pc2 := 32) (L2 := N8 v 1 r m (some (vI 0)) (some (vI (S (90 + 3 * m + 1)))) u6 u7) (st2 := []) ?_ (fun q => r177_20 (fun z => absurd z he) (fun _ => q))
    refine LE.call (lk73 hv (j := 0) (by decide)) (fun mi2 f2 => ?_) (fun h q => r177_32 h q)
    have hv := hv.fr f2
    show LE 177 39 _ [vI (S 96), vI (S (90 + 3 * m + 1))] _ _ _ _
    by_cases c : S (90 + 3 * m + 1) ≤ S 96
    · have q := l59 mi2 hv
      rw [show zL S m = 0 from (if_neg he).trans (if_pos c)] at q
      exact LE.of q (fun q => r177_39 (fun _ => r177_53 q) (fun z => absurd c z))
    · refine LE.of (pc2 := 42) (L2 := N8 v 1 r m (some (vI 0)) (some (vI (S (90 + 3 * m + 1)))) u6 u7) (st2 := []) ?_ (fun q => r177_39 (fun z => absurd z c) (fun _ => q))
      refine LE.call (lk73 hv (j := 0) (by decide)) (fun mi3 f3 => ?_) (fun h q => r177_42 h q)
      have hv := hv.fr f3
      have q := l59 mi3 hv
      rw [show zL S m = S (90 + 3 * m + 1) - S 96 from (if_neg he).trans (if_neg c)] at q
      exact LE.of q (fun q => r177_49 q)
theorem h177 {mi : Nat → Nat → Nat → Int32} (g : Good S A P) (n : NV S A) (hA : A ≤ 100000) (hv : Cs v mi S) : Lk 177 [vR 8 (ob v)] (vI 1) mi ml ex := by
  have last : K6 v S (mEnd S) 2 ml ex := fun mi u4 u5 u6 u7 hv => by
    refine LE.of (pc2 := 262) (L2 := N8 v 1 (mEnd S) 2 u4 u5 u6 u7) (st2 := []) ?_ (fun q => r177_6 (fun _ => r177_258 (fun z => absurd z (by decide)) (fun _ => q)) (fun z => absurd (by decide) z))
    refine LE.call (lk77 hv) (fun mi1 f1 => ?_) (fun h q => r177_262 h q)
    rw [g.ends]
    exact LE.ret (r177_266 (fun _ => r177_270) (fun z => absurd rfl z))
  have k1 : K6 v S (mEnd1 (S 91) (S 96) (-1)) 1 ml ex := m6 (m := 1) g n hA (by decide) last
  have k0 : K6 v S (-1) 0 ml ex := m6 (m := 0) g n hA (by decide) k1
  exact LE.lk (LE.of (k0 mi none none none none hv) (fun q => r177_0 q))
end
