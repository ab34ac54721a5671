/-! The class: changing calls. -/
theorem le_nlt {x y : Int32} : x ≤ y ↔ ¬ y < x := by
  rw [Int32.lt_iff_toInt_lt, Int32.le_iff_toInt_le]; omega
def okT (x1 x2 x3 x4 : Int32) : Bool := sIn3 x1 0 3 && (sIn3 x2 1 20 && (sIn3 x3 1 60 && sIn3 x4 1 999))
theorem okT_t {x1 x2 x3 x4 : Int32} : okT x1 x2 x3 x4 = true ↔ (¬ x1 < 0 ∧ ¬ 3 < x1) ∧ (¬ x2 < 1 ∧ ¬ 20 < x2) ∧ (¬ x3 < 1 ∧ ¬ 60 < x3) ∧ (¬ x4 < 1 ∧ ¬ 999 < x4) := by
  rw [okT, Bool.and_eq_true, Bool.and_eq_true, Bool.and_eq_true, sIn3_t, sIn3_t, sIn3_t, sIn3_t]
/-- a pile handed out: the reason or the fee and 10; the row -/
def sTaken (S : Nat → Int32) (p : Nat) : Nat → Int32 := up1 (up1 (up1 S (9 * p + 0) (-1)) 101 (S 101 + mFee S p)) 99 (S 99 + 1)
def sGive (S : Nat → Int32) (t x : Int32) : Int32 × (Nat → Int32) := match sShelf S x with
  | none => (1, sRef S)
  | some p => if S (9 * p + 0) = t then (mFee S p + 10, (sAll (sTaken S p)).1) else (2, sRef S)
theorem sGive_0 {S : Nat → Int32} {t x : Int32} (h : sShelf S x = none) : sGive S t x = (1, sRef S) := by unfold sGive; rw [h]
theorem sGive_1 {S : Nat → Int32} {t x : Int32} {p : Nat} (h : sShelf S x = some p) (e : S (9 * p + 0) = t) : sGive S t x = (mFee S p + 10, (sAll (sTaken S p)).1) := by unfold sGive; rw [h]; exact if_pos e
theorem sGive_2 {S : Nat → Int32} {t x : Int32} {p : Nat} (h : sShelf S x = some p) (e : ¬ S (9 * p + 0) = t) : sGive S t x = (2, sRef S) := by unfold sGive; rw [h]; exact if_neg e
/-- minutes gone by -/
def sMin (a : (Nat → Int32) × Int32) : (Nat → Int32) × Int32 := ((sAll (up1 a.1 96 (a.1 96 + 1))).1, a.2 + (sAll (up1 a.1 96 (a.1 96 + 1))).2)
def sPass (S : Nat → Int32) (k : Nat) : (Nat → Int32) × Int32 := fo (fun _ a => sMin a) k (S, 0)
def fits (x1 x2 : Int32) : Bool := if x1 = 0 then sIn3 x2 1 9 else sIn3 x2 0 1
section
variable {mi : Nat → Nat → Nat → Int32} {ml : Nat → Nat → Nat → Int64} {ex : Nat} {S : Nat → Int32} {s : Nat} {H : Nat → Nat → Int32} {K : Nat → Bool} {T : Nat → Nat → Int32} {n : Nat} {X : Nat → Int32} {A P : Int}
theorem c54t {x1 x2 x3 x4 x5 : Int32} (h : okT x1 x2 x3 x4 = false) : pt_Ca 54 [vR 8 0, vI x1, vI x2, vI x3, vI x4, vI x5] (pt_MEM mi ml ex) (.inr 1, pt_MEM mi ml (ex + 1)) := by
  refine r54_0 (fun _ => r54_9) (fun a1 => r54_4 (fun a2 => r54_19 (fun _ => r54_30) (fun b1 => r54_24 (fun b2 => r54_40 (fun _ => r54_51) (fun c1 => r54_45 (fun c2 => r54_61 (fun _ => r54_75) (fun d1 => r54_67 (fun d2 => ?_) (fun _ => r54_75))) (fun _ => r54_51))) (fun _ => r54_30))) (fun _ => r54_9))
  rw [okT_t.mpr ⟨⟨a1, le_nlt.mp a2⟩, ⟨b1, le_nlt.mp b2⟩, ⟨c1, le_nlt.mp c2⟩, d1, le_nlt.mp d2⟩] at h
  exact absurd h (by decide)
theorem c54 {x1 x2 x3 x4 x5 : Int32} (R : RC mi S s H K T n X) (g : Good S A P) (h : okT x1 x2 x3 x4 = true) (h5 : x5 = 0 ∨ x5 = 1) : ∃ mi', pt_Ca 54 [vR 8 0, vI x1, vI x2, vI x3, vI x4, vI x5] (pt_MEM mi ml ex) (.inl (some (vI (sTakes S x1 x2 x3 x4 x5).1)), pt_MEM mi' ml ex) ∧ RC mi' (sTakes S x1 x2 x3 x4 x5).2 (sv s) (svH S s H) K T n X ∧ Fr CK mi mi' := by
  obtain ⟨⟨a1, a2⟩, ⟨b1, b2⟩, ⟨c1, c2⟩, d1, d2⟩ := okT_t.mp h
  obtain ⟨m1, q1, q2, q3⟩ := c5 (ml := ml) (ex := ex) R (fun p hp => (g.1.1 p hp).1)
  obtain ⟨w, m2, w1, w2, w3⟩ := c9 (mi := m1) (ml := ml) (ex := ex) (h := 0) (x1 := x1) (x2 := x2) (x3 := x3) (x4 := x4) (x5 := x5) (by decide) h5
  rw [q2.1] at w2 w3
  rw [w2] at w1
  have r := q2.hx w3
  exact ⟨m2, r54_0 (fun c => absurd c a1) (fun _ => r54_4 (fun _ => r54_19 (fun c => absurd c b1) (fun _ => r54_24 (fun _ => r54_40 (fun c => absurd c c1) (fun _ => r54_45 (fun _ => r54_61 (fun c => absurd c d1) (fun _ => r54_67 (fun _ => r54_85 q1 (r54_96 w1 r54_110)) (fun c => absurd (le_nlt.mpr d2) c))) (fun c => absurd (le_nlt.mpr c2) c))) (fun c => absurd (le_nlt.mpr b2) c))) (fun c => absurd (le_nlt.mpr a2) c)), r.1, q3.tr r.2⟩
theorem c11 {t x : Int32} {h : Nat} (hh : h < 9) (g5 : ∀ p, p < 10 → cs mi h (9 * p + 5) = 0 ∨ cs mi h (9 * p + 5) = 1) : ∃ mi', pt_Ca 11 [vR 2 h, vI t, vI x] (pt_MEM mi ml ex) (.inl (some (vI (sGive (cs mi h) t x).1)), pt_MEM mi' ml ex) ∧ HX mi mi' h (sGive (cs mi h) t x).2 := by
  have call := c12 (mi := mi) (ml := ml) (ex := ex) (x := x) hh
  have hr : HX mi (pt_up3 mi 2 h 9 ((mi 2 h 9) + 1)) h (sRef (cs mi h)) := HX.refl.wh (k := 102) (by decide)
  cases hf : sShelf (cs mi h) x with
  | none =>
    rw [hf] at call
    rw [sGive_0 hf]
    exact ⟨_, r11_0 call (r11_5 (fun _ => r11_24 (fun _ => r11_39) (fun c => absurd rfl c)) (fun c => absurd rfl c)), hr⟩
  | some p =>
    rw [hf] at call
    have hp : p < 10 := (fi_lt hf).1
    have hne : ¬ oI (some p) = -1 := oI_ne rfl (fun q' hq' => sShelf_lt q' (hf.trans hq'))
    have e0 := cs_p mi h hp (j := 0) (by decide)
    by_cases e : cs mi h (9 * p + 0) = t
    · rw [sGive_1 hf e]
      have fee := c35 (mi := mi) (ml := ml) (ex := ex) (h := h) (pr := mi 10 h 0) hp
      rw [show sFee (cs mi h) (mi 10 h 0) p = mFee (cs mi h) p from sFee_mFee (g5 p hp)] at fee
      have e2 : ∀ (f : Nat → Nat → Nat → Int32) (q j n' j' : Nat) (v : Int32), pt_up3 f 5 q j v 2 n' j' = f 2 n' j' := fun f q j n' j' v => up3_c _ _ (by decide)
      have e3 : ∀ (f : Nat → Nat → Nat → Int32) (v : Int32), pt_up3 f 2 h 8 v 2 h 5 = f 2 h 5 := fun f v => up3_j _ _ (by decide)
      have rule := @r11_60 mi ml ex h t x (oI (some p)) none (mFee (cs mi h) p) p (p + 10 * h)
      simp only [e2, e3] at rule
      have hx : HX mi (pt_up3 (pt_up3 (pt_up3 mi 5 (p + 10 * h) 0 (-1)) 2 h 8 (mi 2 h 8 + mFee (cs mi h) p)) 2 h 5 (mi 2 h 5 + 1)) h (sTaken (cs mi h) p) := ((HX.refl.wp hp (by decide)).wh (k := 101) (by decide)).wh (k := 99) (by decide)
      revert rule hx
      generalize pt_up3 (pt_up3 (pt_up3 mi 5 (p + 10 * h) 0 (-1)) 2 h 8 (mi 2 h 8 + mFee (cs mi h) p)) 2 h 5 (mi 2 h 5 + 1) = m1
      intro rule hx
      obtain ⟨w, m2, w1, w2, w3⟩ := c20 (mi := m1) (ml := ml) (ex := ex) (h := h) hh
      rw [hx.1] at w2 w3
      exact ⟨m2, r11_0 call (r11_5 (fun c => absurd c hne) (fun _ => r11_11 (pt_MR_h hh).1 rfl hp (pt_MR_p hh hp) (fun _ => r11_45 (pt_MR_h hh).1 rfl hp (pt_MR_p hh hp) (pt_MR_h hh).2.2 fee (rule (pt_MR_h hh).1 rfl hp (pt_MR_p hh hp) w1 r11_97)) (fun c => absurd (by rw [e0]; exact e) c))), hx.tr w3⟩
    · rw [sGive_2 hf e]
      exact ⟨_, r11_0 call (r11_5 (fun c => absurd c hne) (fun _ => r11_11 (pt_MR_h hh).1 rfl hp (pt_MR_p hh hp) (fun c => absurd (by rw [← e0]; exact c) e) (fun _ => r11_24 (fun c => absurd c hne) (fun _ => r11_43)))), hr⟩
theorem c55t {t x : Int32} (h : sIn3 x 0 7 = false) : pt_Ca 55 [vR 8 0, vI t, vI x] (pt_MEM mi ml ex) (.inr 3, pt_MEM mi ml (ex + 1)) := by
  refine r55_0 (fun _ => r55_10) (fun c => r55_4 (fun d => ?_) (fun _ => r55_10))
  rw [lt_lit (a := 7) (by decide)] at d
  rw [sIn3_t.mpr ⟨c, d⟩] at h
  exact absurd h (by decide)
theorem c55 {t x : Int32} (R : RC mi S s H K T n X) (g : Good S A P) (h : sIn3 x 0 7 = true) : ∃ mi', pt_Ca 55 [vR 8 0, vI t, vI x] (pt_MEM mi ml ex) (.inl (some (vI (sGive S t x).1)), pt_MEM mi' ml ex) ∧ RC mi' (sGive S t x).2 (sv s) (svH S s H) K T n X ∧ Fr CK mi mi' := by
  have h' := sIn3_t.mp h
  have h5 := fun p hp => (g.1.1 p hp).1
  obtain ⟨m1, q1, q2, q3⟩ := c5 (ml := ml) (ex := ex) R h5
  obtain ⟨m2, w1, w3⟩ := c11 (mi := m1) (ml := ml) (ex := ex) (h := 0) (t := t) (x := x) (by decide) (by rw [q2.1]; exact h5)
  rw [q2.1] at w1 w3
  have r := q2.hx w3
  exact ⟨m2, r55_0 (fun c => absurd c h'.1) (fun _ => r55_4 (fun _ => r55_20 q1 (r55_31 w1 r55_40)) (fun d => absurd ((lt_lit (a := 7) (by decide)).mpr h'.2) d)), r.1, q3.tr r.2⟩
theorem c56a {x : Int32} (h : sIn3 x 0 9 = false) : pt_Ca 56 [vR 8 0, vI x] (pt_MEM mi ml ex) (.inr 3, pt_MEM mi ml (ex + 1)) := by
  refine r56_0 (fun _ => r56_25) (fun c => r56_4 (fun _ => r56_25) (fun d => ?_))
  have d' : x < 10 := lt_nle.mpr d
  rw [lt_lit (a := 9) (by decide)] at d'
  rw [sIn3_t.mpr ⟨c, d'⟩] at h
  exact absurd h (by decide)
theorem c56s {p : Nat} {o : pt_O} (hp : p < 10) (k : pt_Ev 56 none 22 [some (vR 8 0), some (vI (nI p)), none] [vI (bI (sHere (cs mi 0) p))] (pt_MEM mi ml ex) o) : pt_Ca 56 [vR 8 0, vI (nI p)] (pt_MEM mi ml ex) o :=
  r56_0 (fun c => absurd c (nI_pos (by omega))) (fun _ => r56_4 (fun c => absurd c (n10_le hp)) (fun _ => r56_10 rfl rfl hp (pt_MR_p (by decide) hp) (c32 hp) k))
theorem c56b {p : Nat} (hp : p < 10) (R : RC mi S s H K T n X) (h : sHere S p = false) : pt_Ca 56 [vR 8 0, vI (nI p)] (pt_MEM mi ml ex) (.inr 3, pt_MEM mi ml (ex + 1)) := by
  refine c56s hp ?_
  rw [R.1, h]
  exact r56_22 (fun _ => r56_25) (fun c => absurd rfl c)
theorem c56c {p : Nat} (hp : p < 10) (R : RC mi S s H K T n X) (h : sHere S p = true) (h6 : ¬ S (9 * p + 6) = 0) : pt_Ca 56 [vR 8 0, vI (nI p)] (pt_MEM mi ml ex) (.inr 2, pt_MEM mi ml (ex + 1)) := by
  have e6 := cs_p mi 0 hp (j := 6) (by decide)
  rw [R.1] at e6
  refine c56s hp ?_
  rw [R.1, h]
  exact r56_22 (fun c => absurd c (by decide)) (fun _ => r56_35 rfl rfl hp (pt_MR_p (by decide) hp) (fun c => absurd (by rw [← e6]; exact c) h6) (fun _ => r56_52))
theorem c56 {p : Nat} (hp : p < 10) (R : RC mi S s H K T n X) (g : Good S A P) (h : sHere S p = true) (h6 : S (9 * p + 6) = 0) : ∃ mi', pt_Ca 56 [vR 8 0, vI (nI p)] (pt_MEM mi ml ex) (.inl (some (vI (1 - S (9 * p + 5)))), pt_MEM mi' ml ex) ∧ RC mi' (up1 S (9 * p + 5) (1 - S (9 * p + 5))) (sv s) (svH S s H) K T n X ∧ Fr CK mi mi' := by
  have e6 := cs_p mi 0 hp (j := 6) (by decide)
  rw [R.1] at e6
  have h5 := fun p hp => (g.1.1 p hp).1
  obtain ⟨m1, q1, q2, q3⟩ := c5 (ml := ml) (ex := ex) R h5
  have e5 := cs_p m1 0 hp (j := 5) (by decide)
  rw [q2.1] at e5
  have start : ∀ {o}, pt_Ev 56 none 73 [some (vR 8 0), some (vI (nI p)), some (vR 5 (p + 10 * 0))] [] (pt_MEM m1 ml ex) o → pt_Ca 56 [vR 8 0, vI (nI p)] (pt_MEM mi ml ex) o := by
    intro o k
    refine c56s hp ?_
    rw [R.1, h]
    exact r56_22 (fun c => absurd c (by decide)) (fun _ => r56_35 rfl rfl hp (pt_MR_p (by decide) hp) (fun _ => r56_62 q1 k) (fun c => absurd (by rw [e6]; exact h6) c))
  rcases h5 p hp with z | z
  · have x := HX.wp (v := 1) (HX.refl (mi := m1) (h := 0)) hp (j := 5) (by decide)
    rw [q2.1] at x
    rw [z, show (1 : Int32) - 0 = 1 from by decide]
    have r := q2.hx x
    exact ⟨_, start (r56_73 (fun _ => r56_81 (fun c => absurd (by rw [up3_eq] at c; exact c) (by decide)) (fun _ => r56_96)) (fun c => absurd (by rw [e5]; exact z) c)), r.1, q3.tr r.2⟩
  · have x := HX.wp (v := 0) (HX.refl (mi := m1) (h := 0)) hp (j := 5) (by decide)
    rw [q2.1] at x
    rw [z, show (1 : Int32) - 1 = 0 from by decide]
    have r := q2.hx x
    exact ⟨_, start (r56_73 (fun c => absurd (by rw [← z, ← e5]; exact c) (show ¬ (1 : Int32) = 0 by decide)) (fun _ => r56_85 (fun _ => r56_100) (fun c => absurd (by rw [up3_eq]) c))), r.1, q3.tr r.2⟩
theorem c57t {x : Int32} (h : sIn3 x 0 1 = false) : pt_Ca 57 [vR 8 0, vI x] (pt_MEM mi ml ex) (.inr 3, pt_MEM mi ml (ex + 1)) := by
  refine r57_0 (fun _ => r57_9) (fun c => r57_4 (fun d => ?_) (fun _ => r57_9))
  rw [lt_lit (a := 1) (by decide)] at d
  rw [sIn3_t.mpr ⟨c, d⟩] at h
  exact absurd h (by decide)
theorem c57 {m : Nat} (hm : m < 2) (R : RC mi S s H K T n X) (g : Good S A P) (hA : A ≤ 100000) : ∃ w mi', pt_Ca 57 [vR 8 0, vI (nI m)] (pt_MEM mi ml ex) (.inl (some (vI (sLoads S w m).1)), pt_MEM mi' ml ex) ∧ sWL S (S (90 + 3 * m + 0)) w ∧ RC mi' (sLoads S w m).2 (sv s) (svH S s H) K T n X ∧ Fr CK mi mi' := by
  have h' := sIn3_t.mp (in1 m hm)
  have h5 := fun p hp => (g.1.1 p hp).1
  obtain ⟨m1, q1, q2, q3⟩ := c5 (ml := ml) (ex := ex) R h5
  have hi := c29 (mi := m1) (ml := ml) (ex := ex) (h := 0) hm
  rw [q2.1] at hi
  have start : ∀ {o}, pt_Ev 57 none 42 [some (vR 8 0), some (vI (nI m)), none] [vI (bI (sIdle S m))] (pt_MEM m1 ml ex) o → pt_Ca 57 [vR 8 0, vI (nI m)] (pt_MEM mi ml ex) o := by
    intro o k
    exact r57_0 (fun c => absurd c h'.1) (fun _ => r57_4 (fun _ => r57_19 q1 (r57_30 rfl rfl hm (pt_MR_m (by decide) hm) hi k)) (fun d => absurd ((lt_lit (a := 1) (by decide)).mpr h'.2) d))
  obtain ⟨m2, w, p1, p2, p3⟩ := c76 (mi := m1) (ml := ml) (ex := ex) hm (by rw [q2.1]; exact g.GO hA)
  rw [q2.1] at p2
  have q2' := q2.fr p3 (by decide)
  refine ⟨w, ?_⟩
  cases hI : sIdle S m with
  | false =>
    rw [hI] at start
    have e : sLoads S w m = (-1, sRef S) := by
      unfold sLoads
      rw [if_neg (fun z => by rw [hI] at z; simp at z)]
    rw [e]
    have ev : m1 2 0 9 = S 102 := by rw [← cs_102 m1 0, q2.1]
    have x : HX m1 (pt_up3 m1 2 0 9 (m1 2 0 9 + 1)) 0 (sRef S) := by
      have := HX.wh (v := m1 2 0 9 + 1) (HX.refl (mi := m1) (h := 0)) (j := 9) (k := 102) (by decide)
      rw [q2.1] at this
      unfold sRef
      rw [← ev]
      exact this
    have r := q2.hx x
    exact ⟨_, start (r57_42 (fun _ => r57_53 (fun _ => r57_59) (fun c => absurd rfl c)) (fun c => absurd rfl c)), p2, r.1, q3.tr r.2⟩
  | true =>
    rw [hI] at start
    by_cases c0 : w = 0
    · have e : sLoads S w m = (-1, sRef S) := by
        unfold sLoads
        rw [if_neg (fun z => z.2 c0)]
      rw [e]
      have ev : m2 2 0 9 = S 102 := by rw [← cs_102 m2 0, q2'.1]
      have x : HX m2 (pt_up3 m2 2 0 9 (m2 2 0 9 + 1)) 0 (sRef S) := by
        have := HX.wh (v := m2 2 0 9 + 1) (HX.refl (mi := m2) (h := 0)) (j := 9) (k := 102) (by decide)
        rw [q2'.1] at this
        unfold sRef
        rw [← ev]
        exact this
      have r := q2'.hx x
      exact ⟨_, start (r57_42 (fun c => absurd c (by decide)) (fun _ => r57_45 p1 (r57_50 (fun _ => r57_59) (fun c => absurd c0 c)))), p2, r.1, (q3.tr (p3.wd (by decide))).tr r.2⟩
    · have e : sLoads S w m = (sWeightIn (sLoad S w m) (nI m), sLoad S w m) := by
        unfold sLoads
        rw [if_pos ⟨hI, c0⟩]
      rw [e]
      obtain ⟨m3, u1, u2⟩ := c19 (mi := m2) (ml := ml) (ex := ex) (h := 0) (w := w) (by decide) hm
      rw [q2'.1] at u2
      have call := c16 (mi := m3) (ml := ml) (ex := ex) (h := 0) (x := nI m) (by decide)
      rw [u2.1] at call
      have r := q2'.hx u2
      exact ⟨m3, start (r57_42 (fun c => absurd c (by decide)) (fun _ => r57_45 p1 (r57_50 (fun c => absurd c c0) (fun _ => r57_74 u1 (r57_83 call r57_91))))), p2, r.1, (q3.tr (p3.wd (by decide))).tr r.2⟩
theorem c58a {x y : Int32} (h : sIn3 x 0 1 = false) : pt_Ca 58 [vR 8 0, vI x, vI y] (pt_MEM mi ml ex) (.inr 3, pt_MEM mi ml (ex + 1)) := by
  refine r58_0 (fun _ => r58_9) (fun c => r58_4 (fun d => ?_) (fun _ => r58_9))
  rw [lt_lit (a := 1) (by decide)] at d
  rw [sIn3_t.mpr ⟨c, d⟩] at h
  exact absurd h (by decide)
theorem c58s {x y : Int32} {o : pt_O} (h : sIn3 x 0 1 = true) (k : pt_Ev 58 none 19 [some (vR 8 0), some (vI x), some (vI y), none] [] (pt_MEM mi ml ex) o) : pt_Ca 58 [vR 8 0, vI x, vI y] (pt_MEM mi ml ex) o := by
  have h' := sIn3_t.mp h
  exact r58_0 (fun c => absurd c h'.1) (fun _ => r58_4 (fun _ => k) (fun d => absurd ((lt_lit (a := 1) (by decide)).mpr h'.2) d))
theorem c58b {x y : Int32} (h : sIn3 x 0 1 = true) (hy : sIn3 y 10 60 = false) : pt_Ca 58 [vR 8 0, vI x, vI y] (pt_MEM mi ml ex) (.inr 1, pt_MEM mi ml (ex + 1)) := by
  refine c58s h (r58_19 (fun _ => r58_31) (fun c => r58_25 (fun d => ?_) (fun _ => r58_31)))
  rw [sIn3_t.mpr ⟨c, le_nlt.mp d⟩] at hy
  exact absurd hy (by decide)
theorem c58t {m : Nat} {y : Int32} {o : pt_O} (hm : m < 2) (hy : sIn3 y 10 60 = true) (k : pt_Ev 58 none 53 [some (vR 8 0), some (vI (nI m)), some (vI y), none] [vI (bI (sIdle (cs mi 0) m))] (pt_MEM mi ml ex) o) : pt_Ca 58 [vR 8 0, vI (nI m), vI y] (pt_MEM mi ml ex) o := by
  have h' := sIn3_t.mp hy
  exact c58s (in1 m hm) (r58_19 (fun c => absurd c h'.1) (fun _ => r58_25 (fun _ => r58_41 rfl rfl hm (pt_MR_m (by decide) hm) (c29 (h := 0) hm) k) (fun d => absurd (le_nlt.mpr h'.2) d)))
theorem c58c {m : Nat} {y : Int32} (hm : m < 2) (hy : sIn3 y 10 60 = true) (R : RC mi S s H K T n X) (hI : sIdle S m = false) : pt_Ca 58 [vR 8 0, vI (nI m), vI y] (pt_MEM mi ml ex) (.inr 2, pt_MEM mi ml (ex + 1)) := by
  refine c58t hm hy ?_
  rw [R.1, hI]
  exact r58_53 (fun _ => r58_56) (fun c => absurd rfl c)
theorem c58 {m : Nat} {y : Int32} (hm : m < 2) (hy : sIn3 y 10 60 = true) (R : RC mi S s H K T n X) (g : Good S A P) (hI : sIdle S m = true) : ∃ mi', pt_Ca 58 [vR 8 0, vI (nI m), vI y] (pt_MEM mi ml ex) (.inl (some (vI (S (90 + 3 * m + 0)))), pt_MEM mi' ml ex) ∧ RC mi' (up1 S (90 + 3 * m + 0) y) (sv s) (svH S s H) K T n X ∧ Fr CK mi mi' := by
  have h5 := fun p hp => (g.1.1 p hp).1
  obtain ⟨m1, q1, q2, q3⟩ := c5 (ml := ml) (ex := ex) R h5
  have e0 := cs_m m1 0 hm (j := 0) (by decide)
  rw [q2.1] at e0
  have x := HX.wm (v := y) (HX.refl (mi := m1) (h := 0)) hm (j := 0) (by decide)
  rw [q2.1] at x
  have r := q2.hx x
  refine ⟨_, c58t hm hy ?_, r.1, q3.tr r.2⟩
  rw [R.1, hI, ← e0]
  exact r58_53 (fun c => absurd c (by decide)) (fun _ => r58_66 q1 (r58_77 rfl rfl hm (pt_MR_m (by decide) hm) rfl rfl hm (pt_MR_m (by decide) hm)))
theorem c59a {x : Int32} (h : sIn3 x 1 240 = false) : pt_Ca 59 [vR 8 0, vI x] (pt_MEM mi ml ex) (.inr 1, pt_MEM mi ml (ex + 1)) := by
  refine r59_0 (fun _ => r59_12) (fun c => r59_5 (fun d => ?_) (fun _ => r59_12))
  rw [sIn3_t.mpr ⟨c, le_nlt.mp d⟩] at h
  exact absurd h (by decide)
theorem c59b {x : Int32} (R : RC mi S s H K T n X) (h : sIn3 x 1 240 = true) (h2 : ¬ S 96 + x ≤ 99999) : pt_Ca 59 [vR 8 0, vI x] (pt_MEM mi ml ex) (.inr 2, pt_MEM mi ml (ex + 1)) := by
  have h' := sIn3_t.mp h
  have e : mi 2 0 3 = S 96 := by rw [← R.1]; rfl
  exact r59_0 (fun c => absurd c h'.1) (fun _ => r59_5 (fun _ => r59_22 (fun d => absurd (by rw [← e]; exact d) h2) (fun _ => r59_36)) (fun d => absurd (le_nlt.mpr h'.2) d))
theorem c59 {k : Nat} (R : RC mi S s H K T n X) (g : Good S A P) (h : sIn3 (nI k) 1 240 = true) (hk : k ≤ 240) (h2 : S 96 + nI k ≤ 99999) : ∃ mi', pt_Ca 59 [vR 8 0, vI (nI k)] (pt_MEM mi ml ex) (.inl (some (vI (sPass S k).2)), pt_MEM mi' ml ex) ∧ RC mi' (sPass S k).1 (sv s) (svH S s H) K T n X ∧ Fr CK mi mi' := by
  have h' := sIn3_t.mp h
  have e : mi 2 0 3 = S 96 := by rw [← R.1]; rfl
  have h5 := fun p hp => (g.1.1 p hp).1
  obtain ⟨m1, q1, q2, q3⟩ := c5 (ml := ml) (ex := ex) R h5
  have loop : ∀ d i, i + d = k → ∀ m2, HX m1 m2 0 (sPass S i).1 → ∃ mi', pt_Ev 59 none 61 [some (vR 8 0), some (vI (nI k)), some (vI (sPass S i).2), some (vI (nI i))] [] (pt_MEM m2 ml ex) (.inl (some (vI (sPass S k).2)), pt_MEM mi' ml ex) ∧ HX m1 mi' 0 (sPass S k).1 := by
    intro d
    induction d with
    | zero =>
      intro i hi m2 hx
      have hi' : i = k := hi
      subst hi'
      exact ⟨m2, r59_61 (fun _ => r59_95) (fun c => absurd (nI_le (Nat.le_refl i) (by omega)) c), hx⟩
    | succ d ih =>
      intro i hid m2 hx
      have ih := ih (i + 1) (by omega)
      have e1 : sPass S (i + 1) = sMin (sPass S i) := rfl
      rw [e1, nI_succ] at ih
      revert hx ih
      generalize sPass S i = a
      intro hx ih
      have ec : m2 2 0 3 = a.1 96 := by rw [← hx.1]; rfl
      have hx2 : HX m1 (pt_up3 m2 2 0 3 (m2 2 0 3 + 1)) 0 (up1 a.1 96 (a.1 96 + 1)) := by
        rw [ec]
        exact hx.wh (k := 96) (by decide)
      obtain ⟨w, m3, w1, w2, w3⟩ := c20 (mi := pt_up3 m2 2 0 3 (m2 2 0 3 + 1)) (ml := ml) (ex := ex) (h := 0) (by decide)
      rw [hx2.1] at w2 w3
      rw [w2] at w1
      obtain ⟨mi', g1, g2⟩ := ih m3 (hx2.tr w3)
      exact ⟨mi', r59_61 (fun c => absurd c (nI_ge (a := i) (b := k) (by omega) (by omega))) (fun _ => r59_66 w1 (r59_87 g1)), g2⟩
  have h0 : HX m1 m1 0 (sPass S 0).1 := by
    have := HX.refl (mi := m1) (h := 0)
    rw [q2.1] at this
    exact this
  obtain ⟨mi', g1, g2⟩ := loop k 0 (by omega) m1 h0
  have r := q2.hx g2
  exact ⟨mi', r59_0 (fun c => absurd c h'.1) (fun _ => r59_5 (fun _ => r59_22 (fun _ => r59_46 q1 (r59_57 (by rw [← nI_0]; exact g1))) (fun d => absurd (by rw [e]; exact h2) d)) (fun d => absurd (le_nlt.mpr h'.2) d)), r.1, q3.tr r.2⟩
theorem c61 {x y : Int32} : pt_Ca 61 [vI x, vI y] (pt_MEM mi ml ex) (.inl (some (vI (bI (fits x y)))), pt_MEM mi ml ex) := by
  unfold fits
  refine r61_0 (fun c => ?_) (fun c => ?_)
  · rw [if_pos c]
    refine r61_4 (fun d => ?_) (fun d => r61_9 (fun e => ?_) (fun e => ?_))
    · rw [show sIn3 y 1 9 = false from by simp [sIn3, d]]; exact r61_19
    · rw [show sIn3 y 1 9 = false from by simp [sIn3, e]]; exact r61_19
    · rw [sIn3_t.mpr ⟨d, e⟩]; exact r61_15
  · rw [if_neg c]
    refine r61_21 (fun d => ?_) (fun d => r61_25 (fun e => ?_) (fun e => ?_))
    · subst d; exact r61_30
    · subst e; exact r61_30
    · have hno : sIn3 y 0 1 = false := by
        cases hs : sIn3 y 0 1 with
        | false => rfl
        | true =>
          obtain ⟨p, hp, rfl⟩ := sIn3_nI (n := 1) (by decide) (by decide +kernel) hs
          have : p = 0 ∨ p = 1 := by omega
          rcases this with q | q
          · subst q; exact absurd nI_0 d
          · subst q; exact absurd (by decide +kernel) e
      rw [hno]; exact r61_34
theorem c60a {x y : Int32} (h : sIn3 x 0 1 = false) : pt_Ca 60 [vR 8 0, vI x, vI y] (pt_MEM mi ml ex) (.inr 3, pt_MEM mi ml (ex + 1)) := by
  refine r60_0 (fun _ => r60_9) (fun c => r60_4 (fun d => ?_) (fun _ => r60_9))
  rw [lt_lit (a := 1) (by decide)] at d
  rw [sIn3_t.mpr ⟨c, d⟩] at h
  exact absurd h (by decide)
theorem c60s {x y : Int32} {o : pt_O} (h : sIn3 x 0 1 = true) (k : pt_Ev 60 none 24 [some (vR 8 0), some (vI x), some (vI y), none] [vI (bI (fits x y))] (pt_MEM mi ml ex) o) : pt_Ca 60 [vR 8 0, vI x, vI y] (pt_MEM mi ml ex) o := by
  have h' := sIn3_t.mp h
  exact r60_0 (fun c => absurd c h'.1) (fun _ => r60_4 (fun _ => r60_19 c61 k) (fun d => absurd ((lt_lit (a := 1) (by decide)).mpr h'.2) d))
theorem c60b {x y : Int32} (h : sIn3 x 0 1 = true) (hf : fits x y = false) : pt_Ca 60 [vR 8 0, vI x, vI y] (pt_MEM mi ml ex) (.inr 1, pt_MEM mi ml (ex + 1)) := by
  refine c60s h ?_
  rw [hf]
  exact r60_24 (fun _ => r60_27) (fun c => absurd rfl c)
theorem c60 {p : Nat} {y : Int32} (hp : p < 2) (hf : fits (nI p) y = true) (R : RC mi S s H K T n X) (g : Good S A P) : ∃ mi', pt_Ca 60 [vR 8 0, vI (nI p), vI y] (pt_MEM mi ml ex) (.inl (some (vI (S (104 + p)))), pt_MEM mi' ml ex) ∧ RC mi' (up1 S (104 + p) y) (sv s) (svH S s H) K T n X ∧ Fr CK mi mi' := by
  have h5 := fun p hp => (g.1.1 p hp).1
  obtain ⟨m1, q1, q2, q3⟩ := c5 (ml := ml) (ex := ex) R h5
  have e0 := cs_set m1 0 hp
  rw [q2.1] at e0
  have x := HX.ws (v := y) (HX.refl (mi := m1) (h := 0)) hp
  rw [q2.1] at x
  have r := q2.hx x
  refine ⟨_, c60s (in1 p hp) ?_, r.1, q3.tr r.2⟩
  rw [hf, ← e0]
  exact r60_24 (fun c => absurd c (by decide)) (fun _ => r60_37 q1 (r60_48 rfl rfl hp rfl rfl hp))
end
