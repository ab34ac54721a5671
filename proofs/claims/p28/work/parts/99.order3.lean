/-! The law's look isOrderSo, whole. -/
section
variable {v : Bool} {ml : Nat → Nat → Nat → Int64} {ex : Nat} {S : Nat → Int32} {A P : Int} {L : Nat → Nat} {n m : Nat} {set room : Int32}
theorem o25 (g : Good S A P) (nx : NX S A) (hA : A ≤ 100000) (hL : LnS S L n) (hm : m < 2) (hroom : room = S (90 + 3 * m + 0)) (hset : set = wlM S L n room)
    (E : ∀ mi (w c : Int32) (u8 u9 u10 u11 u12 : Option pt_V), Cs v mi S → LE 178 287 (O13 v m set room w c n u8 u9 u10 u11 u12) [] (vI 1) mi ml ex) :
    ∀ d r, r + d = n → K25 v S L m set room r ml ex := by
  have G := g.GO hA
  have hn := hL.1
  have hc : ∀ p, p < 10 → sW S p = true → ¬ S (9 * p + 1) = -1 := fun p hp hw z => by
    have := (nx.1 p hp (sW_here hw)).2.1
    rw [z, im1] at this
    omega
  have hr60 := (nx.2.1 m hm).1
  have ws := (wl_sum (room := room) G hL (fun p hp hw => (nx.1 p hp (sW_here hw)).1) (by rw [hroom]; omega))
  have hb : ∀ r, r ≤ n → ∀ p, p < 32 → bt (wlU S L room r).1 p = true → ∃ i, i < r ∧ L i = p := fun r hr => (ws r hr).2.2
  intro d
  induction d with
  | zero =>
    intro r hr mi u8 u9 u10 u11 u12 hv
    obtain rfl : r = n := by omega
    have e : mRanked S (nI r) = none := by rw [mRanked_LN G hL (by omega), if_neg (Nat.lt_irrefl r)]
    refine LE.call (lk75 hv G (x := nI r) (nI_pos (by omega))) (fun mi1 f1 => ?_) (fun h q => r178_25 h q)
    rw [e]
    exact LE.of (E mi1 _ _ _ _ _ _ _ (hv.fr f1)) (fun q => r178_31 (fun _ => q) (fun z => absurd (by decide) z))
  | succ d ih =>
    intro r hr mi u8 u9 u10 u11 u12 hv
    have hrn : r < n := by omega
    have hp := hL.2.1 r hrn
    have hh := sW_here hp.2
    have K := ih (r + 1) (by omega)
    have hbit : bt set (L r) = true ↔ wlC S L room r := by rw [hset]; exact wl_bit G hL hb hrn
    have h0 := wl_0 (room := room) hc hL r (by omega)
    refine LE.call (lk75 hv G (x := nI r) (nI_pos (by omega))) (fun mi1 f1 => ?_) (fun h q => r178_25 h q)
    rw [rk G hL hrn]
    have hv := hv.fr f1
    refine LE.of (pc2 := 34) (L2 := O13 v m set room (room - (wlU S L room r).2.2) (wlU S L room r).2.1 r u8 u9 u10 u11 u12) (st2 := []) ?_ (fun q => r178_31 (fun z => absurd z (oI_nn hp.1)) (fun _ => q))
    refine LE.call (lk75 hv G (x := nI r) (nI_pos (by omega))) (fun mi1 f1 => ?_) (fun h q => r178_34 h q)
    rw [rk G hL hrn, oI_s]
    have hv := hv.fr f1
    -- from here the place is known
    have rank8 : mOf S (L r) 8 = nI r := by
      rw [mOf_8 hh, if_pos (show sIn S (L r) 0 = true from hp.2), mRank_LN G hL hrn]
    by_cases c : wlC S L room r
    · have bi := (bit_iff (x := set) (p := L r) (by omega)).mpr (hbit.mpr c)
      have nx' := wlU_t c
      refine LE.of (pc2 := 52) (L2 := O13 v m set room (room - (wlU S L room r).2.2) (wlU S L room r).2.1 r (some (vI (nI (L r)))) u9 u10 u11 u12) (st2 := []) ?_ (fun q => r178_40 (fun _ => q) (fun z => absurd bi z))
      refine LE.call (lk69 hv G (p := L r) (j := 2) hp.1 (by decide)) (fun mi2 f2 => ?_) (fun h q => r178_52 h q)
      rw [mOf_t hh (by decide)]
      have hv := hv.fr f2
      have lt : ¬ room - (room - (wlU S L room r).2.2) < S (9 * L r + 2) := by rw [i_a]; exact c.1
      -- behind the choice
      have l91 : ∀ mi, Cs v mi S → LE 178 91 (O13 v m set room (room - (wlU S L room r).2.2) (wlU S L room r).2.1 r (some (vI (nI (L r)))) (some (vI 1)) u10 u11 u12) [] (vI 1) mi ml ex := by
        intro mi hv
        refine LE.of (pc2 := 110) (L2 := O13 v m set room (room - (wlU S L room r).2.2) (wlU S L room r).2.1 r (some (vI (nI (L r)))) (some (vI 1)) (some (vI 1)) u11 u12) (st2 := []) ?_ (fun q => r178_91 (fun z => absurd z (by decide)) (fun _ => r178_103 (fun _ => q) (fun z => absurd rfl z)))
        refine LE.call (lk69 hv G (p := L r) (j := 8) hp.1 (by decide)) (fun mi3 f3 => ?_) (fun h q => r178_110 h q)
        rw [rank8]
        have hv := hv.fr f3
        refine LE.of (pc2 := 137) (L2 := O13 v m set room (room - (wlU S L room r).2.2) (wlU S L room r).2.1 r (some (vI (nI (L r)))) (some (vI 1)) (some (vI 1)) u11 u12) (st2 := [vI (room - (wlU S L room r).2.2)]) ?_ (fun q => r178_118 (fun _ => r178_123 (fun z => absurd z (by decide)) (fun _ => q)) (fun z => absurd rfl z))
        refine LE.call (lk69 hv G (p := L r) (j := 2) hp.1 (by decide)) (fun mi4 f4 => ?_) (fun h q => r178_137 h q)
        rw [mOf_t hh (by decide)]
        have hv := hv.fr f4
        have ew : room - (wlU S L room r).2.2 + S (9 * L r + 2) = room - (wlU S L room (r + 1)).2.2 := by rw [nx', i_b]
        refine LE.of (pc2 := 156) (L2 := O13 v m set room (room - (wlU S L room (r + 1)).2.2) (wlU S L room r).2.1 r (some (vI (nI (L r)))) (some (vI 1)) (some (vI 1)) u11 u12) (st2 := []) ?_ (fun q => r178_144 (fun z => absurd z (by decide)) (fun _ => by rw [ew]; exact q))
        refine LE.call (lk69 hv G (p := L r) (j := 1) hp.1 (by decide)) (fun mi5 f5 => ?_) (fun h q => r178_156 h q)
        rw [mOf_t hh (by decide)]
        exact (o175 g hA hL hrn K (hv.fr f5)).2 (by rw [nx'])
      by_cases c0 : (wlU S L room r).2.1 = -1
      · exact LE.of (l91 mi2 hv) (fun q => r178_66 (fun z => absurd z lt) (fun _ => r178_73 (fun _ => q) (fun z => absurd c0 z)))
      · refine LE.of (pc2 := 79) (L2 := O13 v m set room (room - (wlU S L room r).2.2) (wlU S L room r).2.1 r (some (vI (nI (L r)))) (some (vI 1)) u10 u11 u12) (st2 := []) ?_ (fun q => r178_66 (fun z => absurd z lt) (fun _ => r178_73 (fun z => absurd z c0) (fun _ => q)))
        refine LE.call (lk69 hv G (p := L r) (j := 1) hp.1 (by decide)) (fun mi3 f3 => ?_) (fun h q => r178_79 h q)
        rw [mOf_t hh (by decide)]
        have e := c.2.resolve_left (fun z => c0 (h0.mp z))
        exact LE.of (l91 mi3 (hv.fr f3)) (fun q => r178_86 (fun _ => q) (fun z => absurd e z))
    · have bi : ¬ ((set >>> (nI (L r) &&& 31)) &&& 1) = 1 := fun z => c (hbit.mp ((bit_iff (x := set) (p := L r) (by omega)).mp z))
      have nx' := wlU_f c
      refine LE.of (pc2 := 56) (L2 := O13 v m set room (room - (wlU S L room r).2.2) (wlU S L room r).2.1 r (some (vI (nI (L r)))) u9 u10 u11 u12) (st2 := []) ?_ (fun q => r178_40 (fun z => absurd z bi) (fun _ => q))
      refine LE.call (lk69 hv G (p := L r) (j := 2) hp.1 (by decide)) (fun mi2 f2 => ?_) (fun h q => r178_56 h q)
      rw [mOf_t hh (by decide)]
      have hv := hv.fr f2
      have l95 : ∀ mi, Cs v mi S → LE 178 95 (O13 v m set room (room - (wlU S L room r).2.2) (wlU S L room r).2.1 r (some (vI (nI (L r)))) (some (vI 0)) u10 u11 u12) [] (vI 1) mi ml ex := by
        intro mi hv
        refine LE.of (pc2 := 110) (L2 := O13 v m set room (room - (wlU S L room r).2.2) (wlU S L room r).2.1 r (some (vI (nI (L r)))) (some (vI 0)) (some (vI 0)) u11 u12) (st2 := []) ?_ (fun q => r178_95 (fun z => absurd z (by decide)) (fun _ => r178_103 (fun _ => q) (fun z => absurd rfl z)))
        refine LE.call (lk69 hv G (p := L r) (j := 8) hp.1 (by decide)) (fun mi3 f3 => ?_) (fun h q => r178_110 h q)
        rw [rank8]
        have hv := hv.fr f3
        have q := (o175 (x9 := 0) (x10 := 0) (u11 := u11) (u12 := u12) g hA hL hrn K hv).1
        rw [nx'] at q
        exact LE.of q (fun q => r178_118 (fun _ => r178_123 (fun _ => r178_147 (fun _ => by rw [a0]; exact q) (fun z => absurd rfl z)) (fun z => absurd rfl z)) (fun z => absurd rfl z))
      by_cases c1 : (wlU S L room r).2.2 < S (9 * L r + 2)
      · exact LE.of (l95 mi2 hv) (fun q => r178_66 (fun _ => q) (fun z => absurd (by rw [i_a]; exact c1) z))
      · have lt : ¬ room - (room - (wlU S L room r).2.2) < S (9 * L r + 2) := by rw [i_a]; exact c1
        have c0 : ¬ (wlU S L room r).2.1 = -1 := fun z => c ⟨c1, Or.inl (h0.mpr z)⟩
        refine LE.of (pc2 := 79) (L2 := O13 v m set room (room - (wlU S L room r).2.2) (wlU S L room r).2.1 r (some (vI (nI (L r)))) (some (vI 0)) u10 u11 u12) (st2 := []) ?_ (fun q => r178_66 (fun z => absurd z lt) (fun _ => r178_73 (fun z => absurd z c0) (fun _ => q)))
        refine LE.call (lk69 hv G (p := L r) (j := 1) hp.1 (by decide)) (fun mi3 f3 => ?_) (fun h q => r178_79 h q)
        rw [mOf_t hh (by decide)]
        exact LE.of (l95 mi3 (hv.fr f3)) (fun q => r178_86 (fun z => absurd z (fun e => c ⟨c1, Or.inr e⟩)) (fun _ => q))
/-- the forecast's half -/
abbrev Q13 (v : Bool) (m : Nat) (set room w c late : Int32) (a r : Nat) (u10 u11 u12 : Option pt_V) : pt_L := [some (vR 8 (ob v)), some (vI (nI m)), some (vI set), some (vI room), some (vI w), some (vI c), some (vI 1), some (vI late), some (vI (nI a)), some (vI (nI r)), u10, u11, u12]
abbrev bUp (S : Nat → Int32) (L : Nat → Nat) (r : Nat) : Nat := cU (fun j => bad S (L j)) r
theorem late_cmp (f : FO S) {p : Nat} (hp : p < 10) (hw : sW S p = true) : S 96 + S (9 * p + 3) ≤ S (9 * p + 4) ↔ bad S p = false := by
  obtain ⟨a, b⟩ := f.2.2 p hp hw
  have c := f.2.1
  rw [Int32.le_iff_toInt_le, ad32 (by omega) (by omega)]
  unfold bad cS tS dS
  rw [hw]
  simp only [Bool.true_and, decide_eq_false_iff_not, Decidable.not_not]
  omega
theorem o300 (g : Good S A P) (hA : A ≤ 100000) (hL : LnS S L n) {w c late : Int32} (E : ∀ mi (u10 u11 u12 : Option pt_V), Cs v mi S → LE 178 356 (Q13 v m set room w c late (bUp S L n) n u10 u11 u12) [] (vI 1) mi ml ex) :
    ∀ d r mi (u10 u11 u12 : Option pt_V), r + d = n → Cs v mi S → LE 178 300 (Q13 v m set room w c late (bUp S L r) r u10 u11 u12) [] (vI 1) mi ml ex := by
  have G := g.GO hA
  have F := g.FO hA
  have hn := hL.1
  intro d
  induction d with
  | zero =>
    intro r mi u10 u11 u12 hr hv
    obtain rfl : r = n := by omega
    have e : mRanked S (nI r) = none := by rw [mRanked_LN G hL (by omega), if_neg (Nat.lt_irrefl r)]
    refine LE.call (lk75 hv G (x := nI r) (nI_pos (by omega))) (fun mi1 f1 => ?_) (fun h q => r178_300 h q)
    rw [e]
    exact LE.of (E mi1 _ _ _ (hv.fr f1)) (fun q => r178_306 (fun _ => q) (fun z => absurd (by decide) z))
  | succ d ih =>
    intro r mi u10 u11 u12 hr hv
    have hrn : r < n := by omega
    have hp := hL.2.1 r hrn
    have hh := sW_here hp.2
    refine LE.call (lk75 hv G (x := nI r) (nI_pos (by omega))) (fun mi1 f1 => ?_) (fun h q => r178_300 h q)
    rw [rk G hL hrn]
    have hv := hv.fr f1
    refine LE.of (pc2 := 309) (L2 := Q13 v m set room w c late (bUp S L r) r u10 u11 u12) (st2 := []) ?_ (fun q => r178_306 (fun z => absurd z (oI_nn hp.1)) (fun _ => q))
    refine LE.call (lk75 hv G (x := nI r) (nI_pos (by omega))) (fun mi1 f1 => ?_) (fun h q => r178_309 h q)
    rw [rk G hL hrn, oI_s]
    have hv := hv.fr f1
    refine LE.call (lk73 hv (j := 0) (by decide)) (fun mi2 f2 => ?_) (fun h q => r178_315 h q)
    have hv := hv.fr f2
    show LE 178 324 _ [vI (S 96), vI (nI (bUp S L r))] _ _ _ _
    refine LE.call (lk69 hv G (p := L r) (j := 3) hp.1 (by decide)) (fun mi3 f3 => ?_) (fun h q => r178_324 h q)
    rw [mOf_t hh (by decide)]
    have hv := hv.fr f3
    refine LE.call (lk69 hv G (p := L r) (j := 4) hp.1 (by decide)) (fun mi4 f4 => ?_) (fun h q => r178_331 h q)
    rw [mOf_t hh (by decide)]
    have hv := hv.fr f4
    have i := ih (r + 1) mi4 (some (vI (nI (L r)))) u11 u12 (by omega) hv
    have lc := late_cmp F hp.1 hp.2
    cases hb : bad S (L r) with
    | false =>
      rw [show bUp S L (r + 1) = bUp S L r from by unfold bUp cU; rw [sg_s, wt_f (U := fun j => bad S (L j)) hb, Nat.add_zero]] at i
      exact LE.of i (fun q => r178_339 (fun _ => r178_346 (by rw [a0, ← nI_succ]; exact q)) (fun z => absurd (lc.mpr hb) z))
    | true =>
      rw [show bUp S L (r + 1) = bUp S L r + 1 from by unfold bUp cU; rw [sg_s, wt_t (U := fun j => bad S (L j)) hb]] at i
      exact LE.of i (fun q => r178_339 (fun z => absurd (lc.mp z) (by rw [hb]; decide)) (fun _ => r178_342 (by rw [← nI_succ, ← nI_succ]; exact q)))
theorem h178 {mi : Nat → Nat → Nat → Int32} (g : Good S A P) (nx : NX S A) (hA : A ≤ 100000) (hm : m < 2) (hv : Cs v mi S) : Lk 178 [vR 8 (ob v), vI (nI m)] (vI 1) mi ml ex := by
  have G := g.GO hA
  have F := g.FO hA
  obtain ⟨L, n, hL⟩ := LN_ex (sSTO (S 105) G) 10 (Nat.le_refl 10)
  have hn := hL.1
  have li : Li L n (sW S) 10 := ⟨hL.2.1, fun j j' a b => LN_ne (sSTO (S 105) G) hL a b, fun q hq hw => hL.2.2.2 q hq hw⟩
  have cn : cU (sW S) 10 = n := by rw [← cnt_cU, ← line_n G hL]
  have c2 : sMany S 0 = nI n := by rw [f_many, line_n G hL]; rfl
  obtain ⟨w, hw, c⟩ := lk76 (ml := ml) (ex := ex) hv G hm
  refine LE.lk (LE.call c (fun mi1 f1 => ?_) (fun h q => r178_0 h q))
  have hv := hv.fr f1
  refine LE.call (lk71 hv (p := m) (j := 0) hm (by decide)) (fun mi2 f2 => ?_) (fun h q => r178_5 h q)
  have hv := hv.fr f2
  show LE 178 12 _ [vI (S (90 + 3 * m + 0))] _ _ _ _
  have K := o25 (v := v) (ml := ml) (ex := ex) g nx hA hL hm rfl (hw L n hL) (fun mi w' c' u8 u9 u10 u11 u12 hv => by
    obtain ⟨fl, ⟨M, hM, hfl⟩, cf⟩ := lk78 (ml := ml) (ex := ex) hv F (x := 0) (by decide)
    obtain ⟨b1, b2⟩ := bad_ge hM
    have b3 := bad_all hM
    have b4 : bUp S L n = cU (bad S) 10 := bad_L li
    rw [cn] at b1 b2 b3 hfl
    refine LE.call cf (fun mi3 f3 => ?_) (fun h q => r178_287 h q)
    have hv := hv.fr f3
    refine LE.of (o300 (late := fl) (w := w') (c := c') (m := m) (set := w) (room := S (90 + 3 * m + 0)) g hA hL (fun mi u10 u11 u12 hv => ?_) n 0 mi3 u10 u11 u12 (by omega) hv) (fun q => r178_292 q)
    obtain ⟨fl2, h2, cf2⟩ := lk78 (ml := ml) (ex := ex) hv F (x := 1) (by decide)
    have e2 : fl2 = fl := sFL_un h2 ⟨M, hM, by rw [hfl, cn]⟩
    refine LE.of (pc2 := 361) (L2 := Q13 v m w (S (90 + 3 * m + 0)) w' c' fl (bUp S L n) n u10 u11 u12) (st2 := []) ?_ (fun q => r178_356 (fun z => absurd z (by decide)) (fun _ => q))
    refine LE.call cf2 (fun mi4 f4 => ?_) (fun h q => r178_361 h q)
    have hv := hv.fr f4
    have l1 : ¬ fl < nI (bUp S L n) := by
      rw [hfl, Int32.lt_iff_toInt_lt, nI_toInt (by omega), nI_toInt (by omega)]; omega
    refine LE.of (pc2 := 378) (L2 := Q13 v m w (S (90 + 3 * m + 0)) w' c' fl (bUp S L n) n u10 u11 u12) (st2 := []) ?_ (fun q => r178_366 (fun _ => r178_371 (fun z => absurd z l1) (fun _ => q)) (fun z => absurd e2 z))
    refine LE.call (lk73 hv (j := 2) (by decide)) (fun mi5 f5 => ?_) (fun h q => r178_378 h q)
    have hv := hv.fr f5
    show LE 178 385 _ [vI (sMany S 0), vI fl] _ _ _ _
    rw [c2]
    have l2 : ¬ nI n < fl := by
      rw [hfl, Int32.lt_iff_toInt_lt, nI_toInt (by omega), nI_toInt (by omega)]; omega
    refine LE.of (pc2 := 388) (L2 := Q13 v m w (S (90 + 3 * m + 0)) w' c' fl (bUp S L n) n u10 u11 u12) (st2 := []) ?_ (fun q => r178_385 (fun z => absurd z l2) (fun _ => q))
    refine LE.call (lk73 hv (j := 2) (by decide)) (fun mi6 f6 => ?_) (fun h q => r178_388 h q)
    show LE 178 395 _ [vI (sMany S 0), vI fl] _ _ _ _
    rw [c2]
    refine LE.ret (r178_395 (fun _ => r178_405) (fun z => r178_398 (fun _ => r178_405) (fun z2 => absurd ?_ z2)))
    rw [hfl, Int32.lt_iff_toInt_lt, nI_toInt (by omega), nI_toInt (by omega)] at z
    rw [hfl]
    congr 1
    by_cases h0 : M = 0
    · rw [b4, b3 h0]; omega
    · omega) n 0 (by omega)
  refine LE.of (K mi2 none none none none none hv) (fun q => r178_12 ?_)
  rw [show S (90 + 3 * m + 0) - (wlU S L (S (90 + 3 * m + 0)) 0).2.2 = 0 from by show S (90 + 3 * m + 0) - S (90 + 3 * m + 0) = 0; grind] at q
  exact q
end
