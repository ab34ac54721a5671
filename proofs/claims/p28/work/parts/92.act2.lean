/-! The law's act, whole. -/
section
variable {v : Bool} {mi : Nat → Nat → Nat → Int32} {ml : Nat → Nat → Nat → Int64} {ex : Nat} {S S' : Nat → Int32} {s : Nat} {H : Nat → Nat → Int32} {A P : Int} {x y is w : Int32}
abbrev L174 (v : Bool) (x w y is : Int32) : pt_L := [some (vR 8 (ob v)), some (vI x), some (vR 23 0), some (vI w), some (vI y), some (vI is), none, none]
/-- from here the act ends with r -/
def Ace (v : Bool) (pc : Nat) (L : pt_L) (st : List pt_V) (mi : Nat → Nat → Nat → Int32) (ml : Nat → Nat → Nat → Int64) (ex : Nat) (S : Nat → Int32) (s : Nat) (H : Nat → Nat → Int32) (r : Rs) : Prop := ∃ mi' ex', pt_Ev 174 none pc L st (pt_MM mi ml ex) (.inl (some (vI r.1)), pt_MM mi' ml ex') ∧ ex' ≤ ex + 1 ∧ Pst v mi mi' S s H r
theorem Ace.of {pc pc2 : Nat} {L L2 : pt_L} {st st2 : List pt_V} {r : Rs} (h : Ace v pc2 L2 st2 mi ml ex S s H r) (k : ∀ o, pt_Ev 174 none pc2 L2 st2 (pt_MM mi ml ex) o → pt_Ev 174 none pc L st (pt_MM mi ml ex) o) : Ace v pc L st mi ml ex S s H r := by
  obtain ⟨mi', ex', c, h1, h2⟩ := h
  exact ⟨mi', ex', k _ c, h1, h2⟩
theorem e165 (O : Ob v mi S s H) (g : Good S A P) (hw : (23 : Int32) ≤ w) : Ace v 165 (L174 v x w y is) [] mi ml ex S s H (if w = 23 then (if is = 0 then chM S (lowF y 3) ((0 : Int32) + lowF (y >>> (2 &&& 31)) 55) else chM S (lowF y 2) ((10 : Int32) + lowF (y >>> (2 &&& 31)) 55))
      else if w = 24 then (if is = 0 then chS S (lowF y 3) (lowF (y >>> (2 &&& 31)) 12) else chS S (lowF y 2) (lowF (y >>> (2 &&& 31)) 10))
      else (if is = 0 then chP S (lowF y 260) else chP S (lowF y 45))) := by
  have q : ∀ o, pt_Ev 174 none 196 (L174 v x w y is) [] (pt_MM mi ml ex) o → pt_Ev 174 none 165 (L174 v x w y is) [] (pt_MM mi ml ex) o := fun o k => r174_165 (fun _ => k) (fun z => absurd hw z)
  by_cases c : w = 23
  · rw [if_pos c]
    by_cases h : is = 0
    · rw [if_pos h]
      obtain ⟨mi', ex', e, h1, h2⟩ := ah3 (ml := ml) (ex := ex) (a := lowF y 3) (b := (0 : Int32) + lowF (y >>> (2 &&& 31)) 55) O g
      exact ⟨mi', ex', q _ (r174_196 (fun _ => r174_202 (fun _ => r174_215 (l171 (by decide)) (r174_219 (fun _ => r174_229 (l171 (by decide)) (r174_239 e r174_244)) (fun z => absurd h z))) (fun z => absurd h z)) (fun z => absurd c z)), h1, h2⟩
    · rw [if_neg h]
      obtain ⟨mi', ex', e, h1, h2⟩ := ah3 (ml := ml) (ex := ex) (a := lowF y 2) (b := (10 : Int32) + lowF (y >>> (2 &&& 31)) 55) O g
      exact ⟨mi', ex', q _ (r174_196 (fun _ => r174_202 (fun z => absurd z h) (fun _ => r174_211 (l171 (by decide)) (r174_219 (fun z => absurd z h) (fun _ => r174_224 (l171 (by decide)) (r174_239 e r174_244))))) (fun z => absurd c z)), h1, h2⟩
  · rw [if_neg c]
    by_cases d : w = 24
    · rw [if_pos d]
      by_cases h : is = 0
      · rw [if_pos h]
        obtain ⟨mi', ex', e, h1, h2⟩ := ah5 (ml := ml) (ex := ex) (a := lowF y 3) (b := lowF (y >>> (2 &&& 31)) 12) O g
        exact ⟨mi', ex', q _ (r174_196 (fun z => absurd z c) (fun _ => r174_245 (fun _ => r174_251 (fun _ => r174_264 (l171 (by decide)) (r174_268 (fun _ => r174_282 (l171 (by decide)) (r174_287 e r174_291)) (fun z => absurd h z))) (fun z => absurd h z)) (fun z => absurd d z))), h1, h2⟩
      · rw [if_neg h]
        obtain ⟨mi', ex', e, h1, h2⟩ := ah5 (ml := ml) (ex := ex) (a := lowF y 2) (b := lowF (y >>> (2 &&& 31)) 10) O g
        exact ⟨mi', ex', q _ (r174_196 (fun z => absurd z c) (fun _ => r174_245 (fun _ => r174_251 (fun z => absurd z h) (fun _ => r174_260 (l171 (by decide)) (r174_268 (fun z => absurd z h) (fun _ => r174_277 (l171 (by decide)) (r174_287 e r174_291))))) (fun z => absurd d z))), h1, h2⟩
    · rw [if_neg d]
      by_cases h : is = 0
      · rw [if_pos h]
        obtain ⟨mi', ex', e, h1, h2⟩ := ah4 (ml := ml) (ex := ex) (a := lowF y 260) (b := 0) O g
        exact ⟨mi', ex', q _ (r174_196 (fun z => absurd z c) (fun _ => r174_245 (fun z => absurd z d) (fun _ => r174_294 (fun _ => r174_308 (l171 (by decide)) (r174_314 e r174_319)) (fun z => absurd h z)))), h1, h2⟩
      · rw [if_neg h]
        obtain ⟨mi', ex', e, h1, h2⟩ := ah4 (ml := ml) (ex := ex) (a := lowF y 45) (b := 0) O g
        exact ⟨mi', ex', q _ (r174_196 (fun z => absurd z c) (fun _ => r174_245 (fun z => absurd z d) (fun _ => r174_294 (fun z => absurd z h) (fun _ => r174_303 (l171 (by decide)) (r174_314 e r174_319))))), h1, h2⟩
theorem eRush (O : Ob v mi S s H) (g : Good S A P) (hw : ¬ (23 : Int32) ≤ w) : Ace v 165 (L174 v x w y is) [] mi ml ex S s H (if is = 0 then chR S (lowF y 12) else chR S (lowF y 10)) := by
  by_cases h : is = 0
  · rw [if_pos h]
    obtain ⟨mi', ex', e, h1, h2⟩ := ah1 (ml := ml) (ex := ex) (a := lowF y 12) (b := 0) O g
    exact ⟨mi', ex', r174_165 (fun z => absurd z hw) (fun _ => r174_171 (fun _ => r174_185 (l171 (by decide)) (r174_190 e r174_195)) (fun z => absurd h z)), h1, h2⟩
  · rw [if_neg h]
    obtain ⟨mi', ex', e, h1, h2⟩ := ah1 (ml := ml) (ex := ex) (a := lowF y 10) (b := 0) O g
    exact ⟨mi', ex', r174_165 (fun z => absurd z hw) (fun _ => r174_171 (fun z => absurd z h) (fun _ => r174_180 (l171 (by decide)) (r174_190 e r174_195))), h1, h2⟩
theorem eLoad (O : Ob v mi S s H) (g : Good S A P) (hA : A ≤ 100000) (hw : ¬ (21 : Int32) ≤ w) : Ace v 136 (L174 v x w y is) [] mi ml ex S s H (if is = 0 then chL S (lowF y 3) else chL S (lowF y 2)) := by
  by_cases h : is = 0
  · rw [if_pos h]
    obtain ⟨mi', ex', e, h1, h2⟩ := ah2 (ml := ml) (ex := ex) (a := lowF y 3) (b := 0) O g hA
    exact ⟨mi', ex', r174_136 (fun z => absurd z hw) (fun _ => r174_142 (fun _ => r174_155 (l171 (by decide)) (r174_159 e r174_164)) (fun z => absurd h z)), h1, h2⟩
  · rw [if_neg h]
    obtain ⟨mi', ex', e, h1, h2⟩ := ah2 (ml := ml) (ex := ex) (a := lowF y 2) (b := 0) O g hA
    exact ⟨mi', ex', r174_136 (fun z => absurd z hw) (fun _ => r174_142 (fun z => absurd z h) (fun _ => r174_151 (l171 (by decide)) (r174_159 e r174_164))), h1, h2⟩
/-- hand out: behind the choice of the shelf -/
theorem eHand {sh : Int32} (O : Ob v mi S s H) (g : Good S A P) (hA : A ≤ 100000) (h0 : ¬ sh < 0) : Ace v 69 (L174 v x w y is) [vI sh] mi ml ex S s H (hoF S y sh) := by
  unfold hoF
  -- behind the choice of the ticket
  have fin : ∀ mi1 (pl t : Int32), Fr SK mi mi1 → tiF S y pl = t → (∀ o, pt_Ev 174 none 135 [some (vR 8 (ob v)), some (vI x), some (vR 23 0), some (vI w), some (vI y), some (vI is), some (vI sh), some (vI pl)] [vI (chH S t sh).1] (pt_MM mi1 ml ex) o → True) → ∃ mi' ex', pt_Ca 172 [vR 8 (ob v), vI 0, vI t, vI sh, vR 23 0] (pt_MM mi1 ml ex) (.inl (some (vI (chH S t sh).1)), pt_MM mi' ml ex') ∧ ex' ≤ ex + 1 ∧ Pst v mi mi' S s H (chH S t sh) := by
    intro mi1 pl t f _ _
    obtain ⟨mi', ex', e, h1, h2⟩ := ah0 (ml := ml) (ex := ex) (a := t) (b := sh) (O.fr f) g
    exact ⟨mi', ex', e, h1, h2.pre f⟩
  -- behind the look at the shelf
  have mid : ∀ mi1 (pl : Int32), Fr SK mi mi1 → (¬ pl < 0 → ∃ p, p < 10 ∧ pl = nI p) → ∃ mi' ex', (pl < 0 → pt_Ev 174 none 117 [some (vR 8 (ob v)), some (vI x), some (vR 23 0), some (vI w), some (vI y), some (vI is), some (vI sh), some (vI pl)] [vI 0, vR 8 (ob v)] (pt_MM mi1 ml ex) (.inl (some (vI (chH S (tiF S y pl) sh).1)), pt_MM mi' ml ex')) ∧ (¬ pl < 0 → pt_Ev 174 none 97 [some (vR 8 (ob v)), some (vI x), some (vR 23 0), some (vI w), some (vI y), some (vI is), some (vI sh), some (vI pl)] [vI 0, vR 8 (ob v)] (pt_MM mi1 ml ex) (.inl (some (vI (chH S (tiF S y pl) sh).1)), pt_MM mi' ml ex')) ∧ ex' ≤ ex + 1 ∧ Pst v mi mi' S s H (chH S (tiF S y pl) sh) := by
    intro mi1 pl f hp
    by_cases c : pl < 0
    · have et : tiF S y pl = (100 : Int32) + lowF (y >>> (3 &&& 31)) 20 := by unfold tiF; rw [if_pos c]
      rw [et]
      obtain ⟨mi', ex', e, h1, h2⟩ := fin mi1 pl _ f et (fun _ _ => trivial)
      exact ⟨mi', ex', fun _ => r174_117 (l171 (by decide)) (r174_128 e r174_135), fun z => absurd c z, h1, h2⟩
    · obtain ⟨p, hp10, rfl⟩ := hp c
      by_cases d : ((y >>> (6 &&& 31)) &&& 3) ≤ 0
      · have et : tiF S y (nI p) = (100 : Int32) + lowF (y >>> (3 &&& 31)) 20 := by unfold tiF; rw [if_neg c, if_pos d]
        rw [et]
        obtain ⟨mi', ex', e, h1, h2⟩ := fin mi1 (nI p) _ f et (fun _ _ => trivial)
        exact ⟨mi', ex', fun z => absurd z c, fun _ => r174_97 (fun _ => r174_117 (l171 (by decide)) (r174_128 e r174_135)) (fun z => absurd d z), h1, h2⟩
      · have et : tiF S y (nI p) = mOf S p 0 := by unfold tiF; rw [if_neg c, if_neg d, nI_clamp (by omega)]
        rw [et]
        obtain ⟨mi2, c2, f2⟩ := lk69 (ml := ml) (ex := ex) (O.fr f).cs (g.GO hA) hp10 (j := 0) (by decide)
        obtain ⟨mi', ex', e, h1, h2⟩ := fin mi2 (nI p) _ (f.tr f2) et (fun _ _ => trivial)
        exact ⟨mi', ex', fun z => absurd z c, fun _ => r174_97 (fun z => absurd z d) (fun _ => r174_107 c2 (r174_114 e r174_135)), h1, h2⟩
  by_cases c : sh ≤ 7
  · have ep : plF S sh = oI (sShelf S sh) := by unfold plF; rw [if_pos c]
    rw [ep]
    have hx : sIn3 sh 0 7 = true := sIn3_t.mpr ⟨h0, fun z => (le_nlt.mp c) z⟩
    obtain ⟨mi1, c1, f1⟩ := lk72 (ml := ml) (ex := ex) O.cs hx
    obtain ⟨mi', ex', e1, e2, h1, h2⟩ := mid mi1 (oI (sShelf S sh)) f1 (fun z => by
      cases hs : sShelf S sh with
      | none => rw [hs] at z; exact absurd (by decide) z
      | some p => exact ⟨p, (fi_lt hs).1, rfl⟩)
    exact ⟨mi', ex', r174_69 (fun _ => r174_82 c1 (r174_88 e1 e2)) (fun z => absurd c z), h1, h2⟩
  · have ep : plF S sh = -1 := by unfold plF; rw [if_neg c]
    rw [ep]
    obtain ⟨mi', ex', e1, e2, h1, h2⟩ := mid mi (-1) Fr.rfl' (fun z => absurd (by decide) z)
    exact ⟨mi', ex', r174_69 (fun z => absurd z c) (fun _ => r174_78 e1 e2), h1, h2⟩
theorem low_nn {k : Int32} (hk : 0 < k.toInt) : ¬ lowF x k < 0 := by
  rw [Int32.lt_iff_toInt_lt]
  have := (low_range (x := x) hk).1
  have z : (0 : Int32).toInt = 0 := by decide
  omega
theorem eWay (O : Ob v mi S s H) (g : Good S A P) (hA : A ≤ 100000) (hw : (12 : Int32) ≤ w) : Ace v 47 (L174 v x w y is) [] mi ml ex S s H (if 16 ≤ w then (if 21 ≤ w then (if 23 ≤ w then (if w = 23 then (if is = 0 then chM S (lowF y 3) ((0 : Int32) + lowF (y >>> (2 &&& 31)) 55) else chM S (lowF y 2) ((10 : Int32) + lowF (y >>> (2 &&& 31)) 55))
      else if w = 24 then (if is = 0 then chS S (lowF y 3) (lowF (y >>> (2 &&& 31)) 12) else chS S (lowF y 2) (lowF (y >>> (2 &&& 31)) 10))
      else (if is = 0 then chP S (lowF y 260) else chP S (lowF y 45)))
    else (if is = 0 then chR S (lowF y 12) else chR S (lowF y 10)))
    else (if is = 0 then chL S (lowF y 3) else chL S (lowF y 2)))
    else (if is = 0 then hoF S y (lowF y 9) else hoF S y (lowF y 4))) := by
  by_cases c : (16 : Int32) ≤ w
  · rw [if_pos c]
    refine Ace.of (pc2 := 136) (L2 := L174 v x w y is) (st2 := []) ?_ (fun o k => r174_47 (fun _ => k) (fun z => absurd c z))
    by_cases d : (21 : Int32) ≤ w
    · rw [if_pos d]
      refine Ace.of (pc2 := 165) (L2 := L174 v x w y is) (st2 := []) ?_ (fun o k => r174_136 (fun _ => k) (fun z => absurd d z))
      by_cases e : (23 : Int32) ≤ w
      · rw [if_pos e]; exact e165 O g e
      · rw [if_neg e]; exact eRush O g e
    · rw [if_neg d]; exact eLoad O g hA d
  · rw [if_neg c]
    by_cases h : is = 0
    · rw [if_pos h]
      exact Ace.of (eHand O g hA (low_nn (by decide))) (fun o k => r174_47 (fun z => absurd z c) (fun _ => r174_53 (fun _ => r174_64 (l171 (by decide)) k) (fun z => absurd h z)))
    · rw [if_neg h]
      exact Ace.of (eHand O g hA (low_nn (by decide))) (fun o k => r174_47 (fun z => absurd z c) (fun _ => r174_53 (fun z => absurd z h) (fun _ => r174_60 (l171 (by decide)) k)))
theorem h174 (O : Ob v mi S s H) (g : Good S A P) (hA : A ≤ 100000) : Aend v 174 [vR 8 (ob v), vI x, vR 23 0] mi ml ex S s H (actF S x) := by
  have tail : ∀ is : Int32, (is = 0 ∧ lowF (x >>> (22 &&& 31)) 7 ≤ 0) ∨ (is = 1 ∧ ¬ lowF (x >>> (22 &&& 31)) 7 ≤ 0) → Aend v 174 [vR 8 (ob v), vI x, vR 23 0] mi ml ex S s H (if 12 ≤ lowF x 32 then (if 16 ≤ lowF x 32 then (if 21 ≤ lowF x 32 then (if 23 ≤ lowF x 32 then (if lowF x 32 = 23 then (if is = 0 then chM S (lowF (x >>> (5 &&& 31)) 3) ((0 : Int32) + lowF ((x >>> (5 &&& 31)) >>> (2 &&& 31)) 55) else chM S (lowF (x >>> (5 &&& 31)) 2) ((10 : Int32) + lowF ((x >>> (5 &&& 31)) >>> (2 &&& 31)) 55))
      else if lowF x 32 = 24 then (if is = 0 then chS S (lowF (x >>> (5 &&& 31)) 3) (lowF ((x >>> (5 &&& 31)) >>> (2 &&& 31)) 12) else chS S (lowF (x >>> (5 &&& 31)) 2) (lowF ((x >>> (5 &&& 31)) >>> (2 &&& 31)) 10))
      else (if is = 0 then chP S (lowF (x >>> (5 &&& 31)) 260) else chP S (lowF (x >>> (5 &&& 31)) 45)))
    else (if is = 0 then chR S (lowF (x >>> (5 &&& 31)) 12) else chR S (lowF (x >>> (5 &&& 31)) 10)))
    else (if is = 0 then chL S (lowF (x >>> (5 &&& 31)) 3) else chL S (lowF (x >>> (5 &&& 31)) 2)))
    else (if is = 0 then hoF S (x >>> (5 &&& 31)) (lowF (x >>> (5 &&& 31)) 9) else hoF S (x >>> (5 &&& 31)) (lowF (x >>> (5 &&& 31)) 4)))
  else tkF S (x >>> (5 &&& 31)) is) := by
    intro is hi
    have q : ∀ o, ((12 : Int32) ≤ lowF x 32 → pt_Ev 174 none 47 (L174 v x (lowF x 32) (x >>> (5 &&& 31)) is) [] (pt_MM mi ml ex) o) → (¬ (12 : Int32) ≤ lowF x 32 → pt_Ev 174 none 37 (L174 v x (lowF x 32) (x >>> (5 &&& 31)) is) [] (pt_MM mi ml ex) o) → pt_Ca 174 [vR 8 (ob v), vI x, vR 23 0] (pt_MM mi ml ex) o := by
      intro o k1 k2
      rcases hi with ⟨rfl, hc⟩ | ⟨rfl, hc⟩
      · exact r174_0 (l171 (by decide)) (r174_6 (l171 (by decide)) (r174_21 (fun _ => r174_28 k1 k2) (fun z => absurd hc z)))
      · exact r174_0 (l171 (by decide)) (r174_6 (l171 (by decide)) (r174_21 (fun z => absurd z hc) (fun _ => r174_24 k1 k2)))
    by_cases c : (12 : Int32) ≤ lowF x 32
    · rw [if_pos c]
      obtain ⟨mi', ex', e, h1, h2⟩ := eWay (ml := ml) (ex := ex) (x := x) (y := x >>> (5 &&& 31)) (is := is) O g hA c
      exact ⟨mi', ex', q _ (fun _ => e) (fun z => absurd c z), h1, h2⟩
    · rw [if_neg c]
      obtain ⟨mi', ex', e, h1, h2⟩ := h173 (ml := ml) (ex := ex) (y := x >>> (5 &&& 31)) (is := is) O g
      exact ⟨mi', ex', q _ (fun z => absurd z c) (fun _ => r174_37 e r174_46), h1, h2⟩
  unfold actF
  by_cases c : lowF (x >>> (22 &&& 31)) 7 ≤ 0
  · rw [if_pos c]; exact tail 0 (Or.inl ⟨rfl, c⟩)
  · rw [if_neg c]; exact tail 1 (Or.inr ⟨rfl, c⟩)
end
