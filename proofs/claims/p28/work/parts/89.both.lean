/-! Either object of both: its looks. -/
/-- the object's number -/
abbrev ob (v : Bool) : Nat := em v 8 0
theorem xf {v : Bool} {y : Nat} {as : List pt_V} {mi mi' : Nat → Nat → Nat → Int32} {ml : Nat → Nat → Nat → Int64} {ex ex' : Nat} {o : Option pt_V ⊕ Nat} (h : pt_Ca y as (pt_MEM (pull v mi) (pull v ml) ex) (o, pt_MEM mi' (pull v ml) ex')) : ∃ mi2, pt_Ca y (eS v as) (pt_MM mi ml ex) (eO v o, pt_MM mi2 ml ex') ∧ pull v mi2 = mi' ∧ Ot v mi mi2 := by
  obtain ⟨mi2, ml2, h1, h2, h3, h4, h5⟩ := xfer h
  have e : ml2 = ml := by
    funext c N j
    by_cases hN : ∃ n, N = em v c n
    · obtain ⟨n9, rfl⟩ := hN
      have := congrFun (congrFun (congrFun h3 c) n9) j
      exact this
    · exact h5 c N (fun n9 z => hN ⟨n9, z⟩) j
  subst e
  exact ⟨mi2, h1, h2, h4⟩
theorem Fr_MM {v : Bool} {K : List Nat} {mi mi2 mi' : Nat → Nat → Nat → Int32} (f : Fr K (pull v mi) mi') (h : pull v mi2 = mi') (o : Ot v mi mi2) : Fr K mi mi2 := by
  subst h
  intro c N j hc
  by_cases hN : ∃ n, N = em v c n
  · obtain ⟨n9, rfl⟩ := hN
    exact f c n9 j hc
  · exact o c N (fun n9 z => hN ⟨n9, z⟩) j
theorem Fr_pull {K : List Nat} {mi mi' : Nat → Nat → Nat → Int32} (v : Bool) (f : Fr K mi mi') : Fr K (pull v mi) (pull v mi') := fun c n j hc => f c _ j hc
theorem lk {v : Bool} {y : Nat} {as : List pt_V} {w : Option pt_V} {K : List Nat} {mi : Nat → Nat → Nat → Int32} {ml : Nat → Nat → Nat → Int64} {ex : Nat} (h : ∃ mi1, pt_Ca y as (pt_MEM (pull v mi) (pull v ml) ex) (.inl w, pt_MEM mi1 (pull v ml) ex) ∧ Fr K (pull v mi) mi1) : ∃ mi', pt_Ca y (eS v as) (pt_MM mi ml ex) (.inl (w.map (eV v)), pt_MM mi' ml ex) ∧ Fr K mi mi' := by
  obtain ⟨mi1, c, f⟩ := h
  obtain ⟨mi2, c2, h2, h4⟩ := xf c
  exact ⟨mi2, c2, Fr_MM f h2 h4⟩
abbrev SK : List Nat := [3, 12, 13]
/-- object v holds the row S -/
def Cs (v : Bool) (mi : Nat → Nat → Nat → Int32) (S : Nat → Int32) : Prop := cs (pull v mi) 0 = S
theorem Cs.fr {v : Bool} {mi mi' : Nat → Nat → Nat → Int32} {S : Nat → Int32} (h : Cs v mi S) (f : Fr SK mi mi') : Cs v mi' S := (cs_fr 0 (Fr_pull v f) (by decide) (by decide) (by decide) (by decide)).trans h
/-- what a look leaves: nothing is changed but what it scribbles upon -/
def Lk (y : Nat) (as : List pt_V) (w : pt_V) (mi : Nat → Nat → Nat → Int32) (ml : Nat → Nat → Nat → Int64) (ex : Nat) : Prop := ∃ mi', pt_Ca y as (pt_MM mi ml ex) (.inl (some w), pt_MM mi' ml ex) ∧ Fr SK mi mi'
section
variable {v : Bool} {mi : Nat → Nat → Nat → Int32} {ml : Nat → Nat → Nat → Int64} {ex : Nat} {S : Nat → Int32} {A P : Int}
theorem Fr12 {a b : Nat → Nat → Nat → Int32} (f : Fr [3, 12] a b) : Fr SK a b := f.wd (fun c hc => by
  simp only [List.mem_cons, List.not_mem_nil, or_false] at hc ⊢
  rcases hc with h | h
  · exact Or.inl h
  · exact Or.inr (Or.inl h))
theorem lk69 {p j : Nat} (h : Cs v mi S) (g : GO S) (hp : p < 10) (hj : j < 11) : Lk 69 [vR 8 (ob v), vI (nI p), vI (nI j)] (vI (mOf S p j)) mi ml ex := by
  have e : cs (pull v mi) 0 = S := h
  obtain ⟨mi1, c, f⟩ := c69 (ml := pull v ml) (ex := ex) hp hj (by rw [e]; exact g)
  rw [e] at c
  exact lk ⟨mi1, c, Fr12 f⟩
theorem lk71 {p j : Nat} (h : Cs v mi S) (hp : p < 2) (hj : j < 6) : Lk 71 [vR 8 (ob v), vI (nI p), vI (nI j)] (vI (sMach S p j)) mi ml ex := by
  have e : cs (pull v mi) 0 = S := h
  have c := c71 (mi := pull v mi) (ml := pull v ml) (ex := ex) hp hj
  rw [e] at c
  exact lk ⟨_, c, Fr.rfl'⟩
theorem lk72 {x : Int32} (h : Cs v mi S) (hx : sIn3 x 0 7 = true) : Lk 72 [vR 8 (ob v), vI x] (vI (oI (sShelf S x))) mi ml ex := by
  have e : cs (pull v mi) 0 = S := h
  have c := c72 (mi := pull v mi) (ml := pull v ml) (ex := ex) hx
  rw [e] at c
  exact lk ⟨_, c, Fr.rfl'⟩
theorem lk73 {j : Nat} (h : Cs v mi S) (hj : j < 10) : Lk 73 [vR 8 (ob v), vI (nI j)] (vI (sCount S j)) mi ml ex := by
  have e : cs (pull v mi) 0 = S := h
  have c := c73 (mi := pull v mi) (ml := pull v ml) (ex := ex) hj
  rw [e] at c
  exact lk ⟨_, c, Fr.rfl'⟩
theorem lk74 {p : Nat} (h : Cs v mi S) (hp : p < 2) : Lk 74 [vR 8 (ob v), vI (nI p)] (vI (S (104 + p))) mi ml ex := by
  have e : cs (pull v mi) 0 = S := h
  have c := c74 (mi := pull v mi) (ml := pull v ml) (ex := ex) hp
  rw [e] at c
  exact lk ⟨_, c, Fr.rfl'⟩
theorem lk75 {x : Int32} (h : Cs v mi S) (g : GO S) (hx : ¬ x < 0) : Lk 75 [vR 8 (ob v), vI x] (vI (oI (mRanked S x))) mi ml ex := by
  have e : cs (pull v mi) 0 = S := h
  obtain ⟨mi1, c, f⟩ := c75 (ml := pull v ml) (ex := ex) hx (by rw [e]; exact g)
  rw [e] at c
  exact lk ⟨mi1, c, Fr12 f⟩
theorem lk76 {p : Nat} (h : Cs v mi S) (g : GO S) (hp : p < 2) : ∃ w, sWL S (S (90 + 3 * p + 0)) w ∧ Lk 76 [vR 8 (ob v), vI (nI p)] (vI w) mi ml ex := by
  have e : cs (pull v mi) 0 = S := h
  obtain ⟨mi1, w, c, hw, f⟩ := c76 (ml := pull v ml) (ex := ex) hp (by rw [e]; exact g)
  rw [e] at hw
  exact ⟨w, hw, lk ⟨mi1, c, Fr12 f⟩⟩
theorem lk77 (h : Cs v mi S) : Lk 77 [vR 8 (ob v)] (vI (cEnd S)) mi ml ex := by
  have e : cs (pull v mi) 0 = S := h
  have c := c77 (mi := pull v mi) (ml := pull v ml) (ex := ex)
  rw [e] at c
  exact lk ⟨_, c, Fr.rfl'⟩
theorem lk78 {x : Int32} (h : Cs v mi S) (f : FO S) (hx : sIn3 x 0 1 = true) : ∃ fl, sFL S fl ∧ Lk 78 [vR 8 (ob v), vI x] (vI fl) mi ml ex := by
  obtain ⟨L, n, M, mi1, hM, hn, hL, hB, c, fr⟩ := c78 (mi := pull v mi) (ml := pull v ml) (ex := ex) hx h f
  exact ⟨_, sFL_of f hL hB, lk ⟨mi1, c, fr⟩⟩
theorem lk79 (h : Cs v mi S) (u : GPut S P) : Lk 79 [vR 8 (ob v)] (vD (shW S)) mi ml ex := by
  have e : cs (pull v mi) 0 = S := h
  have c := c79 (mi := pull v mi) (ml := pull v ml) (ex := ex) (P := P) (by rw [e]; exact u)
  rw [e] at c
  exact lk ⟨_, c, Fr.rfl'⟩
end
