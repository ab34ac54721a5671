/-! The digest, pure and in the class. -/
/-- the fewest late, told by places alone -/
def BestP (S : Nat → Int32) (M : Nat) : Prop := (∃ V, (∀ q, q < 10 → V q = true → sW S q = true) ∧ Can (cS S) (tS S) (dS S) V 10 ∧ cU V 10 = M) ∧ ∀ V, (∀ q, q < 10 → V q = true → sW S q = true) → Can (cS S) (tS S) (dS S) V 10 → cU V 10 ≤ M
def sFL (S : Nat → Int32) (v : Int32) : Prop := ∃ M, BestP S M ∧ v = nI (cU (sW S) 10 - M)
theorem sFL_un {S : Nat → Int32} {v v' : Int32} (h : sFL S v) (h' : sFL S v') : v = v' := by
  obtain ⟨M, ⟨⟨V, a1, a2, a3⟩, b⟩, rfl⟩ := h
  obtain ⟨M', ⟨⟨V', a1', a2', a3'⟩, b'⟩, rfl⟩ := h'
  have h1 := b V' a1' a2'
  have h2 := b' V a1 a2
  have : M = M' := by omega
  rw [this]
theorem sFL_of {S : Nat → Int32} {L : Nat → Nat} {n M : Nat} (f : FO S) (h : LPr S L n) (hB : Best (cS S) (fun j => tS S (L j)) (fun j => dS S (L j)) n M) : sFL S (nI (n - M)) := by
  have hli := h.li f
  have hm := h.mono f
  have hn : cU (sW S) 10 = n := by
    have a2 := hli.sum (V := sW S) (g := fun _ => 1) (fun q _ hq => hq)
    have a3 : ∀ m, m ≤ n → sg (wt (fun j => sW S (L j)) (fun _ => 1)) m = m := by
      intro m
      induction m with
      | zero => intro _; rfl
      | succ m ihm =>
        intro hm
        rw [sg_s, ihm (by omega), wt_t (U := fun j => sW S (L j)) (hli.1 m (by omega)).2]
    unfold cU
    rw [a2, a3 n (Nat.le_refl n)]
  refine ⟨M, ⟨?_, fun V hV hc => ?_⟩, by rw [hn]⟩
  · obtain ⟨⟨U, hU, hM⟩, -⟩ := hB
    have hW : ∀ q, plc L n U q = true → q < 10 ∧ sW S q = true := fun q hq => plc_W hli hq
    have e : ∀ j, j < n → (fun j => plc L n U (L j)) j = U j := fun j hj => plc_L hli hj
    refine ⟨plc L n U, fun q _ hq => (hW q hq).2, (hli.can (fun q _ hq => (hW q hq).2)).mpr ((Feas_Can hm).mp (hU.cg e)), ?_⟩
    have s := hli.sum (V := plc L n U) (g := fun _ => 1) (fun q _ hq => (hW q hq).2)
    have s2 : sg (wt (fun j => plc L n U (L j)) (fun _ => 1)) n = sg (wt U (fun _ => 1)) n := sg_congr (fun j hj => wt_cg (e j hj))
    unfold cU at hM ⊢
    rw [s, s2, hM]
  · have h1 := hB.2 (fun j => V (L j)) ((Feas_Can hm).mpr ((hli.can hV).mp hc))
    have s := hli.sum (V := V) (g := fun _ => 1) hV
    unfold cU at h1 ⊢
    rw [s]
    exact h1
theorem sWL_un {S : Nat → Int32} {room w w' : Int32} (g : GO S) (h : sWL S room w) (h' : sWL S room w') : w = w' := by
  obtain ⟨L, n, hL⟩ := LN_ex (sSTO (S 105) g) 10 (Nat.le_refl 10)
  rw [h L n hL, h' L n hL]
def h64 (a : Int64) (v : Int32) : Int64 := 31 * a + Int32.toInt64 v
def dg1 (S : Nat → Int32) (s : Nat) : Int64 := h64 (h64 (fo (fun k a => h64 a (if k = 10 then nI s else sCount S k)) 11 3557) (S 104)) (S 105)
def dg2 (S : Nat → Int32) (a : Int64) : Int64 := fo (fun p a => fo (fun j a => h64 a (mOf S p j)) 11 a) 10 a
def dgM (S : Nat → Int32) (m : Nat) (w : Int32) (a : Int64) : Int64 := h64 (fo (fun j a => h64 a (sMach S m j)) 6 a) w
def dg3 (S : Nat → Int32) (w0 w1 : Int32) (a : Int64) : Int64 := fo (fun k a => h64 a (oI (sShelf S (nI k)))) 8 (dgM S 1 w1 (dgM S 0 w0 a))
def dg4 (S : Nat → Int32) (fl : Int32) (a : Int64) : Int64 := 31 * h64 (h64 (h64 (fo (fun r a => h64 a (oI (mRanked S (nI r)))) 10 a) (cEnd S)) fl) fl + bV (shW S)
def dg5 (K : Nat → Bool) (n : Nat) (X : Nat → Int32) (a : Int64) : Int64 := fo (fun k a => h64 a (X k)) n (h64 (h64 (h64 a (bI (K 0))) (bI (K 1))) (nI n))
def dig (S : Nat → Int32) (s : Nat) (K : Nat → Bool) (n : Nat) (X : Nat → Int32) (w0 w1 fl : Int32) : Int64 := dg5 K n X (dg4 S fl (dg3 S w0 w1 (dg2 S (dg1 S s))))
section
variable {mi : Nat → Nat → Nat → Int32} {ml : Nat → Nat → Nat → Int64} {ex : Nat} {S : Nat → Int32} {s : Nat} {H : Nat → Nat → Int32} {K : Nat → Bool} {T : Nat → Nat → Int32} {n : Nat} {X : Nat → Int32} {A P : Int}
/-- a loop that scribbles: f is what it does to the hash -/
theorem scr {D : List Nat} {Q : Nat → (Nat → Nat → Nat → Int32) → Int64 → Prop} {f : Nat → Int64 → Int64} {N : Nat} {mi : Nat → Nat → Nat → Int32} (hstep : ∀ k m a, k < N → Fr D mi m → (∀ m', Fr D mi m' → Q (k + 1) m' (f k a)) → Q k m a) : ∀ d k m a, k + d = N → Fr D mi m → (∀ m', Fr D mi m' → Q N m' (fo (fun i => f (k + i)) d a)) → Q k m a
  | 0, k, m, a, hk, fr, hq => by
    have e : k = N := hk
    subst e
    exact hq m fr
  | d + 1, k, m, a, hk, fr, hq => by
    refine hstep k m a (by omega) fr (fun m' fr' => scr hstep d (k + 1) m' (f k a) (by omega) fr' (fun m2 fr2 => ?_))
    have := hq m2 fr2
    have e : ∀ d a, fo (fun i => f (k + i)) (d + 1) a = fo (fun i => f (k + 1 + i)) d (f k a) := by
      intro d
      induction d with
      | zero => intro a; rfl
      | succ d ih =>
        intro a
        show f (k + (d + 1)) (fo (fun i => f (k + i)) (d + 1) a) = f (k + 1 + d) (fo (fun i => f (k + 1 + i)) d (f k a))
        rw [ih a, show k + (d + 1) = k + 1 + d from by omega]
    rw [e] at this
    exact this
end
