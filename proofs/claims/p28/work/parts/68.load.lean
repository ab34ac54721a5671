/-! Loading. -/
def sMax (a t : Int32) : Int32 := if a < t then t else a
def sLdF (w : Int32) (m p : Nat) (a : (Nat → Int32) × Int32) : (Nat → Int32) × Int32 := if bt w p = true then (up1 (up1 a.1 (9 * p + 6) 1) (9 * p + 7) (nI m), sMax a.2 (a.1 (9 * p + 3))) else a
def sLd (S : Nat → Int32) (w : Int32) (m : Nat) : (Nat → Int32) × Int32 := fo (sLdF w m) 10 (S, 0)
def sLoad (S : Nat → Int32) (w : Int32) (m : Nat) : Nat → Int32 := up1 (up1 (sLd S w m).1 (90 + 3 * m + 1) (S 96 + (sLd S w m).2)) (90 + 3 * m + 2) (S (90 + 3 * m + 2) + 1)
theorem ld_hi {S : Nat → Int32} {w : Int32} {m k : Nat} (hk : 90 ≤ k) (n : Nat) : n ≤ 10 → (fo (sLdF w m) n (S, 0)).1 k = S k := by
  induction n with
  | zero => intro _; simp only [fo]
  | succ n ih =>
    intro hn
    show (sLdF w m n (fo (sLdF w m) n (S, 0))).1 k = S k
    rw [← ih (by omega)]
    generalize fo (sLdF w m) n (S, 0) = a
    unfold sLdF
    split
    · show up1 (up1 a.1 (9 * n + 6) 1) (9 * n + 7) (nI m) k = a.1 k
      rw [up1_ne _ _ (by omega), up1_ne _ _ (by omega)]
    · rfl
theorem ld_cell {S : Nat → Int32} {w : Int32} {m q j : Nat} (hq : q < 10) (hj : j < 9) (n : Nat) : n ≤ 10 → (fo (sLdF w m) n (S, 0)).1 (9 * q + j) = if q < n ∧ bt w q = true then (if j = 6 then 1 else if j = 7 then nI m else S (9 * q + j)) else S (9 * q + j) := by
  induction n with
  | zero => intro _; rw [if_neg (fun z => absurd z.1 (Nat.not_lt_zero q))]; simp only [fo]
  | succ n ih =>
    intro hn
    show (sLdF w m n (fo (sLdF w m) n (S, 0))).1 (9 * q + j) = _
    have ih := ih (by omega)
    revert ih
    generalize fo (sLdF w m) n (S, 0) = a
    intro ih
    unfold sLdF
    by_cases c : bt w n = true
    · rw [if_pos c]
      show up1 (up1 a.1 (9 * n + 6) 1) (9 * n + 7) (nI m) (9 * q + j) = _
      by_cases e : q = n
      · subst e
        rw [if_neg (fun z => absurd z.1 (Nat.lt_irrefl q))] at ih
        rw [if_pos ⟨Nat.lt_succ_self q, c⟩]
        by_cases e6 : j = 6
        · subst e6
          rw [if_pos rfl, up1_ne _ _ (by omega), up1_eq]
        · rw [if_neg e6]
          by_cases e7 : j = 7
          · subst e7
            rw [if_pos rfl, up1_eq]
          · rw [if_neg e7, up1_ne _ _ (by omega), up1_ne _ _ (by omega), ih]
      · rw [up1_ne _ _ (by omega), up1_ne _ _ (by omega), ih]
        by_cases d : q < n ∧ bt w q = true
        · rw [if_pos d, if_pos (show q < n + 1 ∧ bt w q = true from ⟨by omega, d.2⟩)]
        · rw [if_neg d, if_neg (fun (z : q < n + 1 ∧ bt w q = true) => d ⟨by omega, z.2⟩)]
    · rw [if_neg c, ih]
      by_cases d : q < n ∧ bt w q = true
      · rw [if_pos d, if_pos (show q < n + 1 ∧ bt w q = true from ⟨by omega, d.2⟩)]
      · rw [if_neg d, if_neg (fun (z : q < n + 1 ∧ bt w q = true) => ?_)]
        by_cases e : q = n
        · subst e; exact c z.2
        · exact d ⟨by omega, z.2⟩
/-- the bits of what a room gets -/
theorem wl_bits {S : Nat → Int32} {L : Nat → Nat} {n : Nat} {room : Int32} (hL : ∀ i, i < n → L i < 10) : ∀ p, p < 32 → bt (wlM S L n room) p = true → ∃ i, i < n ∧ L i = p ∧ S (9 * p + 1) = (fo (wlF S L) n (0, -1, room)).2.1 := by
  have key : ∀ r, r ≤ n → ∀ p, p < 32 → bt (fo (wlF S L) r (0, -1, room)).1 p = true → ∃ i, i < r ∧ L i = p ∧ S (9 * p + 1) = (fo (wlF S L) r (0, -1, room)).2.1 := by
    intro r
    induction r with
    | zero =>
      intro _ p hp h
      have h' : bt 0 p = true := h
      rw [b_0] at h'
      simp at h'
    | succ r ih =>
      intro hr p hp h
      have e : fo (wlF S L) (r + 1) (0, -1, room) = wlF S L r (fo (wlF S L) r (0, -1, room)) := rfl
      rw [e] at h ⊢
      have ih := ih (by omega)
      revert ih h
      generalize fo (wlF S L) r (0, -1, room) = a
      intro h ih
      unfold wlF at h ⊢
      by_cases c : ¬ a.2.2 < S (9 * L r + 2) ∧ (a.1 = 0 ∨ S (9 * L r + 1) = a.2.1)
      · rw [if_pos c] at h ⊢
        have h' : bt (a.1 ||| ((1 : Int32) <<< (nI (L r) &&& 31))) p = true := h
        rw [bt_or1 hp (by have := hL r (by omega); omega), Bool.or_eq_true, decide_eq_true_eq] at h'
        rcases h' with h1 | h1
        · obtain ⟨i, i1, i2, i3⟩ := ih p hp h1
          refine ⟨i, by omega, i2, ?_⟩
          rcases c.2 with z | z
          · rw [z, b_0] at h1
            simp at h1
          · exact i3.trans z.symm
        · exact ⟨r, Nat.lt_succ_self r, h1.symm, by rw [h1]⟩
      · rw [if_neg c] at h ⊢
        obtain ⟨i, i1, i2, i3⟩ := ih p hp h
        exact ⟨i, by omega, i2, i3⟩
  exact key n (Nat.le_refl n)
/-- a mask of waiting piles of one colour -/
def Wm (S : Nat → Int32) (w : Int32) : Prop := (∀ p, p < 32 → bt w p = true → p < 10 ∧ sW S p = true) ∧ (∀ p q, p < 32 → q < 32 → bt w p = true → bt w q = true → S (9 * p + 1) = S (9 * q + 1))
theorem sWL_bits {S : Nat → Int32} {room w : Int32} (g : GO S) (hw : sWL S room w) : Wm S w := by
  obtain ⟨L, n, h⟩ := LN_ex (sSTO (S 105) g) 10 (Nat.le_refl 10)
  have e := hw L n h
  have hb := wl_bits (S := S) (L := L) (n := n) (room := room) (fun i hi => (h.2.1 i hi).1)
  rw [← e] at hb
  refine ⟨fun p hp hbt => ?_, fun p q hp hq h1 h2 => ?_⟩
  · obtain ⟨i, i1, i2, -⟩ := hb p hp hbt
    rw [← i2]
    exact h.2.1 i i1
  · obtain ⟨i, -, -, i3⟩ := hb p hp h1
    obtain ⟨j, -, -, j3⟩ := hb q hq h2
    exact i3.trans j3.symm
theorem sW_6 {S : Nat → Int32} {p : Nat} (h : sW S p = true) : sHere S p = true ∧ S (9 * p + 6) = 0 := by
  rw [sW, sIn, Bool.and_eq_true, decide_eq_true_eq] at h
  exact h
theorem sMax_b {a t : Int32} (h1 : 0 ≤ a.toInt) (h2 : a.toInt ≤ 60) (h4 : t.toInt ≤ 60) : 0 ≤ (sMax a t).toInt ∧ (sMax a t).toInt ≤ 60 := by
  unfold sMax
  by_cases c : a < t
  · rw [if_pos c]
    rw [Int32.lt_iff_toInt_lt] at c
    omega
  · rw [if_neg c]
    omega
theorem Good.load {S : Nat → Int32} {A P : Int} {w : Int32} {m : Nat} (g : Good S A P) (hm : m < 2) (hi : S (90 + 3 * m + 1) = -1) (hw : Wm S w) (h0 : ¬ w = 0) : Good (sLoad S w m) A P := by
  obtain ⟨⟨pl, di, sh, co, ma, mb⟩, n, u⟩ := g
  have no : ∀ q, q < 10 → sAt S q 1 (nI m) = false := by
    rcases ma m hm with ⟨-, b⟩ | a
    · exact b
    · rw [hi, im1] at a
      omega
  have long : ∀ k, k ≤ 10 → 0 ≤ (fo (sLdF w m) k (S, 0)).2.toInt ∧ (fo (sLdF w m) k (S, 0)).2.toInt ≤ 60 := by
    intro k
    induction k with
    | zero => intro _; exact ⟨by simp [fo], by simp [fo]⟩
    | succ k ih =>
      intro hk
      have i := ih (by omega)
      have cell := ld_cell (S := S) (w := w) (m := m) (q := k) (j := 3) (by omega) (by omega) k (by omega)
      rw [if_neg (fun z => absurd z.1 (Nat.lt_irrefl k))] at cell
      show 0 ≤ (sLdF w m k (fo (sLdF w m) k (S, 0))).2.toInt ∧ (sLdF w m k (fo (sLdF w m) k (S, 0))).2.toInt ≤ 60
      revert i cell
      generalize fo (sLdF w m) k (S, 0) = a
      intro i cell
      unfold sLdF
      by_cases c : bt w k = true
      · rw [if_pos c]
        show 0 ≤ (sMax a.2 (a.1 (9 * k + 3))).toInt ∧ (sMax a.2 (a.1 (9 * k + 3))).toInt ≤ 60
        rw [cell]
        have hk2 := hw.1 k (by omega) c
        exact sMax_b i.1 i.2 ((pl k hk2.1).2 (sW_6 hk2.2).1).2.2.1.2
      · rw [if_neg c]; exact i
  have lg := long 10 (Nat.le_refl _)
  have cell : ∀ q, q < 10 → ∀ j, j < 9 → sLoad S w m (9 * q + j) = if bt w q = true then (if j = 6 then 1 else if j = 7 then nI m else S (9 * q + j)) else S (9 * q + j) := fun q hq j hj => by
    unfold sLoad
    rw [up1_ne _ _ (by omega), up1_ne _ _ (by omega)]
    have := ld_cell (S := S) (w := w) (m := m) hq hj 10 (Nat.le_refl _)
    unfold sLd
    rw [this]
    by_cases c : bt w q = true
    · rw [if_pos ⟨hq, c⟩, if_pos c]
    · rw [if_neg (fun z => c z.2), if_neg c]
  have hiT : ∀ k, 90 ≤ k → k ≠ 90 + 3 * m + 1 → k ≠ 90 + 3 * m + 2 → sLoad S w m k = S k := fun k hk a b => by
    unfold sLoad
    rw [up1_ne _ _ b, up1_ne _ _ a]
    exact ld_hi hk 10 (Nat.le_refl _)
  have tE : sLoad S w m (90 + 3 * m + 1) = S 96 + (fo (sLdF w m) 10 (S, 0)).2 := by
    unfold sLoad
    rw [up1_ne _ _ (by omega), up1_eq]
    rfl
  have vE : (S 96 + (fo (sLdF w m) 10 (S, 0)).2).toInt = (S 96).toInt + (fo (sLdF w m) 10 (S, 0)).2.toInt := by
    have := n.2.1
    rw [ad32 (by omega) (by omega)]
  generalize sLoad S w m = T at *
  have lo : ∀ q, q < 10 → ∀ j, j < 6 → T (9 * q + j) = S (9 * q + j) := fun q hq j hj => by
    rw [cell q hq j (by omega), if_neg (show ¬ j = 6 by omega), if_neg (show ¬ j = 7 by omega)]
    split <;> rfl
  have eh : ∀ q, q < 10 → sHere T q = sHere S q := fun q hq => by unfold sHere; rw [lo q hq 0 (by omega)]
  have aN : ∀ q, q < 10 → ¬ bt w q = true → ∀ st wh, sAt T q st wh = sAt S q st wh := fun q hq c st wh => sAt_cg (fun j hj => by rw [cell q hq j hj, if_neg c])
  have aY : ∀ q, q < 10 → bt w q = true → ∀ st wh, sAt T q st wh = (decide (1 = st) && decide (nI m = wh)) := fun q hq c st wh => by
    unfold sAt
    rw [eh q hq, (sW_6 (hw.1 q (by omega) c).2).1, cell q hq 6 (by omega), cell q hq 7 (by omega), if_pos c, if_pos c, if_pos rfl, if_neg (by omega), if_pos rfl, Bool.true_and]
  have aNo : ∀ q, q < 10 → bt w q = true → ∀ st wh, ¬ st = 0 → sAt S q st wh = false := fun q hq c st wh hs => by
    unfold sAt
    rw [(sW_6 (hw.1 q (by omega) c).2).2, show decide ((0 : Int32) = st) = false from by simp; exact fun z => hs z.symm]
    simp
  refine ⟨⟨fun q h => ?_, fun a b ha hb h3 h4 hn => ?_, fun a b ha hb x h3 h4 => ?_, fun a b ha hb x h3 h4 => ?_, fun m' h => ?_, fun m' h _ => ?_⟩, ?_, ?_⟩
  · have z := pl q h
    unfold GPile at z ⊢
    rw [eh q h, lo q h 0 (by omega), lo q h 1 (by omega), lo q h 3 (by omega), lo q h 4 (by omega), lo q h 5 (by omega), hiT 98 (by omega) (by omega) (by omega)]
    exact z
  · rw [eh a ha] at h3
    rw [eh b hb] at h4
    rw [lo a ha 0 (by omega), lo b hb 0 (by omega)]
    exact di a b ha hb h3 h4 hn
  · have f : ∀ q, q < 10 → sAt T q 2 x = true → sAt S q 2 x = true := fun q hq h => by
      by_cases c : bt w q = true
      · rw [aY q hq c] at h; simp at h
      · rw [aN q hq c] at h; exact h
    exact sh a b ha hb x (f a ha h3) (f b hb h4)
  · rw [lo a ha 1 (by omega), lo b hb 1 (by omega)]
    by_cases ca : bt w a = true
    · by_cases cb : bt w b = true
      · exact hw.2 a b (by omega) (by omega) ca cb
      · rw [aY a ha ca, Bool.and_eq_true, decide_eq_true_eq, decide_eq_true_eq] at h3
        rw [aN b hb cb, ← h3.2, no b hb] at h4
        simp at h4
    · rw [aN a ha ca] at h3
      by_cases cb : bt w b = true
      · rw [aY b hb cb, Bool.and_eq_true, decide_eq_true_eq, decide_eq_true_eq] at h4
        rw [← h4.2, no a ha] at h3
        simp at h3
      · rw [aN b hb cb] at h4
        exact co a b ha hb x h3 h4
  · by_cases e : m' = m
    · subst e
      refine Or.inr ?_
      have := n.2.1
      rw [tE, vE]
      omega
    · rw [hiT _ (by omega) (by omega) (by omega)]
      rcases ma m' h with ⟨a, b⟩ | a
      · refine Or.inl ⟨a, fun q hq => ?_⟩
        by_cases c : bt w q = true
        · rw [aY q hq c, show decide (nI m = nI m') = false from by simp; exact fun z => nI_m_ne hm h e z.symm, Bool.and_false]
        · rw [aN q hq c]; exact b q hq
      · exact Or.inr a
  · by_cases e : m' = m
    · subst e
      obtain ⟨i, hi32, hb⟩ := bt_ex h0
      have h10 := (hw.1 i hi32 hb).1
      exact Or.inr ⟨i, h10, by rw [aY i h10 hb]; simp⟩
    · unfold GMb
      rw [hiT _ (by omega) (by omega) (by omega)]
      rcases mb m' h trivial with a | ⟨q, hq, b⟩
      · exact Or.inl a
      · refine Or.inr ⟨q, hq, ?_⟩
        by_cases c : bt w q = true
        · rw [aNo q hq c 1 _ (by decide)] at b; simp at b
        · rw [aN q hq c]; exact b
  · unfold GNum at n ⊢
    rw [hiT 105 (by omega) (by omega) (by omega), hiT 96 (by omega) (by omega) (by omega), hiT 97 (by omega) (by omega) (by omega), hiT 98 (by omega) (by omega) (by omega)]
    exact n
  · unfold GPut at u ⊢
    rw [hiT 100 (by omega) (by omega) (by omega), hiT 103 (by omega) (by omega) (by omega)]
    exact u
section
variable {mi : Nat → Nat → Nat → Int32} {ml : Nat → Nat → Nat → Int64} {ex h p m : Nat}
theorem c158 {a t : Int32} : pt_Ca 158 [vI a, vI t] (pt_MEM mi ml ex) (.inl (some (vI (sMax a t))), pt_MEM mi ml ex) := by
  unfold sMax
  refine r158_0 (fun c => ?_) (fun c => ?_)
  · rw [if_pos c]; exact r158_9
  · rw [if_neg c]; exact r158_5
theorem c19 {w : Int32} (hh : h < 9) (hm : m < 2) : ∃ mi', pt_Ca 19 [vR 2 h, vI (nI m), vI w] (pt_MEM mi ml ex) (.inl none, pt_MEM mi' ml ex) ∧ HX mi mi' h (sLoad (cs mi h) w m) := by
  have loop : ∀ d p, p + d = 10 → ∀ m1, HX mi m1 h (fo (sLdF w m) p (cs mi h, 0)).1 → ∃ mi', pt_Ev 19 none 5 [some (vR 2 h), some (vI (nI m)), some (vI w), some (vI (fo (sLdF w m) p (cs mi h, 0)).2), some (vI (nI p))] [] (pt_MEM m1 ml ex) (.inl none, pt_MEM mi' ml ex) ∧ HX mi mi' h (sLoad (cs mi h) w m) := by
    intro d
    induction d with
    | zero =>
      intro p hp m1 hx
      have hp' : p = 10 := hp
      subst hp'
      refine ⟨_, r19_5 (fun _ => r19_65 (pt_MR_h hh).2.1 rfl hm (pt_MR_m hh hm) (pt_MR_h hh).2.1 rfl hm (pt_MR_m hh hm)) (fun c => absurd n10_le' c), ?_⟩
      have e96 : m1 2 h 3 = cs mi h 96 := by
        rw [← cs_96 m1 h, hx.1]
        exact ld_hi (by omega) 10 (Nat.le_refl _)
      have eL : (pt_up3 m1 4 (m + 2 * h) 1 (m1 2 h 3 + (fo (sLdF w m) 10 (cs mi h, 0)).2)) 4 (m + 2 * h) 2 = cs mi h (90 + 3 * m + 2) := by
        rw [up3_j _ _ (by decide), cs_m m1 h hm (j := 2) (by decide), hx.1]
        exact ld_hi (by omega) 10 (Nat.le_refl _)
      rw [eL, e96]
      exact (hx.wm hm (by decide)).wm hm (by decide)
    | succ d ih =>
      intro p hpd m1 hx
      have hp : p < 10 := by omega
      have e : fo (sLdF w m) (p + 1) (cs mi h, 0) = sLdF w m p (fo (sLdF w m) p (cs mi h, 0)) := rfl
      have ih := ih (p + 1) (by omega)
      rw [e, nI_succ] at ih
      revert hx ih
      generalize fo (sLdF w m) p (cs mi h, 0) = a
      intro hx ih
      by_cases c : bt w p = true
      · unfold sLdF at ih
        rw [if_pos c] at ih
        have hx2 : HX mi (pt_up3 (pt_up3 m1 5 (p + 10 * h) 6 1) 5 (p + 10 * h) 7 (nI m)) h (up1 (up1 a.1 (9 * p + 6) 1) (9 * p + 7) (nI m)) := (hx.wp hp (by decide)).wp hp (by decide)
        obtain ⟨mi', g1, g2⟩ := ih _ hx2
        have eT : (pt_up3 (pt_up3 m1 5 (p + 10 * h) 6 1) 5 (p + 10 * h) 7 (nI m)) 5 (p + 10 * h) 3 = a.1 (9 * p + 3) := by
          rw [up3_j _ _ (by decide), up3_j _ _ (by decide), cs_p m1 h hp (by decide), hx.1]
        refine ⟨mi', r19_5 (fun c => absurd c (n10_le hp)) (fun _ => r19_12 (fun _ => r19_22 (pt_MR_h hh).1 rfl hp (pt_MR_p hh hp) (pt_MR_h hh).1 rfl hp (pt_MR_p hh hp) (pt_MR_h hh).1 rfl hp (pt_MR_p hh hp) c158 (r19_58 ?_)) (fun z => absurd ((bit_iff (by omega)).mpr c) z)), g2⟩
        rw [eT]
        exact g1
      · unfold sLdF at ih
        rw [if_neg c] at ih
        obtain ⟨mi', g1, g2⟩ := ih m1 hx
        exact ⟨mi', r19_5 (fun c => absurd c (n10_le hp)) (fun _ => r19_12 (fun z => absurd ((bit_iff (by omega)).mp z) c) (fun _ => r19_59 g1)), g2⟩
  obtain ⟨mi', g1, g2⟩ := loop 10 0 rfl mi HX.refl
  exact ⟨mi', r19_0 g1, g2⟩
def sLoads (S : Nat → Int32) (w : Int32) (m : Nat) : Int32 × (Nat → Int32) := if sIdle S m = true ∧ ¬ w = 0 then (sWeightIn (sLoad S w m) (nI m), sLoad S w m) else (-1, sRef S)
end
