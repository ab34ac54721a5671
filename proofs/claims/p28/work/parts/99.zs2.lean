/-! What holds at the start, and the whole run of the law. -/
theorem tst_t : tst = true := by decide +kernel
theorem tst_ex : ∃ m d, mk1 53 8 0 pt_M0 = some m ∧ mk1 53 8 1 m = some d ∧ pt_cn d 23 = 0 ∧ allR (pt_nw d 23) = true ∧ allC (pull false (pt_nw d 23).1) = true ∧ allC (pull true (pt_nw d 23).1) = true := by
  have h := tst_t
  unfold tst at h
  cases hm : mk1 53 8 0 pt_M0 with
  | none => rw [hm] at h; simp at h
  | some m =>
    rw [hm] at h
    simp only [] at h
    cases hd : mk1 53 8 1 m with
    | none => rw [hd] at h; simp at h
    | some d =>
      rw [hd] at h
      simp only [Bool.and_eq_true] at h
      exact ⟨m, d, rfl, hd, Nat.eq_of_beq_eq_true h.1, h.2.1, h.2.2.1, h.2.2.2⟩
theorem MR_none : ∀ c n j, ¬ okw c n j = true → pt_MR2 c n j = none := by
  intro c n j h
  have ok : ∀ {a b d : Bool}, ¬ (a && (b && d)) = true → a = true → ¬ (b = true ∧ d = true) := fun h1 h2 h3 => h1 (by rw [h2, h3.1, h3.2]; rfl)
  have b1 : ∀ {x y : Nat}, Nat.blt x y = true ↔ x < y := fun {x y} => Iff.of_eq Nat.blt_eq
  unfold okw at h
  have one : ∀ {c n j : Nat} {r : Option pt_R}, (∀ q, r = some q → n < pt_CN2 0 c ∧ j < rj c) → Nat.blt c 25 = true → ¬ (Nat.blt c 25 && (Nat.blt n (pt_CN2 0 c) && Nat.blt j (rj c))) = true → r = none := by
    intro c n j r hr h1 h2
    cases r with
    | none => rfl
    | some q =>
      have := hr q rfl
      exact absurd ⟨b1.mpr this.1, b1.mpr this.2⟩ (ok h2 h1)
  have bq : ∀ {x y : Nat}, Nat.beq x y = true → x = y := fun h => Nat.eq_of_beq_eq_true h
  match c, h with
  | 0, h => refine one (fun q hq => ?_) (by decide) h; simp only [pt_MR2] at hq; cases hn : Nat.blt n 2 <;> rw [hn] at hq <;> simp only [cond_true, cond_false] at hq; · cases hq
            cases hj : Nat.beq j 0 <;> rw [hj] at hq <;> simp only [cond_true, cond_false] at hq; · cases hq
            exact ⟨b1.mp hn, by rw [bq hj]; decide⟩
  | 1, h => refine one (fun q hq => ?_) (by decide) h; simp only [pt_MR2] at hq; cases hn : Nat.blt n 2 <;> rw [hn] at hq <;> simp only [cond_true, cond_false] at hq; · cases hq
            cases hj : Nat.beq j 0 <;> rw [hj] at hq <;> simp only [cond_true, cond_false] at hq; · cases hq
            exact ⟨b1.mp hn, by rw [bq hj]; decide⟩
  | 2, h => refine one (fun q hq => ?_) (by decide) h; simp only [pt_MR2] at hq; cases hn : Nat.blt n 18 <;> rw [hn] at hq <;> simp only [cond_true, cond_false] at hq; · cases hq
            refine ⟨b1.mp hn, ?_⟩
            match j, hq with
            | 0, _ | 1, _ | 2, _ => decide
  | 3, h => refine one (fun q hq => ?_) (by decide) h; simp only [pt_MR2] at hq; cases hn : Nat.blt n 2 <;> rw [hn] at hq <;> simp only [cond_true, cond_false] at hq; · cases hq
            cases hj : Nat.beq j 0 <;> rw [hj] at hq <;> simp only [cond_true, cond_false] at hq; · cases hq
            exact ⟨b1.mp hn, by rw [bq hj]; decide⟩
  | 7, h => refine one (fun q hq => ?_) (by decide) h; simp only [pt_MR2] at hq; cases hn : Nat.blt n 2 <;> rw [hn] at hq <;> simp only [cond_true, cond_false] at hq; · cases hq
            refine ⟨b1.mp hn, ?_⟩
            match j, hq with
            | 0, _ | 2, _ => decide
  | 8, h => refine one (fun q hq => ?_) (by decide) h; simp only [pt_MR2] at hq; cases hn : Nat.blt n 2 <;> rw [hn] at hq <;> simp only [cond_true, cond_false] at hq; · cases hq
            refine ⟨b1.mp hn, ?_⟩
            match j, hq with
            | 0, _ | 1, _ | 2, _ | 3, _ | 4, _ | 5, _ | 6, _ => decide
  | 19, h => refine one (fun q hq => ?_) (by decide) h; simp only [pt_MR2] at hq; cases hn : Nat.blt n 2 <;> rw [hn] at hq <;> simp only [cond_true, cond_false] at hq; · cases hq
             cases hj : Nat.blt j 2 <;> rw [hj] at hq <;> simp only [cond_true, cond_false] at hq; · cases hq
             exact ⟨b1.mp hn, b1.mp hj⟩
  | 20, h => refine one (fun q hq => ?_) (by decide) h; simp only [pt_MR2] at hq; cases hn : Nat.blt n 2 <;> rw [hn] at hq <;> simp only [cond_true, cond_false] at hq; · cases hq
             cases hj : Nat.blt j 6 <;> rw [hj] at hq <;> simp only [cond_true, cond_false] at hq; · cases hq
             exact ⟨b1.mp hn, b1.mp hj⟩
  | 21, h => refine one (fun q hq => ?_) (by decide) h; simp only [pt_MR2] at hq; cases hn : Nat.blt n 18 <;> rw [hn] at hq <;> simp only [cond_true, cond_false, Bool.true_and, Bool.false_and] at hq; · cases hq
             cases hj : Nat.blt j 2 <;> rw [hj] at hq <;> simp only [cond_true, cond_false] at hq; · cases hq
             exact ⟨b1.mp hn, b1.mp hj⟩
  | 22, h => refine one (fun q hq => ?_) (by decide) h; simp only [pt_MR2] at hq; cases hn : Nat.blt n 18 <;> rw [hn] at hq <;> simp only [cond_true, cond_false, Bool.true_and, Bool.false_and] at hq; · cases hq
             cases hj : Nat.blt j 10 <;> rw [hj] at hq <;> simp only [cond_true, cond_false] at hq; · cases hq
             exact ⟨b1.mp hn, b1.mp hj⟩
  | 4, _ | 5, _ | 6, _ | 9, _ | 10, _ | 11, _ | 12, _ | 13, _ | 14, _ | 15, _ | 16, _ | 17, _ | 18, _ | 23, _ | 24, _ => rfl
  | d + 25, _ => rfl
theorem CN_none : ∀ c, ¬ Nat.blt c 25 = true → pt_CN2 0 c = 0 := by
  intro c h
  have h2 : ¬ c < 25 := fun z => h (Nat.blt_eq.mpr z)
  obtain ⟨d, rfl⟩ : ∃ d, c = d + 25 := ⟨c - 25, by omega⟩
  rfl
theorem MEM_of {μ : pt_M} (s : Sup μ) (h : allR μ = true) : μ = pt_MM μ.1 μ.2.1 0 := by
  unfold allR at h
  rw [List.all_eq_true] at h
  have key : ∀ c, c < 25 → μ.2.2.2 c = pt_CN2 0 c ∧ ∀ n, n < pt_CN2 0 c → ∀ j, j < rj c → μ.2.2.1 c n j = pt_MR2 c n j := by
    intro c hc
    have h1 := h c (List.mem_range.mpr hc)
    rw [Bool.and_eq_true, List.all_eq_true] at h1
    refine ⟨Nat.eq_of_beq_eq_true h1.1, fun n hn j hj => ?_⟩
    have h2 := h1.2 n (List.mem_range.mpr hn)
    rw [List.all_eq_true] at h2
    exact of_decide_eq_true (h2 j (List.mem_range.mpr hj))
  have e3 : μ.2.2.1 = pt_MR2 := by
    funext c n j
    by_cases c1 : okw c n j = true
    · unfold okw at c1
      rw [Bool.and_eq_true, Bool.and_eq_true, Nat.blt_eq, Nat.blt_eq, Nat.blt_eq] at c1
      exact (key c c1.1).2 n c1.2.1 j c1.2.2
    · rw [s.1 c n j c1, MR_none c n j c1]
  have e4 : μ.2.2.2 = pt_CN2 0 := by
    funext c
    by_cases c1 : Nat.blt c 25 = true
    · exact (key c (Nat.blt_eq.mp c1)).1
    · rw [s.2 c c1, CN_none c c1]
  obtain ⟨a1, a2, a3, a4⟩ := μ
  have e3 : a3 = pt_MR2 := e3
  have e4 : a4 = pt_CN2 0 := e4
  subst e3 e4
  rfl
theorem S0c_hi {k : Nat} (hk : 106 ≤ k) : S0c k = 0 := by
  unfold S0c
  rw [if_neg (by omega)]
  split <;> first | omega | rfl
theorem S0_good : Good S0c 0 0 := by
  have hh : ∀ p, p < 10 → sHere S0c p = false := by decide +kernel
  have no : ∀ {p : Nat} {P : Prop}, p < 10 → sHere S0c p = true → P := fun hp h => by rw [hh _ hp] at h; cases h
  have noa : ∀ p st wh, p < 10 → sAt S0c p st wh = false := fun p st wh hp => by unfold sAt; rw [hh p hp, Bool.false_and]
  have n5 : ∀ p, p < 10 → S0c (9 * p + 5) = 0 := by decide +kernel
  have n91 : ∀ m, m < 2 → S0c (90 + 3 * m + 1) = -1 := by decide +kernel
  refine ⟨⟨fun p hp => ⟨Or.inl (n5 p hp), fun h => no hp h⟩, fun p q hp hq h1 h2 h3 => no hp h1, fun p q hp hq x h1 h2 => no hp (sAt_here h1), fun p q hp hq x h1 h2 => no hp (sAt_here h1), fun m hm => Or.inl ⟨n91 m hm, fun p hp => noa p 1 _ hp⟩, fun m hm _ => Or.inl (n91 m hm)⟩, ?_, ?_⟩
  · unfold GNum
    decide +kernel
  · unfold GPut
    decide +kernel
theorem S0_nv : NV S0c 0 := by
  have hh : ∀ p, p < 10 → sHere S0c p = false := by decide +kernel
  have n91 : ∀ m, m < 2 → S0c (90 + 3 * m + 1) = -1 := by decide +kernel
  have n90 : ∀ m, m < 2 → (10 ≤ (S0c (90 + 3 * m + 0)).toInt ∧ (S0c (90 + 3 * m + 0)).toInt ≤ 60) ∧ 0 ≤ (S0c (90 + 3 * m + 2)).toInt ∧ (S0c (90 + 3 * m + 2)).toInt ≤ 0 := by decide +kernel
  have noa : ∀ p st wh, p < 10 → sAt S0c p st wh = false := fun p st wh hp => by unfold sAt; rw [hh p hp, Bool.false_and]
  refine ⟨⟨fun p hp h => by (rw [hh p hp] at h; cases h), fun m hm => ?_, ?_, ?_⟩, fun m hm => Or.inl (n91 m hm)⟩
  · obtain ⟨a, b, c⟩ := n90 m hm
    refine ⟨a, ?_, Or.inl (n91 m hm), b, c⟩
    rw [win_0 (fun p hp => noa p 1 _ hp)]
    omega
  · unfold NCt cHere
    rw [cnt_zero (fun p hp => hh p hp)]
    decide +kernel
  · unfold NSh cShelf
    rw [cnt_zero (fun p hp => by unfold sIn; rw [hh p hp, Bool.false_and])]
    decide +kernel
theorem ob0 {v : Bool} {mi : Nat → Nat → Nat → Int32} (h : allC (pull v mi) = true) : Ob v mi S0c 0 (fun _ _ => 0) := by
  unfold allC at h
  rw [Bool.and_eq_true, Bool.and_eq_true, Bool.and_eq_true, Bool.and_eq_true, Bool.and_eq_true, List.all_eq_true] at h
  obtain ⟨hk, h1, h2, h3, h7, h8⟩ := h
  have h1 := of_decide_eq_true h1
  have h2 := of_decide_eq_true h2
  have h3 := of_decide_eq_true h3
  have h7 := of_decide_eq_true h7
  have h8 := of_decide_eq_true h8
  have ec : cs (pull v mi) 0 = S0c := by
    funext k
    by_cases c : k < 106
    · exact of_decide_eq_true (hk k (List.mem_range.mpr c))
    · rw [cs_big (pull v mi) 0 (by omega), S0c_hi (by omega)]
  have n0 : (0 : Int32) = nI 0 := nI_0.symm
  refine ⟨fun _ => false, fun _ _ => 0, 0, fun _ => 0, ec, ⟨0, by rw [h7, n0], by decide, by rw [h8, n0], by decide, fun j hj => absurd hj (Nat.not_lt_zero j)⟩, fun j hj => ⟨?_, fun z => by cases z⟩, by rw [h3, n0], fun k hk => absurd hk (Nat.not_lt_zero k)⟩
  match j, hj with
  | 0, _ => exact h1
  | 1, _ => exact h2
section
variable {k : Nat} {ext : Option (Nat × (Nat → Int32))} {n t x y z i a : Nat} {c : pt_V} {L : pt_L} {st : List pt_V} {μ : pt_M}
theorem new_at (hx : Nat.ble 100 x = false) (h : pt_cn μ x = a) : pt_step k ext (.new i, n, t, x, y, z, c) L st μ = some (.inl (n, L, vR x a :: st, pt_nw μ x)) := by
  simp only [pt_step]
  rw [hx, h]
  rfl
theorem newarr_at {w : ArrayType} {v : Int32} (hv : ¬ v < 0 ∧ v.toNatClampNeg = pt_len x) (h : pt_cn μ x = a) : pt_step k ext (.newarray w, n, t, x, y, z, c) L (.inl v :: st) μ = some (.inl (n, L, vR x a :: st, pt_nw μ x)) := by
  simp only [pt_step]
  rw [if_pos hv, h]
end
theorem law_start {N : Nat} {f : Nat → Int32} {μb μd : pt_M} {o : pt_O} (hb : pt_Ca 53 [vR 8 0] (pt_nw pt_M0 8) (.inl none, μb)) (h9 : pt_cn μb 8 = 1) (hd : pt_Ca 53 [vR 8 1] (pt_nw μb 8) (.inl none, μd)) (h23 : pt_cn μd 23 = 0) (k : pt_Ev 179 (some (N, f)) 23 [some (vX true), some (vR 8 0), some (vR 8 1), some (vR 23 0), some (vI 0), none, none, none, none, none] [] (pt_nw μd 23) o) : pt_Ev 179 (some (N, f)) 0 (pt_ent 10 [vX true]) [] pt_M0 o :=
  pt_Ev_go rfl (new_at rfl rfl) (pt_Ev_go rfl rfl (pt_Ev_call rfl rfl hb (pt_Ev_go rfl rfl (pt_Ev_go rfl (new_at rfl h9) (pt_Ev_go rfl rfl (pt_Ev_call rfl rfl hd (pt_Ev_go rfl rfl (pt_Ev_go rfl rfl (pt_Ev_go rfl (newarr_at (by decide) h23) (pt_Ev_go rfl rfl (pt_Ev_go rfl rfl (pt_Ev_go rfl rfl k))))))))))))
theorem sup0 : Sup pt_M0 := ⟨fun _ _ _ _ => rfl, fun _ _ => rfl⟩
theorem pt_goal (L : Nat) (xs : Nat → Int32) (hL : L ≤ 260) : ∃ μ' : pt_M, pt_Ev 179 (some (L, xs)) 0 (pt_ent 10 [vX true]) [] pt_M0 (.inl (some (.inl 1)), μ') ∧ pt_sz μ' ≤ 600086 ∧ pt_sn μ' ≤ 7301442 := by
  obtain ⟨m, d, hm, hd, h23, hR, hC, hC2⟩ := tst_ex
  obtain ⟨-, b2, b3⟩ := mk1_ok (by decide) hm
  obtain ⟨d1, d2, d3⟩ := mk1_ok (by decide) hd
  have sup : Sup (pt_nw d 23) := (d3 (b3 sup0)).nw (by decide)
  have eM := MEM_of sup hR
  have both : Both (pt_nw d 23).1 S0c := ⟨⟨_, _, ob0 hC⟩, _, _, ob0 hC2⟩
  obtain ⟨mi', ex', ev, hex⟩ := law_all (N := L) (f := xs) (B := 168) (ml := (pt_nw d 23).2.1) (by omega) 56 0 S0c 0 rfl (by decide) (S0_good.mono (by decide) (by decide)) (S0_nv.mono (by decide)) (pt_nw d 23).1 none none none none none both
  rw [← eM] at ev
  refine ⟨pt_MM mi' (pt_nw d 23).2.1 ex', law_start b2 d1 d2 h23 ev, ?_, ?_⟩
  · have : pt_sz (pt_MM mi' (pt_nw d 23).2.1 ex') = pt_sm (fun c => pt_CN2 0 c) 24 + ex' := rfl
    have h2 : pt_sm (fun c => pt_CN2 0 c) 24 ≤ 600 := by decide +kernel
    omega
  · have : pt_sn (pt_MM mi' (pt_nw d 23).2.1 ex') = pt_sm (fun c => pt_CN2 0 c * pt_len c) 24 + ex' * 6 := rfl
    have h2 : pt_sm (fun c => pt_CN2 0 c * pt_len c) 24 ≤ 7000000 := by decide +kernel
    omega
